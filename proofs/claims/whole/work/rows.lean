section
-- ===== PART A: goes FIRST, ahead of the names: the tables' words, and 'selects' of the private methods out of them =====
/-- a private method of a class that the tables say can be made, by its rows of tables_1 -/
def lw_okq (q : MethodName × Nat) : Prop := (q.1.cls ≠ "java/lang/invoke/MethodHandle" ∧ q.1.cls ≠ "java/lang/invoke/VarHandle") ∧ Cond.instantiable q.1.cls q.2 ∈ tables_1 ∧ Cond.privateMethod q.1 ∈ tables_1 ∧ Cond.instanceMethod q.1 ∈ tables_1
theorem lw_p0 : lw_okq (⟨"MarchFolk", "putFour", "(I)V"⟩, 15) := ⟨⟨by decide +kernel, by decide +kernel⟩, List.mem_of_getElem? (i := 20) (by decide +kernel), List.mem_of_getElem? (i := 385) (by decide +kernel), List.mem_of_getElem? (i := 386) (by decide +kernel)⟩
theorem lw_p1 : lw_okq (⟨"MarchFolk$Reader", "skipBlanks", "()V"⟩, 6) := ⟨⟨by decide +kernel, by decide +kernel⟩, List.mem_of_getElem? (i := 28) (by decide +kernel), List.mem_of_getElem? (i := 408) (by decide +kernel), List.mem_of_getElem? (i := 409) (by decide +kernel)⟩
theorem lw_p2 : lw_okq (⟨"MarchFolk$Reader", "byteAt", "(I)I"⟩, 6) := ⟨⟨by decide +kernel, by decide +kernel⟩, List.mem_of_getElem? (i := 28) (by decide +kernel), List.mem_of_getElem? (i := 412) (by decide +kernel), List.mem_of_getElem? (i := 413) (by decide +kernel)⟩
theorem lw_p3 : lw_okq (⟨"MarchFolk$Reader", "readLine", "(LMarchFolk$Plan;)V"⟩, 6) := ⟨⟨by decide +kernel, by decide +kernel⟩, List.mem_of_getElem? (i := 28) (by decide +kernel), List.mem_of_getElem? (i := 416) (by decide +kernel), List.mem_of_getElem? (i := 417) (by decide +kernel)⟩
theorem lw_p4 : lw_okq (⟨"MarchFolk$Reader", "readHead", "(LMarchFolk$Plan;)V"⟩, 6) := ⟨⟨by decide +kernel, by decide +kernel⟩, List.mem_of_getElem? (i := 28) (by decide +kernel), List.mem_of_getElem? (i := 420) (by decide +kernel), List.mem_of_getElem? (i := 421) (by decide +kernel)⟩
theorem lw_p5 : lw_okq (⟨"MarchFolk$Reader", "takeWord", "(Ljava/lang/String;)V"⟩, 6) := ⟨⟨by decide +kernel, by decide +kernel⟩, List.mem_of_getElem? (i := 28) (by decide +kernel), List.mem_of_getElem? (i := 425) (by decide +kernel), List.mem_of_getElem? (i := 426) (by decide +kernel)⟩
theorem lw_p6 : lw_okq (⟨"MarchFolk$Reader", "isWord", "(Ljava/lang/String;)Z"⟩, 6) := ⟨⟨by decide +kernel, by decide +kernel⟩, List.mem_of_getElem? (i := 28) (by decide +kernel), List.mem_of_getElem? (i := 429) (by decide +kernel), List.mem_of_getElem? (i := 430) (by decide +kernel)⟩
theorem lw_p7 : lw_okq (⟨"MarchFolk$Reader", "isLetter", "(I)Z"⟩, 6) := ⟨⟨by decide +kernel, by decide +kernel⟩, List.mem_of_getElem? (i := 28) (by decide +kernel), List.mem_of_getElem? (i := 481) (by decide +kernel), List.mem_of_getElem? (i := 482) (by decide +kernel)⟩
theorem lw_p8 : lw_okq (⟨"MarchFolk$Reader", "fail", "(II)V"⟩, 6) := ⟨⟨by decide +kernel, by decide +kernel⟩, List.mem_of_getElem? (i := 28) (by decide +kernel), List.mem_of_getElem? (i := 485) (by decide +kernel), List.mem_of_getElem? (i := 486) (by decide +kernel)⟩
theorem lw_p9 : lw_okq (⟨"MarchFolk$Reader", "takeNumber", "(II)I"⟩, 6) := ⟨⟨by decide +kernel, by decide +kernel⟩, List.mem_of_getElem? (i := 28) (by decide +kernel), List.mem_of_getElem? (i := 490) (by decide +kernel), List.mem_of_getElem? (i := 491) (by decide +kernel)⟩
theorem lw_p10 : lw_okq (⟨"MarchFolk$Reader", "isDigit", "(I)Z"⟩, 6) := ⟨⟨by decide +kernel, by decide +kernel⟩, List.mem_of_getElem? (i := 28) (by decide +kernel), List.mem_of_getElem? (i := 494) (by decide +kernel), List.mem_of_getElem? (i := 495) (by decide +kernel)⟩
theorem lw_p11 : lw_okq (⟨"MarchFolk$Reader", "readRoad", "(LMarchFolk$Plan;)V"⟩, 6) := ⟨⟨by decide +kernel, by decide +kernel⟩, List.mem_of_getElem? (i := 28) (by decide +kernel), List.mem_of_getElem? (i := 505) (by decide +kernel), List.mem_of_getElem? (i := 506) (by decide +kernel)⟩
theorem lw_p12 : lw_okq (⟨"MarchFolk$Reader", "readPerson", "(LMarchFolk$Plan;)V"⟩, 6) := ⟨⟨by decide +kernel, by decide +kernel⟩, List.mem_of_getElem? (i := 28) (by decide +kernel), List.mem_of_getElem? (i := 512) (by decide +kernel), List.mem_of_getElem? (i := 513) (by decide +kernel)⟩
theorem lw_p13 : lw_okq (⟨"MarchFolk$Reader", "readGrant", "(LMarchFolk$Plan;)V"⟩, 6) := ⟨⟨by decide +kernel, by decide +kernel⟩, List.mem_of_getElem? (i := 28) (by decide +kernel), List.mem_of_getElem? (i := 522) (by decide +kernel), List.mem_of_getElem? (i := 523) (by decide +kernel)⟩
theorem lw_p14 : lw_okq (⟨"MarchFolk$Reader", "takeSign", "()V"⟩, 6) := ⟨⟨by decide +kernel, by decide +kernel⟩, List.mem_of_getElem? (i := 28) (by decide +kernel), List.mem_of_getElem? (i := 527) (by decide +kernel), List.mem_of_getElem? (i := 528) (by decide +kernel)⟩
theorem lw_p15 : lw_okq (⟨"MarchFolk", "isRoad", "(I)Z"⟩, 15) := ⟨⟨by decide +kernel, by decide +kernel⟩, List.mem_of_getElem? (i := 20) (by decide +kernel), List.mem_of_getElem? (i := 550) (by decide +kernel), List.mem_of_getElem? (i := 551) (by decide +kernel)⟩
def lw_privs_1 : List (MethodName × Nat) := [(⟨"MarchFolk", "putFour", "(I)V"⟩, 15), (⟨"MarchFolk$Reader", "skipBlanks", "()V"⟩, 6), (⟨"MarchFolk$Reader", "byteAt", "(I)I"⟩, 6), (⟨"MarchFolk$Reader", "readLine", "(LMarchFolk$Plan;)V"⟩, 6), (⟨"MarchFolk$Reader", "readHead", "(LMarchFolk$Plan;)V"⟩, 6), (⟨"MarchFolk$Reader", "takeWord", "(Ljava/lang/String;)V"⟩, 6), (⟨"MarchFolk$Reader", "isWord", "(Ljava/lang/String;)Z"⟩, 6), (⟨"MarchFolk$Reader", "isLetter", "(I)Z"⟩, 6), (⟨"MarchFolk$Reader", "fail", "(II)V"⟩, 6), (⟨"MarchFolk$Reader", "takeNumber", "(II)I"⟩, 6), (⟨"MarchFolk$Reader", "isDigit", "(I)Z"⟩, 6), (⟨"MarchFolk$Reader", "readRoad", "(LMarchFolk$Plan;)V"⟩, 6), (⟨"MarchFolk$Reader", "readPerson", "(LMarchFolk$Plan;)V"⟩, 6), (⟨"MarchFolk$Reader", "readGrant", "(LMarchFolk$Plan;)V"⟩, 6), (⟨"MarchFolk$Reader", "takeSign", "()V"⟩, 6), (⟨"MarchFolk", "isRoad", "(I)Z"⟩, 15)]
theorem lw_r1 : ∀ q ∈ lw_privs_1, lw_okq q := List.forall_mem_cons.mpr ⟨lw_p0, List.forall_mem_cons.mpr ⟨lw_p1, List.forall_mem_cons.mpr ⟨lw_p2, List.forall_mem_cons.mpr ⟨lw_p3, List.forall_mem_cons.mpr ⟨lw_p4, List.forall_mem_cons.mpr ⟨lw_p5, List.forall_mem_cons.mpr ⟨lw_p6, List.forall_mem_cons.mpr ⟨lw_p7, List.forall_mem_cons.mpr ⟨lw_p8, List.forall_mem_cons.mpr ⟨lw_p9, List.forall_mem_cons.mpr ⟨lw_p10, List.forall_mem_cons.mpr ⟨lw_p11, List.forall_mem_cons.mpr ⟨lw_p12, List.forall_mem_cons.mpr ⟨lw_p13, List.forall_mem_cons.mpr ⟨lw_p14, List.forall_mem_cons.mpr ⟨lw_p15, fun _ h => absurd h List.not_mem_nil⟩⟩⟩⟩⟩⟩⟩⟩⟩⟩⟩⟩⟩⟩⟩⟩
theorem lw_p16 : lw_okq (⟨"MarchFolk", "isPerson", "(I)Z"⟩, 15) := ⟨⟨by decide +kernel, by decide +kernel⟩, List.mem_of_getElem? (i := 20) (by decide +kernel), List.mem_of_getElem? (i := 558) (by decide +kernel), List.mem_of_getElem? (i := 559) (by decide +kernel)⟩
theorem lw_p17 : lw_okq (⟨"MarchFolk", "rowsKept", "()I"⟩, 15) := ⟨⟨by decide +kernel, by decide +kernel⟩, List.mem_of_getElem? (i := 20) (by decide +kernel), List.mem_of_getElem? (i := 566) (by decide +kernel), List.mem_of_getElem? (i := 567) (by decide +kernel)⟩
theorem lw_p18 : lw_okq (⟨"MarchFolk", "isPlace", "(I)Z"⟩, 15) := ⟨⟨by decide +kernel, by decide +kernel⟩, List.mem_of_getElem? (i := 20) (by decide +kernel), List.mem_of_getElem? (i := 574) (by decide +kernel), List.mem_of_getElem? (i := 575) (by decide +kernel)⟩
theorem lw_p19 : lw_okq (⟨"MarchFolk", "tell", "()V"⟩, 15) := ⟨⟨by decide +kernel, by decide +kernel⟩, List.mem_of_getElem? (i := 20) (by decide +kernel), List.mem_of_getElem? (i := 582) (by decide +kernel), List.mem_of_getElem? (i := 583) (by decide +kernel)⟩
theorem lw_p20 : lw_okq (⟨"MarchFolk$Ways", "join", "([I)V"⟩, 4) := ⟨⟨by decide +kernel, by decide +kernel⟩, List.mem_of_getElem? (i := 151) (by decide +kernel), List.mem_of_getElem? (i := 595) (by decide +kernel), List.mem_of_getElem? (i := 596) (by decide +kernel)⟩
theorem lw_p21 : lw_okq (⟨"MarchFolk$Ways", "findLengths", "()V"⟩, 4) := ⟨⟨by decide +kernel, by decide +kernel⟩, List.mem_of_getElem? (i := 151) (by decide +kernel), List.mem_of_getElem? (i := 600) (by decide +kernel), List.mem_of_getElem? (i := 601) (by decide +kernel)⟩
theorem lw_p22 : lw_okq (⟨"MarchFolk$Ways", "findFirsts", "()V"⟩, 4) := ⟨⟨by decide +kernel, by decide +kernel⟩, List.mem_of_getElem? (i := 151) (by decide +kernel), List.mem_of_getElem? (i := 605) (by decide +kernel), List.mem_of_getElem? (i := 606) (by decide +kernel)⟩
theorem lw_p23 : lw_okq (⟨"MarchFolk$Ways", "findFirst", "(II)I"⟩, 4) := ⟨⟨by decide +kernel, by decide +kernel⟩, List.mem_of_getElem? (i := 151) (by decide +kernel), List.mem_of_getElem? (i := 609) (by decide +kernel), List.mem_of_getElem? (i := 610) (by decide +kernel)⟩
theorem lw_p24 : lw_okq (⟨"MarchFolk", "asItIs", "()V"⟩, 15) := ⟨⟨by decide +kernel, by decide +kernel⟩, List.mem_of_getElem? (i := 20) (by decide +kernel), List.mem_of_getElem? (i := 613) (by decide +kernel), List.mem_of_getElem? (i := 614) (by decide +kernel)⟩
theorem lw_p25 : lw_okq (⟨"MarchFolk$Walk", "clear", "()V"⟩, 14) := ⟨⟨by decide +kernel, by decide +kernel⟩, List.mem_of_getElem? (i := 171) (by decide +kernel), List.mem_of_getElem? (i := 625) (by decide +kernel), List.mem_of_getElem? (i := 626) (by decide +kernel)⟩
theorem lw_p26 : lw_okq (⟨"MarchFolk$Walk", "fallIn", "(LMarchFolk$Plan;LMarchFolk$Case;II)V"⟩, 14) := ⟨⟨by decide +kernel, by decide +kernel⟩, List.mem_of_getElem? (i := 171) (by decide +kernel), List.mem_of_getElem? (i := 634) (by decide +kernel), List.mem_of_getElem? (i := 635) (by decide +kernel)⟩
theorem lw_p27 : lw_okq (⟨"MarchFolk$Walk", "wouldFallIn", "([IILMarchFolk$Case;I)Z"⟩, 14) := ⟨⟨by decide +kernel, by decide +kernel⟩, List.mem_of_getElem? (i := 171) (by decide +kernel), List.mem_of_getElem? (i := 638) (by decide +kernel), List.mem_of_getElem? (i := 639) (by decide +kernel)⟩
theorem lw_p28 : lw_okq (⟨"MarchFolk$Walk", "leaveAt", "(LMarchFolk$Plan;II)V"⟩, 14) := ⟨⟨by decide +kernel, by decide +kernel⟩, List.mem_of_getElem? (i := 171) (by decide +kernel), List.mem_of_getElem? (i := 649) (by decide +kernel), List.mem_of_getElem? (i := 650) (by decide +kernel)⟩
theorem lw_p29 : lw_okq (⟨"MarchFolk$Walk", "gatherVotes", "(LMarchFolk$Plan;LMarchFolk$Case;II)V"⟩, 14) := ⟨⟨by decide +kernel, by decide +kernel⟩, List.mem_of_getElem? (i := 171) (by decide +kernel), List.mem_of_getElem? (i := 653) (by decide +kernel), List.mem_of_getElem? (i := 654) (by decide +kernel)⟩
theorem lw_p30 : lw_okq (⟨"MarchFolk$Ways", "has", "(II)Z"⟩, 4) := ⟨⟨by decide +kernel, by decide +kernel⟩, List.mem_of_getElem? (i := 151) (by decide +kernel), List.mem_of_getElem? (i := 669) (by decide +kernel), List.mem_of_getElem? (i := 670) (by decide +kernel)⟩
theorem lw_p31 : lw_okq (⟨"MarchFolk$Walk", "chosen", "(LMarchFolk$Plan;I)I"⟩, 14) := ⟨⟨by decide +kernel, by decide +kernel⟩, List.mem_of_getElem? (i := 171) (by decide +kernel), List.mem_of_getElem? (i := 673) (by decide +kernel), List.mem_of_getElem? (i := 674) (by decide +kernel)⟩
def lw_privs_2 : List (MethodName × Nat) := [(⟨"MarchFolk", "isPerson", "(I)Z"⟩, 15), (⟨"MarchFolk", "rowsKept", "()I"⟩, 15), (⟨"MarchFolk", "isPlace", "(I)Z"⟩, 15), (⟨"MarchFolk", "tell", "()V"⟩, 15), (⟨"MarchFolk$Ways", "join", "([I)V"⟩, 4), (⟨"MarchFolk$Ways", "findLengths", "()V"⟩, 4), (⟨"MarchFolk$Ways", "findFirsts", "()V"⟩, 4), (⟨"MarchFolk$Ways", "findFirst", "(II)I"⟩, 4), (⟨"MarchFolk", "asItIs", "()V"⟩, 15), (⟨"MarchFolk$Walk", "clear", "()V"⟩, 14), (⟨"MarchFolk$Walk", "fallIn", "(LMarchFolk$Plan;LMarchFolk$Case;II)V"⟩, 14), (⟨"MarchFolk$Walk", "wouldFallIn", "([IILMarchFolk$Case;I)Z"⟩, 14), (⟨"MarchFolk$Walk", "leaveAt", "(LMarchFolk$Plan;II)V"⟩, 14), (⟨"MarchFolk$Walk", "gatherVotes", "(LMarchFolk$Plan;LMarchFolk$Case;II)V"⟩, 14), (⟨"MarchFolk$Ways", "has", "(II)Z"⟩, 4), (⟨"MarchFolk$Walk", "chosen", "(LMarchFolk$Plan;I)I"⟩, 14)]
theorem lw_r2 : ∀ q ∈ lw_privs_2, lw_okq q := List.forall_mem_cons.mpr ⟨lw_p16, List.forall_mem_cons.mpr ⟨lw_p17, List.forall_mem_cons.mpr ⟨lw_p18, List.forall_mem_cons.mpr ⟨lw_p19, List.forall_mem_cons.mpr ⟨lw_p20, List.forall_mem_cons.mpr ⟨lw_p21, List.forall_mem_cons.mpr ⟨lw_p22, List.forall_mem_cons.mpr ⟨lw_p23, List.forall_mem_cons.mpr ⟨lw_p24, List.forall_mem_cons.mpr ⟨lw_p25, List.forall_mem_cons.mpr ⟨lw_p26, List.forall_mem_cons.mpr ⟨lw_p27, List.forall_mem_cons.mpr ⟨lw_p28, List.forall_mem_cons.mpr ⟨lw_p29, List.forall_mem_cons.mpr ⟨lw_p30, List.forall_mem_cons.mpr ⟨lw_p31, fun _ h => absurd h List.not_mem_nil⟩⟩⟩⟩⟩⟩⟩⟩⟩⟩⟩⟩⟩⟩⟩⟩
theorem lw_p32 : lw_okq (⟨"MarchFolk$Walk", "heaviest", "(LMarchFolk$Plan;Z)I"⟩, 14) := ⟨⟨by decide +kernel, by decide +kernel⟩, List.mem_of_getElem? (i := 171) (by decide +kernel), List.mem_of_getElem? (i := 677) (by decide +kernel), List.mem_of_getElem? (i := 678) (by decide +kernel)⟩
theorem lw_p33 : lw_okq (⟨"MarchFolk$Walk", "voteByRank", "(LMarchFolk$Plan;Z)I"⟩, 14) := ⟨⟨by decide +kernel, by decide +kernel⟩, List.mem_of_getElem? (i := 171) (by decide +kernel), List.mem_of_getElem? (i := 681) (by decide +kernel), List.mem_of_getElem? (i := 682) (by decide +kernel)⟩
theorem lw_p34 : lw_okq (⟨"MarchFolk", "roadsAcross", "(I)I"⟩, 15) := ⟨⟨by decide +kernel, by decide +kernel⟩, List.mem_of_getElem? (i := 20) (by decide +kernel), List.mem_of_getElem? (i := 703) (by decide +kernel), List.mem_of_getElem? (i := 704) (by decide +kernel)⟩
theorem lw_p35 : lw_okq (⟨"MarchFolk", "isStep", "(I)Z"⟩, 15) := ⟨⟨by decide +kernel, by decide +kernel⟩, List.mem_of_getElem? (i := 20) (by decide +kernel), List.mem_of_getElem? (i := 712) (by decide +kernel), List.mem_of_getElem? (i := 713) (by decide +kernel)⟩
theorem lw_p36 : lw_okq (⟨"MarchFolk", "isMarch", "()Z"⟩, 15) := ⟨⟨by decide +kernel, by decide +kernel⟩, List.mem_of_getElem? (i := 20) (by decide +kernel), List.mem_of_getElem? (i := 716) (by decide +kernel), List.mem_of_getElem? (i := 717) (by decide +kernel)⟩
theorem lw_p37 : lw_okq (⟨"MarchFolk", "votesFor", "(II)I"⟩, 15) := ⟨⟨by decide +kernel, by decide +kernel⟩, List.mem_of_getElem? (i := 20) (by decide +kernel), List.mem_of_getElem? (i := 728) (by decide +kernel), List.mem_of_getElem? (i := 729) (by decide +kernel)⟩
theorem lw_p38 : lw_okq (⟨"MarchFolk", "isIn", "(II)Z"⟩, 15) := ⟨⟨by decide +kernel, by decide +kernel⟩, List.mem_of_getElem? (i := 20) (by decide +kernel), List.mem_of_getElem? (i := 732) (by decide +kernel), List.mem_of_getElem? (i := 733) (by decide +kernel)⟩
theorem lw_p39 : lw_okq (⟨"MarchFolk", "voteOf", "(II)I"⟩, 15) := ⟨⟨by decide +kernel, by decide +kernel⟩, List.mem_of_getElem? (i := 20) (by decide +kernel), List.mem_of_getElem? (i := 736) (by decide +kernel), List.mem_of_getElem? (i := 737) (by decide +kernel)⟩
theorem lw_p40 : lw_okq (⟨"MarchFolk", "goneBetween", "(II)I"⟩, 15) := ⟨⟨by decide +kernel, by decide +kernel⟩, List.mem_of_getElem? (i := 20) (by decide +kernel), List.mem_of_getElem? (i := 775) (by decide +kernel), List.mem_of_getElem? (i := 776) (by decide +kernel)⟩
theorem lw_p41 : lw_okq (⟨"MarchFolk", "fullestStep", "()I"⟩, 15) := ⟨⟨by decide +kernel, by decide +kernel⟩, List.mem_of_getElem? (i := 20) (by decide +kernel), List.mem_of_getElem? (i := 791) (by decide +kernel), List.mem_of_getElem? (i := 792) (by decide +kernel)⟩
theorem lw_p42 : lw_okq (⟨"MarchFolk", "inItWith", "(II)I"⟩, 15) := ⟨⟨by decide +kernel, by decide +kernel⟩, List.mem_of_getElem? (i := 20) (by decide +kernel), List.mem_of_getElem? (i := 808) (by decide +kernel), List.mem_of_getElem? (i := 809) (by decide +kernel)⟩
theorem lw_p43 : lw_okq (⟨"MarchFolk", "lastFall", "()I"⟩, 15) := ⟨⟨by decide +kernel, by decide +kernel⟩, List.mem_of_getElem? (i := 20) (by decide +kernel), List.mem_of_getElem? (i := 848) (by decide +kernel), List.mem_of_getElem? (i := 849) (by decide +kernel)⟩
theorem lw_p44 : lw_okq (⟨"MarchFolk", "fallsInWithout", "(II)Z"⟩, 15) := ⟨⟨by decide +kernel, by decide +kernel⟩, List.mem_of_getElem? (i := 20) (by decide +kernel), List.mem_of_getElem? (i := 869) (by decide +kernel), List.mem_of_getElem? (i := 870) (by decide +kernel)⟩
theorem lw_p45 : lw_okq (⟨"MarchFolk", "stoppingSet", "(I)I"⟩, 15) := ⟨⟨by decide +kernel, by decide +kernel⟩, List.mem_of_getElem? (i := 20) (by decide +kernel), List.mem_of_getElem? (i := 885) (by decide +kernel), List.mem_of_getElem? (i := 886) (by decide +kernel)⟩
theorem lw_p46 : lw_okq (⟨"MarchFolk", "comesAnswered", "(II)Z"⟩, 15) := ⟨⟨by decide +kernel, by decide +kernel⟩, List.mem_of_getElem? (i := 20) (by decide +kernel), List.mem_of_getElem? (i := 894) (by decide +kernel), List.mem_of_getElem? (i := 895) (by decide +kernel)⟩
theorem lw_p47 : lw_okq (⟨"MarchFolk", "endingSet", "()I"⟩, 15) := ⟨⟨by decide +kernel, by decide +kernel⟩, List.mem_of_getElem? (i := 20) (by decide +kernel), List.mem_of_getElem? (i := 906) (by decide +kernel), List.mem_of_getElem? (i := 907) (by decide +kernel)⟩
def lw_privs_3 : List (MethodName × Nat) := [(⟨"MarchFolk$Walk", "heaviest", "(LMarchFolk$Plan;Z)I"⟩, 14), (⟨"MarchFolk$Walk", "voteByRank", "(LMarchFolk$Plan;Z)I"⟩, 14), (⟨"MarchFolk", "roadsAcross", "(I)I"⟩, 15), (⟨"MarchFolk", "isStep", "(I)Z"⟩, 15), (⟨"MarchFolk", "isMarch", "()Z"⟩, 15), (⟨"MarchFolk", "votesFor", "(II)I"⟩, 15), (⟨"MarchFolk", "isIn", "(II)Z"⟩, 15), (⟨"MarchFolk", "voteOf", "(II)I"⟩, 15), (⟨"MarchFolk", "goneBetween", "(II)I"⟩, 15), (⟨"MarchFolk", "fullestStep", "()I"⟩, 15), (⟨"MarchFolk", "inItWith", "(II)I"⟩, 15), (⟨"MarchFolk", "lastFall", "()I"⟩, 15), (⟨"MarchFolk", "fallsInWithout", "(II)Z"⟩, 15), (⟨"MarchFolk", "stoppingSet", "(I)I"⟩, 15), (⟨"MarchFolk", "comesAnswered", "(II)Z"⟩, 15), (⟨"MarchFolk", "endingSet", "()I"⟩, 15)]
theorem lw_r3 : ∀ q ∈ lw_privs_3, lw_okq q := List.forall_mem_cons.mpr ⟨lw_p32, List.forall_mem_cons.mpr ⟨lw_p33, List.forall_mem_cons.mpr ⟨lw_p34, List.forall_mem_cons.mpr ⟨lw_p35, List.forall_mem_cons.mpr ⟨lw_p36, List.forall_mem_cons.mpr ⟨lw_p37, List.forall_mem_cons.mpr ⟨lw_p38, List.forall_mem_cons.mpr ⟨lw_p39, List.forall_mem_cons.mpr ⟨lw_p40, List.forall_mem_cons.mpr ⟨lw_p41, List.forall_mem_cons.mpr ⟨lw_p42, List.forall_mem_cons.mpr ⟨lw_p43, List.forall_mem_cons.mpr ⟨lw_p44, List.forall_mem_cons.mpr ⟨lw_p45, List.forall_mem_cons.mpr ⟨lw_p46, List.forall_mem_cons.mpr ⟨lw_p47, fun _ h => absurd h List.not_mem_nil⟩⟩⟩⟩⟩⟩⟩⟩⟩⟩⟩⟩⟩⟩⟩⟩
theorem lw_p48 : lw_okq (⟨"MarchFolk", "overAnswered", "(I)I"⟩, 15) := ⟨⟨by decide +kernel, by decide +kernel⟩, List.mem_of_getElem? (i := 20) (by decide +kernel), List.mem_of_getElem? (i := 910) (by decide +kernel), List.mem_of_getElem? (i := 911) (by decide +kernel)⟩
theorem lw_p49 : lw_okq (⟨"MarchFolk", "shuttingSet", "(I)I"⟩, 15) := ⟨⟨by decide +kernel, by decide +kernel⟩, List.mem_of_getElem? (i := 20) (by decide +kernel), List.mem_of_getElem? (i := 934) (by decide +kernel), List.mem_of_getElem? (i := 935) (by decide +kernel)⟩
theorem lw_p50 : lw_okq (⟨"MarchFolk", "comesBarred", "(II)Z"⟩, 15) := ⟨⟨by decide +kernel, by decide +kernel⟩, List.mem_of_getElem? (i := 20) (by decide +kernel), List.mem_of_getElem? (i := 938) (by decide +kernel), List.mem_of_getElem? (i := 939) (by decide +kernel)⟩
theorem lw_p51 : lw_okq (⟨"MarchFolk", "lacksRow", "(I)I"⟩, 15) := ⟨⟨by decide +kernel, by decide +kernel⟩, List.mem_of_getElem? (i := 20) (by decide +kernel), List.mem_of_getElem? (i := 950) (by decide +kernel), List.mem_of_getElem? (i := 951) (by decide +kernel)⟩
theorem lw_p52 : lw_okq (⟨"MarchFolk", "isSlot", "(I)Z"⟩, 15) := ⟨⟨by decide +kernel, by decide +kernel⟩, List.mem_of_getElem? (i := 20) (by decide +kernel), List.mem_of_getElem? (i := 954) (by decide +kernel), List.mem_of_getElem? (i := 955) (by decide +kernel)⟩
theorem lw_p53 : lw_okq (⟨"MarchFolk", "tellsFalls", "(LMarchFolk$Slot;)Z"⟩, 15) := ⟨⟨by decide +kernel, by decide +kernel⟩, List.mem_of_getElem? (i := 20) (by decide +kernel), List.mem_of_getElem? (i := 958) (by decide +kernel), List.mem_of_getElem? (i := 959) (by decide +kernel)⟩
theorem lw_p54 : lw_okq (⟨"MarchFolk", "startsBy", "(LMarchFolk$Slot;)I"⟩, 15) := ⟨⟨by decide +kernel, by decide +kernel⟩, List.mem_of_getElem? (i := 20) (by decide +kernel), List.mem_of_getElem? (i := 964) (by decide +kernel), List.mem_of_getElem? (i := 965) (by decide +kernel)⟩
theorem lw_p55 : lw_okq (⟨"MarchFolk", "agreesOnFalls", "(LMarchFolk$Slot;)Z"⟩, 15) := ⟨⟨by decide +kernel, by decide +kernel⟩, List.mem_of_getElem? (i := 20) (by decide +kernel), List.mem_of_getElem? (i := 969) (by decide +kernel), List.mem_of_getElem? (i := 970) (by decide +kernel)⟩
theorem lw_p56 : lw_okq (⟨"MarchFolk", "bestAsked", "(I)I"⟩, 15) := ⟨⟨by decide +kernel, by decide +kernel⟩, List.mem_of_getElem? (i := 20) (by decide +kernel), List.mem_of_getElem? (i := 977) (by decide +kernel), List.mem_of_getElem? (i := 978) (by decide +kernel)⟩
theorem lw_p57 : lw_okq (⟨"MarchFolk", "leftAtWorst", "(II)I"⟩, 15) := ⟨⟨by decide +kernel, by decide +kernel⟩, List.mem_of_getElem? (i := 20) (by decide +kernel), List.mem_of_getElem? (i := 981) (by decide +kernel), List.mem_of_getElem? (i := 982) (by decide +kernel)⟩
theorem lw_p58 : lw_okq (⟨"MarchFolk", "likeStarts", "(III)I"⟩, 15) := ⟨⟨by decide +kernel, by decide +kernel⟩, List.mem_of_getElem? (i := 20) (by decide +kernel), List.mem_of_getElem? (i := 985) (by decide +kernel), List.mem_of_getElem? (i := 986) (by decide +kernel)⟩
theorem lw_p59 : lw_okq (⟨"MarchFolk", "tellsPlaces", "(LMarchFolk$Slot;)Z"⟩, 15) := ⟨⟨by decide +kernel, by decide +kernel⟩, List.mem_of_getElem? (i := 20) (by decide +kernel), List.mem_of_getElem? (i := 993) (by decide +kernel), List.mem_of_getElem? (i := 994) (by decide +kernel)⟩
theorem lw_p60 : lw_okq (⟨"MarchFolk", "rulesBy", "(LMarchFolk$Slot;)I"⟩, 15) := ⟨⟨by decide +kernel, by decide +kernel⟩, List.mem_of_getElem? (i := 20) (by decide +kernel), List.mem_of_getElem? (i := 997) (by decide +kernel), List.mem_of_getElem? (i := 998) (by decide +kernel)⟩
theorem lw_p61 : lw_okq (⟨"MarchFolk", "agreesOnPlaces", "(LMarchFolk$Slot;)Z"⟩, 15) := ⟨⟨by decide +kernel, by decide +kernel⟩, List.mem_of_getElem? (i := 20) (by decide +kernel), List.mem_of_getElem? (i := 1001) (by decide +kernel), List.mem_of_getElem? (i := 1002) (by decide +kernel)⟩
theorem lw_p62 : lw_okq (⟨"MarchFolk", "shamsOf", "(II)I"⟩, 15) := ⟨⟨by decide +kernel, by decide +kernel⟩, List.mem_of_getElem? (i := 20) (by decide +kernel), List.mem_of_getElem? (i := 1009) (by decide +kernel), List.mem_of_getElem? (i := 1010) (by decide +kernel)⟩
theorem lw_p63 : lw_okq (⟨"MarchFolk", "shamHelps", "(III)Z"⟩, 15) := ⟨⟨by decide +kernel, by decide +kernel⟩, List.mem_of_getElem? (i := 20) (by decide +kernel), List.mem_of_getElem? (i := 1014) (by decide +kernel), List.mem_of_getElem? (i := 1015) (by decide +kernel)⟩
def lw_privs_4 : List (MethodName × Nat) := [(⟨"MarchFolk", "overAnswered", "(I)I"⟩, 15), (⟨"MarchFolk", "shuttingSet", "(I)I"⟩, 15), (⟨"MarchFolk", "comesBarred", "(II)Z"⟩, 15), (⟨"MarchFolk", "lacksRow", "(I)I"⟩, 15), (⟨"MarchFolk", "isSlot", "(I)Z"⟩, 15), (⟨"MarchFolk", "tellsFalls", "(LMarchFolk$Slot;)Z"⟩, 15), (⟨"MarchFolk", "startsBy", "(LMarchFolk$Slot;)I"⟩, 15), (⟨"MarchFolk", "agreesOnFalls", "(LMarchFolk$Slot;)Z"⟩, 15), (⟨"MarchFolk", "bestAsked", "(I)I"⟩, 15), (⟨"MarchFolk", "leftAtWorst", "(II)I"⟩, 15), (⟨"MarchFolk", "likeStarts", "(III)I"⟩, 15), (⟨"MarchFolk", "tellsPlaces", "(LMarchFolk$Slot;)Z"⟩, 15), (⟨"MarchFolk", "rulesBy", "(LMarchFolk$Slot;)I"⟩, 15), (⟨"MarchFolk", "agreesOnPlaces", "(LMarchFolk$Slot;)Z"⟩, 15), (⟨"MarchFolk", "shamsOf", "(II)I"⟩, 15), (⟨"MarchFolk", "shamHelps", "(III)Z"⟩, 15)]
theorem lw_r4 : ∀ q ∈ lw_privs_4, lw_okq q := List.forall_mem_cons.mpr ⟨lw_p48, List.forall_mem_cons.mpr ⟨lw_p49, List.forall_mem_cons.mpr ⟨lw_p50, List.forall_mem_cons.mpr ⟨lw_p51, List.forall_mem_cons.mpr ⟨lw_p52, List.forall_mem_cons.mpr ⟨lw_p53, List.forall_mem_cons.mpr ⟨lw_p54, List.forall_mem_cons.mpr ⟨lw_p55, List.forall_mem_cons.mpr ⟨lw_p56, List.forall_mem_cons.mpr ⟨lw_p57, List.forall_mem_cons.mpr ⟨lw_p58, List.forall_mem_cons.mpr ⟨lw_p59, List.forall_mem_cons.mpr ⟨lw_p60, List.forall_mem_cons.mpr ⟨lw_p61, List.forall_mem_cons.mpr ⟨lw_p62, List.forall_mem_cons.mpr ⟨lw_p63, fun _ h => absurd h List.not_mem_nil⟩⟩⟩⟩⟩⟩⟩⟩⟩⟩⟩⟩⟩⟩⟩⟩
theorem lw_p64 : lw_okq (⟨"MarchFolk", "isRainyStep", "(I)Z"⟩, 15) := ⟨⟨by decide +kernel, by decide +kernel⟩, List.mem_of_getElem? (i := 20) (by decide +kernel), List.mem_of_getElem? (i := 1030) (by decide +kernel), List.mem_of_getElem? (i := 1031) (by decide +kernel)⟩
theorem lw_p65 : lw_okq (⟨"MarchFolk", "isPartOfFraction", "(I)Z"⟩, 15) := ⟨⟨by decide +kernel, by decide +kernel⟩, List.mem_of_getElem? (i := 20) (by decide +kernel), List.mem_of_getElem? (i := 1034) (by decide +kernel), List.mem_of_getElem? (i := 1035) (by decide +kernel)⟩
theorem lw_p66 : lw_okq (⟨"MarchFolk", "weightOf", "(II)J"⟩, 15) := ⟨⟨by decide +kernel, by decide +kernel⟩, List.mem_of_getElem? (i := 20) (by decide +kernel), List.mem_of_getElem? (i := 1039) (by decide +kernel), List.mem_of_getElem? (i := 1040) (by decide +kernel)⟩
theorem lw_p67 : lw_okq (⟨"MarchFolk", "goInRain", "(JI)V"⟩, 15) := ⟨⟨by decide +kernel, by decide +kernel⟩, List.mem_of_getElem? (i := 20) (by decide +kernel), List.mem_of_getElem? (i := 1043) (by decide +kernel), List.mem_of_getElem? (i := 1044) (by decide +kernel)⟩
theorem lw_p68 : lw_okq (⟨"MarchFolk", "rainFrom", "(J)J"⟩, 15) := ⟨⟨by decide +kernel, by decide +kernel⟩, List.mem_of_getElem? (i := 20) (by decide +kernel), List.mem_of_getElem? (i := 1066) (by decide +kernel), List.mem_of_getElem? (i := 1067) (by decide +kernel)⟩
theorem lw_p69 : lw_okq (⟨"MarchFolkModel", "four", "(I)V"⟩, 49) := ⟨⟨by decide +kernel, by decide +kernel⟩, List.mem_of_getElem? (i := 1158) (by decide +kernel), List.mem_of_getElem? (i := 1339) (by decide +kernel), List.mem_of_getElem? (i := 1340) (by decide +kernel)⟩
theorem lw_p70 : lw_okq (⟨"MarchFolkModel", "clears", "()V"⟩, 49) := ⟨⟨by decide +kernel, by decide +kernel⟩, List.mem_of_getElem? (i := 1158) (by decide +kernel), List.mem_of_getElem? (i := 1355) (by decide +kernel), List.mem_of_getElem? (i := 1356) (by decide +kernel)⟩
theorem lw_p71 : lw_okq (⟨"MarchFolkModel", "tells", "(II)V"⟩, 49) := ⟨⟨by decide +kernel, by decide +kernel⟩, List.mem_of_getElem? (i := 1158) (by decide +kernel), List.mem_of_getElem? (i := 1359) (by decide +kernel), List.mem_of_getElem? (i := 1360) (by decide +kernel)⟩
theorem lw_p72 : lw_okq (⟨"MarchFolkModel", "begins", "()V"⟩, 49) := ⟨⟨by decide +kernel, by decide +kernel⟩, List.mem_of_getElem? (i := 1158) (by decide +kernel), List.mem_of_getElem? (i := 1363) (by decide +kernel), List.mem_of_getElem? (i := 1364) (by decide +kernel)⟩
theorem lw_p73 : lw_okq (⟨"MarchFolkModel", "goesOn", "()V"⟩, 49) := ⟨⟨by decide +kernel, by decide +kernel⟩, List.mem_of_getElem? (i := 1158) (by decide +kernel), List.mem_of_getElem? (i := 1367) (by decide +kernel), List.mem_of_getElem? (i := 1368) (by decide +kernel)⟩
theorem lw_p74 : lw_okq (⟨"MarchFolkModel", "isByte", "(III)Z"⟩, 49) := ⟨⟨by decide +kernel, by decide +kernel⟩, List.mem_of_getElem? (i := 1158) (by decide +kernel), List.mem_of_getElem? (i := 1371) (by decide +kernel), List.mem_of_getElem? (i := 1372) (by decide +kernel)⟩
theorem lw_p75 : lw_okq (⟨"MarchFolkModel", "isGood", "()Z"⟩, 49) := ⟨⟨by decide +kernel, by decide +kernel⟩, List.mem_of_getElem? (i := 1158) (by decide +kernel), List.mem_of_getElem? (i := 1380) (by decide +kernel), List.mem_of_getElem? (i := 1381) (by decide +kernel)⟩
theorem lw_p76 : lw_okq (⟨"MarchFolkModel", "marchLine", "()V"⟩, 49) := ⟨⟨by decide +kernel, by decide +kernel⟩, List.mem_of_getElem? (i := 1158) (by decide +kernel), List.mem_of_getElem? (i := 1384) (by decide +kernel), List.mem_of_getElem? (i := 1385) (by decide +kernel)⟩
theorem lw_p77 : lw_okq (⟨"MarchFolkModel", "asks", "(J)V"⟩, 49) := ⟨⟨by decide +kernel, by decide +kernel⟩, List.mem_of_getElem? (i := 1158) (by decide +kernel), List.mem_of_getElem? (i := 1389) (by decide +kernel), List.mem_of_getElem? (i := 1390) (by decide +kernel)⟩
theorem lw_p78 : lw_okq (⟨"MarchFolkModel", "takes", "(J)Z"⟩, 49) := ⟨⟨by decide +kernel, by decide +kernel⟩, List.mem_of_getElem? (i := 1158) (by decide +kernel), List.mem_of_getElem? (i := 1393) (by decide +kernel), List.mem_of_getElem? (i := 1394) (by decide +kernel)⟩
theorem lw_p79 : lw_okq (⟨"MarchFolkModel", "is", "(J)Z"⟩, 49) := ⟨⟨by decide +kernel, by decide +kernel⟩, List.mem_of_getElem? (i := 1158) (by decide +kernel), List.mem_of_getElem? (i := 1397) (by decide +kernel), List.mem_of_getElem? (i := 1398) (by decide +kernel)⟩
def lw_privs_5 : List (MethodName × Nat) := [(⟨"MarchFolk", "isRainyStep", "(I)Z"⟩, 15), (⟨"MarchFolk", "isPartOfFraction", "(I)Z"⟩, 15), (⟨"MarchFolk", "weightOf", "(II)J"⟩, 15), (⟨"MarchFolk", "goInRain", "(JI)V"⟩, 15), (⟨"MarchFolk", "rainFrom", "(J)J"⟩, 15), (⟨"MarchFolkModel", "four", "(I)V"⟩, 49), (⟨"MarchFolkModel", "clears", "()V"⟩, 49), (⟨"MarchFolkModel", "tells", "(II)V"⟩, 49), (⟨"MarchFolkModel", "begins", "()V"⟩, 49), (⟨"MarchFolkModel", "goesOn", "()V"⟩, 49), (⟨"MarchFolkModel", "isByte", "(III)Z"⟩, 49), (⟨"MarchFolkModel", "isGood", "()Z"⟩, 49), (⟨"MarchFolkModel", "marchLine", "()V"⟩, 49), (⟨"MarchFolkModel", "asks", "(J)V"⟩, 49), (⟨"MarchFolkModel", "takes", "(J)Z"⟩, 49), (⟨"MarchFolkModel", "is", "(J)Z"⟩, 49)]
theorem lw_r5 : ∀ q ∈ lw_privs_5, lw_okq q := List.forall_mem_cons.mpr ⟨lw_p64, List.forall_mem_cons.mpr ⟨lw_p65, List.forall_mem_cons.mpr ⟨lw_p66, List.forall_mem_cons.mpr ⟨lw_p67, List.forall_mem_cons.mpr ⟨lw_p68, List.forall_mem_cons.mpr ⟨lw_p69, List.forall_mem_cons.mpr ⟨lw_p70, List.forall_mem_cons.mpr ⟨lw_p71, List.forall_mem_cons.mpr ⟨lw_p72, List.forall_mem_cons.mpr ⟨lw_p73, List.forall_mem_cons.mpr ⟨lw_p74, List.forall_mem_cons.mpr ⟨lw_p75, List.forall_mem_cons.mpr ⟨lw_p76, List.forall_mem_cons.mpr ⟨lw_p77, List.forall_mem_cons.mpr ⟨lw_p78, List.forall_mem_cons.mpr ⟨lw_p79, fun _ h => absurd h List.not_mem_nil⟩⟩⟩⟩⟩⟩⟩⟩⟩⟩⟩⟩⟩⟩⟩⟩
theorem lw_p80 : lw_okq (⟨"MarchFolkModel", "fails", "(I)V"⟩, 49) := ⟨⟨by decide +kernel, by decide +kernel⟩, List.mem_of_getElem? (i := 1158) (by decide +kernel), List.mem_of_getElem? (i := 1401) (by decide +kernel), List.mem_of_getElem? (i := 1402) (by decide +kernel)⟩
theorem lw_p81 : lw_okq (⟨"MarchFolkModel", "number", "(JII)I"⟩, 49) := ⟨⟨by decide +kernel, by decide +kernel⟩, List.mem_of_getElem? (i := 1158) (by decide +kernel), List.mem_of_getElem? (i := 1406) (by decide +kernel), List.mem_of_getElem? (i := 1407) (by decide +kernel)⟩
theorem lw_p82 : lw_okq (⟨"MarchFolkModel", "number", "(II)I"⟩, 49) := ⟨⟨by decide +kernel, by decide +kernel⟩, List.mem_of_getElem? (i := 1158) (by decide +kernel), List.mem_of_getElem? (i := 1410) (by decide +kernel), List.mem_of_getElem? (i := 1411) (by decide +kernel)⟩
theorem lw_p83 : lw_okq (⟨"MarchFolkModel", "placeHere", "()I"⟩, 49) := ⟨⟨by decide +kernel, by decide +kernel⟩, List.mem_of_getElem? (i := 1158) (by decide +kernel), List.mem_of_getElem? (i := 1415) (by decide +kernel), List.mem_of_getElem? (i := 1416) (by decide +kernel)⟩
theorem lw_p84 : lw_okq (⟨"MarchFolkModel", "hasRead", "(I)I"⟩, 49) := ⟨⟨by decide +kernel, by decide +kernel⟩, List.mem_of_getElem? (i := 1158) (by decide +kernel), List.mem_of_getElem? (i := 1419) (by decide +kernel), List.mem_of_getElem? (i := 1420) (by decide +kernel)⟩
theorem lw_p85 : lw_okq (⟨"MarchFolkModel", "line", "()V"⟩, 49) := ⟨⟨by decide +kernel, by decide +kernel⟩, List.mem_of_getElem? (i := 1158) (by decide +kernel), List.mem_of_getElem? (i := 1425) (by decide +kernel), List.mem_of_getElem? (i := 1426) (by decide +kernel)⟩
theorem lw_p86 : lw_okq (⟨"MarchFolkModel", "isRoom", "(ZII)Z"⟩, 49) := ⟨⟨by decide +kernel, by decide +kernel⟩, List.mem_of_getElem? (i := 1158) (by decide +kernel), List.mem_of_getElem? (i := 1430) (by decide +kernel), List.mem_of_getElem? (i := 1431) (by decide +kernel)⟩
theorem lw_p87 : lw_okq (⟨"MarchFolkModel", "roadLine", "()V"⟩, 49) := ⟨⟨by decide +kernel, by decide +kernel⟩, List.mem_of_getElem? (i := 1158) (by decide +kernel), List.mem_of_getElem? (i := 1434) (by decide +kernel), List.mem_of_getElem? (i := 1435) (by decide +kernel)⟩
theorem lw_p88 : lw_okq (⟨"MarchFolkModel", "personLine", "()V"⟩, 49) := ⟨⟨by decide +kernel, by decide +kernel⟩, List.mem_of_getElem? (i := 1158) (by decide +kernel), List.mem_of_getElem? (i := 1441) (by decide +kernel), List.mem_of_getElem? (i := 1442) (by decide +kernel)⟩
theorem lw_p89 : lw_okq (⟨"MarchFolkModel", "lineEnds", "()V"⟩, 49) := ⟨⟨by decide +kernel, by decide +kernel⟩, List.mem_of_getElem? (i := 1158) (by decide +kernel), List.mem_of_getElem? (i := 1452) (by decide +kernel), List.mem_of_getElem? (i := 1453) (by decide +kernel)⟩
theorem lw_p90 : lw_okq (⟨"MarchFolkModel", "isOver", "()V"⟩, 49) := ⟨⟨by decide +kernel, by decide +kernel⟩, List.mem_of_getElem? (i := 1158) (by decide +kernel), List.mem_of_getElem? (i := 1456) (by decide +kernel), List.mem_of_getElem? (i := 1457) (by decide +kernel)⟩
theorem lw_p91 : lw_okq (⟨"MarchFolkModel", "copyMarch", "(II)V"⟩, 49) := ⟨⟨by decide +kernel, by decide +kernel⟩, List.mem_of_getElem? (i := 1158) (by decide +kernel), List.mem_of_getElem? (i := 1460) (by decide +kernel), List.mem_of_getElem? (i := 1461) (by decide +kernel)⟩
theorem lw_p92 : lw_okq (⟨"MarchFolkModel", "isPerson", "(J)Z"⟩, 49) := ⟨⟨by decide +kernel, by decide +kernel⟩, List.mem_of_getElem? (i := 1158) (by decide +kernel), List.mem_of_getElem? (i := 1476) (by decide +kernel), List.mem_of_getElem? (i := 1477) (by decide +kernel)⟩
theorem lw_p93 : lw_okq (⟨"MarchFolkModel", "people", "()I"⟩, 49) := ⟨⟨by decide +kernel, by decide +kernel⟩, List.mem_of_getElem? (i := 1158) (by decide +kernel), List.mem_of_getElem? (i := 1480) (by decide +kernel), List.mem_of_getElem? (i := 1481) (by decide +kernel)⟩
theorem lw_p94 : lw_okq (⟨"MarchFolkModel", "arePlaces", "(II)Z"⟩, 49) := ⟨⟨by decide +kernel, by decide +kernel⟩, List.mem_of_getElem? (i := 1158) (by decide +kernel), List.mem_of_getElem? (i := 1489) (by decide +kernel), List.mem_of_getElem? (i := 1490) (by decide +kernel)⟩
theorem lw_p95 : lw_okq (⟨"MarchFolkModel", "isPlace", "(J)Z"⟩, 49) := ⟨⟨by decide +kernel, by decide +kernel⟩, List.mem_of_getElem? (i := 1158) (by decide +kernel), List.mem_of_getElem? (i := 1493) (by decide +kernel), List.mem_of_getElem? (i := 1494) (by decide +kernel)⟩
def lw_privs_6 : List (MethodName × Nat) := [(⟨"MarchFolkModel", "fails", "(I)V"⟩, 49), (⟨"MarchFolkModel", "number", "(JII)I"⟩, 49), (⟨"MarchFolkModel", "number", "(II)I"⟩, 49), (⟨"MarchFolkModel", "placeHere", "()I"⟩, 49), (⟨"MarchFolkModel", "hasRead", "(I)I"⟩, 49), (⟨"MarchFolkModel", "line", "()V"⟩, 49), (⟨"MarchFolkModel", "isRoom", "(ZII)Z"⟩, 49), (⟨"MarchFolkModel", "roadLine", "()V"⟩, 49), (⟨"MarchFolkModel", "personLine", "()V"⟩, 49), (⟨"MarchFolkModel", "lineEnds", "()V"⟩, 49), (⟨"MarchFolkModel", "isOver", "()V"⟩, 49), (⟨"MarchFolkModel", "copyMarch", "(II)V"⟩, 49), (⟨"MarchFolkModel", "isPerson", "(J)Z"⟩, 49), (⟨"MarchFolkModel", "people", "()I"⟩, 49), (⟨"MarchFolkModel", "arePlaces", "(II)Z"⟩, 49), (⟨"MarchFolkModel", "isPlace", "(J)Z"⟩, 49)]
theorem lw_r6 : ∀ q ∈ lw_privs_6, lw_okq q := List.forall_mem_cons.mpr ⟨lw_p80, List.forall_mem_cons.mpr ⟨lw_p81, List.forall_mem_cons.mpr ⟨lw_p82, List.forall_mem_cons.mpr ⟨lw_p83, List.forall_mem_cons.mpr ⟨lw_p84, List.forall_mem_cons.mpr ⟨lw_p85, List.forall_mem_cons.mpr ⟨lw_p86, List.forall_mem_cons.mpr ⟨lw_p87, List.forall_mem_cons.mpr ⟨lw_p88, List.forall_mem_cons.mpr ⟨lw_p89, List.forall_mem_cons.mpr ⟨lw_p90, List.forall_mem_cons.mpr ⟨lw_p91, List.forall_mem_cons.mpr ⟨lw_p92, List.forall_mem_cons.mpr ⟨lw_p93, List.forall_mem_cons.mpr ⟨lw_p94, List.forall_mem_cons.mpr ⟨lw_p95, fun _ h => absurd h List.not_mem_nil⟩⟩⟩⟩⟩⟩⟩⟩⟩⟩⟩⟩⟩⟩⟩⟩
theorem lw_p96 : lw_okq (⟨"MarchFolkModel", "lays", "()V"⟩, 49) := ⟨⟨by decide +kernel, by decide +kernel⟩, List.mem_of_getElem? (i := 1158) (by decide +kernel), List.mem_of_getElem? (i := 1497) (by decide +kernel), List.mem_of_getElem? (i := 1498) (by decide +kernel)⟩
theorem lw_p97 : lw_okq (⟨"MarchFolkModel", "laysWays", "()V"⟩, 49) := ⟨⟨by decide +kernel, by decide +kernel⟩, List.mem_of_getElem? (i := 1158) (by decide +kernel), List.mem_of_getElem? (i := 1501) (by decide +kernel), List.mem_of_getElem? (i := 1502) (by decide +kernel)⟩
theorem lw_p98 : lw_okq (⟨"MarchFolkModel", "nextOf", "(II)I"⟩, 49) := ⟨⟨by decide +kernel, by decide +kernel⟩, List.mem_of_getElem? (i := 1158) (by decide +kernel), List.mem_of_getElem? (i := 1512) (by decide +kernel), List.mem_of_getElem? (i := 1513) (by decide +kernel)⟩
theorem lw_p99 : lw_okq (⟨"MarchFolkModel", "isStep", "(I)Z"⟩, 49) := ⟨⟨by decide +kernel, by decide +kernel⟩, List.mem_of_getElem? (i := 1158) (by decide +kernel), List.mem_of_getElem? (i := 1524) (by decide +kernel), List.mem_of_getElem? (i := 1525) (by decide +kernel)⟩
theorem lw_p100 : lw_okq (⟨"MarchFolkModel", "isMarch", "()Z"⟩, 49) := ⟨⟨by decide +kernel, by decide +kernel⟩, List.mem_of_getElem? (i := 1158) (by decide +kernel), List.mem_of_getElem? (i := 1528) (by decide +kernel), List.mem_of_getElem? (i := 1529) (by decide +kernel)⟩
theorem lw_p101 : lw_okq (⟨"MarchFolkModel", "laysNow", "()V"⟩, 49) := ⟨⟨by decide +kernel, by decide +kernel⟩, List.mem_of_getElem? (i := 1158) (by decide +kernel), List.mem_of_getElem? (i := 1533) (by decide +kernel), List.mem_of_getElem? (i := 1534) (by decide +kernel)⟩
theorem lw_p102 : lw_okq (⟨"MarchFolkModel", "runs", "()V"⟩, 49) := ⟨⟨by decide +kernel, by decide +kernel⟩, List.mem_of_getElem? (i := 1158) (by decide +kernel), List.mem_of_getElem? (i := 1537) (by decide +kernel), List.mem_of_getElem? (i := 1538) (by decide +kernel)⟩
theorem lw_p103 : lw_okq (⟨"MarchFolkModel", "falls", "(II)V"⟩, 49) := ⟨⟨by decide +kernel, by decide +kernel⟩, List.mem_of_getElem? (i := 1158) (by decide +kernel), List.mem_of_getElem? (i := 1541) (by decide +kernel), List.mem_of_getElem? (i := 1542) (by decide +kernel)⟩
theorem lw_p104 : lw_okq (⟨"MarchFolkModel", "reasonOf", "(I)I"⟩, 49) := ⟨⟨by decide +kernel, by decide +kernel⟩, List.mem_of_getElem? (i := 1158) (by decide +kernel), List.mem_of_getElem? (i := 1545) (by decide +kernel), List.mem_of_getElem? (i := 1546) (by decide +kernel)⟩
theorem lw_p105 : lw_okq (⟨"MarchFolkModel", "leave", "(II)V"⟩, 49) := ⟨⟨by decide +kernel, by decide +kernel⟩, List.mem_of_getElem? (i := 1158) (by decide +kernel), List.mem_of_getElem? (i := 1552) (by decide +kernel), List.mem_of_getElem? (i := 1553) (by decide +kernel)⟩
theorem lw_p106 : lw_okq (⟨"MarchFolkModel", "wantsOf", "(I)I"⟩, 49) := ⟨⟨by decide +kernel, by decide +kernel⟩, List.mem_of_getElem? (i := 1158) (by decide +kernel), List.mem_of_getElem? (i := 1556) (by decide +kernel), List.mem_of_getElem? (i := 1557) (by decide +kernel)⟩
theorem lw_p107 : lw_okq (⟨"MarchFolkModel", "turns", "(I)I"⟩, 49) := ⟨⟨by decide +kernel, by decide +kernel⟩, List.mem_of_getElem? (i := 1158) (by decide +kernel), List.mem_of_getElem? (i := 1560) (by decide +kernel), List.mem_of_getElem? (i := 1561) (by decide +kernel)⟩
theorem lw_p108 : lw_okq (⟨"MarchFolkModel", "votesFor", "(IIZ)I"⟩, 49) := ⟨⟨by decide +kernel, by decide +kernel⟩, List.mem_of_getElem? (i := 1158) (by decide +kernel), List.mem_of_getElem? (i := 1564) (by decide +kernel), List.mem_of_getElem? (i := 1565) (by decide +kernel)⟩
theorem lw_p109 : lw_okq (⟨"MarchFolkModel", "firstAt", "(II)I"⟩, 49) := ⟨⟨by decide +kernel, by decide +kernel⟩, List.mem_of_getElem? (i := 1158) (by decide +kernel), List.mem_of_getElem? (i := 1596) (by decide +kernel), List.mem_of_getElem? (i := 1597) (by decide +kernel)⟩
theorem lw_p110 : lw_okq (⟨"MarchFolkModel", "roadOf", "(II)I"⟩, 49) := ⟨⟨by decide +kernel, by decide +kernel⟩, List.mem_of_getElem? (i := 1158) (by decide +kernel), List.mem_of_getElem? (i := 1608) (by decide +kernel), List.mem_of_getElem? (i := 1609) (by decide +kernel)⟩
theorem lw_p111 : lw_okq (⟨"MarchFolkModel", "peakOf", "()I"⟩, 49) := ⟨⟨by decide +kernel, by decide +kernel⟩, List.mem_of_getElem? (i := 1158) (by decide +kernel), List.mem_of_getElem? (i := 1616) (by decide +kernel), List.mem_of_getElem? (i := 1617) (by decide +kernel)⟩
def lw_privs_7 : List (MethodName × Nat) := [(⟨"MarchFolkModel", "lays", "()V"⟩, 49), (⟨"MarchFolkModel", "laysWays", "()V"⟩, 49), (⟨"MarchFolkModel", "nextOf", "(II)I"⟩, 49), (⟨"MarchFolkModel", "isStep", "(I)Z"⟩, 49), (⟨"MarchFolkModel", "isMarch", "()Z"⟩, 49), (⟨"MarchFolkModel", "laysNow", "()V"⟩, 49), (⟨"MarchFolkModel", "runs", "()V"⟩, 49), (⟨"MarchFolkModel", "falls", "(II)V"⟩, 49), (⟨"MarchFolkModel", "reasonOf", "(I)I"⟩, 49), (⟨"MarchFolkModel", "leave", "(II)V"⟩, 49), (⟨"MarchFolkModel", "wantsOf", "(I)I"⟩, 49), (⟨"MarchFolkModel", "turns", "(I)I"⟩, 49), (⟨"MarchFolkModel", "votesFor", "(IIZ)I"⟩, 49), (⟨"MarchFolkModel", "firstAt", "(II)I"⟩, 49), (⟨"MarchFolkModel", "roadOf", "(II)I"⟩, 49), (⟨"MarchFolkModel", "peakOf", "()I"⟩, 49)]
theorem lw_r7 : ∀ q ∈ lw_privs_7, lw_okq q := List.forall_mem_cons.mpr ⟨lw_p96, List.forall_mem_cons.mpr ⟨lw_p97, List.forall_mem_cons.mpr ⟨lw_p98, List.forall_mem_cons.mpr ⟨lw_p99, List.forall_mem_cons.mpr ⟨lw_p100, List.forall_mem_cons.mpr ⟨lw_p101, List.forall_mem_cons.mpr ⟨lw_p102, List.forall_mem_cons.mpr ⟨lw_p103, List.forall_mem_cons.mpr ⟨lw_p104, List.forall_mem_cons.mpr ⟨lw_p105, List.forall_mem_cons.mpr ⟨lw_p106, List.forall_mem_cons.mpr ⟨lw_p107, List.forall_mem_cons.mpr ⟨lw_p108, List.forall_mem_cons.mpr ⟨lw_p109, List.forall_mem_cons.mpr ⟨lw_p110, List.forall_mem_cons.mpr ⟨lw_p111, fun _ h => absurd h List.not_mem_nil⟩⟩⟩⟩⟩⟩⟩⟩⟩⟩⟩⟩⟩⟩⟩⟩
theorem lw_p112 : lw_okq (⟨"MarchFolkModel", "stopsOf", "(I)I"⟩, 49) := ⟨⟨by decide +kernel, by decide +kernel⟩, List.mem_of_getElem? (i := 1158) (by decide +kernel), List.mem_of_getElem? (i := 1696) (by decide +kernel), List.mem_of_getElem? (i := 1697) (by decide +kernel)⟩
theorem lw_p113 : lw_okq (⟨"MarchFolkModel", "costOf", "(I)I"⟩, 49) := ⟨⟨by decide +kernel, by decide +kernel⟩, List.mem_of_getElem? (i := 1158) (by decide +kernel), List.mem_of_getElem? (i := 1700) (by decide +kernel), List.mem_of_getElem? (i := 1701) (by decide +kernel)⟩
theorem lw_p114 : lw_okq (⟨"MarchFolkModel", "endsOf", "()I"⟩, 49) := ⟨⟨by decide +kernel, by decide +kernel⟩, List.mem_of_getElem? (i := 1158) (by decide +kernel), List.mem_of_getElem? (i := 1712) (by decide +kernel), List.mem_of_getElem? (i := 1713) (by decide +kernel)⟩
theorem lw_p115 : lw_okq (⟨"MarchFolkModel", "contentOf", "(I)I"⟩, 49) := ⟨⟨by decide +kernel, by decide +kernel⟩, List.mem_of_getElem? (i := 1158) (by decide +kernel), List.mem_of_getElem? (i := 1725) (by decide +kernel), List.mem_of_getElem? (i := 1726) (by decide +kernel)⟩
theorem lw_p116 : lw_okq (⟨"MarchFolkModel", "shutsOf", "(I)I"⟩, 49) := ⟨⟨by decide +kernel, by decide +kernel⟩, List.mem_of_getElem? (i := 1158) (by decide +kernel), List.mem_of_getElem? (i := 1738) (by decide +kernel), List.mem_of_getElem? (i := 1739) (by decide +kernel)⟩
theorem lw_p117 : lw_okq (⟨"MarchFolkModel", "whyNotStarts", "(I)I"⟩, 49) := ⟨⟨by decide +kernel, by decide +kernel⟩, List.mem_of_getElem? (i := 1158) (by decide +kernel), List.mem_of_getElem? (i := 1754) (by decide +kernel), List.mem_of_getElem? (i := 1755) (by decide +kernel)⟩
theorem lw_p118 : lw_okq (⟨"MarchFolkModel", "startsOf", "(I)I"⟩, 49) := ⟨⟨by decide +kernel, by decide +kernel⟩, List.mem_of_getElem? (i := 1158) (by decide +kernel), List.mem_of_getElem? (i := 1758) (by decide +kernel), List.mem_of_getElem? (i := 1759) (by decide +kernel)⟩
theorem lw_p119 : lw_okq (⟨"MarchFolkModel", "shamsOf", "(II)I"⟩, 49) := ⟨⟨by decide +kernel, by decide +kernel⟩, List.mem_of_getElem? (i := 1158) (by decide +kernel), List.mem_of_getElem? (i := 1774) (by decide +kernel), List.mem_of_getElem? (i := 1775) (by decide +kernel)⟩
theorem lw_p120 : lw_okq (⟨"MarchFolkModel", "areBeside", "(II)Z"⟩, 49) := ⟨⟨by decide +kernel, by decide +kernel⟩, List.mem_of_getElem? (i := 1158) (by decide +kernel), List.mem_of_getElem? (i := 1778) (by decide +kernel), List.mem_of_getElem? (i := 1779) (by decide +kernel)⟩
theorem lw_p121 : lw_okq (⟨"MarchFolkModel", "isRain", "(I)Z"⟩, 49) := ⟨⟨by decide +kernel, by decide +kernel⟩, List.mem_of_getElem? (i := 1158) (by decide +kernel), List.mem_of_getElem? (i := 1790) (by decide +kernel), List.mem_of_getElem? (i := 1791) (by decide +kernel)⟩
theorem lw_p122 : lw_okq (⟨"MarchFolkModel", "rains", "(II)J"⟩, 49) := ⟨⟨by decide +kernel, by decide +kernel⟩, List.mem_of_getElem? (i := 1158) (by decide +kernel), List.mem_of_getElem? (i := 1798) (by decide +kernel), List.mem_of_getElem? (i := 1799) (by decide +kernel)⟩
theorem lw_p123 : lw_okq (⟨"MarchFolkModel", "told", "(JII)J"⟩, 49) := ⟨⟨by decide +kernel, by decide +kernel⟩, List.mem_of_getElem? (i := 1158) (by decide +kernel), List.mem_of_getElem? (i := 1802) (by decide +kernel), List.mem_of_getElem? (i := 1803) (by decide +kernel)⟩
theorem lw_p124 : lw_okq (⟨"MarchFolkModel", "isSeed", "(I)Z"⟩, 49) := ⟨⟨by decide +kernel, by decide +kernel⟩, List.mem_of_getElem? (i := 1158) (by decide +kernel), List.mem_of_getElem? (i := 1822) (by decide +kernel), List.mem_of_getElem? (i := 1823) (by decide +kernel)⟩
theorem lw_p125 : lw_okq (⟨"MarchFolkModel", "draws", "(J)V"⟩, 49) := ⟨⟨by decide +kernel, by decide +kernel⟩, List.mem_of_getElem? (i := 1158) (by decide +kernel), List.mem_of_getElem? (i := 1827) (by decide +kernel), List.mem_of_getElem? (i := 1828) (by decide +kernel)⟩
theorem lw_p126 : lw_okq (⟨"MarchFolkModel", "acts", "(III)V"⟩, 49) := ⟨⟨by decide +kernel, by decide +kernel⟩, List.mem_of_getElem? (i := 1158) (by decide +kernel), List.mem_of_getElem? (i := 1845) (by decide +kernel), List.mem_of_getElem? (i := 1846) (by decide +kernel)⟩
def lw_privs_8 : List (MethodName × Nat) := [(⟨"MarchFolkModel", "stopsOf", "(I)I"⟩, 49), (⟨"MarchFolkModel", "costOf", "(I)I"⟩, 49), (⟨"MarchFolkModel", "endsOf", "()I"⟩, 49), (⟨"MarchFolkModel", "contentOf", "(I)I"⟩, 49), (⟨"MarchFolkModel", "shutsOf", "(I)I"⟩, 49), (⟨"MarchFolkModel", "whyNotStarts", "(I)I"⟩, 49), (⟨"MarchFolkModel", "startsOf", "(I)I"⟩, 49), (⟨"MarchFolkModel", "shamsOf", "(II)I"⟩, 49), (⟨"MarchFolkModel", "areBeside", "(II)Z"⟩, 49), (⟨"MarchFolkModel", "isRain", "(I)Z"⟩, 49), (⟨"MarchFolkModel", "rains", "(II)J"⟩, 49), (⟨"MarchFolkModel", "told", "(JII)J"⟩, 49), (⟨"MarchFolkModel", "isSeed", "(I)Z"⟩, 49), (⟨"MarchFolkModel", "draws", "(J)V"⟩, 49), (⟨"MarchFolkModel", "acts", "(III)V"⟩, 49)]
theorem lw_r8 : ∀ q ∈ lw_privs_8, lw_okq q := List.forall_mem_cons.mpr ⟨lw_p112, List.forall_mem_cons.mpr ⟨lw_p113, List.forall_mem_cons.mpr ⟨lw_p114, List.forall_mem_cons.mpr ⟨lw_p115, List.forall_mem_cons.mpr ⟨lw_p116, List.forall_mem_cons.mpr ⟨lw_p117, List.forall_mem_cons.mpr ⟨lw_p118, List.forall_mem_cons.mpr ⟨lw_p119, List.forall_mem_cons.mpr ⟨lw_p120, List.forall_mem_cons.mpr ⟨lw_p121, List.forall_mem_cons.mpr ⟨lw_p122, List.forall_mem_cons.mpr ⟨lw_p123, List.forall_mem_cons.mpr ⟨lw_p124, List.forall_mem_cons.mpr ⟨lw_p125, List.forall_mem_cons.mpr ⟨lw_p126, fun _ h => absurd h List.not_mem_nil⟩⟩⟩⟩⟩⟩⟩⟩⟩⟩⟩⟩⟩⟩⟩
def lw_privs : List (MethodName × Nat) := lw_privs_1 ++ (lw_privs_2 ++ (lw_privs_3 ++ (lw_privs_4 ++ (lw_privs_5 ++ (lw_privs_6 ++ (lw_privs_7 ++ (lw_privs_8)))))))
def lw_tbl : List Cond := k2_sels lw_privs ++ tables_1
theorem lw_privs_ok : ∀ q ∈ lw_privs, lw_okq q := by
  show ∀ q ∈ lw_privs_1 ++ (lw_privs_2 ++ (lw_privs_3 ++ (lw_privs_4 ++ (lw_privs_5 ++ (lw_privs_6 ++ (lw_privs_7 ++ (lw_privs_8))))))), lw_okq q
  exact List.forall_mem_append.mpr ⟨lw_r1, List.forall_mem_append.mpr ⟨lw_r2, List.forall_mem_append.mpr ⟨lw_r3, List.forall_mem_append.mpr ⟨lw_r4, List.forall_mem_append.mpr ⟨lw_r5, List.forall_mem_append.mpr ⟨lw_r6, List.forall_mem_append.mpr ⟨lw_r7, lw_r8⟩⟩⟩⟩⟩⟩⟩
-- ===== end of PART A; then your names; then what follows =====
end
section
def RX0 : String := "MarchFolk$Acts"
def TX0 : u_T := fun k => match k with
  | 0 => ("MarchFolk$Acts", "count", "I", false)
  | 1 => ("MarchFolk$Acts", "answered", "I", false)
  | 2 => ("MarchFolk$Acts", "barred", "I", false)
  | 3 => ("MarchFolk$Acts", "answeredAhead", "[I", true)
  | _ => ("MarchFolk$Acts", "barredAhead", "[I", true)
def tyX0 : Nat → FieldType := fun k => match k with
  | 0 => .int
  | 1 => .int
  | 2 => .int
  | 3 => .array .int
  | _ => .array .int
theorem nmX0 : ∀ a, a < 5 → ∀ b, b < 5 → a ≠ b → (TX0 a).2.1 ≠ (TX0 b).2.1 := by decide +kernel
theorem tyX0_ok : ∀ k, k < 5 → parseFieldDescriptor (TX0 k).2.2.1 = some (tyX0 k) := by decide +kernel
abbrev cX0_init : ByteArray := prog_2_method_1_code
def yX0_init : MethodName := ⟨RX0, "<init>", "()V"⟩
abbrev cX0_clear : ByteArray := prog_2_method_2_code
def yX0_clear : MethodName := ⟨RX0, "clear", "()V"⟩
abbrev cX0_keep : ByteArray := prog_2_method_3_code
def yX0_keep : MethodName := ⟨RX0, "keep", "()V"⟩
abbrev cX0_takeBack : ByteArray := prog_2_method_4_code
def yX0_takeBack : MethodName := ⟨RX0, "takeBack", "()V"⟩
abbrev cX0_take : ByteArray := prog_2_method_5_code
def yX0_take : MethodName := ⟨RX0, "take", "(LMarchFolk$Acts;)V"⟩
def RX1 : String := "MarchFolk$Case"
def TX1 : u_T := fun k => match k with
  | 0 => ("MarchFolk$Case", "start", "I", false)
  | 1 => ("MarchFolk$Case", "rule", "I", false)
  | 2 => ("MarchFolk$Case", "answered", "I", false)
  | 3 => ("MarchFolk$Case", "kept", "I", false)
  | 4 => ("MarchFolk$Case", "goal", "I", false)
  | 5 => ("MarchFolk$Case", "last", "I", false)
  | 6 => ("MarchFolk$Case", "rain", "J", false)
  | 7 => ("MarchFolk$Case", "ways", "LMarchFolk$Ways;", false)
  | 8 => ("MarchFolk$Case", "laterWays", "LMarchFolk$Ways;", false)
  | 9 => ("MarchFolk$Case", "laterFrom", "I", false)
  | 10 => ("MarchFolk$Case", "shammer", "I", false)
  | 11 => ("MarchFolk$Case", "shamStep", "I", false)
  | _ => ("MarchFolk$Case", "shamPlace", "I", false)
def tyX1 : Nat → FieldType := fun k => match k with
  | 0 => .int
  | 1 => .int
  | 2 => .int
  | 3 => .int
  | 4 => .int
  | 5 => .int
  | 6 => .long
  | 7 => .object "MarchFolk$Ways"
  | 8 => .object "MarchFolk$Ways"
  | 9 => .int
  | 10 => .int
  | 11 => .int
  | _ => .int
theorem nmX1 : ∀ a, a < 13 → ∀ b, b < 13 → a ≠ b → (TX1 a).2.1 ≠ (TX1 b).2.1 := by decide +kernel
theorem tyX1_ok : ∀ k, k < 13 → parseFieldDescriptor (TX1 k).2.2.1 = some (tyX1 k) := by decide +kernel
abbrev cX1_init : ByteArray := prog_3_method_1_code
def yX1_init : MethodName := ⟨RX1, "<init>", "()V"⟩
abbrev cX1_begin : ByteArray := prog_3_method_2_code
def yX1_begin : MethodName := ⟨RX1, "begin", "(LMarchFolk$Plan;ILMarchFolk$Ways;)V"⟩
abbrev cX1_turnsAt : ByteArray := prog_3_method_3_code
def yX1_turnsAt : MethodName := ⟨RX1, "turnsAt", "(ILMarchFolk$Ways;)V"⟩
abbrev cX1_votesFalsely : ByteArray := prog_3_method_4_code
def yX1_votesFalsely : MethodName := ⟨RX1, "votesFalsely", "(III)V"⟩
abbrev cX1_rainsAt : ByteArray := prog_3_method_5_code
def yX1_rainsAt : MethodName := ⟨RX1, "rainsAt", "(I)Z"⟩
abbrev cX1_waysAt : ByteArray := prog_3_method_6_code
def yX1_waysAt : MethodName := ⟨RX1, "waysAt", "(I)LMarchFolk$Ways;"⟩
abbrev cX1_isSham : ByteArray := prog_3_method_7_code
def yX1_isSham : MethodName := ⟨RX1, "isSham", "(II)Z"⟩
def RX2 : String := "MarchFolk$Image"
def TX2 : u_T := fun k => match k with
  | 0 => ("MarchFolk$Image", "kept", "Z", false)
  | 1 => ("MarchFolk$Image", "plan", "LMarchFolk$Plan;", true)
  | _ => ("MarchFolk$Image", "acts", "LMarchFolk$Acts;", true)
def tyX2 : Nat → FieldType := fun k => match k with
  | 0 => .boolean
  | 1 => .object "MarchFolk$Plan"
  | _ => .object "MarchFolk$Acts"
theorem nmX2 : ∀ a, a < 3 → ∀ b, b < 3 → a ≠ b → (TX2 a).2.1 ≠ (TX2 b).2.1 := by decide +kernel
theorem tyX2_ok : ∀ k, k < 3 → parseFieldDescriptor (TX2 k).2.2.1 = some (tyX2 k) := by decide +kernel
abbrev cX2_init : ByteArray := prog_4_method_1_code
def yX2_init : MethodName := ⟨RX2, "<init>", "()V"⟩
def RX3 : String := "MarchFolk$Plan"
def TX3 : u_T := fun k => match k with
  | 0 => ("MarchFolk$Plan", "lines", "I", false)
  | 1 => ("MarchFolk$Plan", "places", "I", false)
  | 2 => ("MarchFolk$Plan", "start", "I", false)
  | 3 => ("MarchFolk$Plan", "rule", "I", false)
  | 4 => ("MarchFolk$Plan", "odds", "I", false)
  | 5 => ("MarchFolk$Plan", "roads", "I", false)
  | 6 => ("MarchFolk$Plan", "persons", "I", false)
  | 7 => ("MarchFolk$Plan", "road", "[[I", true)
  | 8 => ("MarchFolk$Plan", "person", "[[I", true)
  | _ => ("MarchFolk$Plan", "grant", "[I", true)
def tyX3 : Nat → FieldType := fun k => match k with
  | 0 => .int
  | 1 => .int
  | 2 => .int
  | 3 => .int
  | 4 => .int
  | 5 => .int
  | 6 => .int
  | 7 => .array (.array .int)
  | 8 => .array (.array .int)
  | _ => .array .int
theorem nmX3 : ∀ a, a < 10 → ∀ b, b < 10 → a ≠ b → (TX3 a).2.1 ≠ (TX3 b).2.1 := by decide +kernel
theorem tyX3_ok : ∀ k, k < 10 → parseFieldDescriptor (TX3 k).2.2.1 = some (tyX3 k) := by decide +kernel
abbrev cX3_init : ByteArray := prog_5_method_1_code
def yX3_init : MethodName := ⟨RX3, "<init>", "()V"⟩
abbrev cX3_clear : ByteArray := prog_5_method_2_code
def yX3_clear : MethodName := ⟨RX3, "clear", "()V"⟩
abbrev cX3_take : ByteArray := prog_5_method_3_code
def yX3_take : MethodName := ⟨RX3, "take", "(LMarchFolk$Plan;)V"⟩
abbrev cX3_costOf : ByteArray := prog_5_method_4_code
def yX3_costOf : MethodName := ⟨RX3, "costOf", "(I)I"⟩
abbrev cX3_contentBy : ByteArray := prog_5_method_5_code
def yX3_contentBy : MethodName := ⟨RX3, "contentBy", "(I)I"⟩
def RX4 : String := "MarchFolk$Reader"
def TX4 : u_T := fun k => match k with
  | 0 => ("MarchFolk$Reader", "fault", "I", false)
  | 1 => ("MarchFolk$Reader", "place", "I", false)
  | 2 => ("MarchFolk$Reader", "text", "[B", true)
  | 3 => ("MarchFolk$Reader", "length", "I", false)
  | 4 => ("MarchFolk$Reader", "pos", "I", false)
  | _ => ("MarchFolk$Reader", "numberAt", "I", false)
def tyX4 : Nat → FieldType := fun k => match k with
  | 0 => .int
  | 1 => .int
  | 2 => .array .byte
  | 3 => .int
  | 4 => .int
  | _ => .int
theorem nmX4 : ∀ a, a < 6 → ∀ b, b < 6 → a ≠ b → (TX4 a).2.1 ≠ (TX4 b).2.1 := by decide +kernel
theorem tyX4_ok : ∀ k, k < 6 → parseFieldDescriptor (TX4 k).2.2.1 = some (tyX4 k) := by decide +kernel
abbrev cX4_init : ByteArray := prog_6_method_1_code
def yX4_init : MethodName := ⟨RX4, "<init>", "([B)V"⟩
abbrev cX4_read : ByteArray := prog_6_method_2_code
def yX4_read : MethodName := ⟨RX4, "read", "(ILMarchFolk$Plan;)V"⟩
abbrev cX4_readLine : ByteArray := prog_6_method_3_code
def yX4_readLine : MethodName := ⟨RX4, "readLine", "(LMarchFolk$Plan;)V"⟩
abbrev cX4_readHead : ByteArray := prog_6_method_4_code
def yX4_readHead : MethodName := ⟨RX4, "readHead", "(LMarchFolk$Plan;)V"⟩
abbrev cX4_readRoad : ByteArray := prog_6_method_5_code
def yX4_readRoad : MethodName := ⟨RX4, "readRoad", "(LMarchFolk$Plan;)V"⟩
abbrev cX4_readPerson : ByteArray := prog_6_method_6_code
def yX4_readPerson : MethodName := ⟨RX4, "readPerson", "(LMarchFolk$Plan;)V"⟩
abbrev cX4_readGrant : ByteArray := prog_6_method_7_code
def yX4_readGrant : MethodName := ⟨RX4, "readGrant", "(LMarchFolk$Plan;)V"⟩
abbrev cX4_fail : ByteArray := prog_6_method_8_code
def yX4_fail : MethodName := ⟨RX4, "fail", "(II)V"⟩
abbrev cX4_byteAt : ByteArray := prog_6_method_9_code
def yX4_byteAt : MethodName := ⟨RX4, "byteAt", "(I)I"⟩
abbrev cX4_isLetter : ByteArray := prog_6_method_10_code
def yX4_isLetter : MethodName := ⟨RX4, "isLetter", "(I)Z"⟩
abbrev cX4_isDigit : ByteArray := prog_6_method_11_code
def yX4_isDigit : MethodName := ⟨RX4, "isDigit", "(I)Z"⟩
abbrev cX4_skipBlanks : ByteArray := prog_6_method_12_code
def yX4_skipBlanks : MethodName := ⟨RX4, "skipBlanks", "()V"⟩
abbrev cX4_isWord : ByteArray := prog_6_method_13_code
def yX4_isWord : MethodName := ⟨RX4, "isWord", "(Ljava/lang/String;)Z"⟩
abbrev cX4_takeWord : ByteArray := prog_6_method_14_code
def yX4_takeWord : MethodName := ⟨RX4, "takeWord", "(Ljava/lang/String;)V"⟩
abbrev cX4_takeSign : ByteArray := prog_6_method_15_code
def yX4_takeSign : MethodName := ⟨RX4, "takeSign", "()V"⟩
abbrev cX4_takeNumber : ByteArray := prog_6_method_16_code
def yX4_takeNumber : MethodName := ⟨RX4, "takeNumber", "(II)I"⟩
def RX5 : String := "MarchFolk$Slot"
def TX5 : u_T := fun k => match k with
  | 0 => ("MarchFolk$Slot", "kept", "Z", false)
  | 1 => ("MarchFolk$Slot", "width", "I", false)
  | 2 => ("MarchFolk$Slot", "size", "I", false)
  | _ => ("MarchFolk$Slot", "numbers", "[J", true)
def tyX5 : Nat → FieldType := fun k => match k with
  | 0 => .boolean
  | 1 => .int
  | 2 => .int
  | _ => .array .long
theorem nmX5 : ∀ a, a < 4 → ∀ b, b < 4 → a ≠ b → (TX5 a).2.1 ≠ (TX5 b).2.1 := by decide +kernel
theorem tyX5_ok : ∀ k, k < 4 → parseFieldDescriptor (TX5 k).2.2.1 = some (tyX5 k) := by decide +kernel
abbrev cX5_init : ByteArray := prog_7_method_1_code
def yX5_init : MethodName := ⟨RX5, "<init>", "()V"⟩
abbrev cX5_begin : ByteArray := prog_7_method_2_code
def yX5_begin : MethodName := ⟨RX5, "begin", "(II)V"⟩
abbrev cX5_put : ByteArray := prog_7_method_3_code
def yX5_put : MethodName := ⟨RX5, "put", "(IJ)V"⟩
abbrev cX5_hasFrom : ByteArray := prog_7_method_4_code
def yX5_hasFrom : MethodName := ⟨RX5, "hasFrom", "(II)Z"⟩
def RX6 : String := "MarchFolk$Walk"
def TX6 : u_T := fun k => match k with
  | 0 => ("MarchFolk$Walk", "where", "[I", true)
  | 1 => ("MarchFolk$Walk", "crowd", "[I", true)
  | 2 => ("MarchFolk$Walk", "goes", "[I", true)
  | 3 => ("MarchFolk$Walk", "joined", "[I", true)
  | 4 => ("MarchFolk$Walk", "left", "[I", true)
  | 5 => ("MarchFolk$Walk", "rank", "[I", true)
  | 6 => ("MarchFolk$Walk", "overAt", "I", false)
  | 7 => ("MarchFolk$Walk", "cause", "I", false)
  | 8 => ("MarchFolk$Walk", "seen", "I", false)
  | 9 => ("MarchFolk$Walk", "fallen", "I", false)
  | 10 => ("MarchFolk$Walk", "in", "I", false)
  | 11 => ("MarchFolk$Walk", "fell", "I", false)
  | 12 => ("MarchFolk$Walk", "vote", "[I", true)
  | _ => ("MarchFolk$Walk", "tally", "[I", true)
def tyX6 : Nat → FieldType := fun k => match k with
  | 0 => .array .int
  | 1 => .array .int
  | 2 => .array .int
  | 3 => .array .int
  | 4 => .array .int
  | 5 => .array .int
  | 6 => .int
  | 7 => .int
  | 8 => .int
  | 9 => .int
  | 10 => .int
  | 11 => .int
  | 12 => .array .int
  | _ => .array .int
theorem nmX6 : ∀ a, a < 14 → ∀ b, b < 14 → a ≠ b → (TX6 a).2.1 ≠ (TX6 b).2.1 := by decide +kernel
theorem tyX6_ok : ∀ k, k < 14 → parseFieldDescriptor (TX6 k).2.2.1 = some (tyX6 k) := by decide +kernel
abbrev cX6_init : ByteArray := prog_8_method_1_code
def yX6_init : MethodName := ⟨RX6, "<init>", "()V"⟩
abbrev cX6_go : ByteArray := prog_8_method_2_code
def yX6_go : MethodName := ⟨RX6, "go", "(LMarchFolk$Plan;LMarchFolk$Case;)V"⟩
abbrev cX6_clear : ByteArray := prog_8_method_3_code
def yX6_clear : MethodName := ⟨RX6, "clear", "()V"⟩
abbrev cX6_fallIn : ByteArray := prog_8_method_4_code
def yX6_fallIn : MethodName := ⟨RX6, "fallIn", "(LMarchFolk$Plan;LMarchFolk$Case;II)V"⟩
abbrev cX6_wouldFallIn : ByteArray := prog_8_method_5_code
def yX6_wouldFallIn : MethodName := ⟨RX6, "wouldFallIn", "([IILMarchFolk$Case;I)Z"⟩
abbrev cX6_leaveAt : ByteArray := prog_8_method_6_code
def yX6_leaveAt : MethodName := ⟨RX6, "leaveAt", "(LMarchFolk$Plan;II)V"⟩
abbrev cX6_gatherVotes : ByteArray := prog_8_method_7_code
def yX6_gatherVotes : MethodName := ⟨RX6, "gatherVotes", "(LMarchFolk$Plan;LMarchFolk$Case;II)V"⟩
abbrev cX6_chosen : ByteArray := prog_8_method_8_code
def yX6_chosen : MethodName := ⟨RX6, "chosen", "(LMarchFolk$Plan;I)I"⟩
abbrev cX6_heaviest : ByteArray := prog_8_method_9_code
def yX6_heaviest : MethodName := ⟨RX6, "heaviest", "(LMarchFolk$Plan;Z)I"⟩
abbrev cX6_voteByRank : ByteArray := prog_8_method_10_code
def yX6_voteByRank : MethodName := ⟨RX6, "voteByRank", "(LMarchFolk$Plan;Z)I"⟩
abbrev cX6_firstAt : ByteArray := prog_8_method_11_code
def yX6_firstAt : MethodName := ⟨RX6, "firstAt", "(II)I"⟩
def RX7 : String := "MarchFolk$Ways"
def TX7 : u_T := fun k => match k with
  | 0 => ("MarchFolk$Ways", "places", "I", false)
  | 1 => ("MarchFolk$Ways", "beside", "[[I", true)
  | 2 => ("MarchFolk$Ways", "length", "[[I", true)
  | _ => ("MarchFolk$Ways", "first", "[[I", true)
def tyX7 : Nat → FieldType := fun k => match k with
  | 0 => .int
  | 1 => .array (.array .int)
  | 2 => .array (.array .int)
  | _ => .array (.array .int)
theorem nmX7 : ∀ a, a < 4 → ∀ b, b < 4 → a ≠ b → (TX7 a).2.1 ≠ (TX7 b).2.1 := by decide +kernel
theorem tyX7_ok : ∀ k, k < 4 → parseFieldDescriptor (TX7 k).2.2.1 = some (tyX7 k) := by decide +kernel
abbrev cX7_init : ByteArray := prog_9_method_1_code
def yX7_init : MethodName := ⟨RX7, "<init>", "()V"⟩
abbrev cX7_measure : ByteArray := prog_9_method_2_code
def yX7_measure : MethodName := ⟨RX7, "measure", "(LMarchFolk$Plan;I)V"⟩
abbrev cX7_join : ByteArray := prog_9_method_3_code
def yX7_join : MethodName := ⟨RX7, "join", "([I)V"⟩
abbrev cX7_findLengths : ByteArray := prog_9_method_4_code
def yX7_findLengths : MethodName := ⟨RX7, "findLengths", "()V"⟩
abbrev cX7_findFirsts : ByteArray := prog_9_method_5_code
def yX7_findFirsts : MethodName := ⟨RX7, "findFirsts", "()V"⟩
abbrev cX7_findFirst : ByteArray := prog_9_method_6_code
def yX7_findFirst : MethodName := ⟨RX7, "findFirst", "(II)I"⟩
abbrev cX7_has : ByteArray := prog_9_method_7_code
def yX7_has : MethodName := ⟨RX7, "has", "(II)Z"⟩
abbrev cX7_lengthOf : ByteArray := prog_9_method_8_code
def yX7_lengthOf : MethodName := ⟨RX7, "lengthOf", "(II)I"⟩
abbrev cX7_nextOf : ByteArray := prog_9_method_9_code
def yX7_nextOf : MethodName := ⟨RX7, "nextOf", "(II)I"⟩
abbrev cX7_areBeside : ByteArray := prog_9_method_10_code
def yX7_areBeside : MethodName := ⟨RX7, "areBeside", "(II)Z"⟩
abbrev cX7_besideBy : ByteArray := prog_9_method_11_code
def yX7_besideBy : MethodName := ⟨RX7, "besideBy", "(II)I"⟩
def RX8 : String := "MarchFolk"
def TX8 : u_T := fun k => match k with
  | 0 => ("MarchFolk", "tape", "[B", true)
  | 1 => ("MarchFolk", "fed", "I", false)
  | 2 => ("MarchFolk", "reader", "LMarchFolk$Reader;", true)
  | 3 => ("MarchFolk", "draft", "LMarchFolk$Plan;", true)
  | 4 => ("MarchFolk", "plan", "LMarchFolk$Plan;", true)
  | 5 => ("MarchFolk", "acts", "LMarchFolk$Acts;", true)
  | 6 => ("MarchFolk", "images", "[LMarchFolk$Image;", true)
  | 7 => ("MarchFolk", "slots", "[LMarchFolk$Slot;", true)
  | 8 => ("MarchFolk", "told", "Z", false)
  | 9 => ("MarchFolk", "ways", "LMarchFolk$Ways;", true)
  | 10 => ("MarchFolk", "walk", "LMarchFolk$Walk;", true)
  | 11 => ("MarchFolk", "trial", "LMarchFolk$Case;", true)
  | 12 => ("MarchFolk", "otherWays", "LMarchFolk$Ways;", true)
  | 13 => ("MarchFolk", "would", "LMarchFolk$Walk;", true)
  | _ => ("MarchFolk", "fallsIn", "[[I", true)
def tyX8 : Nat → FieldType := fun k => match k with
  | 0 => .array .byte
  | 1 => .int
  | 2 => .object "MarchFolk$Reader"
  | 3 => .object "MarchFolk$Plan"
  | 4 => .object "MarchFolk$Plan"
  | 5 => .object "MarchFolk$Acts"
  | 6 => .array (.object "MarchFolk$Image")
  | 7 => .array (.object "MarchFolk$Slot")
  | 8 => .boolean
  | 9 => .object "MarchFolk$Ways"
  | 10 => .object "MarchFolk$Walk"
  | 11 => .object "MarchFolk$Case"
  | 12 => .object "MarchFolk$Ways"
  | 13 => .object "MarchFolk$Walk"
  | _ => .array (.array .int)
theorem nmX8 : ∀ a, a < 15 → ∀ b, b < 15 → a ≠ b → (TX8 a).2.1 ≠ (TX8 b).2.1 := by decide +kernel
theorem tyX8_ok : ∀ k, k < 15 → parseFieldDescriptor (TX8 k).2.2.1 = some (tyX8 k) := by decide +kernel
abbrev cX8_init : ByteArray := prog_1_method_1_code
def yX8_init : MethodName := ⟨RX8, "<init>", "()V"⟩
abbrev cX8_feed : ByteArray := prog_1_method_2_code
def yX8_feed : MethodName := ⟨RX8, "feed", "(IIIII)I"⟩
abbrev cX8_putFour : ByteArray := prog_1_method_3_code
def yX8_putFour : MethodName := ⟨RX8, "putFour", "(I)V"⟩
abbrev cX8_end : ByteArray := prog_1_method_4_code
def yX8_end : MethodName := ⟨RX8, "end", "(I)I"⟩
abbrev cX8_march : ByteArray := prog_1_method_5_code
def yX8_march : MethodName := ⟨RX8, "march", "()I"⟩
abbrev cX8_fault : ByteArray := prog_1_method_6_code
def yX8_fault : MethodName := ⟨RX8, "fault", "(I)I"⟩
abbrev cX8_isMarch : ByteArray := prog_1_method_7_code
def yX8_isMarch : MethodName := ⟨RX8, "isMarch", "()Z"⟩
abbrev cX8_isPlace : ByteArray := prog_1_method_8_code
def yX8_isPlace : MethodName := ⟨RX8, "isPlace", "(I)Z"⟩
abbrev cX8_isRoad : ByteArray := prog_1_method_9_code
def yX8_isRoad : MethodName := ⟨RX8, "isRoad", "(I)Z"⟩
abbrev cX8_isPerson : ByteArray := prog_1_method_10_code
def yX8_isPerson : MethodName := ⟨RX8, "isPerson", "(I)Z"⟩
abbrev cX8_isStep : ByteArray := prog_1_method_11_code
def yX8_isStep : MethodName := ⟨RX8, "isStep", "(I)Z"⟩
abbrev cX8_isRainyStep : ByteArray := prog_1_method_12_code
def yX8_isRainyStep : MethodName := ⟨RX8, "isRainyStep", "(I)Z"⟩
abbrev cX8_isSlot : ByteArray := prog_1_method_13_code
def yX8_isSlot : MethodName := ⟨RX8, "isSlot", "(I)Z"⟩
abbrev cX8_isPartOfFraction : ByteArray := prog_1_method_14_code
def yX8_isPartOfFraction : MethodName := ⟨RX8, "isPartOfFraction", "(I)Z"⟩
abbrev cX8_holds : ByteArray := prog_1_method_15_code
def yX8_holds : MethodName := ⟨RX8, "holds", "(II)Z"⟩
abbrev cX8_road : ByteArray := prog_1_method_16_code
def yX8_road : MethodName := ⟨RX8, "road", "(II)I"⟩
abbrev cX8_person : ByteArray := prog_1_method_17_code
def yX8_person : MethodName := ⟨RX8, "person", "(II)I"⟩
abbrev cX8_count : ByteArray := prog_1_method_18_code
def yX8_count : MethodName := ⟨RX8, "count", "(I)I"⟩
abbrev cX8_rowsKept : ByteArray := prog_1_method_19_code
def yX8_rowsKept : MethodName := ⟨RX8, "rowsKept", "()I"⟩
abbrev cX8_crew : ByteArray := prog_1_method_20_code
def yX8_crew : MethodName := ⟨RX8, "crew", "(I)I"⟩
abbrev cX8_way : ByteArray := prog_1_method_21_code
def yX8_way : MethodName := ⟨RX8, "way", "(II)I"⟩
abbrev cX8_next : ByteArray := prog_1_method_22_code
def yX8_next : MethodName := ⟨RX8, "next", "(II)I"⟩
abbrev cX8_reach : ByteArray := prog_1_method_23_code
def yX8_reach : MethodName := ⟨RX8, "reach", "(I)I"⟩
abbrev cX8_cut : ByteArray := prog_1_method_24_code
def yX8_cut : MethodName := ⟨RX8, "cut", "(II)I"⟩
abbrev cX8_roadsAcross : ByteArray := prog_1_method_25_code
def yX8_roadsAcross : MethodName := ⟨RX8, "roadsAcross", "(I)I"⟩
abbrev cX8_tell : ByteArray := prog_1_method_26_code
def yX8_tell : MethodName := ⟨RX8, "tell", "()V"⟩
abbrev cX8_asItIs : ByteArray := prog_1_method_27_code
def yX8_asItIs : MethodName := ⟨RX8, "asItIs", "()V"⟩
abbrev cX8_at : ByteArray := prog_1_method_28_code
def yX8_at : MethodName := ⟨RX8, "at", "(I)I"⟩
abbrev cX8_crowd : ByteArray := prog_1_method_29_code
def yX8_crowd : MethodName := ⟨RX8, "crowd", "(I)I"⟩
abbrev cX8_isIn : ByteArray := prog_1_method_30_code
def yX8_isIn : MethodName := ⟨RX8, "isIn", "(II)Z"⟩
abbrev cX8_voteOf : ByteArray := prog_1_method_31_code
def yX8_voteOf : MethodName := ⟨RX8, "voteOf", "(II)I"⟩
abbrev cX8_votesFor : ByteArray := prog_1_method_32_code
def yX8_votesFor : MethodName := ⟨RX8, "votesFor", "(II)I"⟩
abbrev cX8_votes : ByteArray := prog_1_method_33_code
def yX8_votes : MethodName := ⟨RX8, "votes", "(II)I"⟩
abbrev cX8_joins : ByteArray := prog_1_method_34_code
def yX8_joins : MethodName := ⟨RX8, "joins", "(I)I"⟩
abbrev cX8_leaves : ByteArray := prog_1_method_35_code
def yX8_leaves : MethodName := ⟨RX8, "leaves", "(I)I"⟩
abbrev cX8_over : ByteArray := prog_1_method_36_code
def yX8_over : MethodName := ⟨RX8, "over", "()I"⟩
abbrev cX8_why : ByteArray := prog_1_method_37_code
def yX8_why : MethodName := ⟨RX8, "why", "()I"⟩
abbrev cX8_comes : ByteArray := prog_1_method_38_code
def yX8_comes : MethodName := ⟨RX8, "comes", "(I)I"⟩
abbrev cX8_often : ByteArray := prog_1_method_39_code
def yX8_often : MethodName := ⟨RX8, "often", "(I)I"⟩
abbrev cX8_paces : ByteArray := prog_1_method_40_code
def yX8_paces : MethodName := ⟨RX8, "paces", "(I)I"⟩
abbrev cX8_goneBetween : ByteArray := prog_1_method_41_code
def yX8_goneBetween : MethodName := ⟨RX8, "goneBetween", "(II)I"⟩
abbrev cX8_most : ByteArray := prog_1_method_42_code
def yX8_most : MethodName := ⟨RX8, "most", "()I"⟩
abbrev cX8_peak : ByteArray := prog_1_method_43_code
def yX8_peak : MethodName := ⟨RX8, "peak", "()I"⟩
abbrev cX8_fullestStep : ByteArray := prog_1_method_44_code
def yX8_fullestStep : MethodName := ⟨RX8, "fullestStep", "()I"⟩
abbrev cX8_boards : ByteArray := prog_1_method_45_code
def yX8_boards : MethodName := ⟨RX8, "boards", "(I)I"⟩
abbrev cX8_cause : ByteArray := prog_1_method_46_code
def yX8_cause : MethodName := ⟨RX8, "cause", "(I)I"⟩
abbrev cX8_inItWith : ByteArray := prog_1_method_47_code
def yX8_inItWith : MethodName := ⟨RX8, "inItWith", "(II)I"⟩
abbrev cX8_weighs : ByteArray := prog_1_method_48_code
def yX8_weighs : MethodName := ⟨RX8, "weighs", "(I)I"⟩
abbrev cX8_splits : ByteArray := prog_1_method_49_code
def yX8_splits : MethodName := ⟨RX8, "splits", "(I)I"⟩
abbrev cX8_carries : ByteArray := prog_1_method_50_code
def yX8_carries : MethodName := ⟨RX8, "carries", "(I)I"⟩
abbrev cX8_turned : ByteArray := prog_1_method_51_code
def yX8_turned : MethodName := ⟨RX8, "turned", "(I)I"⟩
abbrev cX8_parties : ByteArray := prog_1_method_52_code
def yX8_parties : MethodName := ⟨RX8, "parties", "(I)I"⟩
abbrev cX8_eldest : ByteArray := prog_1_method_53_code
def yX8_eldest : MethodName := ⟨RX8, "eldest", "(I)I"⟩
abbrev cX8_together : ByteArray := prog_1_method_54_code
def yX8_together : MethodName := ⟨RX8, "together", "(II)I"⟩
abbrev cX8_walks : ByteArray := prog_1_method_55_code
def yX8_walks : MethodName := ⟨RX8, "walks", "(I)I"⟩
abbrev cX8_loop : ByteArray := prog_1_method_56_code
def yX8_loop : MethodName := ⟨RX8, "loop", "()I"⟩
abbrev cX8_lastFall : ByteArray := prog_1_method_57_code
def yX8_lastFall : MethodName := ⟨RX8, "lastFall", "()I"⟩
abbrev cX8_farthest : ByteArray := prog_1_method_58_code
def yX8_farthest : MethodName := ⟨RX8, "farthest", "()I"⟩
abbrev cX8_waits : ByteArray := prog_1_method_59_code
def yX8_waits : MethodName := ⟨RX8, "waits", "(I)I"⟩
abbrev cX8_missed : ByteArray := prog_1_method_60_code
def yX8_missed : MethodName := ⟨RX8, "missed", "()I"⟩
abbrev cX8_needed : ByteArray := prog_1_method_61_code
def yX8_needed : MethodName := ⟨RX8, "needed", "(I)I"⟩
abbrev cX8_fallsInWithout : ByteArray := prog_1_method_62_code
def yX8_fallsInWithout : MethodName := ⟨RX8, "fallsInWithout", "(II)Z"⟩
abbrev cX8_trap : ByteArray := prog_1_method_63_code
def yX8_trap : MethodName := ⟨RX8, "trap", "(II)I"⟩
abbrev cX8_comesAnswered : ByteArray := prog_1_method_64_code
def yX8_comesAnswered : MethodName := ⟨RX8, "comesAnswered", "(II)Z"⟩
abbrev cX8_stop : ByteArray := prog_1_method_65_code
def yX8_stop : MethodName := ⟨RX8, "stop", "(I)I"⟩
abbrev cX8_stops : ByteArray := prog_1_method_66_code
def yX8_stops : MethodName := ⟨RX8, "stops", "(I)I"⟩
abbrev cX8_stoppingSet : ByteArray := prog_1_method_67_code
def yX8_stoppingSet : MethodName := ⟨RX8, "stoppingSet", "(I)I"⟩
abbrev cX8_overAnswered : ByteArray := prog_1_method_68_code
def yX8_overAnswered : MethodName := ⟨RX8, "overAnswered", "(I)I"⟩
abbrev cX8_soonest : ByteArray := prog_1_method_69_code
def yX8_soonest : MethodName := ⟨RX8, "soonest", "()I"⟩
abbrev cX8_ends : ByteArray := prog_1_method_70_code
def yX8_ends : MethodName := ⟨RX8, "ends", "()I"⟩
abbrev cX8_endingSet : ByteArray := prog_1_method_71_code
def yX8_endingSet : MethodName := ⟨RX8, "endingSet", "()I"⟩
abbrev cX8_content : ByteArray := prog_1_method_72_code
def yX8_content : MethodName := ⟨RX8, "content", "(I)I"⟩
abbrev cX8_buys : ByteArray := prog_1_method_73_code
def yX8_buys : MethodName := ⟨RX8, "buys", "(I)I"⟩
abbrev cX8_shut : ByteArray := prog_1_method_74_code
def yX8_shut : MethodName := ⟨RX8, "shut", "(I)I"⟩
abbrev cX8_shuts : ByteArray := prog_1_method_75_code
def yX8_shuts : MethodName := ⟨RX8, "shuts", "(I)I"⟩
abbrev cX8_shuttingSet : ByteArray := prog_1_method_76_code
def yX8_shuttingSet : MethodName := ⟨RX8, "shuttingSet", "(I)I"⟩
abbrev cX8_comesBarred : ByteArray := prog_1_method_77_code
def yX8_comesBarred : MethodName := ⟨RX8, "comesBarred", "(II)Z"⟩
abbrev cX8_lacksRow : ByteArray := prog_1_method_78_code
def yX8_lacksRow : MethodName := ⟨RX8, "lacksRow", "(I)I"⟩
abbrev cX8_tellsFalls : ByteArray := prog_1_method_79_code
def yX8_tellsFalls : MethodName := ⟨RX8, "tellsFalls", "(LMarchFolk$Slot;)Z"⟩
abbrev cX8_tellsPlaces : ByteArray := prog_1_method_80_code
def yX8_tellsPlaces : MethodName := ⟨RX8, "tellsPlaces", "(LMarchFolk$Slot;)Z"⟩
abbrev cX8_starts : ByteArray := prog_1_method_81_code
def yX8_starts : MethodName := ⟨RX8, "starts", "(I)I"⟩
abbrev cX8_ask : ByteArray := prog_1_method_82_code
def yX8_ask : MethodName := ⟨RX8, "ask", "(I)I"⟩
abbrev cX8_startsBy : ByteArray := prog_1_method_83_code
def yX8_startsBy : MethodName := ⟨RX8, "startsBy", "(LMarchFolk$Slot;)I"⟩
abbrev cX8_agreesOnFalls : ByteArray := prog_1_method_84_code
def yX8_agreesOnFalls : MethodName := ⟨RX8, "agreesOnFalls", "(LMarchFolk$Slot;)Z"⟩
abbrev cX8_bestAsked : ByteArray := prog_1_method_85_code
def yX8_bestAsked : MethodName := ⟨RX8, "bestAsked", "(I)I"⟩
abbrev cX8_leftAtWorst : ByteArray := prog_1_method_86_code
def yX8_leftAtWorst : MethodName := ⟨RX8, "leftAtWorst", "(II)I"⟩
abbrev cX8_likeStarts : ByteArray := prog_1_method_87_code
def yX8_likeStarts : MethodName := ⟨RX8, "likeStarts", "(III)I"⟩
abbrev cX8_rules : ByteArray := prog_1_method_88_code
def yX8_rules : MethodName := ⟨RX8, "rules", "(I)I"⟩
abbrev cX8_rulesBy : ByteArray := prog_1_method_89_code
def yX8_rulesBy : MethodName := ⟨RX8, "rulesBy", "(LMarchFolk$Slot;)I"⟩
abbrev cX8_agreesOnPlaces : ByteArray := prog_1_method_90_code
def yX8_agreesOnPlaces : MethodName := ⟨RX8, "agreesOnPlaces", "(LMarchFolk$Slot;)Z"⟩
abbrev cX8_shams : ByteArray := prog_1_method_91_code
def yX8_shams : MethodName := ⟨RX8, "shams", "(II)I"⟩
abbrev cX8_shammers : ByteArray := prog_1_method_92_code
def yX8_shammers : MethodName := ⟨RX8, "shammers", "(I)I"⟩
abbrev cX8_shamsOf : ByteArray := prog_1_method_93_code
def yX8_shamsOf : MethodName := ⟨RX8, "shamsOf", "(II)I"⟩
abbrev cX8_shamHelps : ByteArray := prog_1_method_94_code
def yX8_shamHelps : MethodName := ⟨RX8, "shamHelps", "(III)Z"⟩
abbrev cX8_chance : ByteArray := prog_1_method_95_code
def yX8_chance : MethodName := ⟨RX8, "chance", "(III)J"⟩
abbrev cX8_mean : ByteArray := prog_1_method_96_code
def yX8_mean : MethodName := ⟨RX8, "mean", "(II)J"⟩
abbrev cX8_goInRain : ByteArray := prog_1_method_97_code
def yX8_goInRain : MethodName := ⟨RX8, "goInRain", "(JI)V"⟩
abbrev cX8_weightOf : ByteArray := prog_1_method_98_code
def yX8_weightOf : MethodName := ⟨RX8, "weightOf", "(II)J"⟩
abbrev cX8_tens : ByteArray := prog_1_method_99_code
def yX8_tens : MethodName := ⟨RX8, "tens", "(I)J"⟩
abbrev cX8_partOf : ByteArray := prog_1_method_100_code
def yX8_partOf : MethodName := ⟨RX8, "partOf", "(JJI)J"⟩
abbrev cX8_commonDivisor : ByteArray := prog_1_method_101_code
def yX8_commonDivisor : MethodName := ⟨RX8, "commonDivisor", "(JJ)J"⟩
abbrev cX8_drawn : ByteArray := prog_1_method_102_code
def yX8_drawn : MethodName := ⟨RX8, "drawn", "(II)I"⟩
abbrev cX8_luck : ByteArray := prog_1_method_103_code
def yX8_luck : MethodName := ⟨RX8, "luck", "(III)I"⟩
abbrev cX8_rainFrom : ByteArray := prog_1_method_104_code
def yX8_rainFrom : MethodName := ⟨RX8, "rainFrom", "(J)J"⟩
abbrev cX8_answer : ByteArray := prog_1_method_105_code
def yX8_answer : MethodName := ⟨RX8, "answer", "(II)I"⟩
abbrev cX8_bar : ByteArray := prog_1_method_106_code
def yX8_bar : MethodName := ⟨RX8, "bar", "(II)I"⟩
abbrev cX8_answered : ByteArray := prog_1_method_107_code
def yX8_answered : MethodName := ⟨RX8, "answered", "()I"⟩
abbrev cX8_barred : ByteArray := prog_1_method_108_code
def yX8_barred : MethodName := ⟨RX8, "barred", "()I"⟩
abbrev cX8_costs : ByteArray := prog_1_method_109_code
def yX8_costs : MethodName := ⟨RX8, "costs", "()I"⟩
abbrev cX8_undo : ByteArray := prog_1_method_110_code
def yX8_undo : MethodName := ⟨RX8, "undo", "()I"⟩
abbrev cX8_anew : ByteArray := prog_1_method_111_code
def yX8_anew : MethodName := ⟨RX8, "anew", "()I"⟩
abbrev cX8_need : ByteArray := prog_1_method_112_code
def yX8_need : MethodName := ⟨RX8, "need", "(II)I"⟩
abbrev cX8_image : ByteArray := prog_1_method_113_code
def yX8_image : MethodName := ⟨RX8, "image", "(I)I"⟩
abbrev cX8_back : ByteArray := prog_1_method_114_code
def yX8_back : MethodName := ⟨RX8, "back", "(I)I"⟩
abbrev cX8_row : ByteArray := prog_1_method_115_code
def yX8_row : MethodName := ⟨RX8, "row", "(III)I"⟩
abbrev cX8_write : ByteArray := prog_1_method_116_code
def yX8_write : MethodName := ⟨RX8, "write", "(IIJ)I"⟩
abbrev cX8_paste : ByteArray := prog_1_method_117_code
def yX8_paste : MethodName := ⟨RX8, "paste", "(IIIII)I"⟩
def RX9 : String := "MarchFolkModel"
def TX9 : u_T := fun k => match k with
  | 0 => ("MarchFolkModel", "thrown", "I", false)
  | 1 => ("MarchFolkModel", "width", "[I", true)
  | 2 => ("MarchFolkModel", "many", "[I", true)
  | 3 => ("MarchFolkModel", "cells", "[J", true)
  | 4 => ("MarchFolkModel", "moved", "[J", true)
  | 5 => ("MarchFolkModel", "tape", "[B", true)
  | 6 => ("MarchFolkModel", "taped", "I", false)
  | 7 => ("MarchFolkModel", "spot", "I", false)
  | 8 => ("MarchFolkModel", "token", "I", false)
  | 9 => ("MarchFolkModel", "place", "I", false)
  | 10 => ("MarchFolkModel", "value", "I", false)
  | 11 => ("MarchFolkModel", "word", "J", false)
  | 12 => ("MarchFolkModel", "bad", "I", false)
  | 13 => ("MarchFolkModel", "badPlace", "I", false)
  | 14 => ("MarchFolkModel", "fault", "I", false)
  | 15 => ("MarchFolkModel", "faultPlace", "I", false)
  | 16 => ("MarchFolkModel", "lines", "[I", true)
  | 17 => ("MarchFolkModel", "has", "[I", true)
  | 18 => ("MarchFolkModel", "road", "[I", true)
  | 19 => ("MarchFolkModel", "person", "[I", true)
  | 20 => ("MarchFolkModel", "grant", "[I", true)
  | 21 => ("MarchFolkModel", "act", "[I", true)
  | 22 => ("MarchFolkModel", "isKept", "[Z", true)
  | 23 => ("MarchFolkModel", "answered", "I", false)
  | 24 => ("MarchFolkModel", "shut", "I", false)
  | 25 => ("MarchFolkModel", "start", "I", false)
  | 26 => ("MarchFolkModel", "rule", "I", false)
  | 27 => ("MarchFolkModel", "shamStep", "I", false)
  | 28 => ("MarchFolkModel", "shamWho", "I", false)
  | 29 => ("MarchFolkModel", "shamTo", "I", false)
  | 30 => ("MarchFolkModel", "absent", "I", false)
  | 31 => ("MarchFolkModel", "trapStep", "I", false)
  | 32 => ("MarchFolkModel", "trapRoad", "I", false)
  | 33 => ("MarchFolkModel", "rain", "J", false)
  | 34 => ("MarchFolkModel", "ways", "[I", true)
  | 35 => ("MarchFolkModel", "at", "[I", true)
  | 36 => ("MarchFolkModel", "crowd", "[I", true)
  | 37 => ("MarchFolkModel", "goes", "[I", true)
  | 38 => ("MarchFolkModel", "vote", "[I", true)
  | 39 => ("MarchFolkModel", "fell", "[I", true)
  | 40 => ("MarchFolkModel", "left", "[I", true)
  | 41 => ("MarchFolkModel", "order", "[I", true)
  | 42 => ("MarchFolkModel", "in0", "I", false)
  | 43 => ("MarchFolkModel", "ever", "I", false)
  | 44 => ("MarchFolkModel", "fallen", "I", false)
  | 45 => ("MarchFolkModel", "over", "I", false)
  | 46 => ("MarchFolkModel", "why", "I", false)
  | 47 => ("MarchFolkModel", "soonestOver", "I", false)
  | _ => ("MarchFolkModel", "often", "[I", true)
def tyX9 : Nat → FieldType := fun k => match k with
  | 0 => .int
  | 1 => .array .int
  | 2 => .array .int
  | 3 => .array .long
  | 4 => .array .long
  | 5 => .array .byte
  | 6 => .int
  | 7 => .int
  | 8 => .int
  | 9 => .int
  | 10 => .int
  | 11 => .long
  | 12 => .int
  | 13 => .int
  | 14 => .int
  | 15 => .int
  | 16 => .array .int
  | 17 => .array .int
  | 18 => .array .int
  | 19 => .array .int
  | 20 => .array .int
  | 21 => .array .int
  | 22 => .array .boolean
  | 23 => .int
  | 24 => .int
  | 25 => .int
  | 26 => .int
  | 27 => .int
  | 28 => .int
  | 29 => .int
  | 30 => .int
  | 31 => .int
  | 32 => .int
  | 33 => .long
  | 34 => .array .int
  | 35 => .array .int
  | 36 => .array .int
  | 37 => .array .int
  | 38 => .array .int
  | 39 => .array .int
  | 40 => .array .int
  | 41 => .array .int
  | 42 => .int
  | 43 => .int
  | 44 => .int
  | 45 => .int
  | 46 => .int
  | 47 => .int
  | _ => .array .int
theorem nmX9 : ∀ a, a < 49 → ∀ b, b < 49 → a ≠ b → (TX9 a).2.1 ≠ (TX9 b).2.1 := by decide +kernel
theorem tyX9_ok : ∀ k, k < 49 → parseFieldDescriptor (TX9 k).2.2.1 = some (tyX9 k) := by decide +kernel
abbrev cX9_init : ByteArray := prog_11_method_1_code
def yX9_init : MethodName := ⟨RX9, "<init>", "()V"⟩
abbrev cX9_in : ByteArray := prog_11_method_3_code
def yX9_in : MethodName := ⟨RX9, "in", "(JJJ)Z"⟩
abbrev cX9_isSlot : ByteArray := prog_11_method_4_code
def yX9_isSlot : MethodName := ⟨RX9, "isSlot", "(I)Z"⟩
abbrev cX9_row : ByteArray := prog_11_method_5_code
def yX9_row : MethodName := ⟨RX9, "row", "(III)I"⟩
abbrev cX9_cut : ByteArray := prog_11_method_6_code
def yX9_cut : MethodName := ⟨RX9, "cut", "(JI)J"⟩
abbrev cX9_write : ByteArray := prog_11_method_7_code
def yX9_write : MethodName := ⟨RX9, "write", "(IIJ)I"⟩
abbrev cX9_paste : ByteArray := prog_11_method_8_code
def yX9_paste : MethodName := ⟨RX9, "paste", "(IIIII)I"⟩
abbrev cX9_feed : ByteArray := prog_11_method_9_code
def yX9_feed : MethodName := ⟨RX9, "feed", "(IIIII)I"⟩
abbrev cX9_four : ByteArray := prog_11_method_10_code
def yX9_four : MethodName := ⟨RX9, "four", "(I)V"⟩
abbrev cX9_end : ByteArray := prog_11_method_11_code
def yX9_end : MethodName := ⟨RX9, "end", "(I)I"⟩
abbrev cX9_isByte : ByteArray := prog_11_method_12_code
def yX9_isByte : MethodName := ⟨RX9, "isByte", "(III)Z"⟩
abbrev cX9_goesOn : ByteArray := prog_11_method_13_code
def yX9_goesOn : MethodName := ⟨RX9, "goesOn", "()V"⟩
abbrev cX9_isGood : ByteArray := prog_11_method_14_code
def yX9_isGood : MethodName := ⟨RX9, "isGood", "()Z"⟩
abbrev cX9_fails : ByteArray := prog_11_method_15_code
def yX9_fails : MethodName := ⟨RX9, "fails", "(I)V"⟩
abbrev cX9_is : ByteArray := prog_11_method_16_code
def yX9_is : MethodName := ⟨RX9, "is", "(J)Z"⟩
abbrev cX9_takes : ByteArray := prog_11_method_17_code
def yX9_takes : MethodName := ⟨RX9, "takes", "(J)Z"⟩
abbrev cX9_asks : ByteArray := prog_11_method_18_code
def yX9_asks : MethodName := ⟨RX9, "asks", "(J)V"⟩
abbrev cX9_number : ByteArray := prog_11_method_19_code
def yX9_number : MethodName := ⟨RX9, "number", "(II)I"⟩
abbrev cX9_number_ : ByteArray := prog_11_method_20_code
def yX9_number_ : MethodName := ⟨RX9, "number", "(JII)I"⟩
abbrev cX9_lineEnds : ByteArray := prog_11_method_21_code
def yX9_lineEnds : MethodName := ⟨RX9, "lineEnds", "()V"⟩
abbrev cX9_begins : ByteArray := prog_11_method_22_code
def yX9_begins : MethodName := ⟨RX9, "begins", "()V"⟩
abbrev cX9_isOver : ByteArray := prog_11_method_23_code
def yX9_isOver : MethodName := ⟨RX9, "isOver", "()V"⟩
abbrev cX9_fault : ByteArray := prog_11_method_24_code
def yX9_fault : MethodName := ⟨RX9, "fault", "(I)I"⟩
abbrev cX9_hasRead : ByteArray := prog_11_method_25_code
def yX9_hasRead : MethodName := ⟨RX9, "hasRead", "(I)I"⟩
abbrev cX9_tells : ByteArray := prog_11_method_26_code
def yX9_tells : MethodName := ⟨RX9, "tells", "(II)V"⟩
abbrev cX9_placeHere : ByteArray := prog_11_method_27_code
def yX9_placeHere : MethodName := ⟨RX9, "placeHere", "()I"⟩
abbrev cX9_roadLine : ByteArray := prog_11_method_28_code
def yX9_roadLine : MethodName := ⟨RX9, "roadLine", "()V"⟩
abbrev cX9_personLine : ByteArray := prog_11_method_29_code
def yX9_personLine : MethodName := ⟨RX9, "personLine", "()V"⟩
abbrev cX9_isRoom : ByteArray := prog_11_method_30_code
def yX9_isRoom : MethodName := ⟨RX9, "isRoom", "(ZII)Z"⟩
abbrev cX9_line : ByteArray := prog_11_method_31_code
def yX9_line : MethodName := ⟨RX9, "line", "()V"⟩
abbrev cX9_clears : ByteArray := prog_11_method_32_code
def yX9_clears : MethodName := ⟨RX9, "clears", "()V"⟩
abbrev cX9_marchLine : ByteArray := prog_11_method_33_code
def yX9_marchLine : MethodName := ⟨RX9, "marchLine", "()V"⟩
abbrev cX9_march : ByteArray := prog_11_method_34_code
def yX9_march : MethodName := ⟨RX9, "march", "()I"⟩
abbrev cX9_copyRow : ByteArray := prog_11_method_35_code
def yX9_copyRow : MethodName := ⟨RX9, "copyRow", "([IIII)V"⟩
abbrev cX9_copyMarch : ByteArray := prog_11_method_36_code
def yX9_copyMarch : MethodName := ⟨RX9, "copyMarch", "(II)V"⟩
abbrev cX9_isMarch : ByteArray := prog_11_method_37_code
def yX9_isMarch : MethodName := ⟨RX9, "isMarch", "()Z"⟩
abbrev cX9_people : ByteArray := prog_11_method_38_code
def yX9_people : MethodName := ⟨RX9, "people", "()I"⟩
abbrev cX9_isPlace : ByteArray := prog_11_method_39_code
def yX9_isPlace : MethodName := ⟨RX9, "isPlace", "(J)Z"⟩
abbrev cX9_isPerson : ByteArray := prog_11_method_40_code
def yX9_isPerson : MethodName := ⟨RX9, "isPerson", "(J)Z"⟩
abbrev cX9_isStep : ByteArray := prog_11_method_41_code
def yX9_isStep : MethodName := ⟨RX9, "isStep", "(I)Z"⟩
abbrev cX9_isHalf : ByteArray := prog_11_method_42_code
def yX9_isHalf : MethodName := ⟨RX9, "isHalf", "(I)Z"⟩
abbrev cX9_isBit : ByteArray := prog_11_method_43_code
def yX9_isBit : MethodName := ⟨RX9, "isBit", "(II)Z"⟩
abbrev cX9_sizeOf : ByteArray := prog_11_method_44_code
def yX9_sizeOf : MethodName := ⟨RX9, "sizeOf", "(I)I"⟩
abbrev cX9_wantsOf : ByteArray := prog_11_method_45_code
def yX9_wantsOf : MethodName := ⟨RX9, "wantsOf", "(I)I"⟩
abbrev cX9_reasonOf : ByteArray := prog_11_method_46_code
def yX9_reasonOf : MethodName := ⟨RX9, "reasonOf", "(I)I"⟩
abbrev cX9_lays : ByteArray := prog_11_method_47_code
def yX9_lays : MethodName := ⟨RX9, "lays", "()V"⟩
abbrev cX9_laysWays : ByteArray := prog_11_method_48_code
def yX9_laysWays : MethodName := ⟨RX9, "laysWays", "()V"⟩
abbrev cX9_areBeside : ByteArray := prog_11_method_49_code
def yX9_areBeside : MethodName := ⟨RX9, "areBeside", "(II)Z"⟩
abbrev cX9_nextOf : ByteArray := prog_11_method_50_code
def yX9_nextOf : MethodName := ⟨RX9, "nextOf", "(II)I"⟩
abbrev cX9_falls : ByteArray := prog_11_method_51_code
def yX9_falls : MethodName := ⟨RX9, "falls", "(II)V"⟩
abbrev cX9_leave : ByteArray := prog_11_method_52_code
def yX9_leave : MethodName := ⟨RX9, "leave", "(II)V"⟩
abbrev cX9_votesFor : ByteArray := prog_11_method_53_code
def yX9_votesFor : MethodName := ⟨RX9, "votesFor", "(IIZ)I"⟩
abbrev cX9_turns : ByteArray := prog_11_method_54_code
def yX9_turns : MethodName := ⟨RX9, "turns", "(I)I"⟩
abbrev cX9_runs : ByteArray := prog_11_method_55_code
def yX9_runs : MethodName := ⟨RX9, "runs", "()V"⟩
abbrev cX9_laysNow : ByteArray := prog_11_method_56_code
def yX9_laysNow : MethodName := ⟨RX9, "laysNow", "()V"⟩
abbrev cX9_firstAt : ByteArray := prog_11_method_57_code
def yX9_firstAt : MethodName := ⟨RX9, "firstAt", "(II)I"⟩
abbrev cX9_road : ByteArray := prog_11_method_58_code
def yX9_road : MethodName := ⟨RX9, "road", "(II)I"⟩
abbrev cX9_person : ByteArray := prog_11_method_59_code
def yX9_person : MethodName := ⟨RX9, "person", "(II)I"⟩
abbrev cX9_arePlaces : ByteArray := prog_11_method_60_code
def yX9_arePlaces : MethodName := ⟨RX9, "arePlaces", "(II)Z"⟩
abbrev cX9_way : ByteArray := prog_11_method_61_code
def yX9_way : MethodName := ⟨RX9, "way", "(II)I"⟩
abbrev cX9_next : ByteArray := prog_11_method_62_code
def yX9_next : MethodName := ⟨RX9, "next", "(II)I"⟩
abbrev cX9_reach : ByteArray := prog_11_method_63_code
def yX9_reach : MethodName := ⟨RX9, "reach", "(I)I"⟩
abbrev cX9_at : ByteArray := prog_11_method_64_code
def yX9_at : MethodName := ⟨RX9, "at", "(I)I"⟩
abbrev cX9_crowd : ByteArray := prog_11_method_65_code
def yX9_crowd : MethodName := ⟨RX9, "crowd", "(I)I"⟩
abbrev cX9_votes : ByteArray := prog_11_method_66_code
def yX9_votes : MethodName := ⟨RX9, "votes", "(II)I"⟩
abbrev cX9_joins : ByteArray := prog_11_method_67_code
def yX9_joins : MethodName := ⟨RX9, "joins", "(I)I"⟩
abbrev cX9_leaves : ByteArray := prog_11_method_68_code
def yX9_leaves : MethodName := ⟨RX9, "leaves", "(I)I"⟩
abbrev cX9_over : ByteArray := prog_11_method_69_code
def yX9_over : MethodName := ⟨RX9, "over", "()I"⟩
abbrev cX9_why : ByteArray := prog_11_method_70_code
def yX9_why : MethodName := ⟨RX9, "why", "()I"⟩
abbrev cX9_comes : ByteArray := prog_11_method_71_code
def yX9_comes : MethodName := ⟨RX9, "comes", "(I)I"⟩
abbrev cX9_often : ByteArray := prog_11_method_72_code
def yX9_often : MethodName := ⟨RX9, "often", "(I)I"⟩
abbrev cX9_roadOf : ByteArray := prog_11_method_73_code
def yX9_roadOf : MethodName := ⟨RX9, "roadOf", "(II)I"⟩
abbrev cX9_paces : ByteArray := prog_11_method_74_code
def yX9_paces : MethodName := ⟨RX9, "paces", "(I)I"⟩
abbrev cX9_peakOf : ByteArray := prog_11_method_75_code
def yX9_peakOf : MethodName := ⟨RX9, "peakOf", "()I"⟩
abbrev cX9_most : ByteArray := prog_11_method_76_code
def yX9_most : MethodName := ⟨RX9, "most", "()I"⟩
abbrev cX9_peak : ByteArray := prog_11_method_77_code
def yX9_peak : MethodName := ⟨RX9, "peak", "()I"⟩
abbrev cX9_boards : ByteArray := prog_11_method_78_code
def yX9_boards : MethodName := ⟨RX9, "boards", "(I)I"⟩
abbrev cX9_cause : ByteArray := prog_11_method_79_code
def yX9_cause : MethodName := ⟨RX9, "cause", "(I)I"⟩
abbrev cX9_weighs : ByteArray := prog_11_method_80_code
def yX9_weighs : MethodName := ⟨RX9, "weighs", "(I)I"⟩
abbrev cX9_splits : ByteArray := prog_11_method_81_code
def yX9_splits : MethodName := ⟨RX9, "splits", "(I)I"⟩
abbrev cX9_carries : ByteArray := prog_11_method_82_code
def yX9_carries : MethodName := ⟨RX9, "carries", "(I)I"⟩
abbrev cX9_parties : ByteArray := prog_11_method_83_code
def yX9_parties : MethodName := ⟨RX9, "parties", "(I)I"⟩
abbrev cX9_together : ByteArray := prog_11_method_84_code
def yX9_together : MethodName := ⟨RX9, "together", "(II)I"⟩
abbrev cX9_walks : ByteArray := prog_11_method_85_code
def yX9_walks : MethodName := ⟨RX9, "walks", "(I)I"⟩
abbrev cX9_turned : ByteArray := prog_11_method_86_code
def yX9_turned : MethodName := ⟨RX9, "turned", "(I)I"⟩
abbrev cX9_loop : ByteArray := prog_11_method_87_code
def yX9_loop : MethodName := ⟨RX9, "loop", "()I"⟩
abbrev cX9_farthest : ByteArray := prog_11_method_88_code
def yX9_farthest : MethodName := ⟨RX9, "farthest", "()I"⟩
abbrev cX9_crew : ByteArray := prog_11_method_89_code
def yX9_crew : MethodName := ⟨RX9, "crew", "(I)I"⟩
abbrev cX9_eldest : ByteArray := prog_11_method_90_code
def yX9_eldest : MethodName := ⟨RX9, "eldest", "(I)I"⟩
abbrev cX9_waits : ByteArray := prog_11_method_91_code
def yX9_waits : MethodName := ⟨RX9, "waits", "(I)I"⟩
abbrev cX9_missed : ByteArray := prog_11_method_92_code
def yX9_missed : MethodName := ⟨RX9, "missed", "()I"⟩
abbrev cX9_needed : ByteArray := prog_11_method_93_code
def yX9_needed : MethodName := ⟨RX9, "needed", "(I)I"⟩
abbrev cX9_trap : ByteArray := prog_11_method_94_code
def yX9_trap : MethodName := ⟨RX9, "trap", "(II)I"⟩
abbrev cX9_costOf : ByteArray := prog_11_method_95_code
def yX9_costOf : MethodName := ⟨RX9, "costOf", "(I)I"⟩
abbrev cX9_stopsOf : ByteArray := prog_11_method_96_code
def yX9_stopsOf : MethodName := ⟨RX9, "stopsOf", "(I)I"⟩
abbrev cX9_stop : ByteArray := prog_11_method_97_code
def yX9_stop : MethodName := ⟨RX9, "stop", "(I)I"⟩
abbrev cX9_stops : ByteArray := prog_11_method_98_code
def yX9_stops : MethodName := ⟨RX9, "stops", "(I)I"⟩
abbrev cX9_endsOf : ByteArray := prog_11_method_99_code
def yX9_endsOf : MethodName := ⟨RX9, "endsOf", "()I"⟩
abbrev cX9_soonest : ByteArray := prog_11_method_100_code
def yX9_soonest : MethodName := ⟨RX9, "soonest", "()I"⟩
abbrev cX9_ends : ByteArray := prog_11_method_101_code
def yX9_ends : MethodName := ⟨RX9, "ends", "()I"⟩
abbrev cX9_contentOf : ByteArray := prog_11_method_102_code
def yX9_contentOf : MethodName := ⟨RX9, "contentOf", "(I)I"⟩
abbrev cX9_content : ByteArray := prog_11_method_103_code
def yX9_content : MethodName := ⟨RX9, "content", "(I)I"⟩
abbrev cX9_buys : ByteArray := prog_11_method_104_code
def yX9_buys : MethodName := ⟨RX9, "buys", "(I)I"⟩
abbrev cX9_shutsOf : ByteArray := prog_11_method_105_code
def yX9_shutsOf : MethodName := ⟨RX9, "shutsOf", "(I)I"⟩
abbrev cX9_shut : ByteArray := prog_11_method_106_code
def yX9_shut : MethodName := ⟨RX9, "shut", "(I)I"⟩
abbrev cX9_shuts : ByteArray := prog_11_method_107_code
def yX9_shuts : MethodName := ⟨RX9, "shuts", "(I)I"⟩
abbrev cX9_cut_ : ByteArray := prog_11_method_108_code
def yX9_cut_ : MethodName := ⟨RX9, "cut", "(II)I"⟩
abbrev cX9_whyNotStarts : ByteArray := prog_11_method_109_code
def yX9_whyNotStarts : MethodName := ⟨RX9, "whyNotStarts", "(I)I"⟩
abbrev cX9_startsOf : ByteArray := prog_11_method_110_code
def yX9_startsOf : MethodName := ⟨RX9, "startsOf", "(I)I"⟩
abbrev cX9_starts : ByteArray := prog_11_method_111_code
def yX9_starts : MethodName := ⟨RX9, "starts", "(I)I"⟩
abbrev cX9_ask : ByteArray := prog_11_method_112_code
def yX9_ask : MethodName := ⟨RX9, "ask", "(I)I"⟩
abbrev cX9_rules : ByteArray := prog_11_method_113_code
def yX9_rules : MethodName := ⟨RX9, "rules", "(I)I"⟩
abbrev cX9_shamsOf : ByteArray := prog_11_method_114_code
def yX9_shamsOf : MethodName := ⟨RX9, "shamsOf", "(II)I"⟩
abbrev cX9_shams : ByteArray := prog_11_method_115_code
def yX9_shams : MethodName := ⟨RX9, "shams", "(II)I"⟩
abbrev cX9_shammers : ByteArray := prog_11_method_116_code
def yX9_shammers : MethodName := ⟨RX9, "shammers", "(I)I"⟩
abbrev cX9_common : ByteArray := prog_11_method_117_code
def yX9_common : MethodName := ⟨RX9, "common", "(JJ)J"⟩
abbrev cX9_tens : ByteArray := prog_11_method_118_code
def yX9_tens : MethodName := ⟨RX9, "tens", "(I)J"⟩
abbrev cX9_rains : ByteArray := prog_11_method_119_code
def yX9_rains : MethodName := ⟨RX9, "rains", "(II)J"⟩
abbrev cX9_isRain : ByteArray := prog_11_method_120_code
def yX9_isRain : MethodName := ⟨RX9, "isRain", "(I)Z"⟩
abbrev cX9_told : ByteArray := prog_11_method_121_code
def yX9_told : MethodName := ⟨RX9, "told", "(JII)J"⟩
abbrev cX9_chance : ByteArray := prog_11_method_122_code
def yX9_chance : MethodName := ⟨RX9, "chance", "(III)J"⟩
abbrev cX9_mean : ByteArray := prog_11_method_123_code
def yX9_mean : MethodName := ⟨RX9, "mean", "(II)J"⟩
abbrev cX9_draws : ByteArray := prog_11_method_124_code
def yX9_draws : MethodName := ⟨RX9, "draws", "(J)V"⟩
abbrev cX9_isSeed : ByteArray := prog_11_method_125_code
def yX9_isSeed : MethodName := ⟨RX9, "isSeed", "(I)Z"⟩
abbrev cX9_drawn : ByteArray := prog_11_method_126_code
def yX9_drawn : MethodName := ⟨RX9, "drawn", "(II)I"⟩
abbrev cX9_luck : ByteArray := prog_11_method_127_code
def yX9_luck : MethodName := ⟨RX9, "luck", "(III)I"⟩
abbrev cX9_acts : ByteArray := prog_11_method_128_code
def yX9_acts : MethodName := ⟨RX9, "acts", "(III)V"⟩
abbrev cX9_answer : ByteArray := prog_11_method_129_code
def yX9_answer : MethodName := ⟨RX9, "answer", "(II)I"⟩
abbrev cX9_bar : ByteArray := prog_11_method_130_code
def yX9_bar : MethodName := ⟨RX9, "bar", "(II)I"⟩
abbrev cX9_answered : ByteArray := prog_11_method_131_code
def yX9_answered : MethodName := ⟨RX9, "answered", "()I"⟩
abbrev cX9_barred : ByteArray := prog_11_method_132_code
def yX9_barred : MethodName := ⟨RX9, "barred", "()I"⟩
abbrev cX9_costs : ByteArray := prog_11_method_133_code
def yX9_costs : MethodName := ⟨RX9, "costs", "()I"⟩
abbrev cX9_undo : ByteArray := prog_11_method_134_code
def yX9_undo : MethodName := ⟨RX9, "undo", "()I"⟩
abbrev cX9_anew : ByteArray := prog_11_method_135_code
def yX9_anew : MethodName := ⟨RX9, "anew", "()I"⟩
abbrev cX9_need : ByteArray := prog_11_method_136_code
def yX9_need : MethodName := ⟨RX9, "need", "(II)I"⟩
abbrev cX9_count : ByteArray := prog_11_method_137_code
def yX9_count : MethodName := ⟨RX9, "count", "(I)I"⟩
abbrev cX9_image : ByteArray := prog_11_method_138_code
def yX9_image : MethodName := ⟨RX9, "image", "(I)I"⟩
abbrev cX9_back : ByteArray := prog_11_method_139_code
def yX9_back : MethodName := ⟨RX9, "back", "(I)I"⟩
def RJ6 : String := "java/lang/Integer"
abbrev cJ6_bitCount_0f7a4 : ByteArray := prog_12_method_49_code
def yJ6_bitCount_0f7a4 : MethodName := ⟨RJ6, "bitCount", "(I)I"⟩
def RJ9 : String := "java/lang/Math"
abbrev cJ9_max_7cf53 : ByteArray := prog_13_method_65_code
def yJ9_max_7cf53 : MethodName := ⟨RJ9, "max", "(II)I"⟩
abbrev cJ9_min_7cf53 : ByteArray := prog_13_method_69_code
def yJ9_min_7cf53 : MethodName := ⟨RJ9, "min", "(II)I"⟩
def RJ0 : String := "java/lang/String"
abbrev cJ0_length_8abf5 : ByteArray := prog_14_method_54_code
def yJ0_length_8abf5 : MethodName := ⟨RJ0, "length", "()I"⟩
abbrev cJ0_charAt_5068e : ByteArray := prog_14_method_56_code
def yJ0_charAt_5068e : MethodName := ⟨RJ0, "charAt", "(I)C"⟩
abbrev cJ0_coder_7d493 : ByteArray := prog_14_method_152_code
def yJ0_coder_7d493 : MethodName := ⟨RJ0, "coder", "()B"⟩
abbrev cJ0_isLatin1_aae02 : ByteArray := prog_14_method_154_code
def yJ0_isLatin1_aae02 : MethodName := ⟨RJ0, "isLatin1", "()Z"⟩
abbrev cJ0_checkIndex_df160 : ByteArray := prog_14_method_155_code
def yJ0_checkIndex_df160 : MethodName := ⟨RJ0, "checkIndex", "(II)V"⟩
def RJ1 : String := "java/lang/StringLatin1"
abbrev cJ1_charAt_3b067 : ByteArray := prog_15_method_2_code
def yJ1_charAt_3b067 : MethodName := ⟨RJ1, "charAt", "([BI)C"⟩
def RJ2 : String := "java/lang/StringUTF16"
abbrev cJ2_getChar_3b067 : ByteArray := prog_16_method_5_code
def yJ2_getChar_3b067 : MethodName := ⟨RJ2, "getChar", "([BI)C"⟩
abbrev cJ2_length_9d52b : ByteArray := prog_16_method_6_code
def yJ2_length_9d52b : MethodName := ⟨RJ2, "length", "([B)I"⟩
abbrev cJ2_charAt_3b067 : ByteArray := prog_16_method_83_code
def yJ2_charAt_3b067 : MethodName := ⟨RJ2, "charAt", "([BI)C"⟩
abbrev cJ2_checkIndex_2214a : ByteArray := prog_16_method_91_code
def yJ2_checkIndex_2214a : MethodName := ⟨RJ2, "checkIndex", "(I[B)V"⟩
def RJ10 : String := "java/lang/System"
def RJ7 : String := "java/util/Arrays"
abbrev cJ7_fill_d0a16 : ByteArray := prog_18_method_101_code
def yJ7_fill_d0a16 : MethodName := ⟨RJ7, "fill", "([JJ)V"⟩
abbrev cJ7_fill_53178 : ByteArray := prog_18_method_103_code
def yJ7_fill_53178 : MethodName := ⟨RJ7, "fill", "([II)V"⟩
def RJ3 : String := "jdk/internal/util/Preconditions"
abbrev cJ3_checkIndex_8e157 : ByteArray := prog_19_method_11_code
def yJ3_checkIndex_8e157 : MethodName := ⟨RJ3, "checkIndex", "(IILjava/util/function/BiFunction;)I"⟩
def RL : String := "MarchFolkLaw"
abbrev AK : Type := Nat × Nat × Nat
abbrev AV : Type := Int32 ⊕ (Int64 ⊕ (AK × Nat))
/-- a method: its class's number, name, bytes, locals, answer, arguments without this, static -/
abbrev AM : Type := Nat × MethodName × ByteArray × Nat × Option FieldType × Nat × Bool
abbrev am_cls : List vw_C := [(RX0, TX0, 5), (RX1, TX1, 13), (RX2, TX2, 3), (RX3, TX3, 10), (RX4, TX4, 6), (RX5, TX5, 4), (RX6, TX6, 14), (RX7, TX7, 4), (RX8, TX8, 15), (RX9, TX9, 49)]
def am_nm : Nat → String := fun k => match k with
  | 0 => RX0
  | 1 => RX1
  | 2 => RX2
  | 3 => RX3
  | 4 => RX4
  | 5 => RX5
  | 6 => RX6
  | 7 => RX7
  | 8 => RX8
  | 9 => RX9
  | 10 => RJ0
  | 11 => RJ1
  | 12 => RJ2
  | 13 => RJ3
  | 14 => RJ6
  | 15 => RJ7
  | _ => RL
abbrev mX0_clear : AM := (0, yX0_clear, cX0_clear, 1, none, 0, false)
abbrev mX0_keep : AM := (0, yX0_keep, cX0_keep, 1, none, 0, false)
abbrev mX0_takeBack : AM := (0, yX0_takeBack, cX0_takeBack, 1, none, 0, false)
abbrev mX0_take : AM := (0, yX0_take, cX0_take, 2, none, 1, false)
abbrev mX1_begin : AM := (1, yX1_begin, cX1_begin, 4, none, 3, false)
abbrev mX1_turnsAt : AM := (1, yX1_turnsAt, cX1_turnsAt, 3, none, 2, false)
abbrev mX1_votesFalsely : AM := (1, yX1_votesFalsely, cX1_votesFalsely, 4, none, 3, false)
abbrev mX1_rainsAt : AM := (1, yX1_rainsAt, cX1_rainsAt, 2, some .boolean, 1, false)
abbrev mX1_waysAt : AM := (1, yX1_waysAt, cX1_waysAt, 2, some (.object "MarchFolk$Ways"), 1, false)
abbrev mX1_isSham : AM := (1, yX1_isSham, cX1_isSham, 3, some .boolean, 2, false)
abbrev mX3_clear : AM := (3, yX3_clear, cX3_clear, 1, none, 0, false)
abbrev mX3_take : AM := (3, yX3_take, cX3_take, 3, none, 1, false)
abbrev mX3_costOf : AM := (3, yX3_costOf, cX3_costOf, 4, some .int, 1, false)
abbrev mX3_contentBy : AM := (3, yX3_contentBy, cX3_contentBy, 4, some .int, 1, false)
abbrev mX4_read : AM := (4, yX4_read, cX4_read, 4, none, 2, false)
abbrev mX4_readLine : AM := (4, yX4_readLine, cX4_readLine, 2, none, 1, false)
abbrev mX4_readHead : AM := (4, yX4_readHead, cX4_readHead, 2, none, 1, false)
abbrev mX4_readRoad : AM := (4, yX4_readRoad, cX4_readRoad, 3, none, 1, false)
abbrev mX4_readPerson : AM := (4, yX4_readPerson, cX4_readPerson, 3, none, 1, false)
abbrev mX4_readGrant : AM := (4, yX4_readGrant, cX4_readGrant, 4, none, 1, false)
abbrev mX4_fail : AM := (4, yX4_fail, cX4_fail, 3, none, 2, false)
abbrev mX4_byteAt : AM := (4, yX4_byteAt, cX4_byteAt, 2, some .int, 1, false)
abbrev mX4_isLetter : AM := (4, yX4_isLetter, cX4_isLetter, 2, some .boolean, 1, false)
abbrev mX4_isDigit : AM := (4, yX4_isDigit, cX4_isDigit, 2, some .boolean, 1, false)
abbrev mX4_skipBlanks : AM := (4, yX4_skipBlanks, cX4_skipBlanks, 2, none, 0, false)
abbrev mX4_isWord : AM := (4, yX4_isWord, cX4_isWord, 3, some .boolean, 1, false)
abbrev mX4_takeWord : AM := (4, yX4_takeWord, cX4_takeWord, 2, none, 1, false)
abbrev mX4_takeSign : AM := (4, yX4_takeSign, cX4_takeSign, 1, none, 0, false)
abbrev mX4_takeNumber : AM := (4, yX4_takeNumber, cX4_takeNumber, 5, some .int, 2, false)
abbrev mX5_begin : AM := (5, yX5_begin, cX5_begin, 3, none, 2, false)
abbrev mX5_put : AM := (5, yX5_put, cX5_put, 4, none, 2, false)
abbrev mX5_hasFrom : AM := (5, yX5_hasFrom, cX5_hasFrom, 3, some .boolean, 2, false)
abbrev mX6_go : AM := (6, yX6_go, cX6_go, 5, none, 2, false)
abbrev mX6_clear : AM := (6, yX6_clear, cX6_clear, 1, none, 0, false)
abbrev mX6_fallIn : AM := (6, yX6_fallIn, cX6_fallIn, 8, none, 4, false)
abbrev mX6_wouldFallIn : AM := (6, yX6_wouldFallIn, cX6_wouldFallIn, 5, some .boolean, 4, false)
abbrev mX6_leaveAt : AM := (6, yX6_leaveAt, cX6_leaveAt, 5, none, 3, false)
abbrev mX6_gatherVotes : AM := (6, yX6_gatherVotes, cX6_gatherVotes, 7, none, 4, false)
abbrev mX6_chosen : AM := (6, yX6_chosen, cX6_chosen, 3, some .int, 2, false)
abbrev mX6_heaviest : AM := (6, yX6_heaviest, cX6_heaviest, 6, some .int, 2, false)
abbrev mX6_voteByRank : AM := (6, yX6_voteByRank, cX6_voteByRank, 5, some .int, 2, false)
abbrev mX6_firstAt : AM := (6, yX6_firstAt, cX6_firstAt, 4, some .int, 2, false)
abbrev mX7_measure : AM := (7, yX7_measure, cX7_measure, 4, none, 2, false)
abbrev mX7_join : AM := (7, yX7_join, cX7_join, 4, none, 1, false)
abbrev mX7_findLengths : AM := (7, yX7_findLengths, cX7_findLengths, 4, none, 0, false)
abbrev mX7_findFirsts : AM := (7, yX7_findFirsts, cX7_findFirsts, 3, none, 0, false)
abbrev mX7_findFirst : AM := (7, yX7_findFirst, cX7_findFirst, 4, some .int, 2, false)
abbrev mX7_has : AM := (7, yX7_has, cX7_has, 3, some .boolean, 2, false)
abbrev mX7_lengthOf : AM := (7, yX7_lengthOf, cX7_lengthOf, 3, some .int, 2, false)
abbrev mX7_nextOf : AM := (7, yX7_nextOf, cX7_nextOf, 3, some .int, 2, false)
abbrev mX7_areBeside : AM := (7, yX7_areBeside, cX7_areBeside, 3, some .boolean, 2, false)
abbrev mX7_besideBy : AM := (7, yX7_besideBy, cX7_besideBy, 3, some .int, 2, false)
abbrev mX8_feed : AM := (8, yX8_feed, cX8_feed, 6, some .int, 5, false)
abbrev mX8_putFour : AM := (8, yX8_putFour, cX8_putFour, 3, none, 1, false)
abbrev mX8_end : AM := (8, yX8_end, cX8_end, 2, some .int, 1, false)
abbrev mX8_march : AM := (8, yX8_march, cX8_march, 1, some .int, 0, false)
abbrev mX8_fault : AM := (8, yX8_fault, cX8_fault, 2, some .int, 1, false)
abbrev mX8_isMarch : AM := (8, yX8_isMarch, cX8_isMarch, 1, some .boolean, 0, false)
abbrev mX8_isPlace : AM := (8, yX8_isPlace, cX8_isPlace, 2, some .boolean, 1, false)
abbrev mX8_isRoad : AM := (8, yX8_isRoad, cX8_isRoad, 2, some .boolean, 1, false)
abbrev mX8_isPerson : AM := (8, yX8_isPerson, cX8_isPerson, 2, some .boolean, 1, false)
abbrev mX8_isStep : AM := (8, yX8_isStep, cX8_isStep, 2, some .boolean, 1, false)
abbrev mX8_isRainyStep : AM := (8, yX8_isRainyStep, cX8_isRainyStep, 2, some .boolean, 1, false)
abbrev mX8_isSlot : AM := (8, yX8_isSlot, cX8_isSlot, 2, some .boolean, 1, false)
abbrev mX8_isPartOfFraction : AM := (8, yX8_isPartOfFraction, cX8_isPartOfFraction, 2, some .boolean, 1, false)
abbrev mX8_holds : AM := (8, yX8_holds, cX8_holds, 2, some .boolean, 2, true)
abbrev mX8_road : AM := (8, yX8_road, cX8_road, 3, some .int, 2, false)
abbrev mX8_person : AM := (8, yX8_person, cX8_person, 3, some .int, 2, false)
abbrev mX8_count : AM := (8, yX8_count, cX8_count, 2, some .int, 1, false)
abbrev mX8_rowsKept : AM := (8, yX8_rowsKept, cX8_rowsKept, 3, some .int, 0, false)
abbrev mX8_crew : AM := (8, yX8_crew, cX8_crew, 4, some .int, 1, false)
abbrev mX8_way : AM := (8, yX8_way, cX8_way, 3, some .int, 2, false)
abbrev mX8_next : AM := (8, yX8_next, cX8_next, 3, some .int, 2, false)
abbrev mX8_reach : AM := (8, yX8_reach, cX8_reach, 4, some .int, 1, false)
abbrev mX8_cut : AM := (8, yX8_cut, cX8_cut, 5, some .int, 2, false)
abbrev mX8_roadsAcross : AM := (8, yX8_roadsAcross, cX8_roadsAcross, 5, some .int, 1, false)
abbrev mX8_tell : AM := (8, yX8_tell, cX8_tell, 1, none, 0, false)
abbrev mX8_asItIs : AM := (8, yX8_asItIs, cX8_asItIs, 1, none, 0, false)
abbrev mX8_at : AM := (8, yX8_at, cX8_at, 2, some .int, 1, false)
abbrev mX8_crowd : AM := (8, yX8_crowd, cX8_crowd, 2, some .int, 1, false)
abbrev mX8_isIn : AM := (8, yX8_isIn, cX8_isIn, 3, some .boolean, 2, false)
abbrev mX8_voteOf : AM := (8, yX8_voteOf, cX8_voteOf, 4, some .int, 2, false)
abbrev mX8_votesFor : AM := (8, yX8_votesFor, cX8_votesFor, 5, some .int, 2, false)
abbrev mX8_votes : AM := (8, yX8_votes, cX8_votes, 3, some .int, 2, false)
abbrev mX8_joins : AM := (8, yX8_joins, cX8_joins, 2, some .int, 1, false)
abbrev mX8_leaves : AM := (8, yX8_leaves, cX8_leaves, 2, some .int, 1, false)
abbrev mX8_over : AM := (8, yX8_over, cX8_over, 1, some .int, 0, false)
abbrev mX8_why : AM := (8, yX8_why, cX8_why, 1, some .int, 0, false)
abbrev mX8_comes : AM := (8, yX8_comes, cX8_comes, 2, some .int, 1, false)
abbrev mX8_often : AM := (8, yX8_often, cX8_often, 4, some .int, 1, false)
abbrev mX8_paces : AM := (8, yX8_paces, cX8_paces, 2, some .int, 1, false)
abbrev mX8_goneBetween : AM := (8, yX8_goneBetween, cX8_goneBetween, 7, some .int, 2, false)
abbrev mX8_most : AM := (8, yX8_most, cX8_most, 1, some .int, 0, false)
abbrev mX8_peak : AM := (8, yX8_peak, cX8_peak, 2, some .int, 0, false)
abbrev mX8_fullestStep : AM := (8, yX8_fullestStep, cX8_fullestStep, 3, some .int, 0, false)
abbrev mX8_boards : AM := (8, yX8_boards, cX8_boards, 4, some .int, 1, false)
abbrev mX8_cause : AM := (8, yX8_cause, cX8_cause, 6, some .int, 1, false)
abbrev mX8_inItWith : AM := (8, yX8_inItWith, cX8_inItWith, 5, some .int, 2, false)
abbrev mX8_weighs : AM := (8, yX8_weighs, cX8_weighs, 4, some .int, 1, false)
abbrev mX8_splits : AM := (8, yX8_splits, cX8_splits, 6, some .int, 1, false)
abbrev mX8_carries : AM := (8, yX8_carries, cX8_carries, 2, some .int, 1, false)
abbrev mX8_turned : AM := (8, yX8_turned, cX8_turned, 5, some .int, 1, false)
abbrev mX8_parties : AM := (8, yX8_parties, cX8_parties, 4, some .int, 1, false)
abbrev mX8_eldest : AM := (8, yX8_eldest, cX8_eldest, 4, some .int, 1, false)
abbrev mX8_together : AM := (8, yX8_together, cX8_together, 5, some .int, 2, false)
abbrev mX8_walks : AM := (8, yX8_walks, cX8_walks, 4, some .int, 1, false)
abbrev mX8_loop : AM := (8, yX8_loop, cX8_loop, 4, some .int, 0, false)
abbrev mX8_lastFall : AM := (8, yX8_lastFall, cX8_lastFall, 3, some .int, 0, false)
abbrev mX8_farthest : AM := (8, yX8_farthest, cX8_farthest, 4, some .int, 0, false)
abbrev mX8_waits : AM := (8, yX8_waits, cX8_waits, 5, some .int, 1, false)
abbrev mX8_missed : AM := (8, yX8_missed, cX8_missed, 3, some .int, 0, false)
abbrev mX8_needed : AM := (8, yX8_needed, cX8_needed, 4, some .int, 1, false)
abbrev mX8_fallsInWithout : AM := (8, yX8_fallsInWithout, cX8_fallsInWithout, 3, some .boolean, 2, false)
abbrev mX8_trap : AM := (8, yX8_trap, cX8_trap, 4, some .int, 2, false)
abbrev mX8_comesAnswered : AM := (8, yX8_comesAnswered, cX8_comesAnswered, 3, some .boolean, 2, false)
abbrev mX8_stop : AM := (8, yX8_stop, cX8_stop, 3, some .int, 1, false)
abbrev mX8_stops : AM := (8, yX8_stops, cX8_stops, 2, some .int, 1, false)
abbrev mX8_stoppingSet : AM := (8, yX8_stoppingSet, cX8_stoppingSet, 5, some .int, 1, false)
abbrev mX8_overAnswered : AM := (8, yX8_overAnswered, cX8_overAnswered, 2, some .int, 1, false)
abbrev mX8_soonest : AM := (8, yX8_soonest, cX8_soonest, 2, some .int, 0, false)
abbrev mX8_ends : AM := (8, yX8_ends, cX8_ends, 1, some .int, 0, false)
abbrev mX8_endingSet : AM := (8, yX8_endingSet, cX8_endingSet, 6, some .int, 0, false)
abbrev mX8_content : AM := (8, yX8_content, cX8_content, 2, some .int, 1, false)
abbrev mX8_buys : AM := (8, yX8_buys, cX8_buys, 4, some .int, 1, false)
abbrev mX8_shut : AM := (8, yX8_shut, cX8_shut, 3, some .int, 1, false)
abbrev mX8_shuts : AM := (8, yX8_shuts, cX8_shuts, 2, some .int, 1, false)
abbrev mX8_shuttingSet : AM := (8, yX8_shuttingSet, cX8_shuttingSet, 4, some .int, 1, false)
abbrev mX8_comesBarred : AM := (8, yX8_comesBarred, cX8_comesBarred, 3, some .boolean, 2, false)
abbrev mX8_lacksRow : AM := (8, yX8_lacksRow, cX8_lacksRow, 2, some .int, 1, false)
abbrev mX8_tellsFalls : AM := (8, yX8_tellsFalls, cX8_tellsFalls, 7, some .boolean, 1, false)
abbrev mX8_tellsPlaces : AM := (8, yX8_tellsPlaces, cX8_tellsPlaces, 7, some .boolean, 1, false)
abbrev mX8_starts : AM := (8, yX8_starts, cX8_starts, 3, some .int, 1, false)
abbrev mX8_ask : AM := (8, yX8_ask, cX8_ask, 3, some .int, 1, false)
abbrev mX8_startsBy : AM := (8, yX8_startsBy, cX8_startsBy, 4, some .int, 1, false)
abbrev mX8_agreesOnFalls : AM := (8, yX8_agreesOnFalls, cX8_agreesOnFalls, 4, some .boolean, 1, false)
abbrev mX8_bestAsked : AM := (8, yX8_bestAsked, cX8_bestAsked, 6, some .int, 1, false)
abbrev mX8_leftAtWorst : AM := (8, yX8_leftAtWorst, cX8_leftAtWorst, 5, some .int, 2, false)
abbrev mX8_likeStarts : AM := (8, yX8_likeStarts, cX8_likeStarts, 6, some .int, 3, false)
abbrev mX8_rules : AM := (8, yX8_rules, cX8_rules, 3, some .int, 1, false)
abbrev mX8_rulesBy : AM := (8, yX8_rulesBy, cX8_rulesBy, 4, some .int, 1, false)
abbrev mX8_agreesOnPlaces : AM := (8, yX8_agreesOnPlaces, cX8_agreesOnPlaces, 4, some .boolean, 1, false)
abbrev mX8_shams : AM := (8, yX8_shams, cX8_shams, 3, some .int, 2, false)
abbrev mX8_shammers : AM := (8, yX8_shammers, cX8_shammers, 4, some .int, 1, false)
abbrev mX8_shamsOf : AM := (8, yX8_shamsOf, cX8_shamsOf, 7, some .int, 2, false)
abbrev mX8_shamHelps : AM := (8, yX8_shamHelps, cX8_shamHelps, 7, some .boolean, 3, false)
abbrev mX8_chance : AM := (8, yX8_chance, cX8_chance, 9, some .long, 3, false)
abbrev mX8_mean : AM := (8, yX8_mean, cX8_mean, 8, some .long, 2, false)
abbrev mX8_goInRain : AM := (8, yX8_goInRain, cX8_goInRain, 4, none, 2, false)
abbrev mX8_weightOf : AM := (8, yX8_weightOf, cX8_weightOf, 6, some .long, 2, false)
abbrev mX8_tens : AM := (8, yX8_tens, cX8_tens, 4, some .long, 1, true)
abbrev mX8_partOf : AM := (8, yX8_partOf, cX8_partOf, 7, some .long, 3, true)
abbrev mX8_commonDivisor : AM := (8, yX8_commonDivisor, cX8_commonDivisor, 7, some .long, 2, true)
abbrev mX8_drawn : AM := (8, yX8_drawn, cX8_drawn, 3, some .int, 2, false)
abbrev mX8_luck : AM := (8, yX8_luck, cX8_luck, 6, some .int, 3, false)
abbrev mX8_rainFrom : AM := (8, yX8_rainFrom, cX8_rainFrom, 8, some .long, 1, false)
abbrev mX8_answer : AM := (8, yX8_answer, cX8_answer, 4, some .int, 2, false)
abbrev mX8_bar : AM := (8, yX8_bar, cX8_bar, 4, some .int, 2, false)
abbrev mX8_answered : AM := (8, yX8_answered, cX8_answered, 1, some .int, 0, false)
abbrev mX8_barred : AM := (8, yX8_barred, cX8_barred, 1, some .int, 0, false)
abbrev mX8_costs : AM := (8, yX8_costs, cX8_costs, 1, some .int, 0, false)
abbrev mX8_undo : AM := (8, yX8_undo, cX8_undo, 1, some .int, 0, false)
abbrev mX8_anew : AM := (8, yX8_anew, cX8_anew, 2, some .int, 0, false)
abbrev mX8_need : AM := (8, yX8_need, cX8_need, 4, some .int, 2, false)
abbrev mX8_image : AM := (8, yX8_image, cX8_image, 2, some .int, 1, false)
abbrev mX8_back : AM := (8, yX8_back, cX8_back, 2, some .int, 1, false)
abbrev mX8_row : AM := (8, yX8_row, cX8_row, 4, some .int, 3, false)
abbrev mX8_write : AM := (8, yX8_write, cX8_write, 5, some .int, 3, false)
abbrev mX8_paste : AM := (8, yX8_paste, cX8_paste, 6, some .int, 5, false)
abbrev mX9_in : AM := (9, yX9_in, cX9_in, 6, some .boolean, 3, true)
abbrev mX9_isSlot : AM := (9, yX9_isSlot, cX9_isSlot, 1, some .boolean, 1, true)
abbrev mX9_row : AM := (9, yX9_row, cX9_row, 5, some .int, 3, false)
abbrev mX9_cut : AM := (9, yX9_cut, cX9_cut, 3, some .long, 2, true)
abbrev mX9_write : AM := (9, yX9_write, cX9_write, 5, some .int, 3, false)
abbrev mX9_paste : AM := (9, yX9_paste, cX9_paste, 7, some .int, 5, false)
abbrev mX9_feed : AM := (9, yX9_feed, cX9_feed, 6, some .int, 5, false)
abbrev mX9_four : AM := (9, yX9_four, cX9_four, 3, none, 1, false)
abbrev mX9_end : AM := (9, yX9_end, cX9_end, 2, some .int, 1, false)
abbrev mX9_isByte : AM := (9, yX9_isByte, cX9_isByte, 4, some .boolean, 3, false)
abbrev mX9_goesOn : AM := (9, yX9_goesOn, cX9_goesOn, 2, none, 0, false)
abbrev mX9_isGood : AM := (9, yX9_isGood, cX9_isGood, 1, some .boolean, 0, false)
abbrev mX9_fails : AM := (9, yX9_fails, cX9_fails, 2, none, 1, false)
abbrev mX9_is : AM := (9, yX9_is, cX9_is, 3, some .boolean, 1, false)
abbrev mX9_takes : AM := (9, yX9_takes, cX9_takes, 3, some .boolean, 1, false)
abbrev mX9_asks : AM := (9, yX9_asks, cX9_asks, 3, none, 1, false)
abbrev mX9_number : AM := (9, yX9_number, cX9_number, 4, some .int, 2, false)
abbrev mX9_number_ : AM := (9, yX9_number_, cX9_number_, 5, some .int, 3, false)
abbrev mX9_lineEnds : AM := (9, yX9_lineEnds, cX9_lineEnds, 1, none, 0, false)
abbrev mX9_begins : AM := (9, yX9_begins, cX9_begins, 1, none, 0, false)
abbrev mX9_isOver : AM := (9, yX9_isOver, cX9_isOver, 1, none, 0, false)
abbrev mX9_fault : AM := (9, yX9_fault, cX9_fault, 2, some .int, 1, false)
abbrev mX9_hasRead : AM := (9, yX9_hasRead, cX9_hasRead, 2, some .int, 1, false)
abbrev mX9_tells : AM := (9, yX9_tells, cX9_tells, 3, none, 2, false)
abbrev mX9_placeHere : AM := (9, yX9_placeHere, cX9_placeHere, 1, some .int, 0, false)
abbrev mX9_roadLine : AM := (9, yX9_roadLine, cX9_roadLine, 2, none, 0, false)
abbrev mX9_personLine : AM := (9, yX9_personLine, cX9_personLine, 2, none, 0, false)
abbrev mX9_isRoom : AM := (9, yX9_isRoom, cX9_isRoom, 4, some .boolean, 3, false)
abbrev mX9_line : AM := (9, yX9_line, cX9_line, 3, none, 0, false)
abbrev mX9_clears : AM := (9, yX9_clears, cX9_clears, 2, none, 0, false)
abbrev mX9_marchLine : AM := (9, yX9_marchLine, cX9_marchLine, 1, none, 0, false)
abbrev mX9_march : AM := (9, yX9_march, cX9_march, 1, some .int, 0, false)
abbrev mX9_copyRow : AM := (9, yX9_copyRow, cX9_copyRow, 5, none, 4, true)
abbrev mX9_copyMarch : AM := (9, yX9_copyMarch, cX9_copyMarch, 3, none, 2, false)
abbrev mX9_isMarch : AM := (9, yX9_isMarch, cX9_isMarch, 1, some .boolean, 0, false)
abbrev mX9_people : AM := (9, yX9_people, cX9_people, 1, some .int, 0, false)
abbrev mX9_isPlace : AM := (9, yX9_isPlace, cX9_isPlace, 3, some .boolean, 1, false)
abbrev mX9_isPerson : AM := (9, yX9_isPerson, cX9_isPerson, 3, some .boolean, 1, false)
abbrev mX9_isStep : AM := (9, yX9_isStep, cX9_isStep, 2, some .boolean, 1, false)
abbrev mX9_isHalf : AM := (9, yX9_isHalf, cX9_isHalf, 1, some .boolean, 1, true)
abbrev mX9_isBit : AM := (9, yX9_isBit, cX9_isBit, 2, some .boolean, 2, true)
abbrev mX9_sizeOf : AM := (9, yX9_sizeOf, cX9_sizeOf, 3, some .int, 1, true)
abbrev mX9_wantsOf : AM := (9, yX9_wantsOf, cX9_wantsOf, 2, some .int, 1, false)
abbrev mX9_reasonOf : AM := (9, yX9_reasonOf, cX9_reasonOf, 2, some .int, 1, false)
abbrev mX9_lays : AM := (9, yX9_lays, cX9_lays, 4, none, 0, false)
abbrev mX9_laysWays : AM := (9, yX9_laysWays, cX9_laysWays, 4, none, 0, false)
abbrev mX9_areBeside : AM := (9, yX9_areBeside, cX9_areBeside, 4, some .boolean, 2, false)
abbrev mX9_nextOf : AM := (9, yX9_nextOf, cX9_nextOf, 6, some .int, 2, false)
abbrev mX9_falls : AM := (9, yX9_falls, cX9_falls, 5, none, 2, false)
abbrev mX9_leave : AM := (9, yX9_leave, cX9_leave, 4, none, 2, false)
abbrev mX9_votesFor : AM := (9, yX9_votesFor, cX9_votesFor, 6, some .int, 3, false)
abbrev mX9_turns : AM := (9, yX9_turns, cX9_turns, 6, some .int, 1, false)
abbrev mX9_runs : AM := (9, yX9_runs, cX9_runs, 4, none, 0, false)
abbrev mX9_laysNow : AM := (9, yX9_laysNow, cX9_laysNow, 1, none, 0, false)
abbrev mX9_firstAt : AM := (9, yX9_firstAt, cX9_firstAt, 4, some .int, 2, false)
abbrev mX9_road : AM := (9, yX9_road, cX9_road, 3, some .int, 2, false)
abbrev mX9_person : AM := (9, yX9_person, cX9_person, 3, some .int, 2, false)
abbrev mX9_arePlaces : AM := (9, yX9_arePlaces, cX9_arePlaces, 3, some .boolean, 2, false)
abbrev mX9_way : AM := (9, yX9_way, cX9_way, 3, some .int, 2, false)
abbrev mX9_next : AM := (9, yX9_next, cX9_next, 3, some .int, 2, false)
abbrev mX9_reach : AM := (9, yX9_reach, cX9_reach, 4, some .int, 1, false)
abbrev mX9_at : AM := (9, yX9_at, cX9_at, 2, some .int, 1, false)
abbrev mX9_crowd : AM := (9, yX9_crowd, cX9_crowd, 2, some .int, 1, false)
abbrev mX9_votes : AM := (9, yX9_votes, cX9_votes, 3, some .int, 2, false)
abbrev mX9_joins : AM := (9, yX9_joins, cX9_joins, 2, some .int, 1, false)
abbrev mX9_leaves : AM := (9, yX9_leaves, cX9_leaves, 2, some .int, 1, false)
abbrev mX9_over : AM := (9, yX9_over, cX9_over, 1, some .int, 0, false)
abbrev mX9_why : AM := (9, yX9_why, cX9_why, 1, some .int, 0, false)
abbrev mX9_comes : AM := (9, yX9_comes, cX9_comes, 2, some .int, 1, false)
abbrev mX9_often : AM := (9, yX9_often, cX9_often, 4, some .int, 1, false)
abbrev mX9_roadOf : AM := (9, yX9_roadOf, cX9_roadOf, 6, some .int, 2, false)
abbrev mX9_paces : AM := (9, yX9_paces, cX9_paces, 4, some .int, 1, false)
abbrev mX9_peakOf : AM := (9, yX9_peakOf, cX9_peakOf, 3, some .int, 0, false)
abbrev mX9_most : AM := (9, yX9_most, cX9_most, 2, some .int, 0, false)
abbrev mX9_peak : AM := (9, yX9_peak, cX9_peak, 1, some .int, 0, false)
abbrev mX9_boards : AM := (9, yX9_boards, cX9_boards, 4, some .int, 1, false)
abbrev mX9_cause : AM := (9, yX9_cause, cX9_cause, 7, some .int, 1, false)
abbrev mX9_weighs : AM := (9, yX9_weighs, cX9_weighs, 4, some .int, 1, false)
abbrev mX9_splits : AM := (9, yX9_splits, cX9_splits, 5, some .int, 1, false)
abbrev mX9_carries : AM := (9, yX9_carries, cX9_carries, 2, some .int, 1, false)
abbrev mX9_parties : AM := (9, yX9_parties, cX9_parties, 4, some .int, 1, false)
abbrev mX9_together : AM := (9, yX9_together, cX9_together, 5, some .int, 2, false)
abbrev mX9_walks : AM := (9, yX9_walks, cX9_walks, 4, some .int, 1, false)
abbrev mX9_turned : AM := (9, yX9_turned, cX9_turned, 4, some .int, 1, false)
abbrev mX9_loop : AM := (9, yX9_loop, cX9_loop, 3, some .int, 0, false)
abbrev mX9_farthest : AM := (9, yX9_farthest, cX9_farthest, 3, some .int, 0, false)
abbrev mX9_crew : AM := (9, yX9_crew, cX9_crew, 4, some .int, 1, false)
abbrev mX9_eldest : AM := (9, yX9_eldest, cX9_eldest, 4, some .int, 1, false)
abbrev mX9_waits : AM := (9, yX9_waits, cX9_waits, 4, some .int, 1, false)
abbrev mX9_missed : AM := (9, yX9_missed, cX9_missed, 3, some .int, 0, false)
abbrev mX9_needed : AM := (9, yX9_needed, cX9_needed, 4, some .int, 1, false)
abbrev mX9_trap : AM := (9, yX9_trap, cX9_trap, 4, some .int, 2, false)
abbrev mX9_costOf : AM := (9, yX9_costOf, cX9_costOf, 4, some .int, 1, false)
abbrev mX9_stopsOf : AM := (9, yX9_stopsOf, cX9_stopsOf, 4, some .int, 1, false)
abbrev mX9_stop : AM := (9, yX9_stop, cX9_stop, 3, some .int, 1, false)
abbrev mX9_stops : AM := (9, yX9_stops, cX9_stops, 2, some .int, 1, false)
abbrev mX9_endsOf : AM := (9, yX9_endsOf, cX9_endsOf, 3, some .int, 0, false)
abbrev mX9_soonest : AM := (9, yX9_soonest, cX9_soonest, 1, some .int, 0, false)
abbrev mX9_ends : AM := (9, yX9_ends, cX9_ends, 1, some .int, 0, false)
abbrev mX9_contentOf : AM := (9, yX9_contentOf, cX9_contentOf, 4, some .int, 1, false)
abbrev mX9_content : AM := (9, yX9_content, cX9_content, 2, some .int, 1, false)
abbrev mX9_buys : AM := (9, yX9_buys, cX9_buys, 4, some .int, 1, false)
abbrev mX9_shutsOf : AM := (9, yX9_shutsOf, cX9_shutsOf, 4, some .int, 1, false)
abbrev mX9_shut : AM := (9, yX9_shut, cX9_shut, 3, some .int, 1, false)
abbrev mX9_shuts : AM := (9, yX9_shuts, cX9_shuts, 2, some .int, 1, false)
abbrev mX9_cut_ : AM := (9, yX9_cut_, cX9_cut_, 6, some .int, 2, false)
abbrev mX9_whyNotStarts : AM := (9, yX9_whyNotStarts, cX9_whyNotStarts, 3, some .int, 1, false)
abbrev mX9_startsOf : AM := (9, yX9_startsOf, cX9_startsOf, 6, some .int, 1, false)
abbrev mX9_starts : AM := (9, yX9_starts, cX9_starts, 3, some .int, 1, false)
abbrev mX9_ask : AM := (9, yX9_ask, cX9_ask, 9, some .int, 1, false)
abbrev mX9_rules : AM := (9, yX9_rules, cX9_rules, 6, some .int, 1, false)
abbrev mX9_shamsOf : AM := (9, yX9_shamsOf, cX9_shamsOf, 9, some .int, 2, false)
abbrev mX9_shams : AM := (9, yX9_shams, cX9_shams, 3, some .int, 2, false)
abbrev mX9_shammers : AM := (9, yX9_shammers, cX9_shammers, 4, some .int, 1, false)
abbrev mX9_common : AM := (9, yX9_common, cX9_common, 4, some .long, 2, true)
abbrev mX9_tens : AM := (9, yX9_tens, cX9_tens, 1, some .long, 1, true)
abbrev mX9_rains : AM := (9, yX9_rains, cX9_rains, 9, some .long, 2, false)
abbrev mX9_isRain : AM := (9, yX9_isRain, cX9_isRain, 2, some .boolean, 1, false)
abbrev mX9_told : AM := (9, yX9_told, cX9_told, 7, some .long, 3, false)
abbrev mX9_chance : AM := (9, yX9_chance, cX9_chance, 4, some .long, 3, false)
abbrev mX9_mean : AM := (9, yX9_mean, cX9_mean, 3, some .long, 2, false)
abbrev mX9_draws : AM := (9, yX9_draws, cX9_draws, 6, none, 1, false)
abbrev mX9_isSeed : AM := (9, yX9_isSeed, cX9_isSeed, 2, some .boolean, 1, false)
abbrev mX9_drawn : AM := (9, yX9_drawn, cX9_drawn, 5, some .int, 2, false)
abbrev mX9_luck : AM := (9, yX9_luck, cX9_luck, 6, some .int, 3, false)
abbrev mX9_acts : AM := (9, yX9_acts, cX9_acts, 5, none, 3, false)
abbrev mX9_answer : AM := (9, yX9_answer, cX9_answer, 3, some .int, 2, false)
abbrev mX9_bar : AM := (9, yX9_bar, cX9_bar, 3, some .int, 2, false)
abbrev mX9_answered : AM := (9, yX9_answered, cX9_answered, 1, some .int, 0, false)
abbrev mX9_barred : AM := (9, yX9_barred, cX9_barred, 1, some .int, 0, false)
abbrev mX9_costs : AM := (9, yX9_costs, cX9_costs, 1, some .int, 0, false)
abbrev mX9_undo : AM := (9, yX9_undo, cX9_undo, 1, some .int, 0, false)
abbrev mX9_anew : AM := (9, yX9_anew, cX9_anew, 2, some .int, 0, false)
abbrev mX9_need : AM := (9, yX9_need, cX9_need, 4, some .int, 2, false)
abbrev mX9_count : AM := (9, yX9_count, cX9_count, 4, some .int, 1, false)
abbrev mX9_image : AM := (9, yX9_image, cX9_image, 2, some .int, 1, false)
abbrev mX9_back : AM := (9, yX9_back, cX9_back, 2, some .int, 1, false)
abbrev mJ6_bitCount_0f7a4 : AM := (14, yJ6_bitCount_0f7a4, cJ6_bitCount_0f7a4, 1, some .int, 1, true)
abbrev mJ0_length_8abf5 : AM := (10, yJ0_length_8abf5, cJ0_length_8abf5, 1, some .int, 0, false)
abbrev mJ0_charAt_5068e : AM := (10, yJ0_charAt_5068e, cJ0_charAt_5068e, 2, some .char, 1, false)
abbrev mJ0_coder_7d493 : AM := (10, yJ0_coder_7d493, cJ0_coder_7d493, 1, some .byte, 0, false)
abbrev mJ0_isLatin1_aae02 : AM := (10, yJ0_isLatin1_aae02, cJ0_isLatin1_aae02, 1, some .boolean, 0, false)
abbrev mJ0_checkIndex_df160 : AM := (10, yJ0_checkIndex_df160, cJ0_checkIndex_df160, 2, none, 2, true)
abbrev mJ1_charAt_3b067 : AM := (11, yJ1_charAt_3b067, cJ1_charAt_3b067, 2, some .char, 2, true)
abbrev mJ2_getChar_3b067 : AM := (12, yJ2_getChar_3b067, cJ2_getChar_3b067, 2, some .char, 2, true)
abbrev mJ2_length_9d52b : AM := (12, yJ2_length_9d52b, cJ2_length_9d52b, 1, some .int, 1, true)
abbrev mJ2_charAt_3b067 : AM := (12, yJ2_charAt_3b067, cJ2_charAt_3b067, 2, some .char, 2, true)
abbrev mJ2_checkIndex_2214a : AM := (12, yJ2_checkIndex_2214a, cJ2_checkIndex_2214a, 2, none, 2, true)
abbrev mJ7_fill_d0a16 : AM := (15, yJ7_fill_d0a16, cJ7_fill_d0a16, 5, none, 2, true)
abbrev mJ7_fill_53178 : AM := (15, yJ7_fill_53178, cJ7_fill_53178, 4, none, 2, true)
abbrev mJ3_checkIndex_8e157 : AM := (13, yJ3_checkIndex_8e157, cJ3_checkIndex_8e157, 3, some .int, 3, true)
def am_flT : Nat → List (Nat × (Nat × Nat) × Nat) := fun k => match k with
  | 0 => [(18, (0, 0), 254), (22, (0, 1), 256), (25, (0, 2), 258), (9, (0, 3), 260), (15, (0, 4), 261)]
  | 1 => [(9, (3, 2), 197), (18, (3, 3), 201), (15, (1, 0), 362), (21, (1, 1), 365), (22, (1, 2), 368), (25, (1, 3), 371), (28, (1, 4), 374), (31, (1, 5), 378), (34, (1, 6), 380), (38, (1, 7), 382), (42, (1, 8), 383), (45, (1, 9), 384), (48, (1, 10), 385), (51, (1, 11), 386), (54, (1, 12), 387)]
  | 2 => [(10, (2, 1), 427), (19, (2, 2), 429)]
  | 3 => [(23, (3, 0), 190), (27, (3, 1), 194), (30, (3, 2), 198), (33, (3, 3), 202), (36, (3, 4), 205), (39, (3, 5), 208), (42, (3, 6), 212), (11, (3, 7), 216), (16, (3, 8), 220), (19, (3, 9), 224)]
  | 4 => [(25, (4, 0), 160), (9, (4, 1), 162), (15, (4, 2), 164), (19, (4, 3), 165), (22, (4, 4), 166), (106, (4, 5), 167), (40, (3, 0), 191), (84, (3, 1), 195), (88, (3, 2), 199), (92, (3, 3), 203), (96, (3, 4), 206), (98, (3, 5), 210), (111, (3, 6), 214), (101, (3, 7), 218), (114, (3, 8), 222), (128, (3, 9), 225)]
  | 5 => [(15, (5, 0), 443), (19, (5, 1), 445), (23, (5, 2), 447), (9, (5, 3), 449)]
  | 6 => [(97, (3, 6), 213), (102, (3, 8), 221), (9, (6, 0), 303), (15, (6, 1), 305), (18, (6, 2), 307), (21, (6, 3), 309), (24, (6, 4), 311), (27, (6, 5), 313), (79, (6, 6), 315), (82, (6, 7), 317), (48, (6, 8), 319), (91, (6, 9), 321), (66, (6, 10), 323), (94, (6, 11), 324), (30, (6, 12), 325), (33, (6, 13), 326), (39, (1, 0), 363), (72, (1, 1), 366), (117, (1, 2), 369), (114, (1, 3), 372), (51, (1, 4), 375), (45, (1, 5), 377), (133, (1, 12), 388)]
  | 7 => [(22, (3, 1), 193), (36, (3, 5), 209), (43, (3, 7), 217), (28, (7, 0), 284), (11, (7, 1), 285), (16, (7, 2), 286), (19, (7, 3), 287)]
  | 8 => [(97, (4, 0), 161), (114, (4, 1), 163), (111, (3, 0), 192), (117, (3, 1), 196), (143, (3, 2), 200), (146, (3, 3), 204), (149, (3, 4), 207), (120, (3, 5), 211), (123, (3, 6), 215), (134, (3, 7), 219), (140, (3, 8), 223), (152, (0, 0), 255), (202, (0, 1), 257), (188, (0, 2), 259), (212, (6, 0), 304), (216, (6, 1), 306), (260, (6, 2), 308), (228, (6, 3), 310), (231, (6, 4), 312), (263, (6, 5), 314), (234, (6, 6), 316), (237, (6, 7), 318), (272, (6, 8), 320), (423, (6, 9), 322), (340, (1, 0), 364), (363, (1, 1), 367), (284, (1, 2), 370), (278, (1, 3), 373), (285, (1, 4), 376), (409, (1, 5), 379), (405, (1, 6), 381), (440, (2, 0), 426), (441, (2, 1), 428), (442, (2, 2), 430), (159, (5, 0), 444), (453, (5, 1), 446), (315, (5, 2), 448), (318, (5, 3), 450), (9, (8, 0), 461), (85, (8, 1), 462), (18, (8, 2), 463), (25, (8, 3), 464), (29, (8, 4), 465), (35, (8, 5), 466), (41, (8, 6), 467), (47, (8, 7), 468), (107, (8, 8), 469), (54, (8, 9), 470), (61, (8, 10), 471), (68, (8, 11), 472), (72, (8, 12), 473), (75, (8, 13), 474), (80, (8, 14), 475)]
  | 9 => [(80, (9, 0), 1290), (7, (9, 1), 1291), (13, (9, 2), 1292), (16, (9, 3), 1293), (20, (9, 4), 1294), (23, (9, 5), 1295), (97, (9, 6), 1296), (104, (9, 7), 1297), (121, (9, 8), 1298), (111, (9, 9), 1299), (114, (9, 10), 1300), (117, (9, 11), 1301), (132, (9, 12), 1302), (135, (9, 13), 1303), (159, (9, 14), 1304), (27, (9, 15), 1305), (31, (9, 16), 1306), (34, (9, 17), 1307), (37, (9, 18), 1308), (40, (9, 19), 1309), (43, (9, 20), 1310), (46, (9, 21), 1311), (49, (9, 22), 1312), (256, (9, 23), 1313), (259, (9, 24), 1314), (262, (9, 25), 1315), (265, (9, 26), 1316), (268, (9, 27), 1317), (324, (9, 28), 1318), (327, (9, 29), 1319), (271, (9, 30), 1320), (274, (9, 31), 1321), (321, (9, 32), 1322), (277, (9, 33), 1323), (53, (9, 34), 1324), (56, (9, 35), 1325), (59, (9, 36), 1326), (62, (9, 37), 1327), (65, (9, 38), 1328), (68, (9, 39), 1329), (71, (9, 40), 1330), (74, (9, 41), 1331), (290, (9, 42), 1332), (284, (9, 43), 1333), (296, (9, 44), 1334), (309, (9, 45), 1335), (312, (9, 46), 1336), (376, (9, 47), 1337), (77, (9, 48), 1338)]
  | _ => []
def am_fl (own ix : Nat) : Option (Nat × Nat) := ((am_flT own).find? (fun e => e.1 == ix)).map (fun e => e.2.1)
def am_mlT : Nat → List (Nat × (Nat × AM) × (Nat × Nat × Nat × Nat)) := fun k => match k with
  | 3 => [(45, (0, mJ7_fill_53178), (531, 532, 138, 0)), (57, (2, mX8_holds), (1019, 719, 128, 0))]
  | 4 => [(28, (1, mX3_clear), (527, 528, 130, 529)), (33, (1, mX4_skipBlanks), (534, 536, 129, 1)), (131, (1, mX4_byteAt), (538, 540, 129, 2)), (36, (1, mX4_readLine), (542, 544, 129, 3)), (43, (1, mX4_readHead), (546, 548, 129, 4)), (74, (1, mX4_takeWord), (551, 553, 129, 5)), (48, (1, mX4_isWord), (555, 557, 129, 6)), (135, (1, mJ0_length_8abf5), (559, 560, 139, 561)), (140, (1, mJ0_charAt_5068e), (569, 570, 139, 571)), (144, (1, mX4_isLetter), (607, 609, 129, 7)), (65, (1, mX4_fail), (611, 613, 129, 8)), (80, (1, mX4_takeNumber), (616, 618, 129, 9)), (148, (1, mX4_isDigit), (620, 622, 129, 10)), (52, (1, mX4_readRoad), (631, 633, 129, 11)), (57, (1, mX4_readPerson), (638, 640, 129, 12)), (62, (1, mX4_readGrant), (648, 650, 129, 13)), (69, (1, mX4_takeSign), (653, 655, 129, 14))]
  | 5 => [(26, (0, mJ7_fill_d0a16), (1265, 1266, 138, 0))]
  | 6 => [(36, (1, mX6_clear), (751, 753, 133, 25)), (85, (0, mJ7_fill_53178), (755, 532, 138, 0)), (54, (1, mX1_rainsAt), (756, 757, 134, 758)), (58, (1, mX6_fallIn), (760, 762, 133, 26)), (106, (1, mX6_wouldFallIn), (764, 766, 133, 27)), (110, (2, mX8_holds), (768, 719, 128, 0)), (120, (0, mJ6_bitCount_0f7a4), (769, 770, 145, 0)), (62, (1, mX6_leaveAt), (775, 777, 133, 28)), (69, (1, mX6_gatherVotes), (779, 781, 133, 29)), (126, (1, mX1_waysAt), (783, 784, 134, 785)), (130, (1, mX1_isSham), (787, 788, 134, 789)), (136, (1, mX7_nextOf), (791, 792, 132, 793)), (75, (1, mX6_chosen), (799, 801, 133, 31)), (142, (1, mX6_heaviest), (803, 805, 133, 32)), (146, (1, mX6_voteByRank), (807, 809, 133, 33))]
  | 7 => [(30, (0, mJ7_fill_53178), (717, 532, 138, 0)), (39, (2, mX8_holds), (718, 719, 128, 0)), (46, (1, mX7_join), (721, 723, 132, 20)), (50, (1, mX7_findLengths), (726, 728, 132, 21)), (53, (1, mX7_findFirsts), (731, 733, 132, 22)), (68, (1, mX7_findFirst), (735, 737, 132, 23)), (71, (1, mX7_has), (795, 797, 132, 30)), (74, (1, mX7_areBeside), (909, 910, 132, 911))]
  | 8 => [(89, (1, mX8_putFour), (511, 513, 128, 0)), (93, (1, mX4_read), (523, 524, 129, 525)), (100, (1, mX3_take), (657, 658, 130, 659)), (104, (1, mX0_clear), (664, 665, 131, 666)), (130, (1, mX8_isRoad), (676, 678, 128, 15)), (137, (1, mX8_isPerson), (684, 686, 128, 16)), (155, (1, mX8_rowsKept), (692, 694, 128, 17)), (162, (1, mX8_isPlace), (700, 702, 128, 18)), (165, (1, mX8_tell), (708, 710, 128, 19)), (191, (1, mX7_measure), (712, 713, 132, 714)), (195, (1, mX8_asItIs), (739, 741, 128, 24)), (205, (1, mX1_begin), (743, 744, 134, 745)), (198, (1, mX6_go), (747, 748, 133, 749)), (168, (1, mX7_lengthOf), (811, 812, 132, 813)), (172, (1, mX7_nextOf), (819, 792, 132, 793)), (175, (0, mX8_holds), (828, 719, 128, 0)), (179, (1, mX8_roadsAcross), (829, 831, 128, 34)), (209, (1, mX8_isStep), (838, 840, 128, 35)), (126, (1, mX8_isMarch), (842, 844, 128, 36)), (225, (1, mX8_votesFor), (854, 856, 128, 37)), (219, (1, mX8_isIn), (858, 860, 128, 38)), (222, (1, mX8_voteOf), (862, 864, 128, 39)), (240, (1, mX6_firstAt), (886, 887, 133, 888)), (243, (1, mX8_goneBetween), (901, 903, 128, 40)), (246, (1, mX7_besideBy), (905, 906, 132, 907)), (249, (1, mX8_fullestStep), (917, 919, 128, 41)), (252, (0, mJ6_bitCount_0f7a4), (921, 770, 145, 0)), (257, (1, mX8_inItWith), (934, 936, 128, 42)), (266, (1, mX8_lastFall), (974, 976, 128, 43)), (275, (1, mX8_fallsInWithout), (995, 997, 128, 44)), (280, (1, mX1_turnsAt), (1003, 1004, 134, 1005)), (288, (1, mX8_stoppingSet), (1011, 1013, 128, 45)), (291, (1, mX3_costOf), (1015, 1016, 130, 1017)), (294, (1, mX8_comesAnswered), (1020, 1022, 128, 46)), (297, (1, mX8_endingSet), (1032, 1034, 128, 47)), (300, (1, mX8_overAnswered), (1036, 1038, 128, 48)), (303, (1, mX3_contentBy), (1048, 1049, 130, 1050)), (306, (1, mX8_shuttingSet), (1060, 1062, 128, 49)), (309, (1, mX8_comesBarred), (1064, 1066, 128, 50)), (326, (1, mX8_lacksRow), (1076, 1078, 128, 51)), (312, (1, mX8_isSlot), (1080, 1082, 128, 52)), (329, (1, mX8_tellsFalls), (1084, 1086, 128, 53)), (333, (1, mX8_startsBy), (1090, 1092, 128, 54)), (347, (1, mX8_agreesOnFalls), (1095, 1097, 128, 55)), (337, (1, mX8_bestAsked), (1103, 1105, 128, 56)), (350, (1, mX8_leftAtWorst), (1107, 1109, 128, 57)), (353, (1, mX8_likeStarts), (1111, 1113, 128, 58)), (357, (1, mX8_tellsPlaces), (1119, 1121, 128, 59)), (360, (1, mX8_rulesBy), (1123, 1125, 128, 60)), (364, (1, mX8_agreesOnPlaces), (1127, 1129, 128, 61)), (367, (1, mX8_shamsOf), (1135, 1137, 128, 62)), (370, (1, mX7_areBeside), (1139, 910, 132, 911)), (373, (1, mX8_shamHelps), (1140, 1142, 128, 63)), (377, (1, mX1_votesFalsely), (1144, 1145, 134, 1146)), (381, (1, mX8_isRainyStep), (1156, 1158, 128, 64)), (384, (1, mX8_isPartOfFraction), (1160, 1162, 128, 65)), (389, (1, mX8_weightOf), (1165, 1167, 128, 66)), (393, (1, mX8_goInRain), (1169, 1171, 128, 67)), (397, (0, mX8_tens), (1173, 1174, 128, 0)), (401, (0, mX8_partOf), (1177, 1178, 128, 0)), (414, (0, mX8_commonDivisor), (1180, 1181, 128, 0)), (419, (1, mX8_rainFrom), (1192, 1194, 128, 68)), (434, (1, mX0_keep), (1208, 1209, 131, 1210)), (437, (1, mX0_takeBack), (1232, 1233, 131, 1234)), (443, (1, mX0_take), (1248, 1249, 131, 1250)), (446, (1, mX5_begin), (1261, 1262, 136, 1263)), (449, (1, mX5_put), (1272, 1273, 136, 1274)), (456, (1, mX5_hasFrom), (1280, 1281, 136, 1282))]
  | 9 => [(89, (0, mX9_isSlot), (1443, 1444, 137, 0)), (85, (0, mX9_in), (1447, 1448, 137, 0)), (93, (0, mX9_cut), (1454, 1455, 137, 0)), (100, (1, mX9_four), (1465, 1467, 137, 69)), (223, (1, mX9_clears), (1481, 1483, 137, 70)), (177, (1, mX9_tells), (1485, 1487, 137, 71)), (226, (1, mX9_begins), (1489, 1491, 137, 72)), (142, (1, mX9_goesOn), (1493, 1495, 137, 73)), (107, (1, mX9_isByte), (1497, 1499, 137, 74)), (209, (1, mX9_isGood), (1506, 1508, 137, 75)), (229, (1, mX9_marchLine), (1510, 1512, 137, 76)), (151, (1, mX9_asks), (1515, 1517, 137, 77)), (145, (1, mX9_takes), (1519, 1521, 137, 78)), (138, (1, mX9_is), (1523, 1525, 137, 79)), (148, (1, mX9_fails), (1527, 1529, 137, 80)), (174, (1, mX9_number_), (1532, 1534, 137, 81)), (155, (1, mX9_number), (1536, 1538, 137, 82)), (166, (1, mX9_placeHere), (1541, 1543, 137, 83)), (162, (1, mX9_hasRead), (1545, 1547, 137, 84)), (232, (1, mX9_line), (1551, 1553, 137, 85)), (193, (1, mX9_isRoom), (1556, 1558, 137, 86)), (197, (1, mX9_roadLine), (1560, 1562, 137, 87)), (202, (1, mX9_personLine), (1567, 1569, 137, 88)), (235, (1, mX9_lineEnds), (1578, 1580, 137, 89)), (238, (1, mX9_isOver), (1582, 1584, 137, 90)), (241, (1, mX9_copyMarch), (1586, 1588, 137, 91)), (244, (0, mX9_copyRow), (1590, 1591, 137, 0)), (344, (1, mX9_isPerson), (1602, 1604, 137, 92)), (248, (1, mX9_people), (1606, 1608, 137, 93)), (352, (1, mX9_arePlaces), (1615, 1617, 137, 94)), (349, (1, mX9_isPlace), (1619, 1621, 137, 95)), (336, (1, mX9_lays), (1623, 1625, 137, 96)), (306, (1, mX9_laysWays), (1627, 1629, 137, 97)), (280, (0, mX9_isBit), (1631, 1632, 137, 0)), (330, (1, mX9_nextOf), (1638, 1640, 137, 98)), (355, (1, mX9_isStep), (1650, 1652, 137, 99)), (251, (1, mX9_isMarch), (1654, 1656, 137, 100)), (358, (1, mX9_laysNow), (1659, 1661, 137, 101)), (339, (1, mX9_runs), (1663, 1665, 137, 102)), (315, (1, mX9_falls), (1667, 1669, 137, 103)), (287, (1, mX9_reasonOf), (1671, 1673, 137, 104)), (293, (0, mX9_sizeOf), (1675, 1676, 137, 0)), (318, (1, mX9_leave), (1678, 1680, 137, 105)), (299, (1, mX9_wantsOf), (1682, 1684, 137, 106)), (333, (1, mX9_turns), (1686, 1688, 137, 107)), (302, (1, mX9_votesFor), (1690, 1692, 137, 108)), (361, (1, mX9_firstAt), (1722, 1724, 137, 109)), (364, (1, mX9_roadOf), (1734, 1736, 137, 110)), (367, (1, mX9_peakOf), (1742, 1744, 137, 111)), (373, (1, mX9_stopsOf), (1822, 1824, 137, 112)), (370, (1, mX9_costOf), (1826, 1828, 137, 113)), (379, (1, mX9_endsOf), (1838, 1840, 137, 114)), (384, (1, mX9_contentOf), (1851, 1853, 137, 115)), (389, (1, mX9_shutsOf), (1864, 1866, 137, 116)), (392, (1, mX9_whyNotStarts), (1880, 1882, 137, 117)), (395, (1, mX9_startsOf), (1884, 1886, 137, 118)), (401, (1, mX9_shamsOf), (1900, 1902, 137, 119)), (398, (1, mX9_areBeside), (1904, 1906, 137, 120)), (416, (1, mX9_isRain), (1916, 1918, 137, 121)), (419, (0, mX9_isHalf), (1921, 1922, 137, 0)), (422, (1, mX9_rains), (1924, 1926, 137, 122)), (426, (1, mX9_told), (1928, 1930, 137, 123)), (410, (0, mX9_tens), (1932, 1933, 137, 0)), (404, (0, mX9_common), (1936, 1937, 137, 0)), (442, (1, mX9_isSeed), (1948, 1950, 137, 124)), (445, (1, mX9_draws), (1953, 1955, 137, 125)), (452, (1, mX9_acts), (1971, 1973, 137, 126))]
  | 10 => [(335, (1, mJ0_coder_7d493), (563, 564, 139, 565)), (492, (1, mJ0_isLatin1_aae02), (573, 574, 139, 575)), (495, (0, mJ1_charAt_3b067), (577, 578, 140, 0)), (1059, (0, mJ3_checkIndex_8e157), (585, 586, 141, 0)), (498, (0, mJ2_charAt_3b067), (588, 589, 142, 0))]
  | 11 => [(9, (0, mJ0_checkIndex_df160), (580, 581, 139, 0))]
  | 12 => [(67, (0, mJ2_checkIndex_2214a), (591, 592, 142, 0)), (48, (0, mJ2_length_9d52b), (594, 595, 142, 0)), (414, (0, mJ0_checkIndex_df160), (597, 581, 139, 0)), (71, (0, mJ2_getChar_3b067), (598, 599, 142, 0))]
  | 16 => [(13, (1, mX8_feed), (507, 508, 128, 509)), (18, (1, mX8_end), (515, 516, 128, 517)), (23, (1, mX8_march), (519, 520, 128, 521)), (28, (1, mX8_fault), (668, 669, 128, 670)), (32, (1, mX8_road), (672, 673, 128, 674)), (37, (1, mX8_person), (680, 681, 128, 682)), (276, (1, mX8_count), (688, 689, 128, 690)), (145, (1, mX8_crew), (696, 697, 128, 698)), (41, (1, mX8_way), (704, 705, 128, 706)), (45, (1, mX8_next), (815, 816, 128, 817)), (49, (1, mX8_reach), (820, 821, 128, 822)), (201, (1, mX8_cut), (824, 825, 128, 826)), (53, (1, mX8_at), (834, 835, 128, 836)), (57, (1, mX8_crowd), (846, 847, 128, 848)), (61, (1, mX8_votes), (850, 851, 128, 852)), (65, (1, mX8_joins), (866, 867, 128, 868)), (69, (1, mX8_leaves), (870, 871, 128, 872)), (73, (1, mX8_over), (874, 875, 128, 876)), (77, (1, mX8_why), (878, 879, 128, 880)), (81, (1, mX8_comes), (882, 883, 128, 884)), (85, (1, mX8_often), (893, 894, 128, 895)), (89, (1, mX8_paces), (897, 898, 128, 899)), (93, (1, mX8_most), (913, 914, 128, 915)), (97, (1, mX8_peak), (922, 923, 128, 924)), (101, (1, mX8_boards), (926, 927, 128, 928)), (105, (1, mX8_cause), (930, 931, 128, 932)), (109, (1, mX8_weighs), (938, 939, 128, 940)), (113, (1, mX8_splits), (942, 943, 128, 944)), (117, (1, mX8_carries), (946, 947, 128, 948)), (133, (1, mX8_turned), (950, 951, 128, 952)), (121, (1, mX8_parties), (954, 955, 128, 956)), (149, (1, mX8_eldest), (958, 959, 128, 960)), (125, (1, mX8_together), (962, 963, 128, 964)), (129, (1, mX8_walks), (966, 967, 128, 968)), (137, (1, mX8_loop), (970, 971, 128, 972)), (141, (1, mX8_farthest), (979, 980, 128, 981)), (153, (1, mX8_waits), (983, 984, 128, 985)), (157, (1, mX8_missed), (987, 988, 128, 989)), (161, (1, mX8_needed), (991, 992, 128, 993)), (165, (1, mX8_trap), (999, 1000, 128, 1001)), (169, (1, mX8_stop), (1007, 1008, 128, 1009)), (173, (1, mX8_stops), (1024, 1025, 128, 1026)), (177, (1, mX8_soonest), (1028, 1029, 128, 1030)), (181, (1, mX8_ends), (1040, 1041, 128, 1042)), (185, (1, mX8_content), (1044, 1045, 128, 1046)), (189, (1, mX8_buys), (1052, 1053, 128, 1054)), (193, (1, mX8_shut), (1056, 1057, 128, 1058)), (197, (1, mX8_shuts), (1068, 1069, 128, 1070)), (205, (1, mX8_starts), (1072, 1073, 128, 1074)), (209, (1, mX8_ask), (1099, 1100, 128, 1101)), (213, (1, mX8_rules), (1115, 1116, 128, 1117)), (217, (1, mX8_shams), (1131, 1132, 128, 1133)), (221, (1, mX8_shammers), (1148, 1149, 128, 1150)), (225, (1, mX8_chance), (1152, 1153, 128, 1154)), (230, (1, mX8_mean), (1183, 1184, 128, 1185)), (263, (1, mX8_drawn), (1187, 1188, 128, 1189)), (267, (1, mX8_luck), (1200, 1201, 128, 1202)), (235, (1, mX8_answer), (1204, 1205, 128, 1206)), (239, (1, mX8_bar), (1212, 1213, 128, 1214)), (243, (1, mX8_answered), (1216, 1217, 128, 1218)), (247, (1, mX8_barred), (1220, 1221, 128, 1222)), (251, (1, mX8_costs), (1224, 1225, 128, 1226)), (255, (1, mX8_undo), (1228, 1229, 128, 1230)), (259, (1, mX8_anew), (1236, 1237, 128, 1238)), (272, (1, mX8_need), (1240, 1241, 128, 1242)), (280, (1, mX8_image), (1244, 1245, 128, 1246)), (284, (1, mX8_back), (1253, 1254, 128, 1255)), (288, (1, mX8_row), (1257, 1258, 128, 1259)), (294, (1, mX8_write), (1268, 1269, 128, 1270)), (299, (1, mX8_paste), (1276, 1277, 128, 1278)), (291, (1, mX9_row), (1439, 1440, 137, 1441)), (298, (1, mX9_write), (1450, 1451, 137, 1452)), (302, (1, mX9_paste), (1457, 1458, 137, 1459)), (17, (1, mX9_feed), (1461, 1462, 137, 1463)), (22, (1, mX9_end), (1469, 1470, 137, 1471)), (31, (1, mX9_fault), (1473, 1474, 137, 1475)), (27, (1, mX9_march), (1477, 1478, 137, 1479)), (36, (1, mX9_road), (1593, 1594, 137, 1595)), (40, (1, mX9_person), (1598, 1599, 137, 1600)), (44, (1, mX9_way), (1611, 1612, 137, 1613)), (48, (1, mX9_next), (1634, 1635, 137, 1636)), (52, (1, mX9_reach), (1642, 1643, 137, 1644)), (56, (1, mX9_at), (1646, 1647, 137, 1648)), (60, (1, mX9_crowd), (1694, 1695, 137, 1696)), (64, (1, mX9_votes), (1698, 1699, 137, 1700)), (68, (1, mX9_joins), (1702, 1703, 137, 1704)), (72, (1, mX9_leaves), (1706, 1707, 137, 1708)), (76, (1, mX9_over), (1710, 1711, 137, 1712)), (80, (1, mX9_why), (1714, 1715, 137, 1716)), (84, (1, mX9_comes), (1718, 1719, 137, 1720)), (88, (1, mX9_often), (1726, 1727, 137, 1728)), (92, (1, mX9_paces), (1730, 1731, 137, 1732)), (96, (1, mX9_most), (1738, 1739, 137, 1740)), (100, (1, mX9_peak), (1746, 1747, 137, 1748)), (104, (1, mX9_boards), (1750, 1751, 137, 1752)), (108, (1, mX9_cause), (1754, 1755, 137, 1756)), (112, (1, mX9_weighs), (1758, 1759, 137, 1760)), (116, (1, mX9_splits), (1762, 1763, 137, 1764)), (120, (1, mX9_carries), (1766, 1767, 137, 1768)), (124, (1, mX9_parties), (1770, 1771, 137, 1772)), (128, (1, mX9_together), (1774, 1775, 137, 1776)), (132, (1, mX9_walks), (1778, 1779, 137, 1780)), (136, (1, mX9_turned), (1782, 1783, 137, 1784)), (140, (1, mX9_loop), (1786, 1787, 137, 1788)), (144, (1, mX9_farthest), (1790, 1791, 137, 1792)), (148, (1, mX9_crew), (1794, 1795, 137, 1796)), (152, (1, mX9_eldest), (1798, 1799, 137, 1800)), (156, (1, mX9_waits), (1802, 1803, 137, 1804)), (160, (1, mX9_missed), (1806, 1807, 137, 1808)), (164, (1, mX9_needed), (1810, 1811, 137, 1812)), (168, (1, mX9_trap), (1814, 1815, 137, 1816)), (172, (1, mX9_stop), (1818, 1819, 137, 1820)), (176, (1, mX9_stops), (1830, 1831, 137, 1832)), (180, (1, mX9_soonest), (1834, 1835, 137, 1836)), (184, (1, mX9_ends), (1842, 1843, 137, 1844)), (188, (1, mX9_content), (1846, 1847, 137, 1848)), (192, (1, mX9_buys), (1855, 1856, 137, 1857)), (196, (1, mX9_shut), (1860, 1861, 137, 1862)), (200, (1, mX9_shuts), (1868, 1869, 137, 1870)), (204, (1, mX9_cut_), (1872, 1873, 137, 1874)), (208, (1, mX9_starts), (1876, 1877, 137, 1878)), (212, (1, mX9_ask), (1888, 1889, 137, 1890)), (216, (1, mX9_rules), (1892, 1893, 137, 1894)), (220, (1, mX9_shams), (1896, 1897, 137, 1898)), (224, (1, mX9_shammers), (1908, 1909, 137, 1910)), (229, (1, mX9_chance), (1912, 1913, 137, 1914)), (234, (1, mX9_mean), (1940, 1941, 137, 1942)), (266, (1, mX9_drawn), (1944, 1945, 137, 1946)), (271, (1, mX9_luck), (1961, 1962, 137, 1963)), (238, (1, mX9_answer), (1966, 1967, 137, 1968)), (242, (1, mX9_bar), (1975, 1976, 137, 1977)), (246, (1, mX9_answered), (1979, 1980, 137, 1981)), (250, (1, mX9_barred), (1983, 1984, 137, 1985)), (254, (1, mX9_costs), (1987, 1988, 137, 1989)), (258, (1, mX9_undo), (1991, 1992, 137, 1993)), (262, (1, mX9_anew), (1995, 1996, 137, 1997)), (275, (1, mX9_need), (1999, 2000, 137, 2001)), (279, (1, mX9_count), (2004, 2005, 137, 2006)), (283, (1, mX9_image), (2009, 2010, 137, 2011)), (287, (1, mX9_back), (2013, 2014, 137, 2015))]
  | _ => []
def am_ml (own ix : Nat) : Option (Nat × AM) := ((am_mlT own).find? (fun e => e.1 == ix)).map (fun e => e.2.1)
def am_kcT : Nat → List (Nat × Int32 × Nat) := fun k => match k with
  | 7 => [(29, 1000000, 716)]
  | 8 => [(418, 2000000000, 1191)]
  | 9 => [(130, 100000, 1504), (131, 1000000, 1505)]
  | 14 => [(265, 1431655765, 772), (266, 858993459, 773), (267, 252645135, 774)]
  | _ => []
def am_kc (own ix : Nat) : Option Int32 := ((am_kcT own).find? (fun e => e.1 == ix)).map (fun e => e.2.1)
def am_klT : Nat → List (Nat × Int64 × Nat) := fun k => match k with
  | 8 => [(322, -1, 1088), (324, 60, 1089), (387, -2, 1164), (412, 10, 1176), (426, 1103515245, 1196), (428, 12345, 1197), (430, 2147483648, 1198), (432, 65536, 1199)]
  | 9 => [(83, 3, 1446), (124, -1, 1501), (126, 27, 1502), (128, 96, 1503), (213, 6941627, 1514), (215, 235981828, 1531), (217, 10492274, 1540), (219, 369932, 1549), (221, 298288, 1550), (191, 365260, 1555), (170, 555, 1564), (172, 247516, 1565), (200, 232608281, 1566), (181, 47, 1571), (183, 12253591, 1572), (185, 260971484, 1573), (187, 7542361, 1574), (189, 1359346, 1575), (205, 4075508, 1576), (207, 1903978, 1577), (342, 2, 1597), (347, 4, 1610), (254, 60, 1658), (382, 63, 1850), (387, 600, 1859), (414, 8, 1920), (408, 10, 1935), (430, -2, 1939), (440, 2000000000, 1952), (432, 1103515245, 1957), (434, 12345, 1958), (436, 2147483648, 1959), (438, 65536, 1960), (448, 20, 1965), (450, 5, 1970), (456, 9, 2003), (458, 6, 2008)]
  | 16 => [(292, 4294967295, 2017)]
  | _ => []
def am_kl (own ix : Nat) : Option Int64 := ((am_klT own).find? (fun e => e.1 == ix)).map (fun e => e.2.1)
def am_caT : Nat → List (Nat × Nat) := fun k => match k with
  | 0 => [(28, 1252)]
  | 3 => [(51, 661)]
  | 7 => [(62, 730)]
  | 8 => [(341, 1094)]
  | _ => []
def am_ca (own ix : Nat) : Bool := ((am_caT own).find? (fun e => e.1 == ix)).isSome
def am_mxT : Nat → List (Nat × Nat × Nat) := fun k => match k with
  | 4 => [(151, 1, 624)]
  | 6 => [(149, 0, 890)]
  | 7 => [(56, 1, 725)]
  | 8 => [(183, 1, 833), (269, 0, 978)]
  | _ => []
def am_mx (own ix : Nat) : Option Nat := ((am_mxT own).find? (fun e => e.1 == ix)).map (fun e => e.2.1)
def am_fsT : Nat → List (Nat × Nat × Nat) := fun k => match k with
  | 10 => [(9, 1, 2018), (15, 0, 2019)]
  | _ => []
def am_fs (own ix : Nat) : Option Nat := ((am_fsT own).find? (fun e => e.1 == ix)).map (fun e => e.2.1)
/-- the literals: entry, text, place -/
def am_strs : List (Nat × String × Nat) := [(72, "march", 550), (78, "places", 615), (86, "start", 627), (90, "rule", 628), (94, "odds", 629), (46, "road", 630), (104, "to", 635), (109, "long", 636), (55, "person", 637), (116, "at", 642), (118, "wants", 643), (120, "reason", 644), (122, "needs", 645), (124, "board", 646), (60, "grant", 647), (126, "costs", 652)]
def am_ks (own ix : Nat) : Option Nat := if own = 4 then am_strs.findIdx? (fun e => e.1 == ix) else none
def am_len : List Nat := [5, 6, 5, 4, 4, 4, 2, 4, 6, 2, 5, 6, 5, 5, 5, 5]
def am_byt : List (List Int32) := [[109, 97, 114, 99, 104], [112, 108, 97, 99, 101, 115], [115, 116, 97, 114, 116], [114, 117, 108, 101], [111, 100, 100, 115], [114, 111, 97, 100], [116, 111], [108, 111, 110, 103], [112, 101, 114, 115, 111, 110], [97, 116], [119, 97, 110, 116, 115], [114, 101, 97, 115, 111, 110], [110, 101, 101, 100, 115], [98, 111, 97, 114, 100], [103, 114, 97, 110, 116], [99, 111, 115, 116, 115]]
def am_gsT : List (Nat × Nat) := [(38, 567)]
def am_gs (own ix : Nat) : Bool := own == 10 && (am_gsT.find? (fun e => e.1 == ix)).isSome
/-- the kinds, by ids -/
def am_kds : List AK := [(9, 0, 0), (5, 0, 0), (20, 800, 0), (4, 0, 0), (24, 10, 3), (21, 3, 0), (21, 3, 0), (21, 3, 0), (21, 3, 0), (21, 3, 0), (21, 3, 0), (21, 3, 0), (21, 3, 0), (21, 3, 0), (21, 3, 0), (24, 8, 5), (21, 5, 0), (21, 5, 0), (21, 5, 0), (21, 5, 0), (21, 5, 0), (21, 5, 0), (21, 5, 0), (21, 5, 0), (21, 6, 0), (4, 0, 0), (24, 10, 3), (21, 3, 0), (21, 3, 0), (21, 3, 0), (21, 3, 0), (21, 3, 0), (21, 3, 0), (21, 3, 0), (21, 3, 0), (21, 3, 0), (21, 3, 0), (24, 8, 5), (21, 5, 0), (21, 5, 0), (21, 5, 0), (21, 5, 0), (21, 5, 0), (21, 5, 0), (21, 5, 0), (21, 5, 0), (21, 6, 0), (1, 0, 0), (21, 40, 0), (21, 40, 0), (25, 3, 26), (3, 0, 0), (4, 0, 0), (24, 10, 3), (21, 3, 0), (21, 3, 0), (21, 3, 0), (21, 3, 0), (21, 3, 0), (21, 3, 0), (21, 3, 0), (21, 3, 0), (21, 3, 0), (21, 3, 0), (24, 8, 5), (21, 5, 0), (21, 5, 0), (21, 5, 0), (21, 5, 0), (21, 5, 0), (21, 5, 0), (21, 5, 0), (21, 5, 0), (21, 6, 0), (1, 0, 0), (21, 40, 0), (21, 40, 0), (3, 0, 0), (4, 0, 0), (24, 10, 3), (21, 3, 0), (21, 3, 0), (21, 3, 0), (21, 3, 0), (21, 3, 0), (21, 3, 0), (21, 3, 0), (21, 3, 0), (21, 3, 0), (21, 3, 0), (24, 8, 5), (21, 5, 0), (21, 5, 0), (21, 5, 0), (21, 5, 0), (21, 5, 0), (21, 5, 0), (21, 5, 0), (21, 5, 0), (21, 6, 0), (1, 0, 0), (21, 40, 0), (21, 40, 0), (3, 0, 0), (4, 0, 0), (24, 10, 3), (21, 3, 0), (21, 3, 0), (21, 3, 0), (21, 3, 0), (21, 3, 0), (21, 3, 0), (21, 3, 0), (21, 3, 0), (21, 3, 0), (21, 3, 0), (24, 8, 5), (21, 5, 0), (21, 5, 0), (21, 5, 0), (21, 5, 0), (21, 5, 0), (21, 5, 0), (21, 5, 0), (21, 5, 0), (21, 6, 0), (1, 0, 0), (21, 40, 0), (21, 40, 0), (26, 4, 2), (6, 0, 0), (22, 60, 0), (6, 0, 0), (22, 60, 0), (6, 0, 0), (22, 60, 0), (6, 0, 0), (22, 60, 0), (8, 0, 0), (24, 7, 7), (21, 7, 0), (21, 7, 0), (21, 7, 0), (21, 7, 0), (21, 7, 0), (21, 7, 0), (21, 7, 0), (24, 7, 7), (21, 7, 0), (21, 7, 0), (21, 7, 0), (21, 7, 0), (21, 7, 0), (21, 7, 0), (21, 7, 0), (24, 7, 7), (21, 7, 0), (21, 7, 0), (21, 7, 0), (21, 7, 0), (21, 7, 0), (21, 7, 0), (21, 7, 0), (7, 0, 0), (21, 61, 0), (21, 61, 0), (21, 61, 0), (21, 8, 0), (21, 8, 0), (21, 8, 0), (21, 8, 0), (21, 7, 0), (2, 0, 0), (8, 0, 0), (24, 7, 7), (21, 7, 0), (21, 7, 0), (21, 7, 0), (21, 7, 0), (21, 7, 0), (21, 7, 0), (21, 7, 0), (24, 7, 7), (21, 7, 0), (21, 7, 0), (21, 7, 0), (21, 7, 0), (21, 7, 0), (21, 7, 0), (21, 7, 0), (24, 7, 7), (21, 7, 0), (21, 7, 0), (21, 7, 0), (21, 7, 0), (21, 7, 0), (21, 7, 0), (21, 7, 0), (7, 0, 0), (21, 61, 0), (21, 61, 0), (21, 61, 0), (21, 8, 0), (21, 8, 0), (21, 8, 0), (21, 8, 0), (21, 7, 0), (24, 7, 8), (21, 8, 0), (21, 8, 0), (21, 8, 0), (21, 8, 0), (21, 8, 0), (21, 8, 0), (21, 8, 0), (10, 0, 0), (21, 4, 0), (21, 4, 0), (22, 240, 0), (22, 60, 0), (20, 800, 0), (21, 5, 0), (21, 35, 0), (21, 150, 0), (21, 200, 0), (21, 30, 0), (21, 600, 0), (23, 3, 0), (21, 49, 0), (21, 61, 0), (21, 61, 0), (21, 61, 0), (21, 488, 0), (21, 8, 0), (21, 8, 0), (21, 8, 0), (21, 62, 0)]
def am_kd (i : Nat) : AK := am_kds.getD i (0, 0, 0)
def am_n : Nat := 237
/-- what a field is: 0 int, 1 long, 2 a fixed cell (how far, its kind), 3 ways that change, 4 boolean -/
def am_ftL : List (List (Nat × Nat × AK)) := [[(0, 0, (0, 0, 0)), (0, 0, (0, 0, 0)), (0, 0, (0, 0, 0)), (2, 1, (21, 40, 0)), (2, 2, (21, 40, 0))], [(0, 0, (0, 0, 0)), (0, 0, (0, 0, 0)), (0, 0, (0, 0, 0)), (0, 0, (0, 0, 0)), (0, 0, (0, 0, 0)), (0, 0, (0, 0, 0)), (1, 0, (0, 0, 0)), (3, 0, (0, 0, 0)), (3, 0, (0, 0, 0)), (0, 0, (0, 0, 0)), (0, 0, (0, 0, 0)), (0, 0, (0, 0, 0)), (0, 0, (0, 0, 0))], [(4, 0, (0, 0, 0)), (2, 1, (4, 0, 0)), (2, 23, (1, 0, 0))], [(0, 0, (0, 0, 0)), (0, 0, (0, 0, 0)), (0, 0, (0, 0, 0)), (0, 0, (0, 0, 0)), (0, 0, (0, 0, 0)), (0, 0, (0, 0, 0)), (0, 0, (0, 0, 0)), (2, 1, (24, 10, 3)), (2, 12, (24, 8, 5)), (2, 21, (21, 6, 0))], [(0, 0, (0, 0, 0)), (0, 0, (0, 0, 0)), (2, 1, (20, 800, 0)), (0, 0, (0, 0, 0)), (0, 0, (0, 0, 0)), (0, 0, (0, 0, 0))], [(4, 0, (0, 0, 0)), (0, 0, (0, 0, 0)), (0, 0, (0, 0, 0)), (2, 1, (22, 60, 0))], [(2, 1, (21, 61, 0)), (2, 2, (21, 61, 0)), (2, 3, (21, 61, 0)), (2, 4, (21, 8, 0)), (2, 5, (21, 8, 0)), (2, 6, (21, 8, 0)), (0, 0, (0, 0, 0)), (0, 0, (0, 0, 0)), (0, 0, (0, 0, 0)), (0, 0, (0, 0, 0)), (0, 0, (0, 0, 0)), (0, 0, (0, 0, 0)), (2, 7, (21, 8, 0)), (2, 8, (21, 7, 0))], [(0, 0, (0, 0, 0)), (2, 1, (24, 7, 7)), (2, 9, (24, 7, 7)), (2, 17, (24, 7, 7))], [(2, 2, (20, 800, 0)), (0, 0, (0, 0, 0)), (2, 1, (5, 0, 0)), (2, 3, (4, 0, 0)), (2, 25, (4, 0, 0)), (2, 47, (1, 0, 0)), (2, 50, (25, 3, 26)), (2, 129, (26, 4, 2)), (4, 0, (0, 0, 0)), (2, 138, (8, 0, 0)), (2, 163, (7, 0, 0)), (2, 172, (2, 0, 0)), (2, 173, (8, 0, 0)), (2, 198, (7, 0, 0)), (2, 207, (24, 7, 8))], [(0, 0, (0, 0, 0)), (2, 1, (21, 4, 0)), (2, 2, (21, 4, 0)), (2, 3, (22, 240, 0)), (2, 4, (22, 60, 0)), (2, 5, (20, 800, 0)), (0, 0, (0, 0, 0)), (0, 0, (0, 0, 0)), (0, 0, (0, 0, 0)), (0, 0, (0, 0, 0)), (0, 0, (0, 0, 0)), (1, 0, (0, 0, 0)), (0, 0, (0, 0, 0)), (0, 0, (0, 0, 0)), (0, 0, (0, 0, 0)), (0, 0, (0, 0, 0)), (2, 6, (21, 5, 0)), (2, 7, (21, 35, 0)), (2, 8, (21, 150, 0)), (2, 9, (21, 200, 0)), (2, 10, (21, 30, 0)), (2, 11, (21, 600, 0)), (2, 12, (23, 3, 0)), (0, 0, (0, 0, 0)), (0, 0, (0, 0, 0)), (0, 0, (0, 0, 0)), (0, 0, (0, 0, 0)), (0, 0, (0, 0, 0)), (0, 0, (0, 0, 0)), (0, 0, (0, 0, 0)), (0, 0, (0, 0, 0)), (0, 0, (0, 0, 0)), (0, 0, (0, 0, 0)), (1, 0, (0, 0, 0)), (2, 13, (21, 49, 0)), (2, 14, (21, 61, 0)), (2, 15, (21, 61, 0)), (2, 16, (21, 61, 0)), (2, 17, (21, 488, 0)), (2, 18, (21, 8, 0)), (2, 19, (21, 8, 0)), (2, 20, (21, 8, 0)), (0, 0, (0, 0, 0)), (0, 0, (0, 0, 0)), (0, 0, (0, 0, 0)), (0, 0, (0, 0, 0)), (0, 0, (0, 0, 0)), (0, 0, (0, 0, 0)), (2, 21, (21, 62, 0))]]
def am_ft (ci f : Nat) : Nat × Nat × AK := (am_ftL.getD ci []).getD f (0, 0, (0, 0, 0))
-- nest [('MarchFolk$Ways', 39, 'X8_holds', 'MarchFolk'), ('MarchFolk$Walk', 110, 'X8_holds', 'MarchFolk'), ('MarchFolk$Plan', 57, 'X8_holds', 'MarchFolk')]
end
section
/-! THE ABSTRACT MACHINE: values with ids in place of addresses, a state of numbers, one step as a predicate transformer. -/
abbrev AS : Type := (Nat → Nat → Int32) × (Nat → Nat → Int64)
abbrev AL : Type := List (Nat × AV)
abbrev AP : Type := AM → List AV → AS → AS → Option AV → Prop
def am_cat : AV → Nat
  | .inr (.inl _) => 2
  | _ => 1
def ac_v (ad sd : Nat → Nat) : AV → Value
  | .inl x => .int x
  | .inr (.inl x) => .long x
  | .inr (.inr (k, i)) => if k.1 = 0 then .null else if k.1 = 11 then .ref (sd i) else if k.1 = 12 then (if i = 0 then .null else .ref (ad i)) else .ref (ad i)
theorem ac_cat (ad sd : Nat → Nat) (v : AV) : (ac_v ad sd v).category = am_cat v := by
  rcases v with x | x | ⟨k, i⟩
  · rfl
  · rfl
  · simp only [ac_v, am_cat]
    split
    · rfl
    · split
      · rfl
      · split
        · split <;> rfl
        · rfl
abbrev ac_l (ad sd : Nat → Nat) (lv : AL) : List (Nat × Value) := lv.map (fun q => (q.1, ac_v ad sd q.2))
def am_loc (lv : AL) (n : Nat) : Option AV := (lv.find? (fun q => q.1 == n)).map (fun q => q.2)
theorem am_loc_mem {lv : AL} {n : Nat} {v : AV} (h : am_loc lv n = some v) : (n, v) ∈ lv := by
  unfold am_loc at h
  cases hf : lv.find? (fun q => q.1 == n) with
  | none => rw [hf] at h; cases h
  | some q =>
    rw [hf] at h
    have h1 := List.mem_of_find?_eq_some hf
    have h2 := List.find?_some hf
    simp only [beq_iff_eq] at h2
    cases h
    rw [← h2]
    exact h1
def am_st1 (lv : AL) (n : Nat) (v : AV) : AL := (n, v) :: lv.filter (fun q => !(q.1 == n) && !(q.1 + 1 == n && am_cat q.2 == 2))
def am_st2 (lv : AL) (n : Nat) (v : AV) : AL := (n, v) :: lv.filter (fun q => !(q.1 == n) && (!(q.1 == n + 1) && !(q.1 + 1 == n && am_cat q.2 == 2)))
theorem ac_st1 (ad sd : Nat → Nat) (lv : AL) (n : Nat) (v : AV) : (n, ac_v ad sd v) :: (ac_l ad sd lv).filter (fun q => !(q.1 == n) && !(q.1 + 1 == n && q.2.category == 2)) = ac_l ad sd (am_st1 lv n v) := by
  simp only [ac_l, am_st1, List.map_cons, List.filter_map]
  congr 2
  apply List.filter_congr
  intro q _
  simp [Function.comp, ac_cat]
theorem ac_st2 (ad sd : Nat → Nat) (lv : AL) (n : Nat) (v : AV) : (n, ac_v ad sd v) :: (ac_l ad sd lv).filter (fun q => !(q.1 == n) && (!(q.1 == n + 1) && !(q.1 + 1 == n && q.2.category == 2))) = ac_l ad sd (am_st2 lv n v) := by
  simp only [ac_l, am_st2, List.map_cons, List.filter_map]
  congr 2
  apply List.filter_congr
  intro q _
  simp [Function.comp, ac_cat]
theorem am_st1_mem {lv : AL} {n : Nat} {v : AV} {q : Nat × AV} (h : q ∈ am_st1 lv n v) : q = (n, v) ∨ q ∈ lv := by
  rcases List.mem_cons.mp h with h | h
  · exact Or.inl h
  · exact Or.inr (List.mem_filter.mp h).1
theorem am_st2_mem {lv : AL} {n : Nat} {v : AV} {q : Nat × AV} (h : q ∈ am_st2 lv n v) : q = (n, v) ∨ q ∈ lv := by
  rcases List.mem_cons.mp h with h | h
  · exact Or.inl h
  · exact Or.inr (List.mem_filter.mp h).1
def am_ic : Int → Int32
  | .ofNat k => Int32.ofNat k
  | .negSucc k => -(Int32.ofNat (k + 1))
theorem am_ic_eq (n : Int) : Int32.ofInt n = am_ic n := by
  cases n with
  | ofNat k => rfl
  | negSucc k =>
    show Int32.ofInt (Int.negSucc k) = -(Int32.ofNat (k + 1))
    rw [Int.negSucc_eq, Int32.ofInt_neg]
    rfl
-- the stack
def am_gi (lv : AL) (n : Nat) (k : Int32 → Prop) : Prop := match am_loc lv n with
  | some (.inl x) => k x
  | _ => False
def am_gl (lv : AL) (n : Nat) (k : Int64 → Prop) : Prop := match am_loc lv n with
  | some (.inr (.inl x)) => k x
  | _ => False
def am_gr (lv : AL) (n : Nat) (k : AK → Nat → Prop) : Prop := match am_loc lv n with
  | some (.inr (.inr (t, i))) => k t i
  | _ => False
def am_i1 (st : List AV) (k : Int32 → List AV → Prop) : Prop := match st with
  | .inl x :: r => k x r
  | _ => False
def am_l1 (st : List AV) (k : Int64 → List AV → Prop) : Prop := match st with
  | .inr (.inl x) :: r => k x r
  | _ => False
def am_r1 (st : List AV) (k : AK → Nat → List AV → Prop) : Prop := match st with
  | .inr (.inr (t, i)) :: r => k t i r
  | _ => False
def am_i2 (st : List AV) (k : Int32 → Int32 → List AV → Prop) : Prop := am_i1 st fun y r => am_i1 r fun x r => k x y r
def am_l2 (st : List AV) (k : Int64 → Int64 → List AV → Prop) : Prop := am_l1 st fun y r => am_l1 r fun x r => k x y r
theorem am_gi_of {lv : AL} {n : Nat} {k : Int32 → Prop} (h : am_gi lv n k) : ∃ x, (n, (.inl x : AV)) ∈ lv ∧ k x := by
  unfold am_gi at h
  split at h
  · rename_i x hx; exact ⟨x, am_loc_mem hx, h⟩
  · exact h.elim
theorem am_gl_of {lv : AL} {n : Nat} {k : Int64 → Prop} (h : am_gl lv n k) : ∃ x, (n, (.inr (.inl x) : AV)) ∈ lv ∧ k x := by
  unfold am_gl at h
  split at h
  · rename_i x hx; exact ⟨x, am_loc_mem hx, h⟩
  · exact h.elim
theorem am_gr_of {lv : AL} {n : Nat} {k : AK → Nat → Prop} (h : am_gr lv n k) : ∃ t i, (n, (.inr (.inr (t, i)) : AV)) ∈ lv ∧ k t i := by
  unfold am_gr at h
  split at h
  · rename_i t i hx; exact ⟨t, i, am_loc_mem hx, h⟩
  · exact h.elim
theorem am_i1_of {st : List AV} {k : Int32 → List AV → Prop} (h : am_i1 st k) : ∃ x r, st = .inl x :: r ∧ k x r := by
  unfold am_i1 at h
  split at h
  · exact ⟨_, _, rfl, h⟩
  · exact h.elim
theorem am_l1_of {st : List AV} {k : Int64 → List AV → Prop} (h : am_l1 st k) : ∃ x r, st = .inr (.inl x) :: r ∧ k x r := by
  unfold am_l1 at h
  split at h
  · exact ⟨_, _, rfl, h⟩
  · exact h.elim
theorem am_r1_of {st : List AV} {k : AK → Nat → List AV → Prop} (h : am_r1 st k) : ∃ t i r, st = .inr (.inr (t, i)) :: r ∧ k t i r := by
  unfold am_r1 at h
  split at h
  · exact ⟨_, _, _, rfl, h⟩
  · exact h.elim
theorem am_i2_of {st : List AV} {k : Int32 → Int32 → List AV → Prop} (h : am_i2 st k) : ∃ x y r, st = .inl y :: .inl x :: r ∧ k x y r := by
  obtain ⟨y, r1, e1, h1⟩ := am_i1_of h
  obtain ⟨x, r2, e2, h2⟩ := am_i1_of h1
  exact ⟨x, y, r2, by rw [e1, e2], h2⟩
theorem am_l2_of {st : List AV} {k : Int64 → Int64 → List AV → Prop} (h : am_l2 st k) : ∃ x y r, st = .inr (.inl y) :: .inr (.inl x) :: r ∧ k x y r := by
  obtain ⟨y, r1, e1, h1⟩ := am_l1_of h
  obtain ⟨x, r2, e2, h2⟩ := am_l1_of h1
  exact ⟨x, y, r2, by rw [e1, e2], h2⟩
def am_tg (pc : Nat) (off : Int) : Nat := ((pc : Int) + off).toNat
def am_cz (c : ClassFile.Cond) (x : Int32) (A B : Prop) : Prop := match c with
  | .eq => (x = 0 → A) ∧ (¬ x = 0 → B)
  | .ne => (¬ x = 0 → A) ∧ (x = 0 → B)
  | .lt => (x < 0 → A) ∧ (¬ x < 0 → B)
  | .ge => (0 ≤ x → A) ∧ (¬ 0 ≤ x → B)
  | .gt => (0 < x → A) ∧ (¬ 0 < x → B)
  | .le => (x ≤ 0 → A) ∧ (¬ x ≤ 0 → B)
def am_cc (c : ClassFile.Cond) (x y : Int32) (A B : Prop) : Prop := match c with
  | .eq => (x = y → A) ∧ (¬ x = y → B)
  | .ne => (¬ x = y → A) ∧ (x = y → B)
  | .lt => (x < y → A) ∧ (¬ x < y → B)
  | .ge => (y ≤ x → A) ∧ (¬ y ≤ x → B)
  | .gt => (y < x → A) ∧ (¬ y < x → B)
  | .le => (x ≤ y → A) ∧ (¬ x ≤ y → B)
/-- a tableswitch, key by key -/
def am_tw (x : Int32) (Y : Int → Prop) (d : Int) : Int → List Int → Prop
  | _, [] => Y d
  | k, o :: os => (x = am_ic k → Y o) ∧ (¬ x = am_ic k → am_tw x Y d (k + 1) os)
def am_lw (x : Int32) (Y : Int → Prop) (d : Int) : List (Int × Int) → Prop
  | [] => Y d
  | (k, o) :: os => (x = am_ic k → Y o) ∧ (¬ x = am_ic k → am_lw x Y d os)
def am_pop : Nat → List AV → List AV → Option (List AV × List AV)
  | 0, as, st => some (as, st)
  | n + 1, as, v :: st => am_pop n (v :: as) st
  | _ + 1, _, [] => none
theorem am_pop_of : ∀ {n : Nat} {as st bs r : List AV}, am_pop n as st = some (bs, r) → ∃ cs, bs = cs ++ as ∧ st = cs.reverse ++ r ∧ cs.length = n
  | 0, as, st, bs, r, h => by cases h; exact ⟨[], rfl, rfl, rfl⟩
  | n + 1, as, [], bs, r, h => by cases h
  | n + 1, as, v :: st, bs, r, h => by
    obtain ⟨cs, h1, h2, h3⟩ := am_pop_of (n := n) (as := v :: as) (st := st) h
    exact ⟨cs ++ [v], by rw [h1]; simp, by rw [h2]; simp, by simp [h3]⟩
-- the state
def am_u2 {α : Type} (f : Nat → α) (i : Nat) (g : α) : Nat → α := fun a => if a = i then g else f a
def am_si (σ : AS) (i k : Nat) (x : Int32) : AS := (am_u2 σ.1 i (upd (σ.1 i) k x), σ.2)
def am_sj (σ : AS) (i k : Nat) (x : Int64) : AS := (σ.1, am_u2 σ.2 i (vp_updL (σ.2 i) k x))
def am_sr (σ : AS) (i : Nat) (g : Nat → Int32) : AS := (am_u2 σ.1 i g, σ.2)
def am_srj (σ : AS) (i : Nat) (g : Nat → Int64) : AS := (σ.1, am_u2 σ.2 i g)
def am_sh32 (x y : Int32) : Int32 := (x.toUInt32 >>> (y.toUInt32 &&& Int32.toUInt32 31)).toInt32
def am_bl (x : Int32) : Prop := x = 0 ∨ x = 1

/-- what a reference is good for -/
def am_nn (t : AK) (i : Nat) (A : Prop) : Prop := match t.1 with
  | 0 => False
  | 12 => ¬ i = 0 ∧ A
  | _ => A
def am_gf (e : Nat × Nat × AK) (o f : Nat) (σ : AS) (k : AV → Prop) : Prop := match e.1 with
  | 0 => k (.inl (σ.1 o f))
  | 4 => k (.inl (σ.1 o f))
  | 1 => k (.inr (.inl (σ.2 o f)))
  | 2 => k (.inr (.inr (e.2.2, o + e.2.1)))
  | _ => k (.inr (.inr ((12, 0, 0), (σ.1 o f).toNatClampNeg)))
def am_pf (e : Nat × Nat × AK) (v : AV) (o f : Nat) (σ : AS) (k : AS → Prop) : Prop := match e.1, v with
  | 0, .inl x => k (am_si σ o f x)
  | 4, .inl x => am_bl x ∧ k (am_si σ o f x)
  | 1, .inr (.inl x) => k (am_sj σ o f x)
  | 3, .inr (.inr (t, i)) => (match t.1 with
    | 8 => k (am_si σ o f (Int32.ofNat i))
    | 12 => k (am_si σ o f (Int32.ofNat i))
    | _ => False)
  | _, _ => False
def am_rn (rt : Option FieldType) (v : Int32) (A : Prop) : Prop := match rt with
  | some .int => A
  | some .boolean => am_bl v ∧ A
  | some .byte => vp_nar .byte v = v ∧ A
  | some .char => vp_nar .char v = v ∧ A
  | _ => False
def am_aa (t : AK) (a : Nat) (i : Int32) (k : AV → Prop) : Prop := match t.1 with
  | 24 => k (.inr (.inr ((21, t.2.2, 0), a + 1 + i.toNatClampNeg)))
  | 25 => k (.inr (.inr ((3, 0, 0), a + 1 + t.2.2 * i.toNatClampNeg)))
  | 26 => k (.inr (.inr ((6, 0, 0), a + 1 + t.2.2 * i.toNatClampNeg)))
  | _ => False
/-- arraycopy of ints or longs -/
def am_cp (t u : AK) (a b : Nat) (sp dp n : Int32) (σ : AS) (k : AS → Prop) : Prop := (¬ sp < 0 ∧ ¬ dp < 0 ∧ ¬ n < 0 ∧ sp.toNatClampNeg + n.toNatClampNeg ≤ t.2.1 ∧ dp.toNatClampNeg + n.toNatClampNeg ≤ u.2.1) ∧ match t.1, u.1 with
  | 21, 21 => k (am_sr σ b (va_cpy (σ.1 a) (σ.1 b) sp.toNatClampNeg dp.toNatClampNeg n.toNatClampNeg))
  | 22, 22 => k (am_srj σ b (va_cpy (σ.2 a) (σ.2 b) sp.toNatClampNeg dp.toNatClampNeg n.toNatClampNeg))
  | _, _ => False
def am_rcb (t : AK) (m : AM) : Bool := match t.1 with
  | 11 => m.1 == 10 && t.2.1 == 0
  | 12 => m.1 == 7
  | k => k == m.1 + 1 && decide (m.1 < 10)
def am_rk (t : AK) : AK := match t.1 with
  | 12 => (8, 0, 0)
  | _ => t
def am_cl1 (P : AP) (m : AM) (as : List AV) (σ : AS) (k : Option AV → AS → Prop) : Prop := ∃ (σ' : AS) (v : Option AV), P m as σ σ' v ∧ k v σ'
def am_ivs (M : AM) (P : AP) (X : Nat → AL → List AV → AS → Prop) (ix pc : Nat) (lv : AL) (st : List AV) (σ : AS) : Prop :=
  (match am_ml M.1 ix with
    | some (0, m) => (match am_pop m.2.2.2.2.2.1 [] st with
      | some (as, r) => Nat.ble (r.map am_cat).sum 8 = true ∧ am_cl1 P m as σ fun v σ' => X (pc + 3) lv (v.toList ++ r) σ'
      | none => False)
    | some (2, m) => (match am_pop m.2.2.2.2.2.1 [] st with
      | some (as, r) => Nat.ble (r.map am_cat).sum 8 = true ∧ am_cl1 P m as σ fun v σ' => X (pc + 3) lv (v.toList ++ r) σ'
      | none => False)
    | some _ => False
    | none => match am_mx M.1 ix with
      | some 0 => am_i2 st fun x y r => Nat.ble (r.map am_cat).sum 8 = true ∧ X (pc + 3) lv (.inl (if x < y then y else x) :: r) σ
      | some 1 => am_i2 st fun x y r => Nat.ble (r.map am_cat).sum 8 = true ∧ X (pc + 3) lv (.inl (if y < x then y else x) :: r) σ
      | some _ => False
      | none => am_ca M.1 ix = true ∧ am_i1 st fun n r => am_i1 r fun dp r => am_r1 r fun u b r => am_i1 r fun sp r => am_r1 r fun t a r => Nat.ble (r.map am_cat).sum 8 = true ∧ am_cp t u a b sp dp n σ fun σ' => X (pc + 3) lv r σ')
def am_ivv (M : AM) (P : AP) (X : Nat → AL → List AV → AS → Prop) (ix pc : Nat) (lv : AL) (st : List AV) (σ : AS) : Prop :=
  (match am_ml M.1 ix with
    | some (1, m) => (match am_pop m.2.2.2.2.2.1 [] st with
      | some (as, .inr (.inr (t, o)) :: r) => Nat.ble (r.map am_cat).sum 8 = true ∧ am_rcb t m = true ∧ am_nn t o (am_cl1 P m (.inr (.inr (am_rk t, o)) :: as) σ fun v σ' => X (pc + 3) lv (v.toList ++ r) σ')
      | _ => False)
    | _ => False)
def am_1 (M : AM) (P : AP) (fin : Option AV → AS → Prop) (X : Nat → AL → List AV → AS → Prop) (i : Instr) (pc : Nat) (lv : AL) (st : List AV) (σ : AS) : Prop :=
  match i with
  | .iconst n => X (pc + 1) lv (.inl (am_ic n) :: st) σ
  | .bipush n => X (pc + 2) lv (.inl (am_ic n) :: st) σ
  | .sipush n => X (pc + 3) lv (.inl (am_ic n) :: st) σ
  | .lconst n => X (pc + 1) lv (.inr (.inl (Int64.ofNat n)) :: st) σ
  | .ldc ix => (match am_kc M.1 ix with
    | some v => X (pc + 2) lv (.inl v :: st) σ
    | none => match am_ks M.1 ix with
      | some q => X (pc + 2) lv (.inr (.inr ((11, 0, 0), q)) :: st) σ
      | none => False)
  | .ldc_w ix => (match am_kc M.1 ix with
    | some v => X (pc + 3) lv (.inl v :: st) σ
    | none => False)
  | .ldc2_w ix => (match am_kl M.1 ix with
    | some v => X (pc + 3) lv (.inr (.inl v) :: st) σ
    | none => False)
  | .iload_n n => am_gi lv n fun x => X (pc + 1) lv (.inl x :: st) σ
  | .iload n => am_gi lv n fun x => X (pc + 2) lv (.inl x :: st) σ
  | .lload_n n => am_gl lv n fun x => X (pc + 1) lv (.inr (.inl x) :: st) σ
  | .lload n => am_gl lv n fun x => X (pc + 2) lv (.inr (.inl x) :: st) σ
  | .aload_n n => am_gr lv n fun t o => am_nn t o (X (pc + 1) lv (.inr (.inr (t, o)) :: st) σ)
  | .aload n => am_gr lv n fun t o => am_nn t o (X (pc + 2) lv (.inr (.inr (t, o)) :: st) σ)
  | .istore_n n => am_i1 st fun x r => X (pc + 1) (am_st1 lv n (.inl x)) r σ
  | .istore n => am_i1 st fun x r => X (pc + 2) (am_st1 lv n (.inl x)) r σ
  | .lstore_n n => am_l1 st fun x r => X (pc + 1) (am_st2 lv n (.inr (.inl x))) r σ
  | .lstore n => am_l1 st fun x r => X (pc + 2) (am_st2 lv n (.inr (.inl x))) r σ
  | .astore_n n => am_r1 st fun t o r => am_nn t o (X (pc + 1) (am_st1 lv n (.inr (.inr (t, o)))) r σ)
  | .astore n => am_r1 st fun t o r => am_nn t o (X (pc + 2) (am_st1 lv n (.inr (.inr (t, o)))) r σ)
  | .iinc n c => am_gi lv n fun x => X (pc + 3) (am_st1 lv n (.inl (x + am_ic c))) st σ
  | .dup => (match st with
    | .inl x :: r => X (pc + 1) lv (.inl x :: .inl x :: r) σ
    | .inr (.inr q) :: r => X (pc + 1) lv (.inr (.inr q) :: .inr (.inr q) :: r) σ
    | _ => False)
  | .dup2 => (match st with
    | .inl x :: .inr (.inr q) :: r => X (pc + 1) lv (.inl x :: .inr (.inr q) :: .inl x :: .inr (.inr q) :: r) σ
    | _ => False)
  | .pop => am_i1 st fun _ r => X (pc + 1) lv r σ
  | .iadd => am_i2 st fun x y r => X (pc + 1) lv (.inl (x + y) :: r) σ
  | .isub => am_i2 st fun x y r => X (pc + 1) lv (.inl (x - y) :: r) σ
  | .imul => am_i2 st fun x y r => X (pc + 1) lv (.inl (x * y) :: r) σ
  | .idiv => am_i2 st fun x y r => ¬ y = 0 ∧ X (pc + 1) lv (.inl (x / y) :: r) σ
  | .irem => am_i2 st fun x y r => ¬ y = 0 ∧ X (pc + 1) lv (.inl (x - x / y * y) :: r) σ
  | .ishl => am_i2 st fun x y r => X (pc + 1) lv (.inl (x <<< (y &&& 31)) :: r) σ
  | .ishr => am_i2 st fun x y r => X (pc + 1) lv (.inl (x >>> (y &&& 31)) :: r) σ
  | .iushr => am_i2 st fun x y r => X (pc + 1) lv (.inl (am_sh32 x y) :: r) σ
  | .iand => am_i2 st fun x y r => X (pc + 1) lv (.inl (x &&& y) :: r) σ
  | .ior => am_i2 st fun x y r => X (pc + 1) lv (.inl (x ||| y) :: r) σ
  | .ixor => am_i2 st fun x y r => X (pc + 1) lv (.inl (x ^^^ y) :: r) σ
  | .ladd => am_l2 st fun x y r => X (pc + 1) lv (.inr (.inl (x + y)) :: r) σ
  | .lsub => am_l2 st fun x y r => X (pc + 1) lv (.inr (.inl (x - y)) :: r) σ
  | .lmul => am_l2 st fun x y r => X (pc + 1) lv (.inr (.inl (x * y)) :: r) σ
  | .ldiv => am_l2 st fun x y r => ¬ y = 0 ∧ X (pc + 1) lv (.inr (.inl (x / y)) :: r) σ
  | .lrem => am_l2 st fun x y r => ¬ y = 0 ∧ X (pc + 1) lv (.inr (.inl (x - x / y * y)) :: r) σ
  | .land => am_l2 st fun x y r => X (pc + 1) lv (.inr (.inl (x &&& y)) :: r) σ
  | .lor => am_l2 st fun x y r => X (pc + 1) lv (.inr (.inl (x ||| y)) :: r) σ
  | .lshl => am_i1 st fun y r => am_l1 r fun x r => X (pc + 1) lv (.inr (.inl (x <<< (y.toInt64 &&& 63))) :: r) σ
  | .lshr => am_i1 st fun y r => am_l1 r fun x r => X (pc + 1) lv (.inr (.inl (x >>> (y.toInt64 &&& 63))) :: r) σ
  | .i2l => am_i1 st fun x r => X (pc + 1) lv (.inr (.inl x.toInt64) :: r) σ
  | .l2i => am_l1 st fun x r => X (pc + 1) lv (.inl x.toInt32 :: r) σ
  | .i2b => am_i1 st fun x r => X (pc + 1) lv (.inl x.toInt8.toInt32 :: r) σ
  | .i2s => am_i1 st fun x r => X (pc + 1) lv (.inl x.toInt16.toInt32 :: r) σ
  | .lcmp => am_l2 st fun x y r => X (pc + 1) lv (.inl (lg_cmp x y) :: r) σ
  | .ifCond c off => am_i1 st fun x r => am_cz c x (X (am_tg pc off) lv r σ) (X (pc + 3) lv r σ)
  | .if_icmp c off => am_i2 st fun x y r => am_cc c x y (X (am_tg pc off) lv r σ) (X (pc + 3) lv r σ)
  | .goto off => X (am_tg pc off) lv st σ
  | .tableswitch d lo _ offs => am_i1 st fun x r => am_tw x (fun o => X (am_tg pc o) lv r σ) d lo offs.toList
  | .lookupswitch d ps => am_i1 st fun x r => am_lw x (fun o => X (am_tg pc o) lv r σ) d ps.toList
  | .ifnull off => am_r1 st fun t i r => (match t.1 with
    | 12 => (i = 0 → X (am_tg pc off) lv r σ) ∧ (¬ i = 0 → X (pc + 3) lv r σ)
    | _ => False)
  | .getstatic ix => am_gs M.1 ix = true ∧ X (pc + 3) lv (.inl 1 :: st) σ
  | .i2c => am_i1 st fun x r => X (pc + 1) lv (.inl (x.toUInt32 % 65536).toInt32 :: r) σ
  | .getfield ix => am_r1 st fun t o r => (match am_fl M.1 ix with
    | some (ci, f) => t.1 = ci + 1 ∧ am_gf (am_ft ci f) o f σ (fun v => X (pc + 3) lv (v :: r) σ)
    | none => match am_fs M.1 ix with
      | some 0 => t = (11, 0, 0) ∧ X (pc + 3) lv (.inl 0 :: r) σ
      | some 1 => t = (11, 0, 0) ∧ X (pc + 3) lv (.inr (.inr ((11, 1, 0), o + 16)) :: r) σ
      | some _ => False
      | none => False)
  | .putfield ix => (match st with
    | v :: st' => am_r1 st' fun t o r => (match am_fl M.1 ix with
      | some (ci, f) => t.1 = ci + 1 ∧ am_pf (am_ft ci f) v o f σ (fun σ' => X (pc + 3) lv r σ')
      | none => False)
    | [] => False)
  | .iaload => am_i1 st fun i r => am_r1 r fun t a r => t.1 = 21 ∧ vp_in i t.2.1 ∧ X (pc + 1) lv (.inl (σ.1 a i.toNatClampNeg) :: r) σ
  | .baload => am_i1 st fun i r => am_r1 r fun t a r => (match t.1 with
    | 11 => t = (11, 1, 0) ∧ vp_in i (am_len.getD (a - 16) 0) ∧ X (pc + 1) lv (.inl ((am_byt.getD (a - 16) []).getD i.toNatClampNeg 0) :: r) σ
    | _ => (t.1 = 20 ∨ t.1 = 23) ∧ vp_in i t.2.1 ∧ X (pc + 1) lv (.inl (σ.1 a i.toNatClampNeg) :: r) σ)
  | .laload => am_i1 st fun i r => am_r1 r fun t a r => t.1 = 22 ∧ vp_in i t.2.1 ∧ X (pc + 1) lv (.inr (.inl (σ.2 a i.toNatClampNeg)) :: r) σ
  | .aaload => am_i1 st fun i r => am_r1 r fun t a r => vp_in i t.2.1 ∧ am_aa t a i (fun v => X (pc + 1) lv (v :: r) σ)
  | .iastore => am_i1 st fun x r => am_i1 r fun i r => am_r1 r fun t a r => t.1 = 21 ∧ vp_in i t.2.1 ∧ X (pc + 1) lv r (am_si σ a i.toNatClampNeg x)
  | .bastore => am_i1 st fun x r => am_i1 r fun i r => am_r1 r fun t a r => (t.1 = 20 ∧ vp_in i t.2.1 ∧ X (pc + 1) lv r (am_si σ a i.toNatClampNeg (vp_nar .byte x))) ∨ (t.1 = 23 ∧ vp_in i t.2.1 ∧ X (pc + 1) lv r (am_si σ a i.toNatClampNeg (vp_nar .boolean x)))
  | .lastore => am_l1 st fun x r => am_i1 r fun i r => am_r1 r fun t a r => t.1 = 22 ∧ vp_in i t.2.1 ∧ X (pc + 1) lv r (am_sj σ a i.toNatClampNeg x)
  | .arraylength => am_r1 st fun t a r => (match t.1 with
    | 11 => t = (11, 1, 0) ∧ X (pc + 1) lv (.inl (Int32.ofNat (am_len.getD (a - 16) 0)) :: r) σ
    | _ => (t.1 = 20 ∨ t.1 = 21 ∨ t.1 = 22) ∧ X (pc + 1) lv (.inl (Int32.ofNat t.2.1) :: r) σ)
  | .invokestatic ix => am_ivs M P X ix pc lv st σ
  | .invokevirtual ix => am_ivv M P X ix pc lv st σ
  | .ireturn => (match st with
    | [.inl v] => am_rn M.2.2.2.2.1 v (fin (some (.inl v)) σ)
    | _ => False)
  | .lreturn => (match st with
    | [.inr (.inl v)] => M.2.2.2.2.1 = some .long ∧ fin (some (.inr (.inl v))) σ
    | _ => False)
  | .areturn => (match st with
    | [.inr (.inr (t, o))] => (t.1 = 12 ∧ M.2.2.2.2.1 = some (.object "MarchFolk$Ways")) ∧ fin (some (.inr (.inr (t, o)))) σ
    | _ => False)
  | .return_ => (match st with
    | [] => M.2.2.2.2.1 = none ∧ fin none σ
    | _ => False)
  | _ => False
end
section
/-! THE WORLD of the abstract machine, and what the tables say. -/
def am_T : List Cond := lw_tbl.filter goodWord
def am_has (p : Nat) (w : Cond) : Bool := decide (lw_tbl[p]? = some w) && goodWord w
theorem am_has_in {p : Nat} {w : Cond} (h : am_has p w = true) : w ∈ am_T := by
  simp only [am_has, Bool.and_eq_true, decide_eq_true_eq] at h
  exact List.mem_filter.mpr ⟨List.mem_of_getElem? h.1, h.2⟩
theorem am_T_good : ∀ w ∈ am_T, goodWord w = true := fun _ h => (List.mem_filter.mp h).2
def am_TT : Nat → u_T := fun k => match k with
  | 0 => TX0
  | 1 => TX1
  | 2 => TX2
  | 3 => TX3
  | 4 => TX4
  | 5 => TX5
  | 6 => TX6
  | 7 => TX7
  | 8 => TX8
  | _ => TX9
def am_ty : Nat → Nat → FieldType := fun k => match k with
  | 0 => tyX0
  | 1 => tyX1
  | 2 => tyX2
  | 3 => tyX3
  | 4 => tyX4
  | 5 => tyX5
  | 6 => tyX6
  | 7 => tyX7
  | 8 => tyX8
  | _ => tyX9
def am_nf (ci : Nat) : Nat := (am_ftL.getD ci []).length
theorem am_cls_at : ∀ ci, ci < 10 → am_cls[ci]? = some (am_nm ci, am_TT ci, am_nf ci)
  | 0, _ => rfl
  | 1, _ => rfl
  | 2, _ => rfl
  | 3, _ => rfl
  | 4, _ => rfl
  | 5, _ => rfl
  | 6, _ => rfl
  | 7, _ => rfl
  | 8, _ => rfl
  | 9, _ => rfl
  | n + 10, h => absurd h (by omega)
set_option maxRecDepth 100000 in
theorem am_ws_in : ∀ ci, ci < 10 → ∀ w ∈ u_ws (am_nm ci) (am_TT ci) (am_nf ci), w ∈ lw_tbl ∧ goodWord w = true := by decide +kernel
theorem am_ws_T {ci : Nat} (h : ci < 10) : ∀ w ∈ u_ws (am_nm ci) (am_TT ci) (am_nf ci), w ∈ am_T := fun w hw => List.mem_filter.mpr (am_ws_in ci h w hw)
theorem am_ty_ok : ∀ ci, ci < 10 → ∀ k, k < am_nf ci → parseFieldDescriptor (am_TT ci k).2.2.1 = some (am_ty ci k) := by decide +kernel
theorem am_nm_ok : ∀ ci, ci < 10 → ∀ a, a < am_nf ci → ∀ b, b < am_nf ci → a ≠ b → (am_TT ci a).2.1 ≠ (am_TT ci b).2.1 := by decide +kernel
/-- what a field's number says of it -/
def am_ftok (ci f : Nat) : Bool := match am_ft ci f with
  | (0, _, _) => decide (am_ty ci f = .int) && (am_TT ci f).2.2.2 == false
  | (4, _, _) => decide (am_ty ci f = .boolean) && (am_TT ci f).2.2.2 == false
  | (1, _, _) => decide (am_ty ci f = .long) && (am_TT ci f).2.2.2 == false
  | (2, _, k) => k.1 != 0 && k.1 != 11 && k.1 != 12
  | (3, _, _) => decide (am_ty ci f = .object "MarchFolk$Ways") && (am_TT ci f).2.2.2 == false
  | _ => false
theorem am_ft_ok : ∀ ci, ci < 10 → ∀ f, f < am_nf ci → am_ftok ci f = true := by decide +kernel
/-- the layout: where a cell's own cells lie -/
def am_layf (o : Nat) : Bool := match am_kd o with
  | (t, _, _) => if t ≤ 10 then t != 0 && (List.range (am_nf (t - 1))).all (fun f => match am_ft (t - 1) f with
    | (2, off, k) => decide (o + off < am_n) && decide (am_kd (o + off) = k)
    | _ => true) else true
theorem am_layf_all : (List.range am_n).all am_layf = true := by decide +kernel
theorem am_lay_f {o : Nat} (ho : o < am_n) (h : (am_kd o).1 ≤ 10) : (am_kd o).1 ≠ 0 ∧ ∀ f, f < am_nf ((am_kd o).1 - 1) → (am_ft ((am_kd o).1 - 1) f).1 = 2 → o + (am_ft ((am_kd o).1 - 1) f).2.1 < am_n ∧ am_kd (o + (am_ft ((am_kd o).1 - 1) f).2.1) = (am_ft ((am_kd o).1 - 1) f).2.2 := by
  have h1 := List.all_eq_true.mp am_layf_all o (List.mem_range.mpr ho)
  unfold am_layf at h1
  generalize am_kd o = k at h h1 ⊢
  obtain ⟨t, n, m⟩ := k
  dsimp only at h h1 ⊢
  rw [if_pos h] at h1
  simp only [Bool.and_eq_true, bne_iff_ne, ne_eq, List.all_eq_true, List.mem_range] at h1
  refine ⟨h1.1, fun f hf h2 => ?_⟩
  have h3 := h1.2 f hf
  generalize am_ft (t - 1) f = e at h2 h3 ⊢
  obtain ⟨a, b, c⟩ := e
  dsimp only at h2 h3 ⊢
  subst h2
  simpa using h3
def am_laya (o j : Nat) : Bool := match am_kd o with
  | (24, n, m) => !decide (j < n) || (decide (o + 1 + j < am_n) && decide (am_kd (o + 1 + j) = (21, m, 0)))
  | (25, n, m) => !decide (j < n) || (decide (o + 1 + m * j < am_n) && decide (am_kd (o + 1 + m * j) = (3, 0, 0)))
  | (26, n, m) => !decide (j < n) || (decide (o + 1 + m * j < am_n) && decide (am_kd (o + 1 + m * j) = (6, 0, 0)))
  | _ => true
theorem am_laya_all : (List.range am_n).all (fun o => (List.range 10).all (fun j => am_laya o j)) = true := by decide +kernel
theorem am_lay_a {o j : Nat} (ho : o < am_n) (hj : j < 10) : am_laya o j = true := by
  have h1 := List.all_eq_true.mp am_laya_all o (List.mem_range.mpr ho)
  exact List.all_eq_true.mp h1 j (List.mem_range.mpr hj)
theorem am_lay_n : ∀ o, o < am_n → (20 ≤ (am_kd o).1 → (am_kd o).1 ≤ 26) ∧ ((am_kd o).1 ≤ 10 ∨ 20 ≤ (am_kd o).1) ∧ (24 ≤ (am_kd o).1 → (am_kd o).2.1 ≤ 10) ∧ (am_kd o).2.1 < 2000 := by decide +kernel
/-- the fields' links -/
def am_flok (own : Nat) (e : Nat × (Nat × Nat) × Nat) : Bool := am_has e.2.2 (.fieldLink (am_nm own) e.1 (am_TT e.2.1.1 e.2.1.2).1 (am_TT e.2.1.1 e.2.1.2).2.1 (am_TT e.2.1.1 e.2.1.2).2.2.1) && decide (e.2.1.1 < 10) && decide (e.2.1.2 < am_nf e.2.1.1)
theorem am_fl_all : ∀ own, own < 17 → ∀ e ∈ am_flT own, am_flok own e = true := by decide +kernel
theorem am_fl_ok {own ix ci f : Nat} (ho : own < 17) (h : am_fl own ix = some (ci, f)) : Cond.fieldLink (am_nm own) ix (am_TT ci f).1 (am_TT ci f).2.1 (am_TT ci f).2.2.1 ∈ am_T ∧ ci < 10 ∧ f < am_nf ci := by
  unfold am_fl at h
  cases hf : (am_flT own).find? (fun e => e.1 == ix) with
  | none => rw [hf] at h; cases h
  | some e =>
    rw [hf] at h
    have h1 := am_fl_all own ho e (List.mem_of_find?_eq_some hf)
    have h2 := List.find?_some hf
    simp only [beq_iff_eq] at h2
    have h3 : e.2.1 = (ci, f) := Option.some.inj h
    simp only [am_flok, Bool.and_eq_true, decide_eq_true_eq, h3, h2] at h1
    exact ⟨am_has_in h1.1.1, h1.1.2, h1.2⟩
def am_nw : List Cond := [.methodLinkNest RX7 39 yX8_holds RX8, .methodLinkNest RX6 110 yX8_holds RX8, .methodLinkNest RX3 57 yX8_holds RX8]
def am_mok (m : AM) : Bool := plainName m.2.1.cls && decide (m.2.1.cls ≠ "java/lang/invoke/MethodHandle") && decide (m.2.1.cls ≠ "java/lang/invoke/VarHandle") && decide ((parseMethodDescriptor m.2.1.desc).map (fun d => d.parameters.length) = some m.2.2.2.2.2.1) && decide (m.2.2.2.1 ≤ 20) && decide (m.2.1.cls = am_nm m.1) && decide (m.1 < 16)
def am_mlok (own : Nat) (e : Nat × (Nat × AM) × (Nat × Nat × Nat × Nat)) : Bool := match e with
  | (ix, (mode, m), (p1, p2, p3, p4)) => am_mok m && am_has p3 (.initialized m.2.1.cls) && (match mode with
    | 0 => am_has p1 (.methodLink (am_nm own) ix m.2.1) && am_has p2 (.static m.2.1)
    | 1 => am_has p1 (.methodLink (am_nm own) ix m.2.1) && am_has p2 (.instanceMethod m.2.1) && am_has p4 (.selects m.2.1.cls m.2.1 m.2.1)
    | 2 => decide (Cond.methodLinkNest (am_nm own) ix m.2.1 RX8 ∈ am_nw) && am_has p2 (.static m.2.1)
    | _ => false)
theorem am_ml_0 : ∀ e ∈ am_mlT 0, am_mlok 0 e = true := by decide +kernel
theorem am_ml_1 : ∀ e ∈ am_mlT 1, am_mlok 1 e = true := by decide +kernel
theorem am_ml_2 : ∀ e ∈ am_mlT 2, am_mlok 2 e = true := by decide +kernel
theorem am_ml_3 : ∀ e ∈ am_mlT 3, am_mlok 3 e = true := by decide +kernel
theorem am_ml_4 : ∀ e ∈ am_mlT 4, am_mlok 4 e = true := by decide +kernel
theorem am_ml_5 : ∀ e ∈ am_mlT 5, am_mlok 5 e = true := by decide +kernel
theorem am_ml_6 : ∀ e ∈ am_mlT 6, am_mlok 6 e = true := by decide +kernel
theorem am_ml_7 : ∀ e ∈ am_mlT 7, am_mlok 7 e = true := by decide +kernel
theorem am_ml_8 : ∀ e ∈ am_mlT 8, am_mlok 8 e = true := by decide +kernel
theorem am_ml_9 : ∀ e ∈ am_mlT 9, am_mlok 9 e = true := by decide +kernel
theorem am_ml_10 : ∀ e ∈ am_mlT 10, am_mlok 10 e = true := by decide +kernel
theorem am_ml_11 : ∀ e ∈ am_mlT 11, am_mlok 11 e = true := by decide +kernel
theorem am_ml_12 : ∀ e ∈ am_mlT 12, am_mlok 12 e = true := by decide +kernel
theorem am_ml_13 : ∀ e ∈ am_mlT 13, am_mlok 13 e = true := by decide +kernel
theorem am_ml_14 : ∀ e ∈ am_mlT 14, am_mlok 14 e = true := by decide +kernel
theorem am_ml_15 : ∀ e ∈ am_mlT 15, am_mlok 15 e = true := by decide +kernel
theorem am_ml_16 : ∀ e ∈ am_mlT 16, am_mlok 16 e = true := by decide +kernel
theorem am_ml_all : ∀ own, own < 17 → ∀ e ∈ am_mlT own, am_mlok own e = true
  | 0, _ => am_ml_0
  | 1, _ => am_ml_1
  | 2, _ => am_ml_2
  | 3, _ => am_ml_3
  | 4, _ => am_ml_4
  | 5, _ => am_ml_5
  | 6, _ => am_ml_6
  | 7, _ => am_ml_7
  | 8, _ => am_ml_8
  | 9, _ => am_ml_9
  | 10, _ => am_ml_10
  | 11, _ => am_ml_11
  | 12, _ => am_ml_12
  | 13, _ => am_ml_13
  | 14, _ => am_ml_14
  | 15, _ => am_ml_15
  | 16, _ => am_ml_16
  | n + 17, h => absurd h (by omega)
theorem am_ml_ok {own ix mode : Nat} {m : AM} (ho : own < 17) (h : am_ml own ix = some (mode, m)) : ∃ p, am_mlok own (ix, (mode, m), p) = true := by
  unfold am_ml at h
  cases hf : (am_mlT own).find? (fun e => e.1 == ix) with
  | none => rw [hf] at h; cases h
  | some e =>
    rw [hf] at h
    have h1 := am_ml_all own ho e (List.mem_of_find?_eq_some hf)
    have h2 := List.find?_some hf
    simp only [beq_iff_eq] at h2
    have h3 : e.2.1 = (mode, m) := Option.some.inj h
    obtain ⟨a, b, c⟩ := e
    subst h2
    dsimp only at h3
    subst h3
    exact ⟨c, h1⟩
def am_kcok (own : Nat) (e : Nat × Int32 × Nat) : Bool := am_has e.2.2 (.constant (am_nm own) e.1 e.2.1)
theorem am_kc_all : ∀ own, own < 17 → ∀ e ∈ am_kcT own, am_kcok own e = true := by decide +kernel
theorem am_kc_ok {own ix : Nat} {v : Int32} (ho : own < 17) (h : am_kc own ix = some v) : Cond.constant (am_nm own) ix v ∈ am_T := by
  unfold am_kc at h
  cases hf : (am_kcT own).find? (fun e => e.1 == ix) with
  | none => rw [hf] at h; cases h
  | some e =>
    rw [hf] at h
    have h1 := am_kc_all own ho e (List.mem_of_find?_eq_some hf)
    have h2 := List.find?_some hf
    simp only [beq_iff_eq] at h2
    have h3 : e.2.1 = v := Option.some.inj h
    simp only [am_kcok, h3, h2] at h1
    exact am_has_in h1
def am_klok (own : Nat) (e : Nat × Int64 × Nat) : Bool := am_has e.2.2 (.constantLong (am_nm own) e.1 e.2.1)
theorem am_kl_all : ∀ own, own < 17 → ∀ e ∈ am_klT own, am_klok own e = true := by decide +kernel
theorem am_kl_ok {own ix : Nat} {v : Int64} (ho : own < 17) (h : am_kl own ix = some v) : Cond.constantLong (am_nm own) ix v ∈ am_T := by
  unfold am_kl at h
  cases hf : (am_klT own).find? (fun e => e.1 == ix) with
  | none => rw [hf] at h; cases h
  | some e =>
    rw [hf] at h
    have h1 := am_kl_all own ho e (List.mem_of_find?_eq_some hf)
    have h2 := List.find?_some hf
    simp only [beq_iff_eq] at h2
    have h3 : e.2.1 = v := Option.some.inj h
    simp only [am_klok, h3, h2] at h1
    exact am_has_in h1
theorem am_ca_all : ∀ own, own < 17 → ∀ e ∈ am_caT own, am_has e.2 (.methodLink (am_nm own) e.1 arraycopyName) = true := by decide +kernel
theorem am_ca_ok {own ix : Nat} (ho : own < 17) (h : am_ca own ix = true) : Cond.methodLink (am_nm own) ix arraycopyName ∈ am_T := by
  unfold am_ca at h
  cases hf : (am_caT own).find? (fun e => e.1 == ix) with
  | none => rw [hf] at h; cases h
  | some e =>
    have h1 := am_ca_all own ho e (List.mem_of_find?_eq_some hf)
    have h2 := List.find?_some hf
    simp only [beq_iff_eq] at h2
    rw [h2] at h1
    exact am_has_in h1
def am_mxok (own : Nat) (e : Nat × Nat × Nat) : Bool := match e with
  | (ix, 0, p) => am_has p (.methodLink (am_nm own) ix Lib.Math.max.name)
  | (ix, 1, p) => am_has p (.methodLink (am_nm own) ix Lib.Math.min.name)
  | _ => false
theorem am_mx_all : ∀ own, own < 17 → ∀ e ∈ am_mxT own, am_mxok own e = true := by decide +kernel
theorem am_mx_ok {own ix k : Nat} (ho : own < 17) (h : am_mx own ix = some k) : ∃ p, am_mxok own (ix, k, p) = true := by
  unfold am_mx at h
  cases hf : (am_mxT own).find? (fun e => e.1 == ix) with
  | none => rw [hf] at h; cases h
  | some e =>
    rw [hf] at h
    have h1 := am_mx_all own ho e (List.mem_of_find?_eq_some hf)
    have h2 := List.find?_some hf
    simp only [beq_iff_eq] at h2
    have h3 : e.2.1 = k := Option.some.inj h
    obtain ⟨a, b, c⟩ := e
    dsimp only at h2 h3
    subst h2
    subst h3
    exact ⟨c, h1⟩
def am_fsok (own : Nat) (e : Nat × Nat × Nat) : Bool := match e with
  | (ix, 0, p) => decide (own = 10) && am_has p (.fieldLink "java/lang/String" ix "java/lang/String" "coder" "B")
  | (ix, 1, p) => decide (own = 10) && am_has p (.fieldLink "java/lang/String" ix "java/lang/String" "value" "[B")
  | _ => false
theorem am_fs_all : ∀ own, own < 17 → ∀ e ∈ am_fsT own, am_fsok own e = true := by decide +kernel
theorem am_fs_ok {own ix k : Nat} (ho : own < 17) (h : am_fs own ix = some k) : ∃ p, am_fsok own (ix, k, p) = true := by
  unfold am_fs at h
  cases hf : (am_fsT own).find? (fun e => e.1 == ix) with
  | none => rw [hf] at h; cases h
  | some e =>
    rw [hf] at h
    have h1 := am_fs_all own ho e (List.mem_of_find?_eq_some hf)
    have h2 := List.find?_some hf
    simp only [beq_iff_eq] at h2
    have h3 : e.2.1 = k := Option.some.inj h
    obtain ⟨a, b, c⟩ := e
    dsimp only at h2 h3
    subst h2
    subst h3
    exact ⟨c, h1⟩
theorem am_gs_all : ∀ e ∈ am_gsT, am_has e.2 (.fieldLink "java/lang/String" e.1 "java/lang/String" "COMPACT_STRINGS" "Z") = true := by decide +kernel
theorem am_gs_ok {own ix : Nat} (h : am_gs own ix = true) : own = 10 ∧ Cond.fieldLink "java/lang/String" ix "java/lang/String" "COMPACT_STRINGS" "Z" ∈ am_T := by
  simp only [am_gs, Bool.and_eq_true, beq_iff_eq] at h
  refine ⟨h.1, ?_⟩
  have h2 := h.2
  cases hf : am_gsT.find? (fun e => e.1 == ix) with
  | none => rw [hf] at h2; cases h2
  | some e =>
    have h1 := am_gs_all e (List.mem_of_find?_eq_some hf)
    have h3 := List.find?_some hf
    simp only [beq_iff_eq] at h3
    rw [h3] at h1
    exact am_has_in h1
set_option maxRecDepth 100000 in
theorem am_fix : (∀ w ∈ [Cond.native arraycopyName, Cond.static arraycopyName, Cond.initialized "java/lang/System", Cond.static Lib.Math.max.name, Cond.initialized "java/lang/Math", Cond.code Lib.Math.max.name Lib.Math.max.code 2 (some .int), Cond.static Lib.Math.min.name, Cond.code Lib.Math.min.name Lib.Math.min.code 2 (some .int)], w ∈ lw_tbl ∧ goodWord w = true) := by decide +kernel
theorem am_fix_T {w : Cond} (h : w ∈ [Cond.native arraycopyName, Cond.static arraycopyName, Cond.initialized "java/lang/System", Cond.static Lib.Math.max.name, Cond.initialized "java/lang/Math", Cond.code Lib.Math.max.name Lib.Math.max.code 2 (some .int), Cond.static Lib.Math.min.name, Cond.code Lib.Math.min.name Lib.Math.min.code 2 (some .int)]) : w ∈ am_T := List.mem_filter.mpr (am_fix w h)
-- the cells
def am_fv (ad : Nat → Nat) (σ : AS) (i f : Nat) (e : Nat × Nat × AK) : Value := match e.1 with
  | 0 => .int (σ.1 i f)
  | 4 => .int (σ.1 i f)
  | 1 => .long (σ.2 i f)
  | 2 => .ref (ad (i + e.2.1))
  | _ => if (σ.1 i f).toNatClampNeg = 0 then .null else .ref (ad (σ.1 i f).toNatClampNeg)
def am_flds (ad : Nat → Nat) (σ : AS) (i ci : Nat) : List Value := (List.range (am_nf ci)).map fun f => am_fv ad σ i f (am_ft ci f)
def am_cell (cy : Nat → ClassId) (ad : Nat → Nat) (σ : AS) (i : Nat) : va_E :=
  if (am_kd i).1 ≤ 10 then .inr ((am_kd i).1 - 1, am_flds ad σ i ((am_kd i).1 - 1))
  else if (am_kd i).1 = 22 then .inl (cy 22, (am_kd i).2.1, .inr (.inl (σ.2 i)))
  else if (am_kd i).1 ≤ 23 then .inl (cy (am_kd i).1, (am_kd i).2.1, .inl (σ.1 i))
  else .inl (cy (am_kd i).1, (am_kd i).2.1, .inr (.inr (.inr (.inr fun j => some (ad (i + 1 + if (am_kd i).1 = 24 then j else (am_kd i).2.2 * j))))))
def am_w (cy : Nat → ClassId) (ad : Nat → Nat) (σ : AS) : va_W := (List.range am_n).map fun i => (ad i, am_cell cy ad σ i)
theorem am_w_get {cy : Nat → ClassId} {ad : Nat → Nat} {σ : AS} {i : Nat} (h : i < am_n) : (am_w cy ad σ)[i]? = some (ad i, am_cell cy ad σ i) := by
  simp only [am_w, List.getElem?_map, List.getElem?_range h, Option.map_some]
theorem am_map_set {α : Type} {n i : Nat} {g g' : Nat → α} {x : α} (h : i < n) (hx : g' i = x) (hg : ∀ j, j < n → j ≠ i → g' j = g j) : ((List.range n).map g).set i x = (List.range n).map g' := by
  apply List.ext_getElem?
  intro j
  by_cases hj : j < n
  · by_cases e : j = i
    · subst e
      rw [List.getElem?_set_self (by simpa using h)]
      simp [List.getElem?_map, List.getElem?_range hj, hx]
    · rw [List.getElem?_set_ne (Ne.symm e)]
      simp [List.getElem?_map, List.getElem?_range hj, hg j hj e]
  · rw [List.getElem?_eq_none (by simp; omega), List.getElem?_eq_none (by simp; omega)]
theorem am_w_set {cy : Nat → ClassId} {ad : Nat → Nat} {σ σ' : AS} {i : Nat} {x : va_E} (h : i < am_n) (hx : am_cell cy ad σ' i = x) (hg : ∀ j, j < am_n → j ≠ i → am_cell cy ad σ' j = am_cell cy ad σ j) : (am_w cy ad σ).set i (ad i, x) = am_w cy ad σ' :=
  am_map_set h (by rw [hx]) (fun j hj e => by rw [hg j hj e])
theorem am_w_D {cy : Nat → ClassId} {ad : Nat → Nat} {σ σ' : AS} {A : Nat → Prop} (h : va_D A (am_w cy ad σ)) : va_D A (am_w cy ad σ') := by
  have key : ∀ (i : Nat) (q : Nat × va_E), (am_w cy ad σ')[i]? = some q → ∃ q', (am_w cy ad σ)[i]? = some q' ∧ q'.1 = q.1 := by
    intro i q hq
    have hi : i < am_n := by
      have := (List.getElem?_eq_some_iff.mp hq).1
      simpa [am_w] using this
    rw [am_w_get hi] at hq
    cases hq
    exact ⟨_, am_w_get hi, rfl⟩
  refine ⟨fun i j p q hi hj hpq => ?_, fun k q hk => ?_⟩
  · obtain ⟨p', h1, h2⟩ := key i p hi
    obtain ⟨q', h3, h4⟩ := key j q hj
    exact h.1 i j p' q' h1 h3 (h2.trans (hpq.trans h4.symm))
  · obtain ⟨q', h1, h2⟩ := key k q hk
    rw [← h2]
    exact h.2 k q' h1
theorem am_w_A {cy : Nat → ClassId} {ad : Nat → Nat} {σ σ' : AS} {sz q : Nat} (h : va_A (am_w cy ad σ) sz q) : va_A (am_w cy ad σ') sz q := by
  rcases h with ⟨k, e, h⟩ | h
  · have hi : k < am_n := by
      have := (List.getElem?_eq_some_iff.mp h).1
      simpa [am_w] using this
    rw [am_w_get hi] at h
    cases h
    exact Or.inl ⟨k, _, am_w_get hi⟩
  · exact Or.inr h
theorem am_cell_o {cy : Nat → ClassId} {ad : Nat → Nat} {σ : AS} {o ci : Nat} (h : (am_kd o).1 = ci + 1) (hc : ci < 10) : am_cell cy ad σ o = .inr (ci, am_flds ad σ o ci) := by
  unfold am_cell
  rw [if_pos (by omega), show (am_kd o).1 - 1 = ci by omega]
theorem am_cell_j {cy : Nat → ClassId} {ad : Nat → Nat} {σ : AS} {o : Nat} (h : (am_kd o).1 = 22) : am_cell cy ad σ o = .inl (cy 22, (am_kd o).2.1, .inr (.inl (σ.2 o))) := by
  unfold am_cell
  rw [if_neg (by omega), if_pos h]
theorem am_cell_i {cy : Nat → ClassId} {ad : Nat → Nat} {σ : AS} {o t : Nat} (h : (am_kd o).1 = t) (ht : t = 20 ∨ t = 21 ∨ t = 23) : am_cell cy ad σ o = .inl (cy t, (am_kd o).2.1, .inl (σ.1 o)) := by
  unfold am_cell
  rw [if_neg (by omega), if_neg (by omega), if_pos (by omega), h]
theorem am_cell_q {cy : Nat → ClassId} {ad : Nat → Nat} {σ : AS} {o t : Nat} (h : (am_kd o).1 = t) (ht : 24 ≤ t) : am_cell cy ad σ o = .inl (cy t, (am_kd o).2.1, .inr (.inr (.inr (.inr fun j => some (ad (o + 1 + if t = 24 then j else (am_kd o).2.2 * j)))))) := by
  unfold am_cell
  rw [if_neg (by omega), if_neg (by omega), if_neg (by omega), h]
theorem am_cell_eq {cy : Nat → ClassId} {ad : Nat → Nat} {σ σ' : AS} {o : Nat} (h1 : σ'.1 o = σ.1 o) (h2 : σ'.2 o = σ.2 o) : am_cell cy ad σ' o = am_cell cy ad σ o := by
  unfold am_cell am_flds am_fv
  rw [h1, h2]
def am_okr (t : AK) (i : Nat) : Prop := ((t.1 = 28 ∧ i = am_n) ∨ ((t = (11, 0, 0) ∧ i < 16) ∨ (t = (11, 1, 0) ∧ 16 ≤ i ∧ i < 32))) ∨ (t.1 = 12 ∧ (i = 0 ∨ (i < am_n ∧ am_kd i = (8, 0, 0)))) ∨ (t.1 ≠ 0 ∧ t.1 ≠ 11 ∧ t.1 ≠ 12 ∧ i < am_n ∧ am_kd i = t)
def am_okv : AV → Prop
  | .inr (.inr (t, i)) => am_okr t i
  | _ => True
def am_hok (σ : AS) : Prop := ∀ o f, o < am_n → (am_kd o).1 ≤ 10 → (am_ft ((am_kd o).1 - 1) f).1 = 3 → (σ.1 o f).toNatClampNeg = 0 ∨ ((σ.1 o f).toNatClampNeg < am_n ∧ am_kd (σ.1 o f).toNatClampNeg = (8, 0, 0))
theorem ac_v_r {ad sd : Nat → Nat} {t : AK} {i : Nat} (h0 : t.1 ≠ 0) (h1 : t.1 ≠ 11) (h2 : t.1 ≠ 12) : ac_v ad sd (.inr (.inr (t, i))) = .ref (ad i) := by
  simp only [ac_v, if_neg h0, if_neg h1, if_neg h2]
def am_tys (cy : Nat → ClassId) : List (ClassId × FieldType) := [(cy 20, .byte), (cy 21, .int), (cy 22, .long), (cy 23, .boolean), (cy 24, .array .int), (cy 25, .object RX2), (cy 26, .object RX5)]
end
section
/-! THE SIMULATION: what the abstract machine does, the machine does. -/
def am_Str (sd sv : Nat → Nat) (A : Nat → Prop) (U : State) (H : Heap) : Prop := vk_S 16 am_len am_byt sd (fun i => sd (16 + i)) A U H ∧ (∀ (i : Nat) (e : Nat × String × Nat), am_strs[i]? = some e → vk_R RX4 e.1 e.2.1 (sd i) U) ∧ va_Z "java/lang/String" "COMPACT_STRINGS" "Z" (.int 1) A U H ∧ va_Zq "jdk/internal/util/Preconditions" "SIOOBE_FORMATTER" "Ljava/util/function/BiFunction;" A U H
def am_E (D : va_G) (cy : Nat → ClassId) (sd sv : Nat → Nat) (A : Nat → Prop) (U : State) (H : Heap) : Prop := va_K D am_cls (am_tys cy) U ∧ (∀ w ∈ am_nw, va_Nw w U) ∧ am_Str sd sv A U H
theorem am_E.call {D : va_G} {cy : Nat → ClassId} {sd sv : Nat → Nat} {A A1 : Nat → Prop} {s U : State} {H : Heap} {locs : List Loc} (h : am_E D cy sd sv A s s.heap) (hS : va_S A s.heap H locs) (hA : ∀ q, A1 q → A q) (hU : U.heap = H) (hW : s.WarmedH U.vm) : am_E D cy sd sv A1 U U.heap := by
  obtain ⟨h1, h2, h3, h4, h5, h6⟩ := h
  rw [hU]
  refine ⟨va_K.moved hW.alike h1, fun w hw => ?_, vk_S.narrow (vk_S.moved hW.alike (h3.kept hS.2.1)) hA, fun i e he => (h4 i e he).warm hW, va_Z.narrow (va_Z.moved hW.alike (h5.kept hS.2.1)) hA, va_Zq.narrow (va_Zq.moved hW.alike (h6.kept hS.2.1)) hA⟩
  have h9 := h2 w hw
  simp only [am_nw, List.mem_cons, List.not_mem_nil, or_false] at hw
  rcases hw with rfl | rfl | rfl
  · exact va_Nw.warmM hW h9
  · exact va_Nw.warmM hW h9
  · exact va_Nw.warmM hW h9
theorem am_E.blind {D : va_G} {cy : Nat → ClassId} {sd sv : Nat → Nat} {A : Nat → Prop} {U : State} {g : JFrame} {mk : MethodId} {a : Array Value} (h : am_E D cy sd sv A U U.heap) : am_E D cy sd sv A (U.calling g mk a) (U.calling g mk a).heap := by
  obtain ⟨h1, h2, h3, h4, h5, h6⟩ := h
  have hv : U.vm.Alike (U.calling g mk a).vm := Vm.Alike.refl U.vm
  refine ⟨va_K.moved hv h1, fun w hw => ?_, vk_S.moved hv h3, fun i e he => vk_R.same (u := U) rfl (h4 i e he), va_Z.moved hv h5, va_Zq.moved hv h6⟩
  have h9 := h2 w hw
  simp only [am_nw, List.mem_cons, List.not_mem_nil, or_false] at hw
  rcases hw with rfl | rfl | rfl
  · exact va_Nw.same (u := U) rfl rfl h9
  · exact va_Nw.same (u := U) rfl rfl h9
  · exact va_Nw.same (u := U) rfl rfl h9
def am_rm (d : Nat) : Room := { frames := d, cells := 0, slots := 0, locals := 60 * d }
def am_ws (M : AM) : List Cond := .code M.2.1 M.2.2.1 M.2.2.2.1 M.2.2.2.2.1 :: am_T
def am_In (D : va_G) (cy : Nat → ClassId) (ad sd sv : Nat → Nat) (σ : AS) (sz : Nat) : State → Prop := fun U => U.heap.size = sz ∧ va_P D am_cls (am_w cy ad σ) U.heap ∧ va_D (fun _ => True) (am_w cy ad σ) ∧ am_E D cy sd sv (va_A (am_w cy ad σ) sz) U U.heap
def am_Q (D : va_G) (cy : Nat → ClassId) (ad sd : Nat → Nat) (σ' : AS) (r : Option AV) (A : Nat → Prop) : Array Value → State → Outcome → State → Prop := fun _ st oc t => (oc = .returned (r.map (ac_v ad sd)) ∧ am_hok σ' ∧ (∀ v, r = some v → am_okv v) ∧ va_P D am_cls (am_w cy ad σ') t.heap) ∧ va_F A st t
def am_Ct (l : Launch) (d : Nat) : AP := fun M as σ σ' r => Cond.code M.2.1 M.2.2.1 M.2.2.2.1 M.2.2.2.2.1 ∈ am_T ∧ ∀ (D : va_G) (cy : Nat → ClassId) (ad sd sv : Nat → Nat) (sz : Nat), (∀ v ∈ as, am_okv v) → am_hok σ → Met l M.2.1 (am_ws M) (am_rm d) (va_Pc (as.map (ac_v ad sd)) (am_In D cy ad sd sv σ sz)) (am_Q D cy ad sd σ' r (va_A (am_w cy ad σ) sz)) 0 0 (va_A (am_w cy ad σ) sz)
theorem am_ws_in2 {M m : AM} (h : Cond.code m.2.1 m.2.2.1 m.2.2.2.1 m.2.2.2.2.1 ∈ am_T) : GoodIn (am_ws M) (am_ws m) := by
  intro w hw
  have hT : w ∈ am_T := by
    rcases List.mem_cons.mp hw with h1 | h1
    · rw [h1]; exact h
    · exact h1
  exact ⟨List.mem_cons_of_mem _ hT, good_of_word (am_T_good w hT)⟩
def am_ilen : Instr → Nat
  | .bipush _ => 2
  | .iload _ => 2
  | .lload _ => 2
  | .aload _ => 2
  | .istore _ => 2
  | .lstore _ => 2
  | .astore _ => 2
  | .ldc _ => 2
  | .sipush _ => 3
  | .ldc_w _ => 3
  | .ldc2_w _ => 3
  | .iinc _ _ => 3
  | .ifCond _ _ => 3
  | .if_icmp _ _ => 3
  | .goto _ => 3
  | .ifnull _ => 3
  | .getfield _ => 3
  | .getstatic _ => 3
  | .putfield _ => 3
  | .invokestatic _ => 3
  | .invokevirtual _ => 3
  | _ => 1
def am_ix (nL pc : Nat) : Instr → Bool
  | .bipush n => decide (-128 ≤ n) && decide (n < 128)
  | .sipush n => decide (-32768 ≤ n) && decide (n < 32768)
  | .istore_n n => decide ((n : Nat) < nL)
  | .istore n => decide (n < nL)
  | .astore_n n => decide ((n : Nat) < nL)
  | .astore n => decide (n < nL)
  | .lstore_n n => decide ((n : Nat) + 1 < nL)
  | .lstore n => decide (n + 1 < nL)
  | .iinc n _ => decide (n < nL)
  | .ifCond _ off => decide (0 ≤ (pc : Int) + off)
  | .if_icmp _ off => decide (0 ≤ (pc : Int) + off)
  | .goto off => decide (0 ≤ (pc : Int) + off)
  | .ifnull off => decide (0 ≤ (pc : Int) + off)
  | .tableswitch d lo hi offs => decide (0 ≤ (pc : Int) + d) && offs.toList.all (fun o => decide (0 ≤ (pc : Int) + o)) && decide (lo + offs.toList.length = hi + 1) && decide (-1000000 < lo) && decide (hi < 1000000)
  | .lookupswitch d ps => decide (0 ≤ (pc : Int) + d) && ps.toList.all (fun q => decide (0 ≤ (pc : Int) + q.2) && decide (-1000000 < q.1) && decide (q.1 < 1000000)) && (ps.toList.zip (ps.toList.drop 1)).all (fun (a, next) => a.1 < next.1)
  | _ => true
def am_sw : Instr → Bool
  | .tableswitch _ _ _ _ => true
  | .lookupswitch _ _ => true
  | _ => false
def am_iok (nL pc : Nat) (i : Instr) (n : Nat) : Bool := (am_sw i || n == am_ilen i) && am_ix nL pc i
theorem am_tg_eq {pc : Nat} {off : Int} (h : 0 ≤ (pc : Int) + off) : (pc : Int) + off = (am_tg pc off : Nat) := by
  unfold am_tg
  omega
theorem am_bip {n : Int} (h1 : -128 ≤ n) (h2 : n < 128) : (Int8.ofInt n).toInt32 = am_ic n := by
  rw [← am_ic_eq]
  apply Int32.toInt_inj.mp
  rw [Int8.toInt_toInt32, Int8.toInt_ofInt, Int32.toInt_ofInt, show Int8.size = 256 from rfl, show Int32.size = 4294967296 from rfl]
  rw [Int.bmod_eq_of_le (by omega) (by omega), Int.bmod_eq_of_le (by omega) (by omega)]
theorem am_sip {n : Int} (h1 : -32768 ≤ n) (h2 : n < 32768) : (Int16.ofInt n).toInt32 = am_ic n := by
  rw [← am_ic_eq]
  apply Int32.toInt_inj.mp
  rw [Int16.toInt_toInt32, Int16.toInt_ofInt, Int32.toInt_ofInt, show Int16.size = 65536 from rfl, show Int32.size = 4294967296 from rfl]
  rw [Int.bmod_eq_of_le (by omega) (by omega), Int.bmod_eq_of_le (by omega) (by omega)]
theorem am_ic_toInt {n : Int} (h1 : -1000000 < n) (h2 : n < 1000001) : (am_ic n).toInt = n := by
  rw [← am_ic_eq, Int32.toInt_ofInt, show Int32.size = 4294967296 from rfl]
  exact Int.bmod_eq_of_le (by omega) (by omega)
section AMS
variable {p : Program} {l : Launch} {e : Env} {R : Room} {s : State} {m : MethodId} {args : Array Value} {below : List Frame} {meth : Method} {c : Code} {H : Heap} {locs : List Loc} {Q : State → Prop}
variable {D : va_G} {cy : Nat → ClassId} {ad sd sv : Nat → Nat} {A : Nat → Prop} {cl sl : Nat} {M : AM} {pc : Nat} {ls : Array Slot} {lv : AL} {st : List AV} {σ : AS} {d : Nat}
def am_W (p : Program) (l : Launch) (e : Env) (R : Room) (cl sl : Nat) (s : State) (m : MethodId) (args : Array Value) (below : List Frame) (meth : Method) (c : Code) (Q : State → Prop) (D : va_G) (cy : Nat → ClassId) (ad sd : Nat → Nat) (A : Nat → Prop) (nL : Nat) (pc : Nat) (lv : AL) (st : List AV) (σ : AS) : Prop :=
  (∀ q ∈ lv, am_okv q.2) → (∀ v ∈ st, am_okv v) → am_hok σ → ∀ (H : Heap) (locs : List Loc) (ls : Array Slot), va_P D am_cls (am_w cy ad σ) H → va_D A (am_w cy ad σ) → va_S A s.heap H locs → lv_has ls nL (ac_l ad sd lv) → W p l e R s m args below meth c H locs cl sl Q (F0 m pc ls (st.map (ac_v ad sd)))
theorem am_go {σ1 : AS} {v : Option AV} {rest st0 : List Value} {a : Array Value} {A1 : Nat → Prop} (hr : va_Run p l e R s m args below meth c H locs cl sl 0 0 (F0 m pc ls st0) rest (am_Q D cy ad sd σ1 v A1 a) A1) (hS : va_S A s.heap H locs) (hA : ∀ q, A1 q → A q)
    (kk : ∀ (H1 : Heap) (locs1 : List Loc), am_hok σ1 → (∀ x, v = some x → am_okv x) → va_P D am_cls (am_w cy ad σ1) H1 → va_S A s.heap H1 locs1 → W p l e R s m args below meth c H1 locs1 cl sl Q (F0 m (pc + 3) ls ((v.map (ac_v ad sd)).toList ++ rest))) : W p l e R s m args below meth c H locs cl sl Q (F0 m pc ls st0) := by
  intro T hT X
  obtain ⟨v', st₀, t, T', L, h0, X', hL, e1, e2, ⟨⟨hv, hk, ho, hp⟩, hz, hq⟩, st⟩ := hr T hT X
  cases hv
  rw [h0] at hz hq
  obtain ⟨t2, a1, b1⟩ := kk T'.heap (locs ++ L) hk ho (by rw [e1]; exact hp)
    ⟨Nat.le_trans hS.1 (by rw [e1]; exact hz), fun q h1 h2 => by rw [e1, hq q (Nat.lt_of_lt_of_le h1 hS.1) (fun z => h2 (hA q z))]; exact hS.2.1 q h1 h2, fun q hq2 => by
      rcases List.mem_append.mp hq2 with h | h
      · exact hS.2.2 q h
      · exact hA _ (hL q h)⟩ T' rfl X'
  exact ⟨t2, st t2 a1, b1⟩
theorem am_sub (hD : va_D A (am_w cy ad σ)) (hS : va_S A s.heap H locs) (hA : ∀ q, s.heap.size ≤ q → A q) : ∀ q, va_A (am_w cy ad σ) H.size q → A q := by
  intro q h
  rcases h with ⟨k, e, h⟩ | h
  · exact hD.2 k (q, e) h
  · exact hA q (Nat.le_trans hS.1 h)
theorem am_pre {as : List AV} (hE : am_E D cy sd sv A s s.heap) (hP : va_P D am_cls (am_w cy ad σ) H) (hD : va_D A (am_w cy ad σ)) (hS : va_S A s.heap H locs) (hA : ∀ q, s.heap.size ≤ q → A q) : FrameBlind (va_Pc (as.map (ac_v ad sd)) (am_In D cy ad sd sv σ H.size)) ∧ ∀ U : State, U.heap = H → s.WarmedH U.vm → va_Pc (as.map (ac_v ad sd)) (am_In D cy ad sd sv σ H.size) (as.map (ac_v ad sd)).toArray U := by
  refine ⟨fun a U g mk q => ?_, fun U hU hW => ⟨rfl, by rw [hU], by rw [hU]; exact hP, hD.weaken (fun _ _ _ _ => trivial), hE.call hS (am_sub hD hS hA) hU hW⟩⟩
  obtain ⟨q0, q1, q2, q3, q4⟩ := q
  exact ⟨q0, q1, q2, q3, q4.blind⟩
end AMS
end
section
/-! ONE STEP. -/
theorem am_okc {v : AV} {r : List AV} (h : am_okv v) (hr : ∀ x ∈ r, am_okv x) : ∀ x ∈ v :: r, am_okv x := List.forall_mem_cons.mpr ⟨h, hr⟩
theorem am_okt {v : AV} {r : List AV} (h : ∀ x ∈ v :: r, am_okv x) : ∀ x ∈ r, am_okv x := fun x hx => h x (List.mem_cons_of_mem _ hx)
theorem am_okh {v : AV} {r : List AV} (h : ∀ x ∈ v :: r, am_okv x) : am_okv v := h v List.mem_cons_self
theorem am_okl1 {lv : AL} {n : Nat} {v : AV} (h : ∀ q ∈ lv, am_okv q.2) (hv : am_okv v) : ∀ q ∈ am_st1 lv n v, am_okv q.2 := fun q hq => by
  rcases am_st1_mem hq with e | e
  · rw [e]; exact hv
  · exact h q e
theorem am_okl2 {lv : AL} {n : Nat} {v : AV} (h : ∀ q ∈ lv, am_okv q.2) (hv : am_okv v) : ∀ q ∈ am_st2 lv n v, am_okv q.2 := fun q hq => by
  rcases am_st2_mem hq with e | e
  · rw [e]; exact hv
  · exact h q e
theorem am_iok_n {nL pc n : Nat} {i : Instr} (hs : am_sw i = false) (h : am_iok nL pc i n = true) : n = am_ilen i := by
  simp only [am_iok, hs, Bool.false_or, Bool.and_eq_true, beq_iff_eq] at h
  exact h.1
theorem am_iok_x {nL pc n : Nat} {i : Instr} (h : am_iok nL pc i n = true) : am_ix nL pc i = true := by
  simp only [am_iok, Bool.and_eq_true] at h
  exact h.2
theorem am_loc_at {ad sd : Nat → Nat} {ls : Array Slot} {nL : Nat} {lv : AL} {n : Nat} {v : AV} (h : lv_has ls nL (ac_l ad sd lv)) (hm : (n, v) ∈ lv) : ls[n]? = some (.val (ac_v ad sd v)) := h.2.2 (n, ac_v ad sd v) (List.mem_map.mpr ⟨(n, v), hm, rfl⟩)
theorem am_nn_of {t : AK} {i : Nat} {B : Prop} (h : am_nn t i B) (hok : am_okr t i) (ad sd : Nat → Nat) : B ∧ ((t.1 = 11 ∧ (t.2.1 = 0 → i < 16) ∧ ac_v ad sd (.inr (.inr (t, i))) = .ref (sd i)) ∨ (t.1 ≠ 11 ∧ i < am_n ∧ ((t.1 ≠ 12 ∧ am_kd i = t) ∨ (t.1 = 12 ∧ am_kd i = (8, 0, 0))) ∧ ac_v ad sd (.inr (.inr (t, i))) = .ref (ad i)) ∨ (t.1 = 28 ∧ ac_v ad sd (.inr (.inr (t, i))) = .ref (ad i))) := by
  unfold am_nn at h
  rcases hok with (⟨h1, h2⟩ | ⟨h0, h2⟩ | ⟨h0, h2⟩) | ⟨h1, h2⟩ | ⟨h1, h2, h3, h4, h5⟩
  · rw [h1] at h
    exact ⟨h, Or.inr (Or.inr ⟨h1, ac_v_r (by omega) (by omega) (by omega)⟩)⟩
  · have h1 : t.1 = 11 := by rw [h0]
    rw [h1] at h
    refine ⟨h, Or.inl ⟨h1, fun _ => h2, ?_⟩⟩
    simp only [ac_v, h1, if_neg (show ¬ (11 : Nat) = 0 by decide), if_pos]
  · have h1 : t.1 = 11 := by rw [h0]
    rw [h1] at h
    refine ⟨h, Or.inl ⟨h1, (fun z => by rw [h0] at z; cases z), ?_⟩⟩
    simp only [ac_v, h1, if_neg (show ¬ (11 : Nat) = 0 by decide), if_pos]
  · rw [h1] at h
    try dsimp only at h
    refine ⟨h.2, Or.inr (Or.inl ⟨by omega, ?_⟩)⟩
    rcases h2 with h2 | ⟨h2, h3⟩
    · exact absurd h2 h.1
    · refine ⟨h2, Or.inr ⟨h1, h3⟩, ?_⟩
      simp only [ac_v, h1, if_neg (show ¬ (12 : Nat) = 0 by decide), if_neg (show ¬ (12 : Nat) = 11 by decide), if_neg h.1, if_pos]
  · refine ⟨?_, Or.inr (Or.inl ⟨h2, h4, Or.inl ⟨h3, h5⟩, ac_v_r h1 h2 h3⟩)⟩
    split at h
    · rename_i e; exact absurd e h1
    · rename_i e; exact absurd e h3
    · exact h
theorem am_nn_r {t : AK} {i : Nat} {B : Prop} (h : am_nn t i B) (hok : am_okr t i) (ad sd : Nat → Nat) : B ∧ ∃ a, ac_v ad sd (.inr (.inr (t, i))) = .ref a := by
  obtain ⟨h1, h2⟩ := am_nn_of h hok ad sd
  rcases h2 with ⟨-, -, h2⟩ | ⟨-, -, -, h2⟩ | ⟨-, h2⟩
  · exact ⟨h1, _, h2⟩
  · exact ⟨h1, _, h2⟩
  · exact ⟨h1, _, h2⟩
theorem am_hok_si {σ : AS} {o f : Nat} {x : Int32} (h : am_hok σ) (hn : o < am_n → (am_kd o).1 ≤ 10 → (am_ft ((am_kd o).1 - 1) f).1 = 3 → x.toNatClampNeg = 0 ∨ (x.toNatClampNeg < am_n ∧ am_kd x.toNatClampNeg = (8, 0, 0))) : am_hok (am_si σ o f x) := by
  intro o' f' h1 h2 h3
  by_cases e : o' = o
  · subst e
    by_cases e2 : f' = f
    · subst e2
      have e3 : (am_si σ o' f' x).1 o' f' = x := by simp [am_si, am_u2, upd]
      rw [e3]
      exact hn h1 h2 h3
    · have e3 : (am_si σ o' f x).1 o' f' = σ.1 o' f' := by simp [am_si, am_u2, upd, e2]
      rw [e3]
      exact h o' f' h1 h2 h3
  · have e3 : (am_si σ o f x).1 o' f' = σ.1 o' f' := by simp [am_si, am_u2, e]
    rw [e3]
    exact h o' f' h1 h2 h3
theorem am_hok_sr {σ : AS} {o : Nat} {g : Nat → Int32} (h : am_hok σ) (hn : 20 ≤ (am_kd o).1) : am_hok (am_sr σ o g) := by
  intro o' f' h1 h2 h3
  by_cases e : o' = o
  · subst e; omega
  · have e3 : (am_sr σ o g).1 o' f' = σ.1 o' f' := by simp [am_sr, am_u2, e]
    rw [e3]
    exact h o' f' h1 h2 h3
theorem am_hok_j {σ σ' : AS} (h : am_hok σ) (e : σ'.1 = σ.1) : am_hok σ' := by
  intro o' f' h1 h2 h3
  rw [e]
  exact h o' f' h1 h2 h3
theorem am_okr_o {t : AK} {o ci : Nat} (h : am_okr t o) (ht : t.1 = ci + 1) (hc : ci < 10) (ad sd : Nat → Nat) : o < am_n ∧ (am_kd o).1 = ci + 1 ∧ ac_v ad sd (.inr (.inr (t, o))) = .ref (ad o) := by
  rcases h with (⟨h1, h2⟩ | ⟨h0, h2⟩ | ⟨h0, h2⟩) | ⟨h1, h2⟩ | ⟨h1, h2, h3, h4, h5⟩
  · omega
  · rw [h0] at ht; dsimp only at ht; omega
  · rw [h0] at ht; dsimp only at ht; omega
  · omega
  · exact ⟨h4, by rw [h5, ht], ac_v_r h1 h2 h3⟩
theorem am_okr_a {t : AK} {o k : Nat} (h : am_okr t o) (ht : t.1 = k) (hk : 20 ≤ k ∧ k ≤ 26) (ad sd : Nat → Nat) : o < am_n ∧ am_kd o = t ∧ ac_v ad sd (.inr (.inr (t, o))) = .ref (ad o) := by
  rcases h with (⟨h1, h2⟩ | ⟨h0, h2⟩ | ⟨h0, h2⟩) | ⟨h1, h2⟩ | ⟨h1, h2, h3, h4, h5⟩
  · omega
  · rw [h0] at ht; dsimp only at ht; omega
  · rw [h0] at ht; dsimp only at ht; omega
  · omega
  · exact ⟨h4, h5, ac_v_r h1 h2 h3⟩
theorem am_okr_s {o : Nat} (h : am_okr (11, 0, 0) o) : o < 16 := by
  rcases h with (⟨h1, h2⟩ | ⟨h0, h2⟩ | ⟨h0, h2⟩) | ⟨h1, h2⟩ | ⟨h1, h2, h3, h4, h5⟩
  · cases h1
  · exact h2
  · cases h0
  · cases h1
  · exact absurd rfl h2
theorem am_okr_b {o : Nat} (h : am_okr (11, 1, 0) o) : ∃ q, q < 16 ∧ o = 16 + q := by
  rcases h with (⟨h1, h2⟩ | ⟨h0, h2⟩ | ⟨h0, h2⟩) | ⟨h1, h2⟩ | ⟨h1, h2, h3, h4, h5⟩
  · cases h1
  · cases h0
  · exact ⟨o - 16, by omega, by omega⟩
  · cases h1
  · exact absurd rfl h2
theorem am_flds_at {ad : Nat → Nat} {σ : AS} {o ci f : Nat} (h : f < am_nf ci) : (am_flds ad σ o ci)[f]? = some (am_fv ad σ o f (am_ft ci f)) := by
  simp only [am_flds, List.getElem?_map, List.getElem?_range h, Option.map_some]
theorem am_flds_set {ad : Nat → Nat} {σ σ' : AS} {o ci f : Nat} {v : Value} (h : f < am_nf ci) (hv : am_fv ad σ' o f (am_ft ci f) = v) (hg : ∀ j, j ≠ f → σ'.1 o j = σ.1 o j ∧ σ'.2 o j = σ.2 o j) : (am_flds ad σ o ci).set f v = am_flds ad σ' o ci :=
  am_map_set h hv (fun j _ e => by
    unfold am_fv
    rw [(hg j e).1, (hg j e).2])
theorem am_flds_len {ad : Nat → Nat} {σ : AS} {o ci : Nat} : (am_flds ad σ o ci).length = am_nf ci := by simp [am_flds]
section AMO
variable {p : Program} {l : Launch} {e : Env} {R : Room} {s : State} {m : MethodId} {args : Array Value} {below : List Frame} {meth : Method} {c : Code} {H : Heap} {locs : List Loc} {Q : State → Prop}
variable {D : va_G} {cy : Nat → ClassId} {ad sd sv : Nat → Nat} {A : Nat → Prop} {M : AM} {pc : Nat} {ls : Array Slot} {lv : AL} {st : List AV} {σ : AS} {d cl sl : Nat}
theorem va_ald2 {tys : List (ClassId × FieldType)} {ws : va_W} {cl : List vw_C} {cc : ByteArray} {a : Nat} {rest : List Value} {cells slots : Nat} (hexec : p.tables.exec = Jvm.exec) (hb : c.code = cc) (hK : va_K D cl tys s) (hP : va_P D cl ws H) (q0 t0 : Nat) {cA : ClassId} {n : Nat} {f : Nat → Option Nat} (ha : ws[q0]? = some (a, .inl (cA, n, .inr (.inr (.inr (.inr f)))))) (ht : tys[t0]? = some (cA, .array .int)) {i : Int32} (hin : vp_in i n) (hdg : decode cc pc = .ok (.aaload, 1))
    (kk : W p l e R s m args below meth c H locs cells slots Q (F0 m (pc + 1) ls (va_rf (f i.toNatClampNeg) :: rest))) : W p l e R s m args below meth c H locs cells slots Q (F0 m pc ls (.int i :: .ref a :: rest)) := by
  have hlt : i.toNatClampNeg < n := Nat.not_le.mp fun q => hin (Or.inr q)
  exact W.aald (v := va_rf (f i.toNatClampNeg)) (ty := .array .int) hexec hb (hP q0 _ ha) ((hK.2 t0 _ ht).1 n (fun j => va_rf (f j))) rfl (fun q => by cases q) (by show ¬ (i < 0 ∨ (arrV _ _ _).slots.size ≤ _); rw [arrV_size]; exact hin) (by show (arrV _ _ _).slots[_]? = _; rw [arrV_read _ _ hlt]) rfl rfl hdg kk

/-- what stands still during a method -/
def am_Cx (p : Program) (R : Room) (cl sl d : Nat) (s : State) (m : MethodId) (args : Array Value) (meth : Method) (c : Code) (M : AM) (D : va_G) (cy : Nat → ClassId) (sd sv : Nat → Nat) (A : Nat → Prop) : Prop :=
  p.tables.exec = Jvm.exec ∧ c.code = M.2.2.1 ∧ c.maxLocals = M.2.2.2.1 ∧ s.vm.findClass (am_nm M.1) = some m.cls ∧ (∀ w ∈ am_T, w.before args s = true) ∧ meth.sig.returnType = M.2.2.2.2.1 ∧ meth.locks = false ∧ M.1 < 17 ∧ am_E D cy sd sv A s s.heap ∧ (∀ q, s.heap.size ≤ q → A q) ∧ M.2.2.2.1 ≤ 20 ∧ d + 1 ≤ R.frames ∧ 60 * (d + 1) ≤ R.locals ∧ cl ≤ R.cells ∧ sl ≤ R.slots
abbrev am_X (p : Program) (l : Launch) (e : Env) (R : Room) (cl sl : Nat) (s : State) (m : MethodId) (args : Array Value) (below : List Frame) (meth : Method) (c : Code) (Q : State → Prop) (M : AM) (D : va_G) (cy : Nat → ClassId) (ad sd : Nat → Nat) (A : Nat → Prop) := am_W p l e R cl sl s m args below meth c Q D cy ad sd A M.2.2.2.1

theorem am_1_iconst (C : am_Cx p R cl sl d s m args meth c M D cy sd sv A) {n : Nat} {k : Int} (hd : decode M.2.2.1 pc = .ok (.iconst k, n)) (hi : am_iok M.2.2.2.1 pc (.iconst k) n = true) (h : (am_X p l e R cl sl s m args below meth c Q M D cy ad sd A) (pc + 1) lv (.inl (am_ic k) :: st) σ) : (am_X p l e R cl sl s m args below meth c Q M D cy ad sd A) pc lv st σ := by
  obtain ⟨hx, hb, hml, hown, hts, hr, hlk, ho, hE, hA, hm20, hR1, hR2, hR3, hR4⟩ := C
  intro hlv hst hk H locs ls hP hD hS hl
  obtain rfl := am_iok_n rfl hi
  exact lv_iconst hx hb hd (am_ic_eq k) (h hlv (am_okc trivial hst) hk H locs ls hP hD hS hl)
theorem am_1_bipush (C : am_Cx p R cl sl d s m args meth c M D cy sd sv A) {n : Nat} {k : Int} (hd : decode M.2.2.1 pc = .ok (.bipush k, n)) (hi : am_iok M.2.2.2.1 pc (.bipush k) n = true) (h : (am_X p l e R cl sl s m args below meth c Q M D cy ad sd A) (pc + 2) lv (.inl (am_ic k) :: st) σ) : (am_X p l e R cl sl s m args below meth c Q M D cy ad sd A) pc lv st σ := by
  obtain ⟨hx, hb, hml, hown, hts, hr, hlk, ho, hE, hA, hm20, hR1, hR2, hR3, hR4⟩ := C
  intro hlv hst hk H locs ls hP hD hS hl
  obtain rfl := am_iok_n rfl hi
  have h1 := am_iok_x hi
  simp only [am_ix, Bool.and_eq_true, decide_eq_true_eq] at h1
  exact lv_bipush hx hb hd (am_bip h1.1 h1.2) (h hlv (am_okc trivial hst) hk H locs ls hP hD hS hl)
theorem am_1_sipush (C : am_Cx p R cl sl d s m args meth c M D cy sd sv A) {n : Nat} {k : Int} (hd : decode M.2.2.1 pc = .ok (.sipush k, n)) (hi : am_iok M.2.2.2.1 pc (.sipush k) n = true) (h : (am_X p l e R cl sl s m args below meth c Q M D cy ad sd A) (pc + 3) lv (.inl (am_ic k) :: st) σ) : (am_X p l e R cl sl s m args below meth c Q M D cy ad sd A) pc lv st σ := by
  obtain ⟨hx, hb, hml, hown, hts, hr, hlk, ho, hE, hA, hm20, hR1, hR2, hR3, hR4⟩ := C
  intro hlv hst hk H locs ls hP hD hS hl
  obtain rfl := am_iok_n rfl hi
  have h1 := am_iok_x hi
  simp only [am_ix, Bool.and_eq_true, decide_eq_true_eq] at h1
  exact lv_sipush hx hb hd (am_sip h1.1 h1.2) (h hlv (am_okc trivial hst) hk H locs ls hP hD hS hl)
theorem am_1_lconst (C : am_Cx p R cl sl d s m args meth c M D cy sd sv A) {n : Nat} {k : Fin 2} (hd : decode M.2.2.1 pc = .ok (.lconst k, n)) (hi : am_iok M.2.2.2.1 pc (.lconst k) n = true) (h : (am_X p l e R cl sl s m args below meth c Q M D cy ad sd A) (pc + 1) lv (.inr (.inl (Int64.ofNat k)) :: st) σ) : (am_X p l e R cl sl s m args below meth c Q M D cy ad sd A) pc lv st σ := by
  obtain ⟨hx, hb, hml, hown, hts, hr, hlk, ho, hE, hA, hm20, hR1, hR2, hR3, hR4⟩ := C
  intro hlv hst hk H locs ls hP hD hS hl
  obtain rfl := am_iok_n rfl hi
  exact lv_lconst hx hb hd rfl (h hlv (am_okc trivial hst) hk H locs ls hP hD hS hl)
theorem am_1_iload_n (C : am_Cx p R cl sl d s m args meth c M D cy sd sv A) {n : Nat} {k : Fin 4} (hd : decode M.2.2.1 pc = .ok (.iload_n k, n)) (hi : am_iok M.2.2.2.1 pc (.iload_n k) n = true) (h : am_gi lv k fun x => (am_X p l e R cl sl s m args below meth c Q M D cy ad sd A) (pc + 1) lv (.inl x :: st) σ) : (am_X p l e R cl sl s m args below meth c Q M D cy ad sd A) pc lv st σ := by
  obtain ⟨hx, hb, hml, hown, hts, hr, hlk, ho, hE, hA, hm20, hR1, hR2, hR3, hR4⟩ := C
  intro hlv hst hk H locs ls hP hD hS hl
  obtain rfl := am_iok_n rfl hi
  obtain ⟨x, hmem, h⟩ := am_gi_of h
  exact lv_iload_n hx hb hd rfl (am_loc_at hl hmem) (h hlv (am_okc trivial hst) hk H locs ls hP hD hS hl)
theorem am_1_iload (C : am_Cx p R cl sl d s m args meth c M D cy sd sv A) {n : Nat} {k : Nat} (hd : decode M.2.2.1 pc = .ok (.iload k, n)) (hi : am_iok M.2.2.2.1 pc (.iload k) n = true) (h : am_gi lv k fun x => (am_X p l e R cl sl s m args below meth c Q M D cy ad sd A) (pc + 2) lv (.inl x :: st) σ) : (am_X p l e R cl sl s m args below meth c Q M D cy ad sd A) pc lv st σ := by
  obtain ⟨hx, hb, hml, hown, hts, hr, hlk, ho, hE, hA, hm20, hR1, hR2, hR3, hR4⟩ := C
  intro hlv hst hk H locs ls hP hD hS hl
  obtain rfl := am_iok_n rfl hi
  obtain ⟨x, hmem, h⟩ := am_gi_of h
  exact lv_iload hx hb hd (am_loc_at hl hmem) (h hlv (am_okc trivial hst) hk H locs ls hP hD hS hl)
theorem am_1_lload_n (C : am_Cx p R cl sl d s m args meth c M D cy sd sv A) {n : Nat} {k : Fin 4} (hd : decode M.2.2.1 pc = .ok (.lload_n k, n)) (hi : am_iok M.2.2.2.1 pc (.lload_n k) n = true) (h : am_gl lv k fun x => (am_X p l e R cl sl s m args below meth c Q M D cy ad sd A) (pc + 1) lv (.inr (.inl x) :: st) σ) : (am_X p l e R cl sl s m args below meth c Q M D cy ad sd A) pc lv st σ := by
  obtain ⟨hx, hb, hml, hown, hts, hr, hlk, ho, hE, hA, hm20, hR1, hR2, hR3, hR4⟩ := C
  intro hlv hst hk H locs ls hP hD hS hl
  obtain rfl := am_iok_n rfl hi
  obtain ⟨x, hmem, h⟩ := am_gl_of h
  exact lv_lload_n hx hb hd rfl (am_loc_at hl hmem) (h hlv (am_okc trivial hst) hk H locs ls hP hD hS hl)
theorem am_1_lload (C : am_Cx p R cl sl d s m args meth c M D cy sd sv A) {n : Nat} {k : Nat} (hd : decode M.2.2.1 pc = .ok (.lload k, n)) (hi : am_iok M.2.2.2.1 pc (.lload k) n = true) (h : am_gl lv k fun x => (am_X p l e R cl sl s m args below meth c Q M D cy ad sd A) (pc + 2) lv (.inr (.inl x) :: st) σ) : (am_X p l e R cl sl s m args below meth c Q M D cy ad sd A) pc lv st σ := by
  obtain ⟨hx, hb, hml, hown, hts, hr, hlk, ho, hE, hA, hm20, hR1, hR2, hR3, hR4⟩ := C
  intro hlv hst hk H locs ls hP hD hS hl
  obtain rfl := am_iok_n rfl hi
  obtain ⟨x, hmem, h⟩ := am_gl_of h
  exact lv_lload hx hb hd (am_loc_at hl hmem) (h hlv (am_okc trivial hst) hk H locs ls hP hD hS hl)
theorem am_1_aload_n (C : am_Cx p R cl sl d s m args meth c M D cy sd sv A) {n : Nat} {k : Fin 4} (hd : decode M.2.2.1 pc = .ok (.aload_n k, n)) (hi : am_iok M.2.2.2.1 pc (.aload_n k) n = true) (h : am_gr lv k fun t o => am_nn t o ((am_X p l e R cl sl s m args below meth c Q M D cy ad sd A) (pc + 1) lv (.inr (.inr (t, o)) :: st) σ)) : (am_X p l e R cl sl s m args below meth c Q M D cy ad sd A) pc lv st σ := by
  obtain ⟨hx, hb, hml, hown, hts, hr, hlk, ho, hE, hA, hm20, hR1, hR2, hR3, hR4⟩ := C
  intro hlv hst hk H locs ls hP hD hS hl
  obtain rfl := am_iok_n rfl hi
  obtain ⟨t, o, hmem, h⟩ := am_gr_of h
  have hov : am_okr t o := hlv _ hmem
  obtain ⟨h, a, ha⟩ := am_nn_r h hov ad sd
  have hk2 := h hlv (am_okc hov hst) hk H locs ls hP hD hS hl
  have hat := am_loc_at hl hmem
  rw [ha] at hat
  rw [List.map_cons, ha] at hk2
  exact lv_aload_n hx hb hd rfl hat hk2
theorem am_1_aload (C : am_Cx p R cl sl d s m args meth c M D cy sd sv A) {n : Nat} {k : Nat} (hd : decode M.2.2.1 pc = .ok (.aload k, n)) (hi : am_iok M.2.2.2.1 pc (.aload k) n = true) (h : am_gr lv k fun t o => am_nn t o ((am_X p l e R cl sl s m args below meth c Q M D cy ad sd A) (pc + 2) lv (.inr (.inr (t, o)) :: st) σ)) : (am_X p l e R cl sl s m args below meth c Q M D cy ad sd A) pc lv st σ := by
  obtain ⟨hx, hb, hml, hown, hts, hr, hlk, ho, hE, hA, hm20, hR1, hR2, hR3, hR4⟩ := C
  intro hlv hst hk H locs ls hP hD hS hl
  obtain rfl := am_iok_n rfl hi
  obtain ⟨t, o, hmem, h⟩ := am_gr_of h
  have hov : am_okr t o := hlv _ hmem
  obtain ⟨h, a, ha⟩ := am_nn_r h hov ad sd
  have hk2 := h hlv (am_okc hov hst) hk H locs ls hP hD hS hl
  have hat := am_loc_at hl hmem
  rw [ha] at hat
  rw [List.map_cons, ha] at hk2
  exact lv_aload hx hb hd hat hk2
theorem am_1_istore_n (C : am_Cx p R cl sl d s m args meth c M D cy sd sv A) {n : Nat} {k : Fin 4} (hd : decode M.2.2.1 pc = .ok (.istore_n k, n)) (hi : am_iok M.2.2.2.1 pc (.istore_n k) n = true) (h : am_i1 st fun x r => (am_X p l e R cl sl s m args below meth c Q M D cy ad sd A) (pc + 1) (am_st1 lv k (.inl x)) r σ) : (am_X p l e R cl sl s m args below meth c Q M D cy ad sd A) pc lv st σ := by
  obtain ⟨hx, hb, hml, hown, hts, hr, hlk, ho, hE, hA, hm20, hR1, hR2, hR3, hR4⟩ := C
  intro hlv hst hk H locs ls hP hD hS hl
  obtain rfl := am_iok_n rfl hi
  have h1 := am_iok_x hi
  simp only [am_ix, decide_eq_true_eq] at h1
  obtain ⟨x, r, rfl, h⟩ := am_i1_of h
  exact lv_istore_n hx hb hd rfl hl h1 (ac_st1 ad sd lv k (.inl x)) (fun ls hl => h (am_okl1 hlv trivial) (am_okt hst) hk H locs ls hP hD hS hl)
theorem am_1_istore (C : am_Cx p R cl sl d s m args meth c M D cy sd sv A) {n : Nat} {k : Nat} (hd : decode M.2.2.1 pc = .ok (.istore k, n)) (hi : am_iok M.2.2.2.1 pc (.istore k) n = true) (h : am_i1 st fun x r => (am_X p l e R cl sl s m args below meth c Q M D cy ad sd A) (pc + 2) (am_st1 lv k (.inl x)) r σ) : (am_X p l e R cl sl s m args below meth c Q M D cy ad sd A) pc lv st σ := by
  obtain ⟨hx, hb, hml, hown, hts, hr, hlk, ho, hE, hA, hm20, hR1, hR2, hR3, hR4⟩ := C
  intro hlv hst hk H locs ls hP hD hS hl
  obtain rfl := am_iok_n rfl hi
  have h1 := am_iok_x hi
  simp only [am_ix, decide_eq_true_eq] at h1
  obtain ⟨x, r, rfl, h⟩ := am_i1_of h
  exact lv_istore hx hb hd hl h1 (ac_st1 ad sd lv k (.inl x)) (fun ls hl => h (am_okl1 hlv trivial) (am_okt hst) hk H locs ls hP hD hS hl)
theorem am_1_lstore_n (C : am_Cx p R cl sl d s m args meth c M D cy sd sv A) {n : Nat} {k : Fin 4} (hd : decode M.2.2.1 pc = .ok (.lstore_n k, n)) (hi : am_iok M.2.2.2.1 pc (.lstore_n k) n = true) (h : am_l1 st fun x r => (am_X p l e R cl sl s m args below meth c Q M D cy ad sd A) (pc + 1) (am_st2 lv k (.inr (.inl x))) r σ) : (am_X p l e R cl sl s m args below meth c Q M D cy ad sd A) pc lv st σ := by
  obtain ⟨hx, hb, hml, hown, hts, hr, hlk, ho, hE, hA, hm20, hR1, hR2, hR3, hR4⟩ := C
  intro hlv hst hk H locs ls hP hD hS hl
  obtain rfl := am_iok_n rfl hi
  have h1 := am_iok_x hi
  simp only [am_ix, decide_eq_true_eq] at h1
  obtain ⟨x, r, rfl, h⟩ := am_l1_of h
  exact lv_lstore_n hx hb hd rfl hl h1 (ac_st2 ad sd lv k (.inr (.inl x))) (fun ls hl => h (am_okl2 hlv trivial) (am_okt hst) hk H locs ls hP hD hS hl)
theorem am_1_lstore (C : am_Cx p R cl sl d s m args meth c M D cy sd sv A) {n : Nat} {k : Nat} (hd : decode M.2.2.1 pc = .ok (.lstore k, n)) (hi : am_iok M.2.2.2.1 pc (.lstore k) n = true) (h : am_l1 st fun x r => (am_X p l e R cl sl s m args below meth c Q M D cy ad sd A) (pc + 2) (am_st2 lv k (.inr (.inl x))) r σ) : (am_X p l e R cl sl s m args below meth c Q M D cy ad sd A) pc lv st σ := by
  obtain ⟨hx, hb, hml, hown, hts, hr, hlk, ho, hE, hA, hm20, hR1, hR2, hR3, hR4⟩ := C
  intro hlv hst hk H locs ls hP hD hS hl
  obtain rfl := am_iok_n rfl hi
  have h1 := am_iok_x hi
  simp only [am_ix, decide_eq_true_eq] at h1
  obtain ⟨x, r, rfl, h⟩ := am_l1_of h
  exact lv_lstore hx hb hd hl h1 (ac_st2 ad sd lv k (.inr (.inl x))) (fun ls hl => h (am_okl2 hlv trivial) (am_okt hst) hk H locs ls hP hD hS hl)
theorem am_1_astore_n (C : am_Cx p R cl sl d s m args meth c M D cy sd sv A) {n : Nat} {k : Fin 4} (hd : decode M.2.2.1 pc = .ok (.astore_n k, n)) (hi : am_iok M.2.2.2.1 pc (.astore_n k) n = true) (h : am_r1 st fun t o r => am_nn t o ((am_X p l e R cl sl s m args below meth c Q M D cy ad sd A) (pc + 1) (am_st1 lv k (.inr (.inr (t, o)))) r σ)) : (am_X p l e R cl sl s m args below meth c Q M D cy ad sd A) pc lv st σ := by
  obtain ⟨hx, hb, hml, hown, hts, hr, hlk, ho, hE, hA, hm20, hR1, hR2, hR3, hR4⟩ := C
  intro hlv hst hk H locs ls hP hD hS hl
  obtain rfl := am_iok_n rfl hi
  have h1 := am_iok_x hi
  simp only [am_ix, decide_eq_true_eq] at h1
  obtain ⟨t, o, r, rfl, h⟩ := am_r1_of h
  have hov : am_okr t o := am_okh hst
  obtain ⟨h, a, ha⟩ := am_nn_r h hov ad sd
  have hs := ac_st1 ad sd lv k (.inr (.inr (t, o)))
  rw [ha] at hs
  rw [List.map_cons, ha]
  exact lv_astore_n hx hb hd rfl hl h1 hs (fun ls hl => h (am_okl1 hlv hov) (am_okt hst) hk H locs ls hP hD hS hl)
theorem am_1_astore (C : am_Cx p R cl sl d s m args meth c M D cy sd sv A) {n : Nat} {k : Nat} (hd : decode M.2.2.1 pc = .ok (.astore k, n)) (hi : am_iok M.2.2.2.1 pc (.astore k) n = true) (h : am_r1 st fun t o r => am_nn t o ((am_X p l e R cl sl s m args below meth c Q M D cy ad sd A) (pc + 2) (am_st1 lv k (.inr (.inr (t, o)))) r σ)) : (am_X p l e R cl sl s m args below meth c Q M D cy ad sd A) pc lv st σ := by
  obtain ⟨hx, hb, hml, hown, hts, hr, hlk, ho, hE, hA, hm20, hR1, hR2, hR3, hR4⟩ := C
  intro hlv hst hk H locs ls hP hD hS hl
  obtain rfl := am_iok_n rfl hi
  have h1 := am_iok_x hi
  simp only [am_ix, decide_eq_true_eq] at h1
  obtain ⟨t, o, r, rfl, h⟩ := am_r1_of h
  have hov : am_okr t o := am_okh hst
  obtain ⟨h, a, ha⟩ := am_nn_r h hov ad sd
  have hs := ac_st1 ad sd lv k (.inr (.inr (t, o)))
  rw [ha] at hs
  rw [List.map_cons, ha]
  exact lv_astore hx hb hd hl h1 hs (fun ls hl => h (am_okl1 hlv hov) (am_okt hst) hk H locs ls hP hD hS hl)
theorem am_1_iinc (C : am_Cx p R cl sl d s m args meth c M D cy sd sv A) {n : Nat} {k : Nat} {q : Int} (hd : decode M.2.2.1 pc = .ok (.iinc k q, n)) (hi : am_iok M.2.2.2.1 pc (.iinc k q) n = true) (h : am_gi lv k fun x => (am_X p l e R cl sl s m args below meth c Q M D cy ad sd A) (pc + 3) (am_st1 lv k (.inl (x + am_ic q))) st σ) : (am_X p l e R cl sl s m args below meth c Q M D cy ad sd A) pc lv st σ := by
  obtain ⟨hx, hb, hml, hown, hts, hr, hlk, ho, hE, hA, hm20, hR1, hR2, hR3, hR4⟩ := C
  intro hlv hst hk H locs ls hP hD hS hl
  obtain rfl := am_iok_n rfl hi
  have h1 := am_iok_x hi
  simp only [am_ix, decide_eq_true_eq] at h1
  obtain ⟨x, hmem, h⟩ := am_gi_of h
  obtain ⟨j, hj⟩ := List.getElem?_of_mem (List.mem_map.mpr ⟨(k, (.inl x : AV)), hmem, rfl⟩ : (k, ac_v ad sd (.inl x)) ∈ ac_l ad sd lv)
  exact lv_iinc hx hb hd hl hj (by rw [am_ic_eq]) h1 (ac_st1 ad sd lv k (.inl (x + am_ic q))) (fun ls hl => h (am_okl1 hlv trivial) hst hk H locs ls hP hD hS hl)
theorem am_1_iadd (C : am_Cx p R cl sl d s m args meth c M D cy sd sv A) {n : Nat} (hd : decode M.2.2.1 pc = .ok (.iadd, n)) (hi : am_iok M.2.2.2.1 pc (.iadd) n = true) (h : am_i2 st fun x y r => (am_X p l e R cl sl s m args below meth c Q M D cy ad sd A) (pc + 1) lv (.inl (x + y) :: r) σ) : (am_X p l e R cl sl s m args below meth c Q M D cy ad sd A) pc lv st σ := by
  obtain ⟨hx, hb, hml, hown, hts, hr, hlk, ho, hE, hA, hm20, hR1, hR2, hR3, hR4⟩ := C
  intro hlv hst hk H locs ls hP hD hS hl
  obtain rfl := am_iok_n rfl hi
  obtain ⟨x, y, r, rfl, h⟩ := am_i2_of h
  exact lv_iadd hx hb hd (h hlv (am_okc trivial (am_okt (am_okt hst))) hk H locs ls hP hD hS hl)
theorem am_1_isub (C : am_Cx p R cl sl d s m args meth c M D cy sd sv A) {n : Nat} (hd : decode M.2.2.1 pc = .ok (.isub, n)) (hi : am_iok M.2.2.2.1 pc (.isub) n = true) (h : am_i2 st fun x y r => (am_X p l e R cl sl s m args below meth c Q M D cy ad sd A) (pc + 1) lv (.inl (x - y) :: r) σ) : (am_X p l e R cl sl s m args below meth c Q M D cy ad sd A) pc lv st σ := by
  obtain ⟨hx, hb, hml, hown, hts, hr, hlk, ho, hE, hA, hm20, hR1, hR2, hR3, hR4⟩ := C
  intro hlv hst hk H locs ls hP hD hS hl
  obtain rfl := am_iok_n rfl hi
  obtain ⟨x, y, r, rfl, h⟩ := am_i2_of h
  exact lv_isub hx hb hd (h hlv (am_okc trivial (am_okt (am_okt hst))) hk H locs ls hP hD hS hl)
theorem am_1_imul (C : am_Cx p R cl sl d s m args meth c M D cy sd sv A) {n : Nat} (hd : decode M.2.2.1 pc = .ok (.imul, n)) (hi : am_iok M.2.2.2.1 pc (.imul) n = true) (h : am_i2 st fun x y r => (am_X p l e R cl sl s m args below meth c Q M D cy ad sd A) (pc + 1) lv (.inl (x * y) :: r) σ) : (am_X p l e R cl sl s m args below meth c Q M D cy ad sd A) pc lv st σ := by
  obtain ⟨hx, hb, hml, hown, hts, hr, hlk, ho, hE, hA, hm20, hR1, hR2, hR3, hR4⟩ := C
  intro hlv hst hk H locs ls hP hD hS hl
  obtain rfl := am_iok_n rfl hi
  obtain ⟨x, y, r, rfl, h⟩ := am_i2_of h
  exact lv_imul hx hb hd (h hlv (am_okc trivial (am_okt (am_okt hst))) hk H locs ls hP hD hS hl)
theorem am_1_idiv (C : am_Cx p R cl sl d s m args meth c M D cy sd sv A) {n : Nat} (hd : decode M.2.2.1 pc = .ok (.idiv, n)) (hi : am_iok M.2.2.2.1 pc (.idiv) n = true) (h : am_i2 st fun x y r => ¬ y = 0 ∧ (am_X p l e R cl sl s m args below meth c Q M D cy ad sd A) (pc + 1) lv (.inl (x / y) :: r) σ) : (am_X p l e R cl sl s m args below meth c Q M D cy ad sd A) pc lv st σ := by
  obtain ⟨hx, hb, hml, hown, hts, hr, hlk, ho, hE, hA, hm20, hR1, hR2, hR3, hR4⟩ := C
  intro hlv hst hk H locs ls hP hD hS hl
  obtain rfl := am_iok_n rfl hi
  obtain ⟨x, y, r, rfl, hz, h⟩ := am_i2_of h
  exact lv_idiv hx hb hd hz (h hlv (am_okc trivial (am_okt (am_okt hst))) hk H locs ls hP hD hS hl)
theorem am_1_irem (C : am_Cx p R cl sl d s m args meth c M D cy sd sv A) {n : Nat} (hd : decode M.2.2.1 pc = .ok (.irem, n)) (hi : am_iok M.2.2.2.1 pc (.irem) n = true) (h : am_i2 st fun x y r => ¬ y = 0 ∧ (am_X p l e R cl sl s m args below meth c Q M D cy ad sd A) (pc + 1) lv (.inl (x - x / y * y) :: r) σ) : (am_X p l e R cl sl s m args below meth c Q M D cy ad sd A) pc lv st σ := by
  obtain ⟨hx, hb, hml, hown, hts, hr, hlk, ho, hE, hA, hm20, hR1, hR2, hR3, hR4⟩ := C
  intro hlv hst hk H locs ls hP hD hS hl
  obtain rfl := am_iok_n rfl hi
  obtain ⟨x, y, r, rfl, hz, h⟩ := am_i2_of h
  exact lv_irem hx hb hd hz (h hlv (am_okc trivial (am_okt (am_okt hst))) hk H locs ls hP hD hS hl)
theorem am_1_ishl (C : am_Cx p R cl sl d s m args meth c M D cy sd sv A) {n : Nat} (hd : decode M.2.2.1 pc = .ok (.ishl, n)) (hi : am_iok M.2.2.2.1 pc (.ishl) n = true) (h : am_i2 st fun x y r => (am_X p l e R cl sl s m args below meth c Q M D cy ad sd A) (pc + 1) lv (.inl (x <<< (y &&& 31)) :: r) σ) : (am_X p l e R cl sl s m args below meth c Q M D cy ad sd A) pc lv st σ := by
  obtain ⟨hx, hb, hml, hown, hts, hr, hlk, ho, hE, hA, hm20, hR1, hR2, hR3, hR4⟩ := C
  intro hlv hst hk H locs ls hP hD hS hl
  obtain rfl := am_iok_n rfl hi
  obtain ⟨x, y, r, rfl, h⟩ := am_i2_of h
  exact lv_ishl hx hb hd (h hlv (am_okc trivial (am_okt (am_okt hst))) hk H locs ls hP hD hS hl)
theorem am_1_ishr (C : am_Cx p R cl sl d s m args meth c M D cy sd sv A) {n : Nat} (hd : decode M.2.2.1 pc = .ok (.ishr, n)) (hi : am_iok M.2.2.2.1 pc (.ishr) n = true) (h : am_i2 st fun x y r => (am_X p l e R cl sl s m args below meth c Q M D cy ad sd A) (pc + 1) lv (.inl (x >>> (y &&& 31)) :: r) σ) : (am_X p l e R cl sl s m args below meth c Q M D cy ad sd A) pc lv st σ := by
  obtain ⟨hx, hb, hml, hown, hts, hr, hlk, ho, hE, hA, hm20, hR1, hR2, hR3, hR4⟩ := C
  intro hlv hst hk H locs ls hP hD hS hl
  obtain rfl := am_iok_n rfl hi
  obtain ⟨x, y, r, rfl, h⟩ := am_i2_of h
  exact lv_ishr hx hb hd (h hlv (am_okc trivial (am_okt (am_okt hst))) hk H locs ls hP hD hS hl)
theorem am_1_iand (C : am_Cx p R cl sl d s m args meth c M D cy sd sv A) {n : Nat} (hd : decode M.2.2.1 pc = .ok (.iand, n)) (hi : am_iok M.2.2.2.1 pc (.iand) n = true) (h : am_i2 st fun x y r => (am_X p l e R cl sl s m args below meth c Q M D cy ad sd A) (pc + 1) lv (.inl (x &&& y) :: r) σ) : (am_X p l e R cl sl s m args below meth c Q M D cy ad sd A) pc lv st σ := by
  obtain ⟨hx, hb, hml, hown, hts, hr, hlk, ho, hE, hA, hm20, hR1, hR2, hR3, hR4⟩ := C
  intro hlv hst hk H locs ls hP hD hS hl
  obtain rfl := am_iok_n rfl hi
  obtain ⟨x, y, r, rfl, h⟩ := am_i2_of h
  exact lv_iand hx hb hd (h hlv (am_okc trivial (am_okt (am_okt hst))) hk H locs ls hP hD hS hl)
theorem am_1_ior (C : am_Cx p R cl sl d s m args meth c M D cy sd sv A) {n : Nat} (hd : decode M.2.2.1 pc = .ok (.ior, n)) (hi : am_iok M.2.2.2.1 pc (.ior) n = true) (h : am_i2 st fun x y r => (am_X p l e R cl sl s m args below meth c Q M D cy ad sd A) (pc + 1) lv (.inl (x ||| y) :: r) σ) : (am_X p l e R cl sl s m args below meth c Q M D cy ad sd A) pc lv st σ := by
  obtain ⟨hx, hb, hml, hown, hts, hr, hlk, ho, hE, hA, hm20, hR1, hR2, hR3, hR4⟩ := C
  intro hlv hst hk H locs ls hP hD hS hl
  obtain rfl := am_iok_n rfl hi
  obtain ⟨x, y, r, rfl, h⟩ := am_i2_of h
  exact lv_ior hx hb hd (h hlv (am_okc trivial (am_okt (am_okt hst))) hk H locs ls hP hD hS hl)
theorem am_1_ixor (C : am_Cx p R cl sl d s m args meth c M D cy sd sv A) {n : Nat} (hd : decode M.2.2.1 pc = .ok (.ixor, n)) (hi : am_iok M.2.2.2.1 pc (.ixor) n = true) (h : am_i2 st fun x y r => (am_X p l e R cl sl s m args below meth c Q M D cy ad sd A) (pc + 1) lv (.inl (x ^^^ y) :: r) σ) : (am_X p l e R cl sl s m args below meth c Q M D cy ad sd A) pc lv st σ := by
  obtain ⟨hx, hb, hml, hown, hts, hr, hlk, ho, hE, hA, hm20, hR1, hR2, hR3, hR4⟩ := C
  intro hlv hst hk H locs ls hP hD hS hl
  obtain rfl := am_iok_n rfl hi
  obtain ⟨x, y, r, rfl, h⟩ := am_i2_of h
  exact lv_ixor hx hb hd (h hlv (am_okc trivial (am_okt (am_okt hst))) hk H locs ls hP hD hS hl)
theorem am_1_iushr (C : am_Cx p R cl sl d s m args meth c M D cy sd sv A) {n : Nat} (hd : decode M.2.2.1 pc = .ok (.iushr, n)) (hi : am_iok M.2.2.2.1 pc (.iushr) n = true) (h : am_i2 st fun x y r => (am_X p l e R cl sl s m args below meth c Q M D cy ad sd A) (pc + 1) lv (.inl (am_sh32 x y) :: r) σ) : (am_X p l e R cl sl s m args below meth c Q M D cy ad sd A) pc lv st σ := by
  obtain ⟨hx, hb, hml, hown, hts, hr, hlk, ho, hE, hA, hm20, hR1, hR2, hR3, hR4⟩ := C
  intro hlv hst hk H locs ls hP hD hS hl
  obtain rfl := am_iok_n rfl hi
  obtain ⟨x, y, r, rfl, h⟩ := am_i2_of h
  exact lv_iushr hx hb hd rfl (h hlv (am_okc trivial (am_okt (am_okt hst))) hk H locs ls hP hD hS hl)
theorem am_1_ladd (C : am_Cx p R cl sl d s m args meth c M D cy sd sv A) {n : Nat} (hd : decode M.2.2.1 pc = .ok (.ladd, n)) (hi : am_iok M.2.2.2.1 pc (.ladd) n = true) (h : am_l2 st fun x y r => (am_X p l e R cl sl s m args below meth c Q M D cy ad sd A) (pc + 1) lv (.inr (.inl (x + y)) :: r) σ) : (am_X p l e R cl sl s m args below meth c Q M D cy ad sd A) pc lv st σ := by
  obtain ⟨hx, hb, hml, hown, hts, hr, hlk, ho, hE, hA, hm20, hR1, hR2, hR3, hR4⟩ := C
  intro hlv hst hk H locs ls hP hD hS hl
  obtain rfl := am_iok_n rfl hi
  obtain ⟨x, y, r, rfl, h⟩ := am_l2_of h
  exact lv_ladd hx hb hd (h hlv (am_okc trivial (am_okt (am_okt hst))) hk H locs ls hP hD hS hl)
theorem am_1_lsub (C : am_Cx p R cl sl d s m args meth c M D cy sd sv A) {n : Nat} (hd : decode M.2.2.1 pc = .ok (.lsub, n)) (hi : am_iok M.2.2.2.1 pc (.lsub) n = true) (h : am_l2 st fun x y r => (am_X p l e R cl sl s m args below meth c Q M D cy ad sd A) (pc + 1) lv (.inr (.inl (x - y)) :: r) σ) : (am_X p l e R cl sl s m args below meth c Q M D cy ad sd A) pc lv st σ := by
  obtain ⟨hx, hb, hml, hown, hts, hr, hlk, ho, hE, hA, hm20, hR1, hR2, hR3, hR4⟩ := C
  intro hlv hst hk H locs ls hP hD hS hl
  obtain rfl := am_iok_n rfl hi
  obtain ⟨x, y, r, rfl, h⟩ := am_l2_of h
  exact lv_lsub hx hb hd (h hlv (am_okc trivial (am_okt (am_okt hst))) hk H locs ls hP hD hS hl)
theorem am_1_lmul (C : am_Cx p R cl sl d s m args meth c M D cy sd sv A) {n : Nat} (hd : decode M.2.2.1 pc = .ok (.lmul, n)) (hi : am_iok M.2.2.2.1 pc (.lmul) n = true) (h : am_l2 st fun x y r => (am_X p l e R cl sl s m args below meth c Q M D cy ad sd A) (pc + 1) lv (.inr (.inl (x * y)) :: r) σ) : (am_X p l e R cl sl s m args below meth c Q M D cy ad sd A) pc lv st σ := by
  obtain ⟨hx, hb, hml, hown, hts, hr, hlk, ho, hE, hA, hm20, hR1, hR2, hR3, hR4⟩ := C
  intro hlv hst hk H locs ls hP hD hS hl
  obtain rfl := am_iok_n rfl hi
  obtain ⟨x, y, r, rfl, h⟩ := am_l2_of h
  exact lv_lmul hx hb hd (h hlv (am_okc trivial (am_okt (am_okt hst))) hk H locs ls hP hD hS hl)
theorem am_1_ldiv (C : am_Cx p R cl sl d s m args meth c M D cy sd sv A) {n : Nat} (hd : decode M.2.2.1 pc = .ok (.ldiv, n)) (hi : am_iok M.2.2.2.1 pc (.ldiv) n = true) (h : am_l2 st fun x y r => ¬ y = 0 ∧ (am_X p l e R cl sl s m args below meth c Q M D cy ad sd A) (pc + 1) lv (.inr (.inl (x / y)) :: r) σ) : (am_X p l e R cl sl s m args below meth c Q M D cy ad sd A) pc lv st σ := by
  obtain ⟨hx, hb, hml, hown, hts, hr, hlk, ho, hE, hA, hm20, hR1, hR2, hR3, hR4⟩ := C
  intro hlv hst hk H locs ls hP hD hS hl
  obtain rfl := am_iok_n rfl hi
  obtain ⟨x, y, r, rfl, hz, h⟩ := am_l2_of h
  exact lv_ldiv hx hb hd hz (h hlv (am_okc trivial (am_okt (am_okt hst))) hk H locs ls hP hD hS hl)
theorem am_1_lrem (C : am_Cx p R cl sl d s m args meth c M D cy sd sv A) {n : Nat} (hd : decode M.2.2.1 pc = .ok (.lrem, n)) (hi : am_iok M.2.2.2.1 pc (.lrem) n = true) (h : am_l2 st fun x y r => ¬ y = 0 ∧ (am_X p l e R cl sl s m args below meth c Q M D cy ad sd A) (pc + 1) lv (.inr (.inl (x - x / y * y)) :: r) σ) : (am_X p l e R cl sl s m args below meth c Q M D cy ad sd A) pc lv st σ := by
  obtain ⟨hx, hb, hml, hown, hts, hr, hlk, ho, hE, hA, hm20, hR1, hR2, hR3, hR4⟩ := C
  intro hlv hst hk H locs ls hP hD hS hl
  obtain rfl := am_iok_n rfl hi
  obtain ⟨x, y, r, rfl, hz, h⟩ := am_l2_of h
  exact lv_lrem hx hb hd hz (h hlv (am_okc trivial (am_okt (am_okt hst))) hk H locs ls hP hD hS hl)
theorem am_1_land (C : am_Cx p R cl sl d s m args meth c M D cy sd sv A) {n : Nat} (hd : decode M.2.2.1 pc = .ok (.land, n)) (hi : am_iok M.2.2.2.1 pc (.land) n = true) (h : am_l2 st fun x y r => (am_X p l e R cl sl s m args below meth c Q M D cy ad sd A) (pc + 1) lv (.inr (.inl (x &&& y)) :: r) σ) : (am_X p l e R cl sl s m args below meth c Q M D cy ad sd A) pc lv st σ := by
  obtain ⟨hx, hb, hml, hown, hts, hr, hlk, ho, hE, hA, hm20, hR1, hR2, hR3, hR4⟩ := C
  intro hlv hst hk H locs ls hP hD hS hl
  obtain rfl := am_iok_n rfl hi
  obtain ⟨x, y, r, rfl, h⟩ := am_l2_of h
  exact lv_land hx hb hd (h hlv (am_okc trivial (am_okt (am_okt hst))) hk H locs ls hP hD hS hl)
theorem am_1_lor (C : am_Cx p R cl sl d s m args meth c M D cy sd sv A) {n : Nat} (hd : decode M.2.2.1 pc = .ok (.lor, n)) (hi : am_iok M.2.2.2.1 pc (.lor) n = true) (h : am_l2 st fun x y r => (am_X p l e R cl sl s m args below meth c Q M D cy ad sd A) (pc + 1) lv (.inr (.inl (x ||| y)) :: r) σ) : (am_X p l e R cl sl s m args below meth c Q M D cy ad sd A) pc lv st σ := by
  obtain ⟨hx, hb, hml, hown, hts, hr, hlk, ho, hE, hA, hm20, hR1, hR2, hR3, hR4⟩ := C
  intro hlv hst hk H locs ls hP hD hS hl
  obtain rfl := am_iok_n rfl hi
  obtain ⟨x, y, r, rfl, h⟩ := am_l2_of h
  exact lv_lor hx hb hd (h hlv (am_okc trivial (am_okt (am_okt hst))) hk H locs ls hP hD hS hl)
theorem am_1_lshl (C : am_Cx p R cl sl d s m args meth c M D cy sd sv A) {n : Nat} (hd : decode M.2.2.1 pc = .ok (.lshl, n)) (hi : am_iok M.2.2.2.1 pc (.lshl) n = true) (h : am_i1 st fun y r => am_l1 r fun x r => (am_X p l e R cl sl s m args below meth c Q M D cy ad sd A) (pc + 1) lv (.inr (.inl (x <<< (y.toInt64 &&& 63))) :: r) σ) : (am_X p l e R cl sl s m args below meth c Q M D cy ad sd A) pc lv st σ := by
  obtain ⟨hx, hb, hml, hown, hts, hr, hlk, ho, hE, hA, hm20, hR1, hR2, hR3, hR4⟩ := C
  intro hlv hst hk H locs ls hP hD hS hl
  obtain rfl := am_iok_n rfl hi
  obtain ⟨y, r1, rfl, h⟩ := am_i1_of h
  obtain ⟨x, r, rfl, h⟩ := am_l1_of h
  exact lv_lshl hx hb hd rfl (h hlv (am_okc trivial (am_okt (am_okt hst))) hk H locs ls hP hD hS hl)
theorem am_1_lshr (C : am_Cx p R cl sl d s m args meth c M D cy sd sv A) {n : Nat} (hd : decode M.2.2.1 pc = .ok (.lshr, n)) (hi : am_iok M.2.2.2.1 pc (.lshr) n = true) (h : am_i1 st fun y r => am_l1 r fun x r => (am_X p l e R cl sl s m args below meth c Q M D cy ad sd A) (pc + 1) lv (.inr (.inl (x >>> (y.toInt64 &&& 63))) :: r) σ) : (am_X p l e R cl sl s m args below meth c Q M D cy ad sd A) pc lv st σ := by
  obtain ⟨hx, hb, hml, hown, hts, hr, hlk, ho, hE, hA, hm20, hR1, hR2, hR3, hR4⟩ := C
  intro hlv hst hk H locs ls hP hD hS hl
  obtain rfl := am_iok_n rfl hi
  obtain ⟨y, r1, rfl, h⟩ := am_i1_of h
  obtain ⟨x, r, rfl, h⟩ := am_l1_of h
  exact lv_lshr hx hb hd rfl (h hlv (am_okc trivial (am_okt (am_okt hst))) hk H locs ls hP hD hS hl)
theorem am_1_i2l (C : am_Cx p R cl sl d s m args meth c M D cy sd sv A) {n : Nat} (hd : decode M.2.2.1 pc = .ok (.i2l, n)) (hi : am_iok M.2.2.2.1 pc (.i2l) n = true) (h : am_i1 st fun x r => (am_X p l e R cl sl s m args below meth c Q M D cy ad sd A) (pc + 1) lv (.inr (.inl x.toInt64) :: r) σ) : (am_X p l e R cl sl s m args below meth c Q M D cy ad sd A) pc lv st σ := by
  obtain ⟨hx, hb, hml, hown, hts, hr, hlk, ho, hE, hA, hm20, hR1, hR2, hR3, hR4⟩ := C
  intro hlv hst hk H locs ls hP hD hS hl
  obtain rfl := am_iok_n rfl hi
  obtain ⟨x, r, rfl, h⟩ := am_i1_of h
  exact lv_i2l hx hb hd rfl (h hlv (am_okc trivial (am_okt hst)) hk H locs ls hP hD hS hl)
theorem am_1_l2i (C : am_Cx p R cl sl d s m args meth c M D cy sd sv A) {n : Nat} (hd : decode M.2.2.1 pc = .ok (.l2i, n)) (hi : am_iok M.2.2.2.1 pc (.l2i) n = true) (h : am_l1 st fun x r => (am_X p l e R cl sl s m args below meth c Q M D cy ad sd A) (pc + 1) lv (.inl x.toInt32 :: r) σ) : (am_X p l e R cl sl s m args below meth c Q M D cy ad sd A) pc lv st σ := by
  obtain ⟨hx, hb, hml, hown, hts, hr, hlk, ho, hE, hA, hm20, hR1, hR2, hR3, hR4⟩ := C
  intro hlv hst hk H locs ls hP hD hS hl
  obtain rfl := am_iok_n rfl hi
  obtain ⟨x, r, rfl, h⟩ := am_l1_of h
  exact lv_l2i hx hb hd rfl (h hlv (am_okc trivial (am_okt hst)) hk H locs ls hP hD hS hl)
theorem am_1_i2b (C : am_Cx p R cl sl d s m args meth c M D cy sd sv A) {n : Nat} (hd : decode M.2.2.1 pc = .ok (.i2b, n)) (hi : am_iok M.2.2.2.1 pc (.i2b) n = true) (h : am_i1 st fun x r => (am_X p l e R cl sl s m args below meth c Q M D cy ad sd A) (pc + 1) lv (.inl x.toInt8.toInt32 :: r) σ) : (am_X p l e R cl sl s m args below meth c Q M D cy ad sd A) pc lv st σ := by
  obtain ⟨hx, hb, hml, hown, hts, hr, hlk, ho, hE, hA, hm20, hR1, hR2, hR3, hR4⟩ := C
  intro hlv hst hk H locs ls hP hD hS hl
  obtain rfl := am_iok_n rfl hi
  obtain ⟨x, r, rfl, h⟩ := am_i1_of h
  exact lv_i2b hx hb hd rfl (h hlv (am_okc trivial (am_okt hst)) hk H locs ls hP hD hS hl)
theorem am_1_i2s (C : am_Cx p R cl sl d s m args meth c M D cy sd sv A) {n : Nat} (hd : decode M.2.2.1 pc = .ok (.i2s, n)) (hi : am_iok M.2.2.2.1 pc (.i2s) n = true) (h : am_i1 st fun x r => (am_X p l e R cl sl s m args below meth c Q M D cy ad sd A) (pc + 1) lv (.inl x.toInt16.toInt32 :: r) σ) : (am_X p l e R cl sl s m args below meth c Q M D cy ad sd A) pc lv st σ := by
  obtain ⟨hx, hb, hml, hown, hts, hr, hlk, ho, hE, hA, hm20, hR1, hR2, hR3, hR4⟩ := C
  intro hlv hst hk H locs ls hP hD hS hl
  obtain rfl := am_iok_n rfl hi
  obtain ⟨x, r, rfl, h⟩ := am_i1_of h
  exact lv_i2s hx hb hd rfl (h hlv (am_okc trivial (am_okt hst)) hk H locs ls hP hD hS hl)
theorem am_1_i2c (C : am_Cx p R cl sl d s m args meth c M D cy sd sv A) {n : Nat} (hd : decode M.2.2.1 pc = .ok (.i2c, n)) (hi : am_iok M.2.2.2.1 pc (.i2c) n = true) (h : am_i1 st fun x r => (am_X p l e R cl sl s m args below meth c Q M D cy ad sd A) (pc + 1) lv (.inl (x.toUInt32 % 65536).toInt32 :: r) σ) : (am_X p l e R cl sl s m args below meth c Q M D cy ad sd A) pc lv st σ := by
  obtain ⟨hx, hb, hml, hown, hts, hr, hlk, ho, hE, hA, hm20, hR1, hR2, hR3, hR4⟩ := C
  intro hlv hst hk H locs ls hP hD hS hl
  obtain rfl := am_iok_n rfl hi
  obtain ⟨x, r, rfl, h⟩ := am_i1_of h
  exact lv_i2c hx hb hd rfl (h hlv (am_okc trivial (am_okt hst)) hk H locs ls hP hD hS hl)
theorem am_1_lcmp (C : am_Cx p R cl sl d s m args meth c M D cy sd sv A) {n : Nat} (hd : decode M.2.2.1 pc = .ok (.lcmp, n)) (hi : am_iok M.2.2.2.1 pc (.lcmp) n = true) (h : am_l2 st fun x y r => (am_X p l e R cl sl s m args below meth c Q M D cy ad sd A) (pc + 1) lv (.inl (lg_cmp x y) :: r) σ) : (am_X p l e R cl sl s m args below meth c Q M D cy ad sd A) pc lv st σ := by
  obtain ⟨hx, hb, hml, hown, hts, hr, hlk, ho, hE, hA, hm20, hR1, hR2, hR3, hR4⟩ := C
  intro hlv hst hk H locs ls hP hD hS hl
  obtain rfl := am_iok_n rfl hi
  obtain ⟨x, y, r, rfl, h⟩ := am_l2_of h
  exact W.lcmp hx hb hd (h hlv (am_okc trivial (am_okt (am_okt hst))) hk H locs ls hP hD hS hl)
theorem am_1_pop (C : am_Cx p R cl sl d s m args meth c M D cy sd sv A) {n : Nat} (hd : decode M.2.2.1 pc = .ok (.pop, n)) (hi : am_iok M.2.2.2.1 pc (.pop) n = true) (h : am_i1 st fun _ r => (am_X p l e R cl sl s m args below meth c Q M D cy ad sd A) (pc + 1) lv r σ) : (am_X p l e R cl sl s m args below meth c Q M D cy ad sd A) pc lv st σ := by
  obtain ⟨hx, hb, hml, hown, hts, hr, hlk, ho, hE, hA, hm20, hR1, hR2, hR3, hR4⟩ := C
  intro hlv hst hk H locs ls hP hD hS hl
  obtain rfl := am_iok_n rfl hi
  obtain ⟨x, r, rfl, h⟩ := am_i1_of h
  exact lv_pop hx hb hd rfl (h hlv (am_okt hst) hk H locs ls hP hD hS hl)
theorem am_1_if_eq (C : am_Cx p R cl sl d s m args meth c M D cy sd sv A) {n : Nat} {off : Int} (hd : decode M.2.2.1 pc = .ok (.ifCond .eq off, n)) (hi : am_iok M.2.2.2.1 pc (.ifCond .eq off) n = true) (h : am_i1 st fun x r => am_cz .eq x ((am_X p l e R cl sl s m args below meth c Q M D cy ad sd A) (am_tg pc off) lv r σ) ((am_X p l e R cl sl s m args below meth c Q M D cy ad sd A) (pc + 3) lv r σ)) : (am_X p l e R cl sl s m args below meth c Q M D cy ad sd A) pc lv st σ := by
  obtain ⟨hx, hb, hml, hown, hts, hr, hlk, ho, hE, hA, hm20, hR1, hR2, hR3, hR4⟩ := C
  intro hlv hst hk H locs ls hP hD hS hl
  obtain rfl := am_iok_n rfl hi
  have h1 := am_iok_x hi
  simp only [am_ix, decide_eq_true_eq] at h1
  obtain ⟨x, r, rfl, h⟩ := am_i1_of h
  exact lv_if_eq hx hb hd (am_tg_eq h1) (fun z => h.1 z hlv (am_okt hst) hk H locs ls hP hD hS hl) (fun z => h.2 z hlv (am_okt hst) hk H locs ls hP hD hS hl)
theorem am_1_icmp_eq (C : am_Cx p R cl sl d s m args meth c M D cy sd sv A) {n : Nat} {off : Int} (hd : decode M.2.2.1 pc = .ok (.if_icmp .eq off, n)) (hi : am_iok M.2.2.2.1 pc (.if_icmp .eq off) n = true) (h : am_i2 st fun x y r => am_cc .eq x y ((am_X p l e R cl sl s m args below meth c Q M D cy ad sd A) (am_tg pc off) lv r σ) ((am_X p l e R cl sl s m args below meth c Q M D cy ad sd A) (pc + 3) lv r σ)) : (am_X p l e R cl sl s m args below meth c Q M D cy ad sd A) pc lv st σ := by
  obtain ⟨hx, hb, hml, hown, hts, hr, hlk, ho, hE, hA, hm20, hR1, hR2, hR3, hR4⟩ := C
  intro hlv hst hk H locs ls hP hD hS hl
  obtain rfl := am_iok_n rfl hi
  have h1 := am_iok_x hi
  simp only [am_ix, decide_eq_true_eq] at h1
  obtain ⟨x, y, r, rfl, h⟩ := am_i2_of h
  exact lv_icmp_eq hx hb hd (am_tg_eq h1) (fun z => h.1 z hlv (am_okt (am_okt hst)) hk H locs ls hP hD hS hl) (fun z => h.2 z hlv (am_okt (am_okt hst)) hk H locs ls hP hD hS hl)
theorem am_1_if_ne (C : am_Cx p R cl sl d s m args meth c M D cy sd sv A) {n : Nat} {off : Int} (hd : decode M.2.2.1 pc = .ok (.ifCond .ne off, n)) (hi : am_iok M.2.2.2.1 pc (.ifCond .ne off) n = true) (h : am_i1 st fun x r => am_cz .ne x ((am_X p l e R cl sl s m args below meth c Q M D cy ad sd A) (am_tg pc off) lv r σ) ((am_X p l e R cl sl s m args below meth c Q M D cy ad sd A) (pc + 3) lv r σ)) : (am_X p l e R cl sl s m args below meth c Q M D cy ad sd A) pc lv st σ := by
  obtain ⟨hx, hb, hml, hown, hts, hr, hlk, ho, hE, hA, hm20, hR1, hR2, hR3, hR4⟩ := C
  intro hlv hst hk H locs ls hP hD hS hl
  obtain rfl := am_iok_n rfl hi
  have h1 := am_iok_x hi
  simp only [am_ix, decide_eq_true_eq] at h1
  obtain ⟨x, r, rfl, h⟩ := am_i1_of h
  exact lv_if_ne hx hb hd (am_tg_eq h1) (fun z => h.1 z hlv (am_okt hst) hk H locs ls hP hD hS hl) (fun z => h.2 z hlv (am_okt hst) hk H locs ls hP hD hS hl)
theorem am_1_icmp_ne (C : am_Cx p R cl sl d s m args meth c M D cy sd sv A) {n : Nat} {off : Int} (hd : decode M.2.2.1 pc = .ok (.if_icmp .ne off, n)) (hi : am_iok M.2.2.2.1 pc (.if_icmp .ne off) n = true) (h : am_i2 st fun x y r => am_cc .ne x y ((am_X p l e R cl sl s m args below meth c Q M D cy ad sd A) (am_tg pc off) lv r σ) ((am_X p l e R cl sl s m args below meth c Q M D cy ad sd A) (pc + 3) lv r σ)) : (am_X p l e R cl sl s m args below meth c Q M D cy ad sd A) pc lv st σ := by
  obtain ⟨hx, hb, hml, hown, hts, hr, hlk, ho, hE, hA, hm20, hR1, hR2, hR3, hR4⟩ := C
  intro hlv hst hk H locs ls hP hD hS hl
  obtain rfl := am_iok_n rfl hi
  have h1 := am_iok_x hi
  simp only [am_ix, decide_eq_true_eq] at h1
  obtain ⟨x, y, r, rfl, h⟩ := am_i2_of h
  exact lv_icmp_ne hx hb hd (am_tg_eq h1) (fun z => h.1 z hlv (am_okt (am_okt hst)) hk H locs ls hP hD hS hl) (fun z => h.2 z hlv (am_okt (am_okt hst)) hk H locs ls hP hD hS hl)
theorem am_1_if_lt (C : am_Cx p R cl sl d s m args meth c M D cy sd sv A) {n : Nat} {off : Int} (hd : decode M.2.2.1 pc = .ok (.ifCond .lt off, n)) (hi : am_iok M.2.2.2.1 pc (.ifCond .lt off) n = true) (h : am_i1 st fun x r => am_cz .lt x ((am_X p l e R cl sl s m args below meth c Q M D cy ad sd A) (am_tg pc off) lv r σ) ((am_X p l e R cl sl s m args below meth c Q M D cy ad sd A) (pc + 3) lv r σ)) : (am_X p l e R cl sl s m args below meth c Q M D cy ad sd A) pc lv st σ := by
  obtain ⟨hx, hb, hml, hown, hts, hr, hlk, ho, hE, hA, hm20, hR1, hR2, hR3, hR4⟩ := C
  intro hlv hst hk H locs ls hP hD hS hl
  obtain rfl := am_iok_n rfl hi
  have h1 := am_iok_x hi
  simp only [am_ix, decide_eq_true_eq] at h1
  obtain ⟨x, r, rfl, h⟩ := am_i1_of h
  exact lv_if_lt hx hb hd (am_tg_eq h1) (fun z => h.1 z hlv (am_okt hst) hk H locs ls hP hD hS hl) (fun z => h.2 z hlv (am_okt hst) hk H locs ls hP hD hS hl)
theorem am_1_icmp_lt (C : am_Cx p R cl sl d s m args meth c M D cy sd sv A) {n : Nat} {off : Int} (hd : decode M.2.2.1 pc = .ok (.if_icmp .lt off, n)) (hi : am_iok M.2.2.2.1 pc (.if_icmp .lt off) n = true) (h : am_i2 st fun x y r => am_cc .lt x y ((am_X p l e R cl sl s m args below meth c Q M D cy ad sd A) (am_tg pc off) lv r σ) ((am_X p l e R cl sl s m args below meth c Q M D cy ad sd A) (pc + 3) lv r σ)) : (am_X p l e R cl sl s m args below meth c Q M D cy ad sd A) pc lv st σ := by
  obtain ⟨hx, hb, hml, hown, hts, hr, hlk, ho, hE, hA, hm20, hR1, hR2, hR3, hR4⟩ := C
  intro hlv hst hk H locs ls hP hD hS hl
  obtain rfl := am_iok_n rfl hi
  have h1 := am_iok_x hi
  simp only [am_ix, decide_eq_true_eq] at h1
  obtain ⟨x, y, r, rfl, h⟩ := am_i2_of h
  exact lv_icmp_lt hx hb hd (am_tg_eq h1) (fun z => h.1 z hlv (am_okt (am_okt hst)) hk H locs ls hP hD hS hl) (fun z => h.2 z hlv (am_okt (am_okt hst)) hk H locs ls hP hD hS hl)
theorem am_1_if_ge (C : am_Cx p R cl sl d s m args meth c M D cy sd sv A) {n : Nat} {off : Int} (hd : decode M.2.2.1 pc = .ok (.ifCond .ge off, n)) (hi : am_iok M.2.2.2.1 pc (.ifCond .ge off) n = true) (h : am_i1 st fun x r => am_cz .ge x ((am_X p l e R cl sl s m args below meth c Q M D cy ad sd A) (am_tg pc off) lv r σ) ((am_X p l e R cl sl s m args below meth c Q M D cy ad sd A) (pc + 3) lv r σ)) : (am_X p l e R cl sl s m args below meth c Q M D cy ad sd A) pc lv st σ := by
  obtain ⟨hx, hb, hml, hown, hts, hr, hlk, ho, hE, hA, hm20, hR1, hR2, hR3, hR4⟩ := C
  intro hlv hst hk H locs ls hP hD hS hl
  obtain rfl := am_iok_n rfl hi
  have h1 := am_iok_x hi
  simp only [am_ix, decide_eq_true_eq] at h1
  obtain ⟨x, r, rfl, h⟩ := am_i1_of h
  exact lv_if_ge hx hb hd (am_tg_eq h1) (fun z => h.1 z hlv (am_okt hst) hk H locs ls hP hD hS hl) (fun z => h.2 z hlv (am_okt hst) hk H locs ls hP hD hS hl)
theorem am_1_icmp_ge (C : am_Cx p R cl sl d s m args meth c M D cy sd sv A) {n : Nat} {off : Int} (hd : decode M.2.2.1 pc = .ok (.if_icmp .ge off, n)) (hi : am_iok M.2.2.2.1 pc (.if_icmp .ge off) n = true) (h : am_i2 st fun x y r => am_cc .ge x y ((am_X p l e R cl sl s m args below meth c Q M D cy ad sd A) (am_tg pc off) lv r σ) ((am_X p l e R cl sl s m args below meth c Q M D cy ad sd A) (pc + 3) lv r σ)) : (am_X p l e R cl sl s m args below meth c Q M D cy ad sd A) pc lv st σ := by
  obtain ⟨hx, hb, hml, hown, hts, hr, hlk, ho, hE, hA, hm20, hR1, hR2, hR3, hR4⟩ := C
  intro hlv hst hk H locs ls hP hD hS hl
  obtain rfl := am_iok_n rfl hi
  have h1 := am_iok_x hi
  simp only [am_ix, decide_eq_true_eq] at h1
  obtain ⟨x, y, r, rfl, h⟩ := am_i2_of h
  exact lv_icmp_ge hx hb hd (am_tg_eq h1) (fun z => h.1 z hlv (am_okt (am_okt hst)) hk H locs ls hP hD hS hl) (fun z => h.2 z hlv (am_okt (am_okt hst)) hk H locs ls hP hD hS hl)
theorem am_1_if_gt (C : am_Cx p R cl sl d s m args meth c M D cy sd sv A) {n : Nat} {off : Int} (hd : decode M.2.2.1 pc = .ok (.ifCond .gt off, n)) (hi : am_iok M.2.2.2.1 pc (.ifCond .gt off) n = true) (h : am_i1 st fun x r => am_cz .gt x ((am_X p l e R cl sl s m args below meth c Q M D cy ad sd A) (am_tg pc off) lv r σ) ((am_X p l e R cl sl s m args below meth c Q M D cy ad sd A) (pc + 3) lv r σ)) : (am_X p l e R cl sl s m args below meth c Q M D cy ad sd A) pc lv st σ := by
  obtain ⟨hx, hb, hml, hown, hts, hr, hlk, ho, hE, hA, hm20, hR1, hR2, hR3, hR4⟩ := C
  intro hlv hst hk H locs ls hP hD hS hl
  obtain rfl := am_iok_n rfl hi
  have h1 := am_iok_x hi
  simp only [am_ix, decide_eq_true_eq] at h1
  obtain ⟨x, r, rfl, h⟩ := am_i1_of h
  exact lv_if_gt hx hb hd (am_tg_eq h1) (fun z => h.1 z hlv (am_okt hst) hk H locs ls hP hD hS hl) (fun z => h.2 z hlv (am_okt hst) hk H locs ls hP hD hS hl)
theorem am_1_icmp_gt (C : am_Cx p R cl sl d s m args meth c M D cy sd sv A) {n : Nat} {off : Int} (hd : decode M.2.2.1 pc = .ok (.if_icmp .gt off, n)) (hi : am_iok M.2.2.2.1 pc (.if_icmp .gt off) n = true) (h : am_i2 st fun x y r => am_cc .gt x y ((am_X p l e R cl sl s m args below meth c Q M D cy ad sd A) (am_tg pc off) lv r σ) ((am_X p l e R cl sl s m args below meth c Q M D cy ad sd A) (pc + 3) lv r σ)) : (am_X p l e R cl sl s m args below meth c Q M D cy ad sd A) pc lv st σ := by
  obtain ⟨hx, hb, hml, hown, hts, hr, hlk, ho, hE, hA, hm20, hR1, hR2, hR3, hR4⟩ := C
  intro hlv hst hk H locs ls hP hD hS hl
  obtain rfl := am_iok_n rfl hi
  have h1 := am_iok_x hi
  simp only [am_ix, decide_eq_true_eq] at h1
  obtain ⟨x, y, r, rfl, h⟩ := am_i2_of h
  exact lv_icmp_gt hx hb hd (am_tg_eq h1) (fun z => h.1 z hlv (am_okt (am_okt hst)) hk H locs ls hP hD hS hl) (fun z => h.2 z hlv (am_okt (am_okt hst)) hk H locs ls hP hD hS hl)
theorem am_1_if_le (C : am_Cx p R cl sl d s m args meth c M D cy sd sv A) {n : Nat} {off : Int} (hd : decode M.2.2.1 pc = .ok (.ifCond .le off, n)) (hi : am_iok M.2.2.2.1 pc (.ifCond .le off) n = true) (h : am_i1 st fun x r => am_cz .le x ((am_X p l e R cl sl s m args below meth c Q M D cy ad sd A) (am_tg pc off) lv r σ) ((am_X p l e R cl sl s m args below meth c Q M D cy ad sd A) (pc + 3) lv r σ)) : (am_X p l e R cl sl s m args below meth c Q M D cy ad sd A) pc lv st σ := by
  obtain ⟨hx, hb, hml, hown, hts, hr, hlk, ho, hE, hA, hm20, hR1, hR2, hR3, hR4⟩ := C
  intro hlv hst hk H locs ls hP hD hS hl
  obtain rfl := am_iok_n rfl hi
  have h1 := am_iok_x hi
  simp only [am_ix, decide_eq_true_eq] at h1
  obtain ⟨x, r, rfl, h⟩ := am_i1_of h
  exact lv_if_le hx hb hd (am_tg_eq h1) (fun z => h.1 z hlv (am_okt hst) hk H locs ls hP hD hS hl) (fun z => h.2 z hlv (am_okt hst) hk H locs ls hP hD hS hl)
theorem am_1_icmp_le (C : am_Cx p R cl sl d s m args meth c M D cy sd sv A) {n : Nat} {off : Int} (hd : decode M.2.2.1 pc = .ok (.if_icmp .le off, n)) (hi : am_iok M.2.2.2.1 pc (.if_icmp .le off) n = true) (h : am_i2 st fun x y r => am_cc .le x y ((am_X p l e R cl sl s m args below meth c Q M D cy ad sd A) (am_tg pc off) lv r σ) ((am_X p l e R cl sl s m args below meth c Q M D cy ad sd A) (pc + 3) lv r σ)) : (am_X p l e R cl sl s m args below meth c Q M D cy ad sd A) pc lv st σ := by
  obtain ⟨hx, hb, hml, hown, hts, hr, hlk, ho, hE, hA, hm20, hR1, hR2, hR3, hR4⟩ := C
  intro hlv hst hk H locs ls hP hD hS hl
  obtain rfl := am_iok_n rfl hi
  have h1 := am_iok_x hi
  simp only [am_ix, decide_eq_true_eq] at h1
  obtain ⟨x, y, r, rfl, h⟩ := am_i2_of h
  exact lv_icmp_le hx hb hd (am_tg_eq h1) (fun z => h.1 z hlv (am_okt (am_okt hst)) hk H locs ls hP hD hS hl) (fun z => h.2 z hlv (am_okt (am_okt hst)) hk H locs ls hP hD hS hl)
theorem am_1_goto (C : am_Cx p R cl sl d s m args meth c M D cy sd sv A) {n : Nat} {off : Int} (hd : decode M.2.2.1 pc = .ok (.goto off, n)) (hi : am_iok M.2.2.2.1 pc (.goto off) n = true) (h : (am_X p l e R cl sl s m args below meth c Q M D cy ad sd A) (am_tg pc off) lv st σ) : (am_X p l e R cl sl s m args below meth c Q M D cy ad sd A) pc lv st σ := by
  obtain ⟨hx, hb, hml, hown, hts, hr, hlk, ho, hE, hA, hm20, hR1, hR2, hR3, hR4⟩ := C
  intro hlv hst hk H locs ls hP hD hS hl
  obtain rfl := am_iok_n rfl hi
  have h1 := am_iok_x hi
  simp only [am_ix, decide_eq_true_eq] at h1
  exact lv_goto hx hb hd (am_tg_eq h1) (h hlv hst hk H locs ls hP hD hS hl)
end AMO
end
section
/-! ONE STEP, the second half. -/
theorem am_k8 : ∀ i, i < am_n → (am_kd i).1 = 8 → am_kd i = (8, 0, 0) := by decide +kernel
theorem am_tw_of {x : Int32} {Y : Int → Prop} {d : Int} : ∀ (os : List Int) (k : Int), am_tw x Y d k os → -1000000 < k → k + os.length < 1000001 → ((x.toInt < k ∨ k + os.length ≤ x.toInt) ∧ Y d) ∨ ∃ (j : Nat) (off : Int), os[j]? = some off ∧ x.toInt = k + j ∧ Y off
  | [], k, h, h1, h2 => Or.inl ⟨by simp; omega, h⟩
  | off :: os, k, h, h1, h2 => by
    simp only [List.length_cons] at h2
    by_cases hx : x = am_ic k
    · exact Or.inr ⟨0, off, rfl, by rw [hx, am_ic_toInt h1 (by omega)]; simp, h.1 hx⟩
    · have hne : x.toInt ≠ k := fun z => hx (Int32.toInt_inj.mp (by rw [z, am_ic_toInt h1 (by omega)]))
      rcases am_tw_of os (k + 1) (h.2 hx) (by omega) (by omega) with ⟨h3, h4⟩ | ⟨j, o2, h3, h4, h5⟩
      · refine Or.inl ⟨?_, h4⟩
        simp only [List.length_cons]
        omega
      · exact Or.inr ⟨j + 1, o2, h3, by omega, h5⟩
theorem am_lw_of {x : Int32} {Y : Int → Prop} {d : Int} : ∀ (ps : List (Int × Int)), am_lw x Y d ps → (∀ q ∈ ps, -1000000 < q.1 ∧ q.1 < 1000000) → (Op.lookupswitch.offset ps d x.toInt = d ∧ Y d) ∨ ∃ q ∈ ps, Op.lookupswitch.offset ps d x.toInt = q.2 ∧ Y q.2
  | [], h, _ => Or.inl ⟨rfl, h⟩
  | (k, o) :: ps, h, hr => by
    have hk := hr (k, o) List.mem_cons_self
    by_cases hx : x = am_ic k
    · refine Or.inr ⟨(k, o), List.mem_cons_self, ?_, h.1 hx⟩
      rw [Op.lookupswitch.offset_cons, if_pos (by rw [hx, am_ic_toInt hk.1 (by omega)])]
    · have hne : ¬ x.toInt = k := fun z => hx (Int32.toInt_inj.mp (by rw [z, am_ic_toInt hk.1 (by omega)]))
      rcases am_lw_of ps (h.2 hx) (fun q hq => hr q (List.mem_cons_of_mem _ hq)) with ⟨h3, h4⟩ | ⟨q, h3, h4, h5⟩
      · refine Or.inl ⟨?_, h4⟩
        rw [Op.lookupswitch.offset_cons, if_neg (by first | exact hne | exact fun z => hne z.symm)]
        exact h3
      · refine Or.inr ⟨q, List.mem_cons_of_mem _ h3, ?_, h5⟩
        rw [Op.lookupswitch.offset_cons, if_neg (by first | exact hne | exact fun z => hne z.symm)]
        exact h4
section AMP
variable {p : Program} {l : Launch} {e : Env} {R : Room} {s : State} {m : MethodId} {args : Array Value} {below : List Frame} {meth : Method} {c : Code} {H : Heap} {locs : List Loc} {Q : State → Prop}
variable {D : va_G} {cy : Nat → ClassId} {ad sd sv : Nat → Nat} {A : Nat → Prop} {M : AM} {pc : Nat} {ls : Array Slot} {lv : AL} {st : List AV} {σ : AS} {d cl sl : Nat}

theorem am_1_tableswitch (C : am_Cx p R cl sl d s m args meth c M D cy sd sv A) {n : Nat} {dd lo hh : Int} {offs : Array Int} (hd : decode M.2.2.1 pc = .ok (.tableswitch dd lo hh offs, n)) (hi : am_iok M.2.2.2.1 pc (.tableswitch dd lo hh offs) n = true) (h : am_i1 st fun x r => am_tw x (fun o => (am_X p l e R cl sl s m args below meth c Q M D cy ad sd A) (am_tg pc o) lv r σ) dd lo offs.toList) : (am_X p l e R cl sl s m args below meth c Q M D cy ad sd A) pc lv st σ := by
  obtain ⟨hx, hb, hml, hown, hts, hr, hlk, ho, hE, hA, hm20, hR1, hR2, hR3, hR4⟩ := C
  intro hlv hst hk H locs ls hP hD hS hl
  have h1 := am_iok_x hi
  simp only [am_ix, Bool.and_eq_true, decide_eq_true_eq, List.all_eq_true] at h1
  obtain ⟨⟨⟨⟨g1, g2⟩, g3⟩, g4⟩, g5⟩ := h1
  obtain ⟨x, r, rfl, h⟩ := am_i1_of h
  rcases am_tw_of _ _ h (by omega) (by omega) with ⟨h3, h4⟩ | ⟨j, off, h3, h4, h5⟩
  · exact lv_tableOut hx hb hd (by omega) (am_tg_eq g1) (h4 hlv (am_okt hst) hk H locs ls hP hD hS hl)
  · have hj : j < offs.toList.length := (List.getElem?_eq_some_iff.mp h3).1
    refine lv_tableIn hx hb hd (off := off) (by omega) (by omega) ?_ (am_tg_eq (g2 off (List.mem_of_getElem? h3))) (h5 hlv (am_okt hst) hk H locs ls hP hD hS hl)
    rw [show (x.toInt - lo).toNat = j by omega, ← Array.getElem?_toList]
    exact h3
theorem am_1_lookupswitch (C : am_Cx p R cl sl d s m args meth c M D cy sd sv A) {n : Nat} {dd : Int} {ps : Array (Int × Int)} (hd : decode M.2.2.1 pc = .ok (.lookupswitch dd ps, n)) (hi : am_iok M.2.2.2.1 pc (.lookupswitch dd ps) n = true) (h : am_i1 st fun x r => am_lw x (fun o => (am_X p l e R cl sl s m args below meth c Q M D cy ad sd A) (am_tg pc o) lv r σ) dd ps.toList) : (am_X p l e R cl sl s m args below meth c Q M D cy ad sd A) pc lv st σ := by
  obtain ⟨hx, hb, hml, hown, hts, hr, hlk, ho, hE, hA, hm20, hR1, hR2, hR3, hR4⟩ := C
  intro hlv hst hk H locs ls hP hD hS hl
  have h1 := am_iok_x hi
  simp only [am_ix, Bool.and_eq_true, decide_eq_true_eq] at h1
  obtain ⟨⟨g1, g2⟩, g3⟩ := h1
  have g4 : ∀ q ∈ ps.toList, 0 ≤ (pc : Int) + q.2 ∧ -1000000 < q.1 ∧ q.1 < 1000000 := fun q hq => by
    have := List.all_eq_true.mp g2 q hq
    simp only [Bool.and_eq_true, decide_eq_true_eq] at this
    exact ⟨this.1.1, this.1.2, this.2⟩
  obtain ⟨x, r, rfl, h⟩ := am_i1_of h
  rcases am_lw_of _ h (fun q hq => (g4 q hq).2) with ⟨h3, h4⟩ | ⟨q, h3, h4, h5⟩
  · exact lv_lookup hx hb hd g3 h3 (am_tg_eq g1) (h4 hlv (am_okt hst) hk H locs ls hP hD hS hl)
  · exact lv_lookup hx hb hd g3 h4 (am_tg_eq (g4 q h3).1) (h5 hlv (am_okt hst) hk H locs ls hP hD hS hl)
theorem am_1_ldc (C : am_Cx p R cl sl d s m args meth c M D cy sd sv A) {n : Nat} {k : Nat} (hd : decode M.2.2.1 pc = .ok (.ldc k, n)) (hi : am_iok M.2.2.2.1 pc (.ldc k) n = true) (h : (match am_kc M.1 k with
    | some v => (am_X p l e R cl sl s m args below meth c Q M D cy ad sd A) (pc + 2) lv (.inl v :: st) σ
    | none => match am_ks M.1 k with
      | some q => (am_X p l e R cl sl s m args below meth c Q M D cy ad sd A) (pc + 2) lv (.inr (.inr ((11, 0, 0), q)) :: st) σ
      | none => False)) : (am_X p l e R cl sl s m args below meth c Q M D cy ad sd A) pc lv st σ := by
  obtain ⟨hx, hb, hml, hown, hts, hr, hlk, ho, hE, hA, hm20, hR1, hR2, hR3, hR4⟩ := C
  intro hlv hst hk H locs ls hP hD hS hl
  obtain rfl := am_iok_n rfl hi
  split at h
  · rename_i v hv
    exact lv_ldc hx hb hown (hts _ (am_kc_ok ho hv)) hd (h hlv (am_okc trivial hst) hk H locs ls hP hD hS hl)
  · split at h
    · rename_i q hq
      unfold am_ks at hq
      split at hq
      · rename_i e4
        have hq2 := List.findIdx?_eq_some_iff_getElem.mp hq
        obtain ⟨hq3, hq4, -⟩ := hq2
        simp only [beq_iff_eq] at hq4
        have h16 : am_strs.length = 16 := rfl
        have hZ := hE.2.2.2.1 q am_strs[q] (List.getElem?_eq_getElem hq3)
        rw [hq4] at hZ
        have hok : am_okr (11, 0, 0) q := Or.inl (Or.inr (Or.inl ⟨rfl, by omega⟩))
        have hown' : s.vm.findClass RX4 = some m.cls := by rw [e4] at hown; exact hown
        exact va_ldcS hx hb hown' hZ hd (h hlv (am_okc hok hst) hk H locs ls hP hD hS hl)
      · cases hq
    · exact h.elim
theorem am_1_ldc_w (C : am_Cx p R cl sl d s m args meth c M D cy sd sv A) {n : Nat} {k : Nat} (hd : decode M.2.2.1 pc = .ok (.ldc_w k, n)) (hi : am_iok M.2.2.2.1 pc (.ldc_w k) n = true) (h : (match am_kc M.1 k with
    | some v => (am_X p l e R cl sl s m args below meth c Q M D cy ad sd A) (pc + 3) lv (.inl v :: st) σ
    | none => False)) : (am_X p l e R cl sl s m args below meth c Q M D cy ad sd A) pc lv st σ := by
  obtain ⟨hx, hb, hml, hown, hts, hr, hlk, ho, hE, hA, hm20, hR1, hR2, hR3, hR4⟩ := C
  intro hlv hst hk H locs ls hP hD hS hl
  obtain rfl := am_iok_n rfl hi
  split at h
  · rename_i v hv
    exact lv_ldcw hx hb hown (hts _ (am_kc_ok ho hv)) hd (h hlv (am_okc trivial hst) hk H locs ls hP hD hS hl)
  · exact h.elim
theorem am_1_ldc2_w (C : am_Cx p R cl sl d s m args meth c M D cy sd sv A) {n : Nat} {k : Nat} (hd : decode M.2.2.1 pc = .ok (.ldc2_w k, n)) (hi : am_iok M.2.2.2.1 pc (.ldc2_w k) n = true) (h : (match am_kl M.1 k with
    | some v => (am_X p l e R cl sl s m args below meth c Q M D cy ad sd A) (pc + 3) lv (.inr (.inl v) :: st) σ
    | none => False)) : (am_X p l e R cl sl s m args below meth c Q M D cy ad sd A) pc lv st σ := by
  obtain ⟨hx, hb, hml, hown, hts, hr, hlk, ho, hE, hA, hm20, hR1, hR2, hR3, hR4⟩ := C
  intro hlv hst hk H locs ls hP hD hS hl
  obtain rfl := am_iok_n rfl hi
  split at h
  · rename_i v hv
    exact lv_ldc2 hx hb hown (hts _ (am_kl_ok ho hv)) hd (h hlv (am_okc trivial hst) hk H locs ls hP hD hS hl)
  · exact h.elim
theorem am_1_dup (C : am_Cx p R cl sl d s m args meth c M D cy sd sv A) {n : Nat} (hd : decode M.2.2.1 pc = .ok (.dup, n)) (hi : am_iok M.2.2.2.1 pc (.dup) n = true) (h : (match st with
    | .inl x :: r => (am_X p l e R cl sl s m args below meth c Q M D cy ad sd A) (pc + 1) lv (.inl x :: .inl x :: r) σ
    | .inr (.inr q) :: r => (am_X p l e R cl sl s m args below meth c Q M D cy ad sd A) (pc + 1) lv (.inr (.inr q) :: .inr (.inr q) :: r) σ
    | _ => False)) : (am_X p l e R cl sl s m args below meth c Q M D cy ad sd A) pc lv st σ := by
  obtain ⟨hx, hb, hml, hown, hts, hr, hlk, ho, hE, hA, hm20, hR1, hR2, hR3, hR4⟩ := C
  intro hlv hst hk H locs ls hP hD hS hl
  obtain rfl := am_iok_n rfl hi
  split at h
  · exact lv_dup hx hb hd rfl (h hlv (am_okc trivial hst) hk H locs ls hP hD hS hl)
  · exact lv_dup hx hb hd (ac_cat ad sd _) (h hlv (am_okc (am_okh hst) hst) hk H locs ls hP hD hS hl)
  · exact h.elim
theorem am_1_dup2 (C : am_Cx p R cl sl d s m args meth c M D cy sd sv A) {n : Nat} (hd : decode M.2.2.1 pc = .ok (.dup2, n)) (hi : am_iok M.2.2.2.1 pc (.dup2) n = true) (h : (match st with
    | .inl x :: .inr (.inr q) :: r => (am_X p l e R cl sl s m args below meth c Q M D cy ad sd A) (pc + 1) lv (.inl x :: .inr (.inr q) :: .inl x :: .inr (.inr q) :: r) σ
    | _ => False)) : (am_X p l e R cl sl s m args below meth c Q M D cy ad sd A) pc lv st σ := by
  obtain ⟨hx, hb, hml, hown, hts, hr, hlk, ho, hE, hA, hm20, hR1, hR2, hR3, hR4⟩ := C
  intro hlv hst hk H locs ls hP hD hS hl
  obtain rfl := am_iok_n rfl hi
  split at h
  · exact lv_dup2_11 hx hb hd rfl (ac_cat ad sd _) (h hlv (am_okc trivial (am_okc (am_okh (am_okt hst)) hst)) hk H locs ls hP hD hS hl)
  · exact h.elim
theorem am_1_ifnull (C : am_Cx p R cl sl d s m args meth c M D cy sd sv A) {n : Nat} {off : Int} (hd : decode M.2.2.1 pc = .ok (.ifnull off, n)) (hi : am_iok M.2.2.2.1 pc (.ifnull off) n = true) (h : am_r1 st fun t i r => (match t.1 with
    | 12 => (i = 0 → (am_X p l e R cl sl s m args below meth c Q M D cy ad sd A) (am_tg pc off) lv r σ) ∧ (¬ i = 0 → (am_X p l e R cl sl s m args below meth c Q M D cy ad sd A) (pc + 3) lv r σ)
    | _ => False)) : (am_X p l e R cl sl s m args below meth c Q M D cy ad sd A) pc lv st σ := by
  obtain ⟨hx, hb, hml, hown, hts, hr, hlk, ho, hE, hA, hm20, hR1, hR2, hR3, hR4⟩ := C
  intro hlv hst hk H locs ls hP hD hS hl
  obtain rfl := am_iok_n rfl hi
  have h1 := am_iok_x hi
  simp only [am_ix, decide_eq_true_eq] at h1
  obtain ⟨t, i, r, e1, h9⟩ := am_r1_of h
  subst e1
  clear h
  split at h9
  · rename_i e12
    by_cases hz : i = 0
    · have hv : ac_v ad sd (.inr (.inr (t, i))) = .null := by simp only [ac_v, e12, if_neg (show ¬ (12 : Nat) = 0 by decide), if_neg (show ¬ (12 : Nat) = 11 by decide), if_pos, hz]
      rw [List.map_cons, hv]
      exact lv_ifnullN hx hb hd (am_tg_eq h1) (h9.1 hz hlv (am_okt hst) hk H locs ls hP hD hS hl)
    · have hv : ac_v ad sd (.inr (.inr (t, i))) = .ref (ad i) := by simp only [ac_v, e12, if_neg (show ¬ (12 : Nat) = 0 by decide), if_neg (show ¬ (12 : Nat) = 11 by decide), if_pos, if_neg hz]
      rw [List.map_cons, hv]
      exact lv_ifnull hx hb hd (h9.2 hz hlv (am_okt hst) hk H locs ls hP hD hS hl)
  · exact h9.elim
theorem am_1_getfield (C : am_Cx p R cl sl d s m args meth c M D cy sd sv A) {n : Nat} {k : Nat} (hd : decode M.2.2.1 pc = .ok (.getfield k, n)) (hi : am_iok M.2.2.2.1 pc (.getfield k) n = true) (h : am_r1 st fun t o r => (match am_fl M.1 k with
    | some (ci, f) => t.1 = ci + 1 ∧ am_gf (am_ft ci f) o f σ (fun v => (am_X p l e R cl sl s m args below meth c Q M D cy ad sd A) (pc + 3) lv (v :: r) σ)
    | none => match am_fs M.1 k with
      | some 0 => t = (11, 0, 0) ∧ (am_X p l e R cl sl s m args below meth c Q M D cy ad sd A) (pc + 3) lv (.inl 0 :: r) σ
      | some 1 => t = (11, 0, 0) ∧ (am_X p l e R cl sl s m args below meth c Q M D cy ad sd A) (pc + 3) lv (.inr (.inr ((11, 1, 0), o + 16)) :: r) σ
      | some _ => False
      | none => False)) : (am_X p l e R cl sl s m args below meth c Q M D cy ad sd A) pc lv st σ := by
  obtain ⟨hx, hb, hml, hown, hts, hr, hlk, ho, hE, hA, hm20, hR1, hR2, hR3, hR4⟩ := C
  intro hlv hst hk H locs ls hP hD hS hl
  obtain rfl := am_iok_n rfl hi
  obtain ⟨t, o, r, rfl, h⟩ := am_r1_of h
  split at h
  · rename_i ci f hf
    obtain ⟨ht, h⟩ := h
    obtain ⟨g1, g2, g3⟩ := am_fl_ok ho hf
    have hov : am_okr t o := am_okh hst
    obtain ⟨k1, k2, k3⟩ := am_okr_o hov ht g2 ad sd
    have hts' : ∀ w ∈ am_T, w.before args s = true := hts
    have hc := am_cell_o (cy := cy) (ad := ad) (σ := σ) k2 g2
    have he := am_w_get (cy := cy) (ad := ad) (σ := σ) k1
    rw [hc] at he
    have key : ∀ v : AV, am_okv v → am_fv ad σ o f (am_ft ci f) = ac_v ad sd v → am_X p l e R cl sl s m args below meth c Q M D cy ad sd A (pc + 3) lv (v :: r) σ → W p l e R s m args below meth c H locs cl sl Q (F0 m pc ls (((.inr (.inr (t, o)) : AV) :: r).map (ac_v ad sd))) := by
      intro v hv1 hv2 hX
      rw [List.map_cons, k3]
      refine va_get hx hb hts' (am_ws_T g2) hown hE.1 hP o he (am_cls_at ci g2) f g3 (hts _ g1) (fun _ h9 => h9) (am_flds_at g3) hd ?_
      rw [hv2]
      exact hX hlv (am_okc hv1 (am_okt hst)) hk H locs ls hP hD hS hl
    have hft := am_ft_ok ci g2 f g3
    have hlay := am_lay_f k1 (by omega)
    rw [k2, Nat.add_sub_cancel] at hlay
    have hlay2 := hlay.2 f g3
    have hho := hk o f k1 (by omega)
    rw [k2, Nat.add_sub_cancel] at hho
    unfold am_ftok at hft
    generalize am_ft ci f = e9 at h key hft hlay2 hho
    obtain ⟨e1, e2, e3⟩ := e9
    unfold am_gf at h
    split at hft
    · rename_i a9 b9 heq
      cases heq
      exact key (.inl (σ.1 o f)) trivial rfl h
    · rename_i a9 b9 heq
      cases heq
      exact key (.inl (σ.1 o f)) trivial rfl h
    · rename_i a9 b9 heq
      cases heq
      exact key (.inr (.inl (σ.2 o f))) trivial rfl h
    · rename_i off kk heq
      cases heq
      simp only [Bool.and_eq_true, bne_iff_ne, ne_eq] at hft
      obtain ⟨q1, q2⟩ := hlay2 rfl
      dsimp only at q1 q2
      refine key _ ?_ ?_ h
      · exact Or.inr (Or.inr ⟨hft.1.1, hft.1.2, hft.2, q1, q2⟩)
      · exact (ac_v_r hft.1.1 hft.1.2 hft.2).symm
    · rename_i heq
      cases heq
      refine key _ ?_ ?_ h
      · exact Or.inr (Or.inl ⟨rfl, hho rfl⟩)
      · simp only [am_fv, ac_v, if_neg (show ¬ (12 : Nat) = 0 by decide), if_neg (show ¬ (12 : Nat) = 11 by decide), if_pos]
    · cases hft
  · split at h
    · rename_i hs
      obtain ⟨p9, h9⟩ := am_fs_ok ho hs
      simp only [am_fsok, Bool.and_eq_true, decide_eq_true_eq] at h9
      obtain ⟨ht, h7⟩ := h
      subst ht
      have hov : am_okr (11, 0, 0) o := am_okh hst
      have ho16 : o < 16 := am_okr_s hov
      have hva : ac_v ad sd (.inr (.inr ((11, 0, 0), o))) = .ref (sd o) := rfl
      rw [List.map_cons, hva]
      rw [h9.1] at hown
      exact vk_getf hx hb (hE.2.2.1.1 o ho16).2.1 hS hown (hts _ (am_has_in h9.2)) (fun _ z => z) hd (h7 hlv (am_okc trivial (am_okt hst)) hk H locs ls hP hD hS hl)
    · rename_i hs
      obtain ⟨p9, h9⟩ := am_fs_ok ho hs
      simp only [am_fsok, Bool.and_eq_true, decide_eq_true_eq] at h9
      obtain ⟨ht, h7⟩ := h
      subst ht
      have hov : am_okr (11, 0, 0) o := am_okh hst
      have ho16 : o < 16 := am_okr_s hov
      have hva : ac_v ad sd (.inr (.inr ((11, 0, 0), o))) = .ref (sd o) := rfl
      rw [List.map_cons, hva]
      rw [h9.1] at hown
      have hX := h7 hlv (am_okc (Or.inl (Or.inr (Or.inr ⟨rfl, by omega, by omega⟩))) (am_okt hst)) hk H locs ls hP hD hS hl
      have hvb : ac_v ad sd (.inr (.inr ((11, 1, 0), o + 16))) = .ref (sd (16 + o)) := by rw [Nat.add_comm 16 o]; rfl
      rw [List.map_cons, hvb] at hX
      exact vk_getf hx hb (hE.2.2.1.1 o ho16).2.2.1 hS hown (hts _ (am_has_in h9.2)) (fun _ z => z) hd hX
    · exact h.elim
    · exact h.elim
theorem am_1_putfield (C : am_Cx p R cl sl d s m args meth c M D cy sd sv A) {n : Nat} {k : Nat} (hd : decode M.2.2.1 pc = .ok (.putfield k, n)) (hi : am_iok M.2.2.2.1 pc (.putfield k) n = true) (h : (match st with
    | v :: st' => am_r1 st' fun t o r => (match am_fl M.1 k with
      | some (ci, f) => t.1 = ci + 1 ∧ am_pf (am_ft ci f) v o f σ (fun σ' => (am_X p l e R cl sl s m args below meth c Q M D cy ad sd A) (pc + 3) lv r σ')
      | none => False)
    | [] => False)) : (am_X p l e R cl sl s m args below meth c Q M D cy ad sd A) pc lv st σ := by
  obtain ⟨hx, hb, hml, hown, hts, hr, hlk, ho, hE, hA, hm20, hR1, hR2, hR3, hR4⟩ := C
  intro hlv hst hk H locs ls hP hD hS hl
  obtain rfl := am_iok_n rfl hi
  split at h
  · rename_i v st'
    obtain ⟨t, o, r, e9, h9⟩ := am_r1_of h
    subst e9
    clear h
    split at h9
    · rename_i ci f hf
      obtain ⟨ht, h⟩ := h9
      obtain ⟨g1, g2, g3⟩ := am_fl_ok ho hf
      have hov : am_okr t o := am_okh (am_okt hst)
      obtain ⟨k1, k2, k3⟩ := am_okr_o hov ht g2 ad sd
      have hc := am_cell_o (cy := cy) (ad := ad) (σ := σ) k2 g2
      have he := am_w_get (cy := cy) (ad := ad) (σ := σ) k1
      rw [hc] at he
      have key : ∀ (w : Value) (σ' : AS), ac_v ad sd v = w → am_fv ad σ' o f (am_ft ci f) = w → (∀ j, j ≠ f → σ'.1 o j = σ.1 o j ∧ σ'.2 o j = σ.2 o j) → (∀ j, j ≠ o → σ'.1 j = σ.1 j ∧ σ'.2 j = σ.2 j) → am_hok σ' → (am_TT ci f).2.2.2 = false → (∃ ty, am_ty ci f = ty ∧ narrow ty w = w ∧ fits ty w = true) → am_X p l e R cl sl s m args below meth c Q M D cy ad sd A (pc + 3) lv r σ' → W p l e R s m args below meth c H locs cl sl Q (F0 m pc ls ((v :: (.inr (.inr (t, o)) : AV) :: r).map (ac_v ad sd))) := by
        intro w σ' hw hfv hj ho2 hhk hfin hty hX
        obtain ⟨ty, hty1, hty2, hty3⟩ := hty
        rw [List.map_cons, List.map_cons, k3, hw]
        refine va_put (ty := ty) hx hb hts (am_ws_T g2) (am_ty ci) (am_ty_ok ci g2) (am_nm_ok ci g2) hown hE.1 hP hD hS o he (am_cls_at ci g2) f g3 (hts _ g1) (fun _ h9 => h9) hfin (by rw [am_ty_ok ci g2 f g3, hty1]) hty2 hty3 (by rw [am_flds_len]; exact g3) hd ?_
        intro H1 locs1 hP1 hD1 hS1
        rw [am_flds_set g3 hfv hj, am_w_set (σ' := σ') k1 (am_cell_o k2 g2) (fun j _ e => am_cell_eq (ho2 j e).1 (ho2 j e).2)] at hP1 hD1
        exact hX hlv (am_okt (am_okt hst)) hhk H1 locs1 ls hP1 hD1 hS1 hl
      have hsi : ∀ x : Int32, (∀ j, j ≠ f → (am_si σ o f x).1 o j = σ.1 o j ∧ (am_si σ o f x).2 o j = σ.2 o j) ∧ (∀ j, j ≠ o → (am_si σ o f x).1 j = σ.1 j ∧ (am_si σ o f x).2 j = σ.2 j) ∧ (am_si σ o f x).1 o f = x := fun x => ⟨fun j hj => ⟨by simp [am_si, am_u2, upd, hj], rfl⟩, fun j hj => ⟨by simp [am_si, am_u2, hj], rfl⟩, by simp [am_si, am_u2, upd]⟩
      have hsj : ∀ x : Int64, (∀ j, j ≠ f → (am_sj σ o f x).1 o j = σ.1 o j ∧ (am_sj σ o f x).2 o j = σ.2 o j) ∧ (∀ j, j ≠ o → (am_sj σ o f x).1 j = σ.1 j ∧ (am_sj σ o f x).2 j = σ.2 j) ∧ (am_sj σ o f x).2 o f = x := fun x => ⟨fun j hj => ⟨rfl, by simp [am_sj, am_u2, vp_updL, hj]⟩, fun j hj => ⟨rfl, by simp [am_sj, am_u2, hj]⟩, by simp [am_sj, am_u2, vp_updL]⟩
      have hft := am_ft_ok ci g2 f g3
      have hho : ∀ x : Int32, ((am_ft ci f).1 = 3 → x.toNatClampNeg = 0 ∨ (x.toNatClampNeg < am_n ∧ am_kd x.toNatClampNeg = (8, 0, 0))) → am_hok (am_si σ o f x) := fun x hx3 => am_hok_si hk (fun _ _ h3 => hx3 (by rw [k2, Nat.add_sub_cancel] at h3; exact h3))
      unfold am_ftok at hft
      have hvok : am_okv v := am_okh hst
      generalize am_ft ci f = e9 at h key hft hho
      obtain ⟨e1, e2, e3⟩ := e9
      unfold am_pf at h
      split at h
      · rename_i x heq
        try dsimp only at heq
        subst heq
        simp only [Bool.and_eq_true, decide_eq_true_eq, beq_iff_eq] at hft
        exact key (.int x) _ rfl (by show Value.int _ = _; rw [(hsi x).2.2]) (hsi x).1 (hsi x).2.1 (hho x (fun z => by cases z)) hft.2 ⟨.int, hft.1, vp_nar_int x, rfl⟩ h
      · rename_i x heq
        try dsimp only at heq
        subst heq
        simp only [Bool.and_eq_true, decide_eq_true_eq, beq_iff_eq] at hft
        exact key (.int x) _ rfl (by show Value.int _ = _; rw [(hsi x).2.2]) (hsi x).1 (hsi x).2.1 (hho x (fun z => by cases z)) hft.2 ⟨.boolean, hft.1, by rcases h.1 with z | z <;> rw [z] <;> rfl, by rcases h.1 with z | z <;> rw [z] <;> rfl⟩ h.2
      · rename_i x heq
        try dsimp only at heq
        subst heq
        simp only [Bool.and_eq_true, decide_eq_true_eq, beq_iff_eq] at hft
        exact key (.long x) _ rfl (by show Value.long _ = _; rw [(hsj x).2.2]) (hsj x).1 (hsj x).2.1 (am_hok_j hk rfl) hft.2 ⟨.long, hft.1, rfl, rfl⟩ h
      · rename_i t2 i2 heq
        try dsimp only at heq
        subst heq
        simp only [Bool.and_eq_true, decide_eq_true_eq, beq_iff_eq] at hft
        have hi2 : i2 < am_n → (Int32.ofNat i2).toNatClampNeg = i2 := fun z => nI_clamp (by have : am_n = 237 := rfl; omega)
        have hv2 : am_okr t2 i2 := hvok
        split at h
        · rename_i e8
          rcases hv2 with (⟨q1, q2⟩ | ⟨q0, q2⟩ | ⟨q0, q2⟩) | ⟨q1, q2⟩ | ⟨q1, q2, q3, q4, q5⟩
          · omega
          · rw [q0] at e8; cases e8
          · rw [q0] at e8; cases e8
          · omega
          · have kd0 : am_kd 0 ≠ (8, 0, 0) := by decide +kernel
            have q6 : am_kd i2 = (8, 0, 0) := by
              have hq := am_k8 i2 q4 (by rw [q5]; exact e8)
              exact hq
            have hi0 : i2 ≠ 0 := fun z => by
              subst z
              exact kd0 q6
            refine key (.ref (ad i2)) _ (ac_v_r q1 q2 q3) ?_ (hsi _).1 (hsi _).2.1 (hho _ (fun _ => Or.inr ?_)) hft.2 ⟨_, hft.1, rfl, rfl⟩ h
            · simp only [am_fv]
              rw [(hsi _).2.2, hi2 q4, if_neg hi0]
            · rw [hi2 q4]
              exact ⟨q4, q6⟩
        · rename_i e12
          rcases hv2 with (⟨q1, q2⟩ | ⟨q0, q2⟩ | ⟨q0, q2⟩) | ⟨q1, q2⟩ | ⟨q1, q2, q3, q4, q5⟩
          · omega
          · rw [q0] at e12; cases e12
          · rw [q0] at e12; cases e12
          · by_cases hz : i2 = 0
            · subst hz
              refine key .null _ (by simp only [ac_v, e12, if_neg (show ¬ (12 : Nat) = 0 by decide), if_neg (show ¬ (12 : Nat) = 11 by decide), if_pos]) ?_ (hsi _).1 (hsi _).2.1 (hho _ (fun _ => Or.inl rfl)) hft.2 ⟨_, hft.1, rfl, rfl⟩ h
              simp only [am_fv]
              rw [(hsi _).2.2]
              rfl
            · have q3 := q2.resolve_left hz
              refine key (.ref (ad i2)) _ (by simp only [ac_v, e12, if_neg (show ¬ (12 : Nat) = 0 by decide), if_neg (show ¬ (12 : Nat) = 11 by decide), if_pos, if_neg hz]) ?_ (hsi _).1 (hsi _).2.1 (hho _ (fun _ => Or.inr ?_)) hft.2 ⟨_, hft.1, rfl, rfl⟩ h
              · simp only [am_fv]
                rw [(hsi _).2.2, hi2 q3.1, if_neg hz]
              · rw [hi2 q3.1]
                exact q3
          · exact absurd e12 q3
        · exact h.elim
      · exact h.elim
    · exact h9.elim
  · exact h.elim
theorem am_1_iaload (C : am_Cx p R cl sl d s m args meth c M D cy sd sv A) {n : Nat} (hd : decode M.2.2.1 pc = .ok (.iaload, n)) (hi : am_iok M.2.2.2.1 pc (.iaload) n = true) (h : am_i1 st fun i r => am_r1 r fun t a r => t.1 = 21 ∧ vp_in i t.2.1 ∧ (am_X p l e R cl sl s m args below meth c Q M D cy ad sd A) (pc + 1) lv (.inl (σ.1 a i.toNatClampNeg) :: r) σ) : (am_X p l e R cl sl s m args below meth c Q M D cy ad sd A) pc lv st σ := by
  obtain ⟨hx, hb, hml, hown, hts, hr, hlk, ho, hE, hA, hm20, hR1, hR2, hR3, hR4⟩ := C
  intro hlv hst hk H locs ls hP hD hS hl
  obtain rfl := am_iok_n rfl hi
  obtain ⟨i, r1, e1, h1⟩ := am_i1_of h
  subst e1
  obtain ⟨t, a, r, e1, h2⟩ := am_r1_of h1
  subst e1
  clear h h1
  obtain ⟨ht, hin, h⟩ := h2
  have hov : am_okr t a := am_okh (am_okt hst)
  obtain ⟨k1, k2, k3⟩ := am_okr_a hov ht (by decide) ad sd
  have he := am_w_get (cy := cy) (ad := ad) (σ := σ) k1
  rw [am_cell_i (by rw [k2]; exact ht) (Or.inr (Or.inl rfl)), k2] at he
  rw [List.map_cons, List.map_cons, k3]
  exact va_iald hx hb hE.1 hP a 1 he rfl hin hd (h hlv (am_okc trivial (am_okt (am_okt hst))) hk H locs ls hP hD hS hl)
theorem am_1_laload (C : am_Cx p R cl sl d s m args meth c M D cy sd sv A) {n : Nat} (hd : decode M.2.2.1 pc = .ok (.laload, n)) (hi : am_iok M.2.2.2.1 pc (.laload) n = true) (h : am_i1 st fun i r => am_r1 r fun t a r => t.1 = 22 ∧ vp_in i t.2.1 ∧ (am_X p l e R cl sl s m args below meth c Q M D cy ad sd A) (pc + 1) lv (.inr (.inl (σ.2 a i.toNatClampNeg)) :: r) σ) : (am_X p l e R cl sl s m args below meth c Q M D cy ad sd A) pc lv st σ := by
  obtain ⟨hx, hb, hml, hown, hts, hr, hlk, ho, hE, hA, hm20, hR1, hR2, hR3, hR4⟩ := C
  intro hlv hst hk H locs ls hP hD hS hl
  obtain rfl := am_iok_n rfl hi
  obtain ⟨i, r1, e1, h1⟩ := am_i1_of h
  subst e1
  obtain ⟨t, a, r, e1, h2⟩ := am_r1_of h1
  subst e1
  clear h h1
  obtain ⟨ht, hin, h⟩ := h2
  have hov : am_okr t a := am_okh (am_okt hst)
  obtain ⟨k1, k2, k3⟩ := am_okr_a hov ht (by decide) ad sd
  have he := am_w_get (cy := cy) (ad := ad) (σ := σ) k1
  rw [am_cell_j (by rw [k2]; exact ht), k2] at he
  rw [List.map_cons, List.map_cons, k3]
  exact va_lald hx hb hE.1 hP a 2 he rfl hin hd (h hlv (am_okc trivial (am_okt (am_okt hst))) hk H locs ls hP hD hS hl)
theorem am_1_baload (C : am_Cx p R cl sl d s m args meth c M D cy sd sv A) {n : Nat} (hd : decode M.2.2.1 pc = .ok (.baload, n)) (hi : am_iok M.2.2.2.1 pc (.baload) n = true) (h : am_i1 st fun i r => am_r1 r fun t a r => (match t.1 with
    | 11 => t = (11, 1, 0) ∧ vp_in i (am_len.getD (a - 16) 0) ∧ (am_X p l e R cl sl s m args below meth c Q M D cy ad sd A) (pc + 1) lv (.inl ((am_byt.getD (a - 16) []).getD i.toNatClampNeg 0) :: r) σ
    | _ => (t.1 = 20 ∨ t.1 = 23) ∧ vp_in i t.2.1 ∧ (am_X p l e R cl sl s m args below meth c Q M D cy ad sd A) (pc + 1) lv (.inl (σ.1 a i.toNatClampNeg) :: r) σ)) : (am_X p l e R cl sl s m args below meth c Q M D cy ad sd A) pc lv st σ := by
  obtain ⟨hx, hb, hml, hown, hts, hr, hlk, ho, hE, hA, hm20, hR1, hR2, hR3, hR4⟩ := C
  intro hlv hst hk H locs ls hP hD hS hl
  obtain rfl := am_iok_n rfl hi
  obtain ⟨i, r1, e1, h1⟩ := am_i1_of h
  subst e1
  obtain ⟨t, a, r, e1, h2⟩ := am_r1_of h1
  subst e1
  clear h h1
  have hov : am_okr t a := am_okh (am_okt hst)
  split at h2
  · obtain ⟨ht, hin, h⟩ := h2
    subst ht
    obtain ⟨q, hq, e16⟩ := am_okr_b hov
    subst e16
    rw [Nat.add_sub_cancel_left] at hin h
    have hva : ac_v ad sd (.inr (.inr ((11, 1, 0), 16 + q))) = .ref (sd (16 + q)) := rfl
    rw [List.map_cons, List.map_cons, hva]
    exact va_tb hx hb (hE.2.2.1.1 q hq).2.2.2 hS hin rfl hd (h hlv (am_okc trivial (am_okt (am_okt hst))) hk H locs ls hP hD hS hl)
  · obtain ⟨ht, hin, h⟩ := h2
    rcases ht with ht | ht
    · skip
      obtain ⟨k1, k2, k3⟩ := am_okr_a hov ht (by decide) ad sd
      have he := am_w_get (cy := cy) (ad := ad) (σ := σ) k1
      rw [am_cell_i (by rw [k2]; exact ht) (Or.inl rfl), k2] at he
      rw [List.map_cons, List.map_cons, k3]
      exact va_bald hx hb hE.1 hP a 0 he rfl hin hd (h hlv (am_okc trivial (am_okt (am_okt hst))) hk H locs ls hP hD hS hl)
    · skip
      obtain ⟨k1, k2, k3⟩ := am_okr_a hov ht (by decide) ad sd
      have he := am_w_get (cy := cy) (ad := ad) (σ := σ) k1
      rw [am_cell_i (by rw [k2]; exact ht) (Or.inr (Or.inr rfl)), k2] at he
      rw [List.map_cons, List.map_cons, k3]
      exact va_zald hx hb hE.1 hP a 3 he rfl hin hd (h hlv (am_okc trivial (am_okt (am_okt hst))) hk H locs ls hP hD hS hl)
theorem am_1_iastore (C : am_Cx p R cl sl d s m args meth c M D cy sd sv A) {n : Nat} (hd : decode M.2.2.1 pc = .ok (.iastore, n)) (hi : am_iok M.2.2.2.1 pc (.iastore) n = true) (h : am_i1 st fun x r => am_i1 r fun i r => am_r1 r fun t a r => t.1 = 21 ∧ vp_in i t.2.1 ∧ (am_X p l e R cl sl s m args below meth c Q M D cy ad sd A) (pc + 1) lv r (am_si σ a i.toNatClampNeg x)) : (am_X p l e R cl sl s m args below meth c Q M D cy ad sd A) pc lv st σ := by
  obtain ⟨hx, hb, hml, hown, hts, hr, hlk, ho, hE, hA, hm20, hR1, hR2, hR3, hR4⟩ := C
  intro hlv hst hk H locs ls hP hD hS hl
  obtain rfl := am_iok_n rfl hi
  obtain ⟨x, r0, e1, h1⟩ := am_i1_of h
  subst e1
  obtain ⟨i, r1, e1, h2⟩ := am_i1_of h1
  subst e1
  obtain ⟨t, a, r, e1, h3⟩ := am_r1_of h2
  subst e1
  clear h h1 h2
  have hov : am_okr t a := am_okh (am_okt (am_okt hst))
  obtain ⟨ht, hin, h⟩ := h3
  obtain ⟨k1, k2, k3⟩ := am_okr_a hov ht (by decide) ad sd
  have he := am_w_get (cy := cy) (ad := ad) (σ := σ) k1
  rw [am_cell_i (by rw [k2]; exact ht) (Or.inr (Or.inl rfl)), k2] at he
  rw [List.map_cons, List.map_cons, List.map_cons, k3]
  refine va_iast hx hb hE.1 hP hD hS a 1 he rfl hin hd (fun H1 locs1 hP1 hD1 hS1 => ?_)
  rw [am_w_set (σ' := am_si σ a i.toNatClampNeg x) k1 (by rw [am_cell_i (by rw [k2]; exact ht) (Or.inr (Or.inl rfl)), k2]; congr 4; simp [am_si, am_sj, am_u2]) (fun j _ e => am_cell_eq (by simp [am_si, am_sj, am_u2, e]) (by simp [am_si, am_sj, am_u2, e]))] at hP1 hD1
  exact h hlv (am_okt (am_okt (am_okt hst))) (am_hok_si hk (fun _ z _ => by rw [k2] at z; omega)) H1 locs1 ls hP1 hD1 hS1 hl
theorem am_1_lastore (C : am_Cx p R cl sl d s m args meth c M D cy sd sv A) {n : Nat} (hd : decode M.2.2.1 pc = .ok (.lastore, n)) (hi : am_iok M.2.2.2.1 pc (.lastore) n = true) (h : am_l1 st fun x r => am_i1 r fun i r => am_r1 r fun t a r => t.1 = 22 ∧ vp_in i t.2.1 ∧ (am_X p l e R cl sl s m args below meth c Q M D cy ad sd A) (pc + 1) lv r (am_sj σ a i.toNatClampNeg x)) : (am_X p l e R cl sl s m args below meth c Q M D cy ad sd A) pc lv st σ := by
  obtain ⟨hx, hb, hml, hown, hts, hr, hlk, ho, hE, hA, hm20, hR1, hR2, hR3, hR4⟩ := C
  intro hlv hst hk H locs ls hP hD hS hl
  obtain rfl := am_iok_n rfl hi
  obtain ⟨x, r0, e1, h1⟩ := am_l1_of h
  subst e1
  obtain ⟨i, r1, e1, h2⟩ := am_i1_of h1
  subst e1
  obtain ⟨t, a, r, e1, h3⟩ := am_r1_of h2
  subst e1
  clear h h1 h2
  have hov : am_okr t a := am_okh (am_okt (am_okt hst))
  obtain ⟨ht, hin, h⟩ := h3
  obtain ⟨k1, k2, k3⟩ := am_okr_a hov ht (by decide) ad sd
  have he := am_w_get (cy := cy) (ad := ad) (σ := σ) k1
  rw [am_cell_j (by rw [k2]; exact ht), k2] at he
  rw [List.map_cons, List.map_cons, List.map_cons, k3]
  refine va_last hx hb hE.1 hP hD hS a 2 he rfl hin hd (fun H1 locs1 hP1 hD1 hS1 => ?_)
  rw [am_w_set (σ' := am_sj σ a i.toNatClampNeg x) k1 (by rw [am_cell_j (by rw [k2]; exact ht), k2]; congr 4; simp [am_si, am_sj, am_u2]) (fun j _ e => am_cell_eq (by simp [am_si, am_sj, am_u2, e]) (by simp [am_si, am_sj, am_u2, e]))] at hP1 hD1
  exact h hlv (am_okt (am_okt (am_okt hst))) (am_hok_j hk rfl) H1 locs1 ls hP1 hD1 hS1 hl
theorem am_1_bastore (C : am_Cx p R cl sl d s m args meth c M D cy sd sv A) {n : Nat} (hd : decode M.2.2.1 pc = .ok (.bastore, n)) (hi : am_iok M.2.2.2.1 pc (.bastore) n = true) (h : am_i1 st fun x r => am_i1 r fun i r => am_r1 r fun t a r => (t.1 = 20 ∧ vp_in i t.2.1 ∧ (am_X p l e R cl sl s m args below meth c Q M D cy ad sd A) (pc + 1) lv r (am_si σ a i.toNatClampNeg (vp_nar .byte x))) ∨ (t.1 = 23 ∧ vp_in i t.2.1 ∧ (am_X p l e R cl sl s m args below meth c Q M D cy ad sd A) (pc + 1) lv r (am_si σ a i.toNatClampNeg (vp_nar .boolean x)))) : (am_X p l e R cl sl s m args below meth c Q M D cy ad sd A) pc lv st σ := by
  obtain ⟨hx, hb, hml, hown, hts, hr, hlk, ho, hE, hA, hm20, hR1, hR2, hR3, hR4⟩ := C
  intro hlv hst hk H locs ls hP hD hS hl
  obtain rfl := am_iok_n rfl hi
  obtain ⟨x, r0, e1, h1⟩ := am_i1_of h
  subst e1
  obtain ⟨i, r1, e1, h2⟩ := am_i1_of h1
  subst e1
  obtain ⟨t, a, r, e1, h3⟩ := am_r1_of h2
  subst e1
  clear h h1 h2
  have hov : am_okr t a := am_okh (am_okt (am_okt hst))
  rcases h3 with ⟨ht, hin, h⟩ | ⟨ht, hin, h⟩
  · skip
    obtain ⟨k1, k2, k3⟩ := am_okr_a hov ht (by decide) ad sd
    have he := am_w_get (cy := cy) (ad := ad) (σ := σ) k1
    rw [am_cell_i (by rw [k2]; exact ht) (Or.inl rfl), k2] at he
    rw [List.map_cons, List.map_cons, List.map_cons, k3]
    refine va_bast hx hb hE.1 hP hD hS a 0 he rfl hin hd (fun H1 locs1 hP1 hD1 hS1 => ?_)
    rw [am_w_set (σ' := am_si σ a i.toNatClampNeg (vp_nar .byte x)) k1 (by rw [am_cell_i (by rw [k2]; exact ht) (Or.inl rfl), k2]; congr 4; simp [am_si, am_sj, am_u2]) (fun j _ e => am_cell_eq (by simp [am_si, am_sj, am_u2, e]) (by simp [am_si, am_sj, am_u2, e]))] at hP1 hD1
    exact h hlv (am_okt (am_okt (am_okt hst))) (am_hok_si hk (fun _ z _ => by rw [k2] at z; omega)) H1 locs1 ls hP1 hD1 hS1 hl
  · skip
    obtain ⟨k1, k2, k3⟩ := am_okr_a hov ht (by decide) ad sd
    have he := am_w_get (cy := cy) (ad := ad) (σ := σ) k1
    rw [am_cell_i (by rw [k2]; exact ht) (Or.inr (Or.inr rfl)), k2] at he
    rw [List.map_cons, List.map_cons, List.map_cons, k3]
    refine va_zast hx hb hE.1 hP hD hS a 3 he rfl hin hd (fun H1 locs1 hP1 hD1 hS1 => ?_)
    rw [am_w_set (σ' := am_si σ a i.toNatClampNeg (vp_nar .boolean x)) k1 (by rw [am_cell_i (by rw [k2]; exact ht) (Or.inr (Or.inr rfl)), k2]; congr 4; simp [am_si, am_sj, am_u2]) (fun j _ e => am_cell_eq (by simp [am_si, am_sj, am_u2, e]) (by simp [am_si, am_sj, am_u2, e]))] at hP1 hD1
    exact h hlv (am_okt (am_okt (am_okt hst))) (am_hok_si hk (fun _ z _ => by rw [k2] at z; omega)) H1 locs1 ls hP1 hD1 hS1 hl
theorem am_1_aaload (C : am_Cx p R cl sl d s m args meth c M D cy sd sv A) {n : Nat} (hd : decode M.2.2.1 pc = .ok (.aaload, n)) (hi : am_iok M.2.2.2.1 pc (.aaload) n = true) (h : am_i1 st fun i r => am_r1 r fun t a r => vp_in i t.2.1 ∧ am_aa t a i (fun v => (am_X p l e R cl sl s m args below meth c Q M D cy ad sd A) (pc + 1) lv (v :: r) σ)) : (am_X p l e R cl sl s m args below meth c Q M D cy ad sd A) pc lv st σ := by
  obtain ⟨hx, hb, hml, hown, hts, hr, hlk, ho, hE, hA, hm20, hR1, hR2, hR3, hR4⟩ := C
  intro hlv hst hk H locs ls hP hD hS hl
  obtain rfl := am_iok_n rfl hi
  obtain ⟨i, r1, e1, h1⟩ := am_i1_of h
  subst e1
  obtain ⟨t, a, r, e1, h2⟩ := am_r1_of h1
  subst e1
  clear h h1
  obtain ⟨hin, h⟩ := h2
  have hov : am_okr t a := am_okh (am_okt hst)
  have hlt : i.toNatClampNeg < t.2.1 := Nat.not_le.mp fun q => hin (Or.inr q)
  unfold am_aa at h
  split at h
  · rename_i ht
    obtain ⟨k1, k2, k3⟩ := am_okr_a hov ht (by decide) ad sd
    have he := am_w_get (cy := cy) (ad := ad) (σ := σ) k1
    rw [am_cell_q (t := 24) (by rw [k2]; exact ht) (by decide), k2] at he
    have hn := (am_lay_n a k1).2.2.1 (by rw [k2]; omega)
    rw [k2] at hn
    have hl2 := am_lay_a k1 (j := i.toNatClampNeg) (by omega)
    unfold am_laya at hl2
    obtain ⟨t1, t2, t3⟩ := t
    dsimp only at ht hlt
    subst ht
    rw [k2] at hl2
    simp only [hlt, decide_true, Bool.not_true, Bool.false_or, Bool.and_eq_true, decide_eq_true_eq] at hl2
    rw [List.map_cons, List.map_cons, k3]
    refine va_ald2 hx hb hE.1 hP a 4 he rfl hin hd ?_
    have hX := h hlv (am_okc (Or.inr (Or.inr ⟨(show (21 : Nat) ≠ 0 by decide), (show (21 : Nat) ≠ 11 by decide), (show (21 : Nat) ≠ 12 by decide), hl2.1, hl2.2⟩)) (am_okt (am_okt hst))) hk H locs ls hP hD hS hl
    rw [List.map_cons, ac_v_r (show (21 : Nat) ≠ 0 by decide) (show (21 : Nat) ≠ 11 by decide) (show (21 : Nat) ≠ 12 by decide)] at hX
    exact hX
  · rename_i ht
    obtain ⟨k1, k2, k3⟩ := am_okr_a hov ht (by decide) ad sd
    have he := am_w_get (cy := cy) (ad := ad) (σ := σ) k1
    rw [am_cell_q (t := 25) (by rw [k2]; exact ht) (by decide), k2] at he
    have hn := (am_lay_n a k1).2.2.1 (by rw [k2]; omega)
    rw [k2] at hn
    have hl2 := am_lay_a k1 (j := i.toNatClampNeg) (by omega)
    unfold am_laya at hl2
    obtain ⟨t1, t2, t3⟩ := t
    dsimp only at ht hlt
    subst ht
    rw [k2] at hl2
    simp only [hlt, decide_true, Bool.not_true, Bool.false_or, Bool.and_eq_true, decide_eq_true_eq] at hl2
    rw [List.map_cons, List.map_cons, k3]
    refine va_aldq hx hb hE.1 hP a 5 he rfl hin hd ?_
    have hX := h hlv (am_okc (Or.inr (Or.inr ⟨(show (3 : Nat) ≠ 0 by decide), (show (3 : Nat) ≠ 11 by decide), (show (3 : Nat) ≠ 12 by decide), hl2.1, hl2.2⟩)) (am_okt (am_okt hst))) hk H locs ls hP hD hS hl
    rw [List.map_cons, ac_v_r (show (3 : Nat) ≠ 0 by decide) (show (3 : Nat) ≠ 11 by decide) (show (3 : Nat) ≠ 12 by decide)] at hX
    exact hX
  · rename_i ht
    obtain ⟨k1, k2, k3⟩ := am_okr_a hov ht (by decide) ad sd
    have he := am_w_get (cy := cy) (ad := ad) (σ := σ) k1
    rw [am_cell_q (t := 26) (by rw [k2]; exact ht) (by decide), k2] at he
    have hn := (am_lay_n a k1).2.2.1 (by rw [k2]; omega)
    rw [k2] at hn
    have hl2 := am_lay_a k1 (j := i.toNatClampNeg) (by omega)
    unfold am_laya at hl2
    obtain ⟨t1, t2, t3⟩ := t
    dsimp only at ht hlt
    subst ht
    rw [k2] at hl2
    simp only [hlt, decide_true, Bool.not_true, Bool.false_or, Bool.and_eq_true, decide_eq_true_eq] at hl2
    rw [List.map_cons, List.map_cons, k3]
    refine va_aldq hx hb hE.1 hP a 6 he rfl hin hd ?_
    have hX := h hlv (am_okc (Or.inr (Or.inr ⟨(show (6 : Nat) ≠ 0 by decide), (show (6 : Nat) ≠ 11 by decide), (show (6 : Nat) ≠ 12 by decide), hl2.1, hl2.2⟩)) (am_okt (am_okt hst))) hk H locs ls hP hD hS hl
    rw [List.map_cons, ac_v_r (show (6 : Nat) ≠ 0 by decide) (show (6 : Nat) ≠ 11 by decide) (show (6 : Nat) ≠ 12 by decide)] at hX
    exact hX
  · exact h.elim
theorem am_1_arraylength (C : am_Cx p R cl sl d s m args meth c M D cy sd sv A) {n : Nat} (hd : decode M.2.2.1 pc = .ok (.arraylength, n)) (hi : am_iok M.2.2.2.1 pc (.arraylength) n = true) (h : am_r1 st fun t a r => (match t.1 with
    | 11 => t = (11, 1, 0) ∧ (am_X p l e R cl sl s m args below meth c Q M D cy ad sd A) (pc + 1) lv (.inl (Int32.ofNat (am_len.getD (a - 16) 0)) :: r) σ
    | _ => (t.1 = 20 ∨ t.1 = 21 ∨ t.1 = 22) ∧ (am_X p l e R cl sl s m args below meth c Q M D cy ad sd A) (pc + 1) lv (.inl (Int32.ofNat t.2.1) :: r) σ)) : (am_X p l e R cl sl s m args below meth c Q M D cy ad sd A) pc lv st σ := by
  obtain ⟨hx, hb, hml, hown, hts, hr, hlk, ho, hE, hA, hm20, hR1, hR2, hR3, hR4⟩ := C
  intro hlv hst hk H locs ls hP hD hS hl
  obtain rfl := am_iok_n rfl hi
  obtain ⟨t, a, r, e1, h1⟩ := am_r1_of h
  subst e1
  clear h
  have hov : am_okr t a := am_okh hst
  split at h1
  · obtain ⟨ht, h⟩ := h1
    subst ht
    obtain ⟨q, hq, e16⟩ := am_okr_b hov
    subst e16
    rw [Nat.add_sub_cancel_left] at h
    have hva : ac_v ad sd (.inr (.inr ((11, 1, 0), 16 + q))) = .ref (sd (16 + q)) := rfl
    rw [List.map_cons, hva]
    exact va_tlen hx hb (hE.2.2.1.1 q hq).2.2.2 hS rfl hd (h hlv (am_okc trivial (am_okt hst)) hk H locs ls hP hD hS hl)
  · obtain ⟨ht, h⟩ := h1
    rcases ht with ht | ht | ht
    · obtain ⟨k1, k2, k3⟩ := am_okr_a hov ht (by decide) ad sd
      have he := am_w_get (cy := cy) (ad := ad) (σ := σ) k1
      rw [am_cell_i (by rw [k2]; exact ht) (Or.inl rfl), k2] at he
      rw [List.map_cons, k3]
      exact va_alen hx hb hE.1 hP a 0 he rfl rfl hd (h hlv (am_okc trivial (am_okt hst)) hk H locs ls hP hD hS hl)
    · obtain ⟨k1, k2, k3⟩ := am_okr_a hov ht (by decide) ad sd
      have he := am_w_get (cy := cy) (ad := ad) (σ := σ) k1
      rw [am_cell_i (by rw [k2]; exact ht) (Or.inr (Or.inl rfl)), k2] at he
      rw [List.map_cons, k3]
      exact va_alen hx hb hE.1 hP a 1 he rfl rfl hd (h hlv (am_okc trivial (am_okt hst)) hk H locs ls hP hD hS hl)
    · obtain ⟨k1, k2, k3⟩ := am_okr_a hov ht (by decide) ad sd
      have he := am_w_get (cy := cy) (ad := ad) (σ := σ) k1
      rw [am_cell_j (by rw [k2]; exact ht), k2] at he
      rw [List.map_cons, k3]
      exact va_alen hx hb hE.1 hP a 2 he rfl rfl hd (h hlv (am_okc trivial (am_okt hst)) hk H locs ls hP hD hS hl)
theorem am_1_getstatic (C : am_Cx p R cl sl d s m args meth c M D cy sd sv A) {n : Nat} {k : Nat} (hd : decode M.2.2.1 pc = .ok (.getstatic k, n)) (hi : am_iok M.2.2.2.1 pc (.getstatic k) n = true) (h : am_gs M.1 k = true ∧ (am_X p l e R cl sl s m args below meth c Q M D cy ad sd A) (pc + 3) lv (.inl 1 :: st) σ) : (am_X p l e R cl sl s m args below meth c Q M D cy ad sd A) pc lv st σ := by
  obtain ⟨hx, hb, hml, hown, hts, hr, hlk, ho, hE, hA, hm20, hR1, hR2, hR3, hR4⟩ := C
  intro hlv hst hk H locs ls hP hD hS hl
  obtain rfl := am_iok_n rfl hi
  obtain ⟨e10, hT⟩ := am_gs_ok h.1
  rw [e10] at hown
  exact va_gets hx hb hE.2.2.2.2.1 hS hown (hts _ hT) (fun _ z => z) hd (h.2 hlv (am_okc trivial hst) hk H locs ls hP hD hS hl)
end AMP
end
section
/-! ONE STEP: calls, answers; the whole step. -/
theorem am_rcb_11 {t : AK} {m : AM} (h : t.1 = 11) (hb : am_rcb t m = true) : m.1 = 10 ∧ t.2.1 = 0 := by
  unfold am_rcb at hb
  rw [h] at hb
  simpa using hb
theorem am_rcb_12 {t : AK} {m : AM} (h : t.1 = 12) (hb : am_rcb t m = true) : 8 = m.1 + 1 ∧ m.1 < 10 := by
  unfold am_rcb at hb
  rw [h] at hb
  have : m.1 = 7 := by simpa using hb
  omega
theorem am_rcb_o {t : AK} {m : AM} (h1 : t.1 ≠ 11) (h2 : t.1 ≠ 12) (hb : am_rcb t m = true) : t.1 = m.1 + 1 ∧ m.1 < 10 := by
  unfold am_rcb at hb
  split at hb
  · rename_i e; exact absurd e h1
  · rename_i e; exact absurd e h2
  · simpa using hb
theorem am_rk_ne {t : AK} (h : t.1 ≠ 12) : am_rk t = t := by
  unfold am_rk
  split
  · rename_i e; exact absurd e h
  · rfl
theorem am_rk_12 {t : AK} (h : t.1 = 12) : am_rk t = (8, 0, 0) := by
  unfold am_rk
  split
  · rfl
  · rename_i e; exact absurd h e
theorem am_map_rev {ad sd : Nat → Nat} {cs r : List AV} : (cs.reverse ++ r).map (ac_v ad sd) = (cs.map (ac_v ad sd)).reverse ++ r.map (ac_v ad sd) := by simp
theorem am_cat_sum {ad sd : Nat → Nat} (r : List AV) : ((r.map (ac_v ad sd)).map fun v => v.category).sum = (r.map am_cat).sum := by
  congr 1
  simp [List.map_map, Function.comp, ac_cat]
section AMC
variable {p : Program} {l : Launch} {e : Env} {R : Room} {s : State} {m : MethodId} {args : Array Value} {below : List Frame} {meth : Method} {c : Code} {H : Heap} {locs : List Loc} {Q : State → Prop}
variable {D : va_G} {cy : Nat → ClassId} {ad sd sv : Nat → Nat} {A : Nat → Prop} {M : AM} {pc : Nat} {ls : Array Slot} {lv : AL} {st : List AV} {σ : AS} {d cl sl : Nat}

theorem am_1_callS (C : am_Cx p R cl sl d s m args meth c M D cy sd sv A) {n : Nat} {k : Nat} {P : AP} (hPc : ∀ m as σ σ' v, P m as σ σ' v → am_Ct l d m as σ σ' v) {m9 : AM} {as r : List AV} (hml9 : am_ml M.1 k = some (0, m9)) (hpop : am_pop m9.2.2.2.2.2.1 [] st = some (as, r)) (hcat : Nat.ble (r.map am_cat).sum 8 = true) (hd : decode M.2.2.1 pc = .ok (.invokestatic k, n)) (hi : am_iok M.2.2.2.1 pc (.invokestatic k) n = true) (h : am_cl1 P m9 as σ fun v σ' => (am_X p l e R cl sl s m args below meth c Q M D cy ad sd A) (pc + 3) lv (v.toList ++ r) σ') : (am_X p l e R cl sl s m args below meth c Q M D cy ad sd A) pc lv st σ := by
  obtain ⟨hx, hb, hml, hown, hts, hr, hlk, ho, hE, hA, hm20, hR1, hR2, hR3, hR4⟩ := C
  intro hlv hst hk H locs ls hP hD hS hl
  obtain rfl := am_iok_n rfl hi
  obtain ⟨σ1, v, hPm, h⟩ := h
  obtain ⟨hcw, hM⟩ := hPc _ _ _ _ _ hPm
  obtain ⟨cs, hbs, hst2, hlen⟩ := am_pop_of hpop
  rw [List.append_nil] at hbs
  subst hbs
  subst hst2
  obtain ⟨p9, hok9⟩ := am_ml_ok ho hml9
  obtain ⟨p1, p2, p3, p4⟩ := p9
  simp only [am_mlok, am_mok, Bool.and_eq_true, decide_eq_true_eq] at hok9
  obtain ⟨⟨⟨⟨⟨⟨⟨⟨z1, z2⟩, z3⟩, z4⟩, z5⟩, z6⟩, z7⟩, y1⟩, y2⟩ := hok9
  have hokcs : ∀ x ∈ as, am_okv x := fun x hx => hst x (by simp [hx])
  have hokr : ∀ x ∈ r, am_okv x := fun x hx => hst x (by simp [hx])
  obtain ⟨w1, w2⟩ := am_pre (as := as) hE hP hD hS hA
  rw [am_map_rev]
  have hS2 : CallFix p m c M.2.2.1 M.2.2.2.1 s args (am_T) (am_nm M.1) := ⟨hx, hb, hml, hown, hts⟩
  refine am_go (va_runS hS2 (hM D cy ad sd sv H.size hokcs hk) (va_cwS m9.2.2.2.2.2.1 hts (ws' := am_T) (fun w hw => ?_) rfl rfl rfl ⟨z2, z3, z4⟩ ⟨hR1, ?_⟩) ⟨w1, w2⟩ rfl (by simp [hlen]) hl.1 rfl ?_ hd ⟨hR3, hR4⟩) hS (am_sub hD hS hA) (fun H1 locs1 g1 g2 g3 g4 => ?_)
  · have : w ∈ am_T := by
      simp only [va_wsS, List.cons_append, List.nil_append, List.mem_cons] at hw
      rcases hw with rfl | rfl | rfl | hw
      · exact am_has_in y2.1
      · exact am_has_in y2.2
      · exact am_has_in y1
      · rcases List.mem_cons.mp hw with rfl | hw
        · exact hcw
        · exact hw
    exact ⟨this, good_of_word (am_T_good w this)⟩
  · show 8 + (m9.2.2.2.1 + 11) + 60 * d ≤ R.locals
    omega
  · rw [am_cat_sum]
    have := Nat.le_of_ble_eq_true hcat
    show 2 * 0 + _ ≤ 8
    omega
  · have e9 : ((v.map (ac_v ad sd)).toList ++ r.map (ac_v ad sd)) = (v.toList ++ r).map (ac_v ad sd) := by cases v <;> rfl
    rw [e9]
    exact h hlv (fun x hx => by
      rcases List.mem_append.mp hx with hx | hx
      · exact g2 x (by cases v with
          | none => simp at hx
          | some y => simp at hx; rw [hx])
      · exact hokr x hx) g1 H1 locs1 ls g3 (am_w_D hD) g4 hl
theorem am_1_callSN (C : am_Cx p R cl sl d s m args meth c M D cy sd sv A) {n : Nat} {k : Nat} {P : AP} (hPc : ∀ m as σ σ' v, P m as σ σ' v → am_Ct l d m as σ σ' v) {m9 : AM} {as r : List AV} (hml9 : am_ml M.1 k = some (2, m9)) (hpop : am_pop m9.2.2.2.2.2.1 [] st = some (as, r)) (hcat : Nat.ble (r.map am_cat).sum 8 = true) (hd : decode M.2.2.1 pc = .ok (.invokestatic k, n)) (hi : am_iok M.2.2.2.1 pc (.invokestatic k) n = true) (h : am_cl1 P m9 as σ fun v σ' => (am_X p l e R cl sl s m args below meth c Q M D cy ad sd A) (pc + 3) lv (v.toList ++ r) σ') : (am_X p l e R cl sl s m args below meth c Q M D cy ad sd A) pc lv st σ := by
  obtain ⟨hx, hb, hml, hown, hts, hr, hlk, ho, hE, hA, hm20, hR1, hR2, hR3, hR4⟩ := C
  intro hlv hst hk H locs ls hP hD hS hl
  obtain rfl := am_iok_n rfl hi
  obtain ⟨σ1, v, hPm, h⟩ := h
  obtain ⟨hcw, hM⟩ := hPc _ _ _ _ _ hPm
  obtain ⟨cs, hbs, hst2, hlen⟩ := am_pop_of hpop
  rw [List.append_nil] at hbs
  subst hbs
  subst hst2
  obtain ⟨p9, hok9⟩ := am_ml_ok ho hml9
  obtain ⟨p1, p2, p3, p4⟩ := p9
  simp only [am_mlok, am_mok, Bool.and_eq_true, decide_eq_true_eq] at hok9
  obtain ⟨⟨⟨⟨⟨⟨⟨⟨z1, z2⟩, z3⟩, z4⟩, z5⟩, z6⟩, z7⟩, y1⟩, y2⟩ := hok9
  have hokcs : ∀ x ∈ as, am_okv x := fun x hx => hst x (by simp [hx])
  have hokr : ∀ x ∈ r, am_okv x := fun x hx => hst x (by simp [hx])
  obtain ⟨w1, w2⟩ := am_pre (as := as) hE hP hD hS hA
  rw [am_map_rev]
  have hS2 : CallFix p m c M.2.2.1 M.2.2.2.1 s args (am_T) (am_nm M.1) := ⟨hx, hb, hml, hown, hts⟩
  have hcodeT : Cond.code m9.2.1 m9.2.2.1 m9.2.2.2.1 m9.2.2.2.2.1 ∈ am_T := hcw
  have hG : GoodIn am_T (am_ws m9) := fun w hw => by
    have : w ∈ am_T := by
      rcases List.mem_cons.mp hw with rfl | hw
      · exact hcw
      · exact hw
    exact ⟨this, good_of_word (am_T_good w this)⟩
  refine am_go (va_runSN (host := RX8) hS2 (hM D cy ad sd sv H.size hokcs hk) ⟨va_cnB m9.2.2.2.2.2.1 hts hG rfl rfl rfl (hE.2.1 _ y2.1) (hts _ (am_has_in y1)) ⟨z2, z3, z4⟩ ⟨hR1, ?_⟩, hts _ (am_has_in y2.2), trivial⟩ ⟨w1, w2⟩ rfl (by simp [hlen]) hl.1 rfl ?_ hd ⟨hR3, hR4⟩) hS (am_sub hD hS hA) (fun H1 locs1 g1 g2 g3 g4 => ?_)
  · show 8 + (m9.2.2.2.1 + 11) + 60 * d ≤ R.locals
    omega
  · rw [am_cat_sum]
    have := Nat.le_of_ble_eq_true hcat
    show 2 * 0 + _ ≤ 8
    omega
  · have e9 : ((v.map (ac_v ad sd)).toList ++ r.map (ac_v ad sd)) = (v.toList ++ r).map (ac_v ad sd) := by cases v <;> rfl
    rw [e9]
    exact h hlv (fun x hx => by
      rcases List.mem_append.mp hx with hx | hx
      · exact g2 x (by cases v with
          | none => simp at hx
          | some y => simp at hx; rw [hx])
      · exact hokr x hx) g1 H1 locs1 ls g3 (am_w_D hD) g4 hl
theorem am_1_callV (C : am_Cx p R cl sl d s m args meth c M D cy sd sv A) {n : Nat} {k : Nat} {P : AP} (hPc : ∀ m as σ σ' v, P m as σ σ' v → am_Ct l d m as σ σ' v) {m9 : AM} {as r : List AV} {t : AK} {o : Nat} (hml9 : am_ml M.1 k = some (1, m9)) (hpop : am_pop m9.2.2.2.2.2.1 [] st = some (as, .inr (.inr (t, o)) :: r)) (hcat : Nat.ble (r.map am_cat).sum 8 = true) (hrc : am_rcb t m9 = true) (hd : decode M.2.2.1 pc = .ok (.invokevirtual k, n)) (hi : am_iok M.2.2.2.1 pc (.invokevirtual k) n = true) (h : am_nn t o (am_cl1 P m9 (.inr (.inr (am_rk t, o)) :: as) σ fun v σ' => (am_X p l e R cl sl s m args below meth c Q M D cy ad sd A) (pc + 3) lv (v.toList ++ r) σ')) : (am_X p l e R cl sl s m args below meth c Q M D cy ad sd A) pc lv st σ := by
  obtain ⟨hx, hb, hml, hown, hts, hr, hlk, ho, hE, hA, hm20, hR1, hR2, hR3, hR4⟩ := C
  intro hlv hst hk H locs ls hP hD hS hl
  obtain rfl := am_iok_n rfl hi
  obtain ⟨cs, hbs, hst2, hlen⟩ := am_pop_of hpop
  rw [List.append_nil] at hbs
  subst hbs
  subst hst2
  have hokcs : ∀ x ∈ as, am_okv x := fun x hx => hst x (by simp [hx])
  have hokr : ∀ x ∈ r, am_okv x := fun x hx => hst x (by simp [hx])
  have hov : am_okr t o := hst (.inr (.inr (t, o))) (by simp)
  obtain ⟨h, hnn⟩ := am_nn_of h hov ad sd
  obtain ⟨σ1, v, hPm, h⟩ := h
  obtain ⟨hcw, hM⟩ := hPc _ _ _ _ _ hPm
  obtain ⟨p9, hok9⟩ := am_ml_ok ho hml9
  obtain ⟨p1, p2, p3, p4⟩ := p9
  simp only [am_mlok, am_mok, Bool.and_eq_true, decide_eq_true_eq] at hok9
  obtain ⟨⟨⟨⟨⟨⟨⟨⟨z1, z2⟩, z3⟩, z4⟩, z5⟩, z6⟩, z7⟩, y1⟩, ⟨y2, y3⟩, y4⟩ := hok9
  obtain ⟨w1, w2⟩ := am_pre (as := .inr (.inr (am_rk t, o)) :: as) hE hP hD hS hA
  have hrk : am_okr (am_rk t) o ∧ ac_v ad sd (.inr (.inr (am_rk t, o))) = ac_v ad sd (.inr (.inr (t, o))) := by
    rcases hnn with ⟨n1, n2, n3⟩ | ⟨n1, n2, n3, n4⟩ | ⟨n1, n2⟩
    · rw [am_rk_ne (by omega)]
      exact ⟨hov, rfl⟩
    · rcases n3 with ⟨n3, n5⟩ | ⟨n3, n5⟩
      · rw [am_rk_ne n3]
        exact ⟨hov, rfl⟩
      · rw [am_rk_12 n3, n4]
        exact ⟨Or.inr (Or.inr ⟨(show (8 : Nat) ≠ 0 by decide), (show (8 : Nat) ≠ 11 by decide), (show (8 : Nat) ≠ 12 by decide), n2, n5⟩), ac_v_r (show (8 : Nat) ≠ 0 by decide) (show (8 : Nat) ≠ 11 by decide) (show (8 : Nat) ≠ 12 by decide)⟩
    · have := am_rcb_o (by omega) (by omega) hrc
      omega
  have hrecv : ∃ a : Nat, ac_v ad sd (.inr (.inr (t, o))) = .ref a ∧ ∃ cellB : Cell, H[a]? = some cellB ∧ cellB.vm.isStatics = false ∧ s.vm.findClass m9.2.1.cls = some cellB.cls := by
    rcases hnn with ⟨n1, n2, n3⟩ | ⟨n1, n2, n3, n4⟩ | ⟨n1, n2⟩
    · have e10 : m9.1 = 10 := (am_rcb_11 n1 hrc).1
      refine ⟨_, n3, ?_⟩
      rw [z6, e10]
      exact vk_recv hE.2.2.1 (n2 (am_rcb_11 n1 hrc).2) hS
    · refine ⟨_, n4, ?_⟩
      have hkd : (am_kd o).1 = m9.1 + 1 ∧ m9.1 < 10 := by
        rcases n3 with ⟨n3, n5⟩ | ⟨n3, n5⟩
        · rw [n5]; exact am_rcb_o n1 n3 hrc
        · rw [n5]; exact am_rcb_12 n3 hrc
      rw [z6]
      have he := am_w_get (cy := cy) (ad := ad) (σ := σ) n2
      rw [am_cell_o hkd.1 hkd.2] at he
      exact va_recv hE.1 hP (am_cls_at m9.1 hkd.2) he
    · have := am_rcb_o (by omega) (by omega) hrc
      omega
  obtain ⟨a9, ha9, hcell⟩ := hrecv
  rw [am_map_rev, List.map_cons, ha9]
  rw [List.map_cons, hrk.2, ha9] at w1 w2
  have hM2 := hM D cy ad sd sv H.size (am_okc hrk.1 hokcs) hk
  rw [List.map_cons, hrk.2, ha9] at hM2
  have hS2 : CallFix p m c M.2.2.1 M.2.2.2.1 s args (am_T) (am_nm M.1) := ⟨hx, hb, hml, hown, hts⟩
  refine am_go (va_runV (C := m9.2.1.cls) (b := a9) (As := as.map (ac_v ad sd)) hS2 hM2 (cwV m9.2.2.2.2.2.1 hts (ws' := am_T) (fun w hw => ?_) rfl rfl rfl ⟨rfl, z2, z3, z4⟩ ⟨hR1, ?_⟩) ⟨w1, hcell, w2⟩ rfl (by simp [hlen]) hl.1 rfl ?_ hd ⟨hR3, hR4⟩) hS (am_sub hD hS hA) (fun H1 locs1 g1 g2 g3 g4 => ?_)
  · have : w ∈ am_T := by
      simp only [wsV, List.cons_append, List.nil_append, List.mem_cons] at hw
      rcases hw with rfl | rfl | rfl | rfl | hw
      · exact am_has_in y2
      · exact am_has_in y3
      · exact am_has_in y4
      · exact am_has_in y1
      · rcases List.mem_cons.mp hw with rfl | hw
        · exact hcw
        · exact hw
    exact ⟨this, good_of_word (am_T_good w this)⟩
  · show 8 + (m9.2.2.2.1 + 11) + 60 * d ≤ R.locals
    omega
  · rw [am_cat_sum]
    have := Nat.le_of_ble_eq_true hcat
    show 2 * 0 + _ ≤ 8
    omega
  · have e9 : ((v.map (ac_v ad sd)).toList ++ r.map (ac_v ad sd)) = (v.toList ++ r).map (ac_v ad sd) := by cases v <;> rfl
    rw [e9]
    exact h hlv (fun x hx => by
      rcases List.mem_append.mp hx with hx | hx
      · exact g2 x (by cases v with
          | none => simp at hx
          | some y => simp at hx; rw [hx])
      · exact hokr x hx) g1 H1 locs1 ls g3 (am_w_D hD) g4 hl
end AMC
end
section
/-! ONE STEP: Math, arraycopy, answers; the whole step; THE SIMULATION. -/
section AMD
variable {p : Program} {l : Launch} {e : Env} {R : Room} {s : State} {m : MethodId} {args : Array Value} {below : List Frame} {meth : Method} {c : Code} {H : Heap} {locs : List Loc} {Q : State → Prop}
variable {D : va_G} {cy : Nat → ClassId} {ad sd sv : Nat → Nat} {A : Nat → Prop} {M : AM} {pc : Nat} {ls : Array Slot} {lv : AL} {st : List AV} {σ : AS} {d cl sl : Nat}
theorem am_1_max (C : am_Cx p R cl sl d s m args meth c M D cy sd sv A) {n : Nat} {k : Nat} (hmx : am_mx M.1 k = some 0) (hd : decode M.2.2.1 pc = .ok (.invokestatic k, n)) (hi : am_iok M.2.2.2.1 pc (.invokestatic k) n = true) (h : am_i2 st fun x y r => Nat.ble (r.map am_cat).sum 8 = true ∧ am_X p l e R cl sl s m args below meth c Q M D cy ad sd A (pc + 3) lv (.inl (if x < y then y else x) :: r) σ) : am_X p l e R cl sl s m args below meth c Q M D cy ad sd A pc lv st σ := by
  obtain ⟨hx, hb, hml, hown, hts, hr, hlk, ho, hE, hA, hm20, hR1, hR2, hR3, hR4⟩ := C
  intro hlv hst hk H locs ls hP hD hS hl
  obtain rfl := am_iok_n rfl hi
  obtain ⟨x, y, r, rfl, hcat, h⟩ := am_i2_of h
  obtain ⟨p9, hok9⟩ := am_mx_ok ho hmx
  have hl9 := hts _ (am_has_in hok9)
  have h8 := Nat.le_of_ble_eq_true hcat
  refine va_mmax hx hb (hml.trans hl.1.symm) hown hl9 (hts _ (am_fix_T (by simp))) (hts _ (am_fix_T (by simp))) (hts _ (am_fix_T (by simp))) (Nat.le_trans (Nat.le_add_left 1 d) hR1) ?_ hR3 hR4 hd (h hlv (am_okc trivial (am_okt (am_okt hst))) hk H locs ls hP hD hS hl)
  have := am_cat_sum (ad := ad) (sd := sd) r
  show (List.map (fun v => v.category) (List.map (ac_v ad sd) r)).sum + 13 ≤ R.locals
  omega
theorem am_1_min (C : am_Cx p R cl sl d s m args meth c M D cy sd sv A) {n : Nat} {k : Nat} (hmx : am_mx M.1 k = some 1) (hd : decode M.2.2.1 pc = .ok (.invokestatic k, n)) (hi : am_iok M.2.2.2.1 pc (.invokestatic k) n = true) (h : am_i2 st fun x y r => Nat.ble (r.map am_cat).sum 8 = true ∧ am_X p l e R cl sl s m args below meth c Q M D cy ad sd A (pc + 3) lv (.inl (if y < x then y else x) :: r) σ) : am_X p l e R cl sl s m args below meth c Q M D cy ad sd A pc lv st σ := by
  obtain ⟨hx, hb, hml, hown, hts, hr, hlk, ho, hE, hA, hm20, hR1, hR2, hR3, hR4⟩ := C
  intro hlv hst hk H locs ls hP hD hS hl
  obtain rfl := am_iok_n rfl hi
  obtain ⟨x, y, r, rfl, hcat, h⟩ := am_i2_of h
  obtain ⟨p9, hok9⟩ := am_mx_ok ho hmx
  have hl9 := hts _ (am_has_in hok9)
  have h8 := Nat.le_of_ble_eq_true hcat
  refine va_mmin hx hb (hml.trans hl.1.symm) hown hl9 (hts _ (am_fix_T (by simp))) (hts _ (am_fix_T (by simp))) (hts _ (am_fix_T (by simp))) (Nat.le_trans (Nat.le_add_left 1 d) hR1) ?_ hR3 hR4 hd (h hlv (am_okc trivial (am_okt (am_okt hst))) hk H locs ls hP hD hS hl)
  have := am_cat_sum (ad := ad) (sd := sd) r
  show (List.map (fun v => v.category) (List.map (ac_v ad sd) r)).sum + 13 ≤ R.locals
  omega
theorem am_1_copy (C : am_Cx p R cl sl d s m args meth c M D cy sd sv A) {n : Nat} {k : Nat} (hca : am_ca M.1 k = true) (hd : decode M.2.2.1 pc = .ok (.invokestatic k, n)) (hi : am_iok M.2.2.2.1 pc (.invokestatic k) n = true) (h : am_i1 st fun n r => am_i1 r fun dp r => am_r1 r fun u b r => am_i1 r fun sp r => am_r1 r fun t a r => Nat.ble (r.map am_cat).sum 8 = true ∧ am_cp t u a b sp dp n σ fun σ' => am_X p l e R cl sl s m args below meth c Q M D cy ad sd A (pc + 3) lv r σ') : am_X p l e R cl sl s m args below meth c Q M D cy ad sd A pc lv st σ := by
  obtain ⟨hx, hb, hml, hown, hts, hr, hlk, ho, hE, hA, hm20, hR1, hR2, hR3, hR4⟩ := C
  intro hlv hst hk H locs ls hP hD hS hl
  obtain rfl := am_iok_n rfl hi
  obtain ⟨n9, r1, e1, h1⟩ := am_i1_of h
  subst e1
  obtain ⟨dp, r2, e1, h2⟩ := am_i1_of h1
  subst e1
  obtain ⟨u, b, r3, e1, h3⟩ := am_r1_of h2
  subst e1
  obtain ⟨sp, r4, e1, h4⟩ := am_i1_of h3
  subst e1
  obtain ⟨t, a, r, e1, h5⟩ := am_r1_of h4
  subst e1
  clear h h1 h2 h3 h4
  obtain ⟨hcat, h⟩ := h5
  have h8 := Nat.le_of_ble_eq_true hcat
  obtain ⟨⟨g1, g2, g3, g4, g5⟩, h⟩ := h
  have ho1 : am_okr u b := am_okh (am_okt (am_okt hst))
  have ho2 : am_okr t a := am_okh (am_okt (am_okt (am_okt (am_okt hst))))
  have hor : ∀ x ∈ r, am_okv x := am_okt (am_okt (am_okt (am_okt (am_okt hst))))
  have hl9 := hts _ (am_ca_ok ho hca)
  have hloc : (List.map (fun v => v.category) (List.map (ac_v ad sd) r)).sum + (nativeFrameWords "java/lang/System" "arraycopy" 5 + 11) ≤ R.locals := by
    have := am_cat_sum (ad := ad) (sd := sd) r
    have h7 : nativeFrameWords "java/lang/System" "arraycopy" 5 = 7 := by decide +kernel
    rw [h7]
    omega
  split at h
  · rename_i e1 e2
    obtain ⟨k1, k2, k3⟩ := am_okr_a ho2 e1 (by decide) ad sd
    obtain ⟨q1, q2, q3⟩ := am_okr_a ho1 e2 (by decide) ad sd
    have he := am_w_get (cy := cy) (ad := ad) (σ := σ) k1
    rw [am_cell_i (by rw [k2]; exact e1) (Or.inr (Or.inl rfl)), k2] at he
    have hf := am_w_get (cy := cy) (ad := ad) (σ := σ) q1
    rw [am_cell_i (by rw [q2]; exact e2) (Or.inr (Or.inl rfl)), q2] at hf
    rw [List.map_cons, List.map_cons, List.map_cons, List.map_cons, List.map_cons, k3, q3]
    refine va_copyi hx hb (hml.trans hl.1.symm) hown hl9 (hts _ (am_fix_T (by simp))) (hts _ (am_fix_T (by simp))) (hts _ (am_fix_T (by simp))) hE.1 hP hD hS a b 1 1 he hf rfl rfl rfl g1 g2 g3 g4 g5 (fun _ _ => rfl) (Nat.le_trans (Nat.le_add_left 1 d) hR1) hloc hd (fun H1 locs1 hP1 hD1 hS1 => ?_)
    rw [am_w_set (σ := σ) (σ' := am_sr σ b (va_cpy (σ.1 a) (σ.1 b) sp.toNatClampNeg dp.toNatClampNeg n9.toNatClampNeg)) q1 (by rw [am_cell_i (by rw [q2]; exact e2) (Or.inr (Or.inl rfl)), q2]; simp [am_sr, am_u2]) (fun j _ e => am_cell_eq (by simp [am_sr, am_u2, e]) rfl)] at hP1 hD1
    exact h hlv hor (am_hok_sr hk (by rw [q2]; omega)) H1 locs1 ls hP1 hD1 hS1 hl
  · rename_i e1 e2
    obtain ⟨k1, k2, k3⟩ := am_okr_a ho2 e1 (by decide) ad sd
    obtain ⟨q1, q2, q3⟩ := am_okr_a ho1 e2 (by decide) ad sd
    have he := am_w_get (cy := cy) (ad := ad) (σ := σ) k1
    rw [am_cell_j (by rw [k2]; exact e1), k2] at he
    have hf := am_w_get (cy := cy) (ad := ad) (σ := σ) q1
    rw [am_cell_j (by rw [q2]; exact e2), q2] at hf
    rw [List.map_cons, List.map_cons, List.map_cons, List.map_cons, List.map_cons, k3, q3]
    refine va_copyl hx hb (hml.trans hl.1.symm) hown hl9 (hts _ (am_fix_T (by simp))) (hts _ (am_fix_T (by simp))) (hts _ (am_fix_T (by simp))) hE.1 hP hD hS a b 2 2 he hf rfl rfl rfl g1 g2 g3 g4 g5 (fun _ _ => rfl) (Nat.le_trans (Nat.le_add_left 1 d) hR1) hloc hd (fun H1 locs1 hP1 hD1 hS1 => ?_)
    rw [am_w_set (σ := σ) (σ' := am_srj σ b (va_cpy (σ.2 a) (σ.2 b) sp.toNatClampNeg dp.toNatClampNeg n9.toNatClampNeg)) q1 (by rw [am_cell_j (by rw [q2]; exact e2), q2]; simp [am_srj, am_u2]) (fun j _ e => am_cell_eq rfl (by simp [am_srj, am_u2, e]))] at hP1 hD1
    exact h hlv hor (am_hok_j hk rfl) H1 locs1 ls hP1 hD1 hS1 hl
  · exact h.elim
/-- the method's own end -/
def am_Fin (s : State) (args : Array Value) (Qc : Array Value → State → Outcome → State → Prop) (D : va_G) (cy : Nat → ClassId) (ad sd : Nat → Nat) (A : Nat → Prop) (fin : Option AV → AS → Prop) : Prop :=
  ∀ (r : Option AV) (σ : AS), fin r σ → am_hok σ → (∀ v, r = some v → am_okv v) → ∀ (H : Heap) (locs : List Loc) (t : State), va_P D am_cls (am_w cy ad σ) H → va_S A s.heap H locs → t.heap = H → Qc args s (.returned (r.map (ac_v ad sd))) t
theorem am_1_ireturn (C : am_Cx p R cl sl d s m args meth c M D cy sd sv A) {Qc : Array Value → State → Outcome → State → Prop} {fin : Option AV → AS → Prop} (hF : am_Fin s args Qc D cy ad sd A fin) {n : Nat} (hd : decode M.2.2.1 pc = .ok (.ireturn, n)) (hi : am_iok M.2.2.2.1 pc .ireturn n = true) (h : (match st with
    | [.inl v] => am_rn M.2.2.2.2.1 v (fin (some (.inl v)) σ)
    | _ => False)) : am_X p l e R cl sl s m args below meth c (MQ below Qc args s cl sl A) M D cy ad sd A pc lv st σ := by
  obtain ⟨hx, hb, hml, hown, hts, hr, hlk, ho, hE, hA, hm20, hR1, hR2, hR3, hR4⟩ := C
  intro hlv hst hk H locs ls hP hD hS hl
  obtain rfl := am_iok_n rfl hi
  split at h
  · rename_i v
    unfold am_rn at h
    split at h
    · rename_i hrt
      exact W.iret hx hb (hr.trans hrt) (fun t ht _ => hF _ _ h hk (fun _ z => by cases z; trivial) H locs t hP hS ht) hS.2.2 hd hlk
    · rename_i hrt
      exact W.zret hx hb (hr.trans hrt) (by rcases h.1 with z | z <;> rw [z] <;> rfl) (fun t ht _ => hF _ _ h.2 hk (fun _ z => by cases z; trivial) H locs t hP hS ht) hS.2.2 hd hlk
    · rename_i hrt
      exact W.zret hx hb (hr.trans hrt) (congrArg Value.int h.1) (fun t ht _ => hF _ _ h.2 hk (fun _ z => by cases z; trivial) H locs t hP hS ht) hS.2.2 hd hlk
    · rename_i hrt
      exact W.zret hx hb (hr.trans hrt) (congrArg Value.int h.1) (fun t ht _ => hF _ _ h.2 hk (fun _ z => by cases z; trivial) H locs t hP hS ht) hS.2.2 hd hlk
    · exact h.elim
  · exact h.elim
theorem am_1_lreturn (C : am_Cx p R cl sl d s m args meth c M D cy sd sv A) {Qc : Array Value → State → Outcome → State → Prop} {fin : Option AV → AS → Prop} (hF : am_Fin s args Qc D cy ad sd A fin) {n : Nat} (hd : decode M.2.2.1 pc = .ok (.lreturn, n)) (hi : am_iok M.2.2.2.1 pc .lreturn n = true) (h : (match st with
    | [.inr (.inl v)] => M.2.2.2.2.1 = some .long ∧ fin (some (.inr (.inl v))) σ
    | _ => False)) : am_X p l e R cl sl s m args below meth c (MQ below Qc args s cl sl A) M D cy ad sd A pc lv st σ := by
  obtain ⟨hx, hb, hml, hown, hts, hr, hlk, ho, hE, hA, hm20, hR1, hR2, hR3, hR4⟩ := C
  intro hlv hst hk H locs ls hP hD hS hl
  obtain rfl := am_iok_n rfl hi
  split at h
  · exact W.lret hx hb (hr.trans h.1) (fun t ht _ => hF _ _ h.2 hk (fun _ z => by cases z; trivial) H locs t hP hS ht) hS.2.2 hd hlk
  · exact h.elim
theorem am_1_return (C : am_Cx p R cl sl d s m args meth c M D cy sd sv A) {Qc : Array Value → State → Outcome → State → Prop} {fin : Option AV → AS → Prop} (hF : am_Fin s args Qc D cy ad sd A fin) {n : Nat} (hd : decode M.2.2.1 pc = .ok (.return_, n)) (hi : am_iok M.2.2.2.1 pc .return_ n = true) (h : (match st with
    | [] => M.2.2.2.2.1 = none ∧ fin none σ
    | _ => False)) : am_X p l e R cl sl s m args below meth c (MQ below Qc args s cl sl A) M D cy ad sd A pc lv st σ := by
  obtain ⟨hx, hb, hml, hown, hts, hr, hlk, ho, hE, hA, hm20, hR1, hR2, hR3, hR4⟩ := C
  intro hlv hst hk H locs ls hP hD hS hl
  obtain rfl := am_iok_n rfl hi
  split at h
  · exact W.vret hx hb (hr.trans h.1) (fun t ht _ => hF _ _ h.2 hk (fun _ z => by cases z) H locs t hP hS ht) hS.2.2 hd hlk
  · exact h.elim
theorem am_1_areturn (C : am_Cx p R cl sl d s m args meth c M D cy sd sv A) {Qc : Array Value → State → Outcome → State → Prop} {fin : Option AV → AS → Prop} (hF : am_Fin s args Qc D cy ad sd A fin) {n : Nat} (hd : decode M.2.2.1 pc = .ok (.areturn, n)) (hi : am_iok M.2.2.2.1 pc .areturn n = true) (h : (match st with
    | [.inr (.inr (t, o))] => (t.1 = 12 ∧ M.2.2.2.2.1 = some (.object "MarchFolk$Ways")) ∧ fin (some (.inr (.inr (t, o)))) σ
    | _ => False)) : am_X p l e R cl sl s m args below meth c (MQ below Qc args s cl sl A) M D cy ad sd A pc lv st σ := by
  obtain ⟨hx, hb, hml, hown, hts, hr, hlk, ho, hE, hA, hm20, hR1, hR2, hR3, hR4⟩ := C
  intro hlv hst hk H locs ls hP hD hS hl
  obtain rfl := am_iok_n rfl hi
  split at h
  · rename_i t o
    refine W.aret hx hb (hr.trans h.1.2) (Or.inl ⟨_, rfl⟩) ?_ (fun t ht _ => hF _ _ h.2 hk (fun _ z => by cases z; exact am_okh hst) H locs t hP hS ht) hS.2.2 hd hlk
    simp only [ac_v, h.1.1, if_neg (show ¬ (12 : Nat) = 0 by decide), if_neg (show ¬ (12 : Nat) = 11 by decide), if_pos]
    split
    · exact Or.inl rfl
    · exact Or.inr ⟨_, rfl⟩
  · exact h.elim
def am_ret : Instr → Bool
  | .ireturn => true
  | .lreturn => true
  | .areturn => true
  | .return_ => true
  | _ => false
set_option maxHeartbeats 4000000 in
theorem am_one0 (C : am_Cx p R cl sl d s m args meth c M D cy sd sv A) {fin : Option AV → AS → Prop} {P : AP} (hPc : ∀ m as σ σ' v, P m as σ σ' v → am_Ct l d m as σ σ' v) {n : Nat} {i : Instr} (hd : decode M.2.2.1 pc = .ok (i, n)) (hi : am_iok M.2.2.2.1 pc i n = true) (hnr : am_ret i = false)
    (h : am_1 M P fin (am_X p l e R cl sl s m args below meth c Q M D cy ad sd A) i pc lv st σ) : am_X p l e R cl sl s m args below meth c Q M D cy ad sd A pc lv st σ := by
  cases i with
  | iconst _ => exact am_1_iconst C hd hi h
  | bipush _ => exact am_1_bipush C hd hi h
  | sipush _ => exact am_1_sipush C hd hi h
  | lconst _ => exact am_1_lconst C hd hi h
  | ldc _ => exact am_1_ldc C hd hi h
  | ldc_w _ => exact am_1_ldc_w C hd hi h
  | ldc2_w _ => exact am_1_ldc2_w C hd hi h
  | iload_n _ => exact am_1_iload_n C hd hi h
  | iload _ => exact am_1_iload C hd hi h
  | lload_n _ => exact am_1_lload_n C hd hi h
  | lload _ => exact am_1_lload C hd hi h
  | aload_n _ => exact am_1_aload_n C hd hi h
  | aload _ => exact am_1_aload C hd hi h
  | istore_n _ => exact am_1_istore_n C hd hi h
  | istore _ => exact am_1_istore C hd hi h
  | lstore_n _ => exact am_1_lstore_n C hd hi h
  | lstore _ => exact am_1_lstore C hd hi h
  | astore_n _ => exact am_1_astore_n C hd hi h
  | astore _ => exact am_1_astore C hd hi h
  | iinc _ _ => exact am_1_iinc C hd hi h
  | dup => exact am_1_dup C hd hi h
  | dup2 => exact am_1_dup2 C hd hi h
  | pop => exact am_1_pop C hd hi h
  | iadd => exact am_1_iadd C hd hi h
  | isub => exact am_1_isub C hd hi h
  | imul => exact am_1_imul C hd hi h
  | idiv => exact am_1_idiv C hd hi h
  | irem => exact am_1_irem C hd hi h
  | ishl => exact am_1_ishl C hd hi h
  | ishr => exact am_1_ishr C hd hi h
  | iushr => exact am_1_iushr C hd hi h
  | iand => exact am_1_iand C hd hi h
  | ior => exact am_1_ior C hd hi h
  | ixor => exact am_1_ixor C hd hi h
  | ladd => exact am_1_ladd C hd hi h
  | lsub => exact am_1_lsub C hd hi h
  | lmul => exact am_1_lmul C hd hi h
  | ldiv => exact am_1_ldiv C hd hi h
  | lrem => exact am_1_lrem C hd hi h
  | land => exact am_1_land C hd hi h
  | lor => exact am_1_lor C hd hi h
  | lshl => exact am_1_lshl C hd hi h
  | lshr => exact am_1_lshr C hd hi h
  | i2l => exact am_1_i2l C hd hi h
  | l2i => exact am_1_l2i C hd hi h
  | i2b => exact am_1_i2b C hd hi h
  | i2s => exact am_1_i2s C hd hi h
  | lcmp => exact am_1_lcmp C hd hi h
  | ifCond c9 _ =>
    cases c9 with
    | eq => exact am_1_if_eq C hd hi h
    | ne => exact am_1_if_ne C hd hi h
    | lt => exact am_1_if_lt C hd hi h
    | ge => exact am_1_if_ge C hd hi h
    | gt => exact am_1_if_gt C hd hi h
    | le => exact am_1_if_le C hd hi h
  | if_icmp c9 _ =>
    cases c9 with
    | eq => exact am_1_icmp_eq C hd hi h
    | ne => exact am_1_icmp_ne C hd hi h
    | lt => exact am_1_icmp_lt C hd hi h
    | ge => exact am_1_icmp_ge C hd hi h
    | gt => exact am_1_icmp_gt C hd hi h
    | le => exact am_1_icmp_le C hd hi h
  | goto _ => exact am_1_goto C hd hi h
  | tableswitch _ _ _ _ => exact am_1_tableswitch C hd hi h
  | lookupswitch _ _ => exact am_1_lookupswitch C hd hi h
  | ifnull _ => exact am_1_ifnull C hd hi h
  | getfield _ => exact am_1_getfield C hd hi h
  | getstatic _ => exact am_1_getstatic C hd hi h
  | i2c => exact am_1_i2c C hd hi h
  | putfield _ => exact am_1_putfield C hd hi h
  | iaload => exact am_1_iaload C hd hi h
  | baload => exact am_1_baload C hd hi h
  | laload => exact am_1_laload C hd hi h
  | aaload => exact am_1_aaload C hd hi h
  | iastore => exact am_1_iastore C hd hi h
  | bastore => exact am_1_bastore C hd hi h
  | lastore => exact am_1_lastore C hd hi h
  | arraylength => exact am_1_arraylength C hd hi h
  | ireturn => cases hnr
  | lreturn => cases hnr
  | areturn => cases hnr
  | return_ => cases hnr
  | invokestatic k =>
    have h : am_ivs M P (am_X p l e R cl sl s m args below meth c Q M D cy ad sd A) k pc lv st σ := h
    unfold am_ivs at h
    split at h
    · rename_i m9 hm9
      split at h
      · rename_i as r hpop
        exact am_1_callS C hPc hm9 hpop h.1 hd hi h.2
      · exact h.elim
    · rename_i m9 hm9
      split at h
      · rename_i as r hpop
        exact am_1_callSN C hPc hm9 hpop h.1 hd hi h.2
      · exact h.elim
    · exact h.elim
    · split at h
      · rename_i hmx
        exact am_1_max C hmx hd hi h
      · rename_i hmx
        exact am_1_min C hmx hd hi h
      · exact h.elim
      · exact am_1_copy C h.1 hd hi h.2
  | invokevirtual k =>
    have h : am_ivv M P (am_X p l e R cl sl s m args below meth c Q M D cy ad sd A) k pc lv st σ := h
    unfold am_ivv at h
    split at h
    · rename_i m9 hm9
      split at h
      · rename_i as t o r hpop
        exact am_1_callV C hPc hm9 hpop h.1 h.2.1 hd hi h.2.2
      · exact h.elim
    · exact h.elim
  | _ => exact h.elim
set_option maxHeartbeats 4000000 in
theorem am_one (C : am_Cx p R cl sl d s m args meth c M D cy sd sv A) {Qc : Array Value → State → Outcome → State → Prop} {fin : Option AV → AS → Prop} (hF : am_Fin s args Qc D cy ad sd A fin) {P : AP} (hPc : ∀ m as σ σ' v, P m as σ σ' v → am_Ct l d m as σ σ' v) {n : Nat} {i : Instr} (hd : decode M.2.2.1 pc = .ok (i, n)) (hi : am_iok M.2.2.2.1 pc i n = true)
    (h : am_1 M P fin (am_X p l e R cl sl s m args below meth c (MQ below Qc args s cl sl A) M D cy ad sd A) i pc lv st σ) : am_X p l e R cl sl s m args below meth c (MQ below Qc args s cl sl A) M D cy ad sd A pc lv st σ := by
  cases i with
  | ireturn => exact am_1_ireturn C hF hd hi h
  | lreturn => exact am_1_lreturn C hF hd hi h
  | areturn => exact am_1_areturn C hF hd hi h
  | return_ => exact am_1_return C hF hd hi h
  | _ => exact am_one0 C hPc hd hi rfl h
end AMD
/-- what every method is told of: X is closed under the machine's steps, and under forgetting of locals -/
def am_clo (M : AM) (code : List (Nat × Instr × Nat)) (P : AP) (fin : Option AV → AS → Prop) (X : Nat → AL → List AV → AS → Prop) : Prop :=
  (∀ pc i n lv st σ, (pc, i, n) ∈ code → am_1 M P fin X i pc lv st σ → X pc lv st σ) ∧ ∀ pc lv lv' st σ, X pc lv' st σ → (∀ q ∈ lv', q ∈ lv) → X pc lv st σ
def am_args : Nat → List AV → AL
  | _, [] => []
  | i, v :: vs => (i, v) :: am_args (i + am_cat v) vs
def am_RR (M : AM) (code : List (Nat × Instr × Nat)) (P : AP) (as : List AV) (σ σ' : AS) (r : Option AV) : Prop :=
  ∀ X, am_clo M code P (fun r' σ'' => r' = r ∧ σ'' = σ') X → X 0 (am_args 0 as) [] σ
theorem am_args_eq (ad sd : Nat → Nat) : ∀ (as : List AV) (i : Nat), lv_args i (as.map (ac_v ad sd)) = ac_l ad sd (am_args i as)
  | [], _ => rfl
  | v :: vs, i => by
    have h1 : (if (ac_v ad sd v).category = 2 then i + 2 else i + 1) = i + am_cat v := by
      rw [ac_cat]
      rcases v with x | x | x <;> rfl
    show (i, ac_v ad sd v) :: lv_args _ (vs.map (ac_v ad sd)) = (i, ac_v ad sd v) :: ac_l ad sd (am_args _ vs)
    rw [h1, am_args_eq ad sd vs]
theorem am_args_ok : ∀ (as : List AV) (i : Nat), (∀ v ∈ as, am_okv v) → ∀ q ∈ am_args i as, am_okv q.2
  | [], _, _, q, hq => by cases hq
  | v :: vs, i, h, q, hq => by
    rcases List.mem_cons.mp hq with hq | hq
    · rw [hq]; exact h v List.mem_cons_self
    · exact am_args_ok vs _ (fun x hx => h x (List.mem_cons_of_mem _ hx)) q hq
theorem am_sl_len (ad sd : Nat → Nat) : ∀ (as : List AV), (lg_sl (as.map (ac_v ad sd))).length = (as.map am_cat).sum
  | [] => rfl
  | v :: vs => by
    have ih := am_sl_len ad sd vs
    have h1 : ((if (ac_v ad sd v).category = 2 then [Slot.val (ac_v ad sd v), Slot.second] else [Slot.val (ac_v ad sd v)])).length = am_cat v := by
      rw [ac_cat]
      rcases v with x | x | x <;> rfl
    simp only [lg_sl, List.map_cons, List.flatMap_cons, List.length_append, List.sum_cons] at ih ⊢
    rw [ih, h1]
/-- THE SIMULATION: a run of the abstract machine is a contract -/
theorem am_sim (l : Launch) (d : Nat) {M : AM} {code : List (Nat × Instr × Nat)} {as : List AV} {σ σ' : AS} {r : Option AV} (hM : am_mok M = true) (hw : Cond.code M.2.1 M.2.2.1 M.2.2.2.1 M.2.2.2.2.1 ∈ am_T) (hc : ∀ q ∈ code, decode M.2.2.1 q.1 = .ok (q.2.1, q.2.2) ∧ am_iok M.2.2.2.1 q.1 q.2.1 q.2.2 = true) (hn : (as.map am_cat).sum ≤ M.2.2.2.1) (h : am_RR M code (am_Ct l d) as σ σ' r) : am_Ct l (d + 1) M as σ σ' r := by
  refine ⟨hw, fun D cy ad sd sv sz hok hk => ?_⟩
  simp only [am_mok, Bool.and_eq_true, decide_eq_true_eq] at hM
  obtain ⟨⟨⟨⟨⟨⟨z1, z2⟩, z3⟩, z4⟩, z5⟩, z6⟩, z7⟩ := hM
  refine Met.ofW (cc := M.2.2.1) (maxL := M.2.2.2.1) (ret := M.2.2.2.2.1) z1 rfl ?_
  intro p e s m args below meth c s₁ B hml hv
  obtain ⟨rfl, hsz, hP, hD0, hE⟩ := hv
  subst hsz
  have hts := atoms_spec (ws := am_ws M) B.pre
  have hown : s.vm.findClass M.2.1.cls = some m.cls := findClass_of_methodNamed B.named
  rw [z6] at hown
  have hD : va_D (va_A (am_w cy ad σ) s.heap.size) (am_w cy ad σ) := hD0.self
  have C : am_Cx p (am_rm (d + 1)) 0 0 d s m (as.map (ac_v ad sd)).toArray meth c M D cy sd sv (va_A (am_w cy ad σ) s.heap.size) := ⟨B.exec, B.bytes, hml, hown, fun w hw => hts w (List.mem_cons_of_mem _ hw), B.returns, B.notSynchronized, Nat.lt_succ_of_lt z7, hE, fun q hq => Or.inr hq, z5, Nat.le_refl _, Nat.le_refl _, Nat.le_refl _, Nat.le_refl _⟩
  have hF : am_Fin s (as.map (ac_v ad sd)).toArray (am_Q D cy ad sd σ' r (va_A (am_w cy ad σ) s.heap.size)) D cy ad sd (va_A (am_w cy ad σ) s.heap.size) (fun r' σ'' => r' = r ∧ σ'' = σ') := by
    intro r' σ'' hr hk' hok' H locs t hP' hS' ht
    obtain ⟨rfl, rfl⟩ := hr
    exact ⟨⟨rfl, hk', hok', by rw [ht]; exact hP'⟩, hS'.F ht⟩
  have hX := h (am_X p l e (am_rm (d + 1)) 0 0 s m (as.map (ac_v ad sd)).toArray below meth c (MQ below (am_Q D cy ad sd σ' r (va_A (am_w cy ad σ) s.heap.size)) (as.map (ac_v ad sd)).toArray s 0 0 (va_A (am_w cy ad σ) s.heap.size)) M D cy ad sd (va_A (am_w cy ad σ) s.heap.size)) ⟨fun pc i n lv st σ2 hi h1 => by
      obtain ⟨g1, g2⟩ := hc _ hi
      exact am_one C hF (fun _ _ _ _ _ z => z) g1 g2 h1, fun pc lv lv' st σ2 h1 h2 => by
      intro hlv hst hk2 H locs ls g1 g2 g3 g4
      exact h1 (fun q hq => hlv q (h2 q hq)) hst hk2 H locs ls g1 g2 g3 ⟨g4.1, g4.2.1, fun q hq => by
        obtain ⟨q', hq', rfl⟩ := List.mem_map.mp hq
        exact g4.2.2 _ (List.mem_map.mpr ⟨q', h2 q' hq', rfl⟩)⟩⟩
  have hl := lv_entry (as.map (ac_v ad sd)) (n := M.2.2.2.1) (by rw [am_sl_len]; exact hn)
  rw [lg_entry_eq]
  rw [am_args_eq] at hl
  exact hX (am_args_ok as 0 hok) (fun v hv => by cases hv) hk s.heap [] _ hP hD va_S.rf hl
end
section
/-! BLOCKS: how a method's walk is written. -/
def am_L (M : AM) (P : AP) (fin : Option AV → AS → Prop) (X : Nat → AL → List AV → AS → Prop) : List (Nat × Instr × Nat) → Nat → AL → List AV → AS → Prop
  | [], pc, lv, st, σ => X pc lv st σ
  | (q, i, _) :: is, pc, lv, st, σ => match Nat.beq pc q with
    | true => am_1 M P fin (am_L M P fin X is) i pc lv st σ
    | false => False
theorem am_gi_mono {lv : AL} {n : Nat} {k k' : Int32 → Prop} (h : am_gi lv n k) (hk : ∀ x, k x → k' x) : am_gi lv n k' := by
  unfold am_gi at h ⊢
  split at h
  · exact hk _ h
  · exact h
theorem am_gl_mono {lv : AL} {n : Nat} {k k' : Int64 → Prop} (h : am_gl lv n k) (hk : ∀ x, k x → k' x) : am_gl lv n k' := by
  unfold am_gl at h ⊢
  split at h
  · exact hk _ h
  · exact h
theorem am_gr_mono {lv : AL} {n : Nat} {k k' : AK → Nat → Prop} (h : am_gr lv n k) (hk : ∀ x y, k x y → k' x y) : am_gr lv n k' := by
  unfold am_gr at h ⊢
  split at h
  · exact hk _ _ h
  · exact h
theorem am_i1_mono {st : List AV} {k k' : Int32 → List AV → Prop} (h : am_i1 st k) (hk : ∀ x r, k x r → k' x r) : am_i1 st k' := by
  unfold am_i1 at h ⊢
  split at h
  · exact hk _ _ h
  · exact h
theorem am_l1_mono {st : List AV} {k k' : Int64 → List AV → Prop} (h : am_l1 st k) (hk : ∀ x r, k x r → k' x r) : am_l1 st k' := by
  unfold am_l1 at h ⊢
  split at h
  · exact hk _ _ h
  · exact h
theorem am_r1_mono {st : List AV} {k k' : AK → Nat → List AV → Prop} (h : am_r1 st k) (hk : ∀ x y r, k x y r → k' x y r) : am_r1 st k' := by
  unfold am_r1 at h ⊢
  split at h
  · exact hk _ _ _ h
  · exact h
theorem am_i2_mono {st : List AV} {k k' : Int32 → Int32 → List AV → Prop} (h : am_i2 st k) (hk : ∀ x y r, k x y r → k' x y r) : am_i2 st k' :=
  am_i1_mono h fun _ _ h => am_i1_mono h fun _ _ h => hk _ _ _ h
theorem am_l2_mono {st : List AV} {k k' : Int64 → Int64 → List AV → Prop} (h : am_l2 st k) (hk : ∀ x y r, k x y r → k' x y r) : am_l2 st k' :=
  am_l1_mono h fun _ _ h => am_l1_mono h fun _ _ h => hk _ _ _ h
theorem am_nn_mono {t : AK} {i : Nat} {B B' : Prop} (h : am_nn t i B) (hk : B → B') : am_nn t i B' := by
  unfold am_nn at h ⊢
  split at h
  · exact h
  · exact ⟨h.1, hk h.2⟩
  · exact hk h
theorem am_cz_mono {c : ClassFile.Cond} {x : Int32} {B B' C C' : Prop} (h : am_cz c x B C) (h1 : B → B') (h2 : C → C') : am_cz c x B' C' := by
  cases c <;> exact ⟨fun z => h1 (h.1 z), fun z => h2 (h.2 z)⟩
theorem am_cc_mono {c : ClassFile.Cond} {x y : Int32} {B B' C C' : Prop} (h : am_cc c x y B C) (h1 : B → B') (h2 : C → C') : am_cc c x y B' C' := by
  cases c <;> exact ⟨fun z => h1 (h.1 z), fun z => h2 (h.2 z)⟩
theorem am_tw_mono {x : Int32} {Y Y' : Int → Prop} {d : Int} (hk : ∀ o, Y o → Y' o) : ∀ (os : List Int) (k : Int), am_tw x Y d k os → am_tw x Y' d k os
  | [], _, h => hk _ h
  | _ :: os, k, h => ⟨fun z => hk _ (h.1 z), fun z => am_tw_mono hk os (k + 1) (h.2 z)⟩
theorem am_lw_mono {x : Int32} {Y Y' : Int → Prop} {d : Int} (hk : ∀ o, Y o → Y' o) : ∀ (ps : List (Int × Int)), am_lw x Y d ps → am_lw x Y' d ps
  | [], h => hk _ h
  | _ :: os, h => ⟨fun z => hk _ (h.1 z), fun z => am_lw_mono hk os (h.2 z)⟩
theorem am_gf_mono {e : Nat × Nat × AK} {o f : Nat} {σ : AS} {k k' : AV → Prop} (h : am_gf e o f σ k) (hk : ∀ v, k v → k' v) : am_gf e o f σ k' := by
  unfold am_gf at h ⊢
  split at h <;> exact hk _ h
theorem am_pf_mono {e : Nat × Nat × AK} {v : AV} {o f : Nat} {σ : AS} {k k' : AS → Prop} (h : am_pf e v o f σ k) (hk : ∀ σ, k σ → k' σ) : am_pf e v o f σ k' := by
  unfold am_pf at h ⊢
  split at h
  · exact hk _ h
  · exact ⟨h.1, hk _ h.2⟩
  · exact hk _ h
  · split at h
    · exact hk _ h
    · exact hk _ h
    · exact h
  · exact h
theorem am_aa_mono {t : AK} {a : Nat} {i : Int32} {k k' : AV → Prop} (h : am_aa t a i k) (hk : ∀ v, k v → k' v) : am_aa t a i k' := by
  unfold am_aa at h ⊢
  split at h
  · exact hk _ h
  · exact hk _ h
  · exact hk _ h
  · exact h
theorem am_cp_mono {t u : AK} {a b : Nat} {sp dp n : Int32} {σ : AS} {k k' : AS → Prop} (h : am_cp t u a b sp dp n σ k) (hk : ∀ σ, k σ → k' σ) : am_cp t u a b sp dp n σ k' := by
  refine ⟨h.1, ?_⟩
  have h2 := h.2
  split at h2
  · exact hk _ h2
  · exact hk _ h2
  · exact h2
theorem am_cl1_mono {P : AP} {m : AM} {as : List AV} {σ : AS} {k k' : Option AV → AS → Prop} (h : am_cl1 P m as σ k) (hk : ∀ v σ, k v σ → k' v σ) : am_cl1 P m as σ k' := by
  obtain ⟨σ', v, h1, h2⟩ := h
  exact ⟨σ', v, h1, hk _ _ h2⟩
theorem am_ivs_mono {M : AM} {P : AP} {X Y : Nat → AL → List AV → AS → Prop} {ix pc : Nat} {lv : AL} {st : List AV} {σ : AS} (hk : ∀ pc lv st σ, X pc lv st σ → Y pc lv st σ) (h : am_ivs M P X ix pc lv st σ) : am_ivs M P Y ix pc lv st σ := by
  unfold am_ivs at h ⊢
  split at h
  · split at h
    · exact ⟨h.1, am_cl1_mono h.2 fun _ _ h => hk _ _ _ _ h⟩
    · exact h
  · split at h
    · exact ⟨h.1, am_cl1_mono h.2 fun _ _ h => hk _ _ _ _ h⟩
    · exact h
  · exact h
  · split at h
    · exact am_i2_mono h fun _ _ _ h => ⟨h.1, hk _ _ _ _ h.2⟩
    · exact am_i2_mono h fun _ _ _ h => ⟨h.1, hk _ _ _ _ h.2⟩
    · exact h
    · exact ⟨h.1, am_i1_mono h.2 fun _ _ h => am_i1_mono h fun _ _ h => am_r1_mono h fun _ _ _ h => am_i1_mono h fun _ _ h => am_r1_mono h fun _ _ _ h => ⟨h.1, am_cp_mono h.2 fun _ h => hk _ _ _ _ h⟩⟩
theorem am_ivv_mono {M : AM} {P : AP} {X Y : Nat → AL → List AV → AS → Prop} {ix pc : Nat} {lv : AL} {st : List AV} {σ : AS} (hk : ∀ pc lv st σ, X pc lv st σ → Y pc lv st σ) (h : am_ivv M P X ix pc lv st σ) : am_ivv M P Y ix pc lv st σ := by
  unfold am_ivv at h ⊢
  split at h
  · split at h
    · exact ⟨h.1, h.2.1, am_nn_mono h.2.2 fun h => am_cl1_mono h fun _ _ h => hk _ _ _ _ h⟩
    · exact h
  · exact h
set_option maxHeartbeats 4000000 in
theorem am_1_mono {M : AM} {P : AP} {fin : Option AV → AS → Prop} {X Y : Nat → AL → List AV → AS → Prop} {i : Instr} {pc : Nat} {lv : AL} {st : List AV} {σ : AS} (hk : ∀ pc lv st σ, X pc lv st σ → Y pc lv st σ) (h : am_1 M P fin X i pc lv st σ) : am_1 M P fin Y i pc lv st σ := by
  cases i with
  | iconst _ => exact hk _ _ _ _ h
  | bipush _ => exact hk _ _ _ _ h
  | sipush _ => exact hk _ _ _ _ h
  | lconst _ => exact hk _ _ _ _ h
  | ldc k =>
    have h : (match am_kc M.1 k with
      | some v => X (pc + 2) lv (.inl v :: st) σ
      | none => match am_ks M.1 k with
        | some q => X (pc + 2) lv (.inr (.inr ((11, 0, 0), q)) :: st) σ
        | none => False) := h
    show (match am_kc M.1 k with
      | some v => Y (pc + 2) lv (.inl v :: st) σ
      | none => match am_ks M.1 k with
        | some q => Y (pc + 2) lv (.inr (.inr ((11, 0, 0), q)) :: st) σ
        | none => False)
    split at h
    · exact hk _ _ _ _ h
    · split at h
      · exact hk _ _ _ _ h
      · exact h
  | ldc_w k =>
    have h : (match am_kc M.1 k with
      | some v => X (pc + 3) lv (.inl v :: st) σ
      | none => False) := h
    show (match am_kc M.1 k with
      | some v => Y (pc + 3) lv (.inl v :: st) σ
      | none => False)
    split at h
    · exact hk _ _ _ _ h
    · exact h
  | ldc2_w k =>
    have h : (match am_kl M.1 k with
      | some v => X (pc + 3) lv (.inr (.inl v) :: st) σ
      | none => False) := h
    show (match am_kl M.1 k with
      | some v => Y (pc + 3) lv (.inr (.inl v) :: st) σ
      | none => False)
    split at h
    · exact hk _ _ _ _ h
    · exact h
  | iload_n _ => exact am_gi_mono h fun _ h => hk _ _ _ _ h
  | iload _ => exact am_gi_mono h fun _ h => hk _ _ _ _ h
  | lload_n _ => exact am_gl_mono h fun _ h => hk _ _ _ _ h
  | lload _ => exact am_gl_mono h fun _ h => hk _ _ _ _ h
  | aload_n _ => exact am_gr_mono h fun _ _ h => am_nn_mono h fun h => hk _ _ _ _ h
  | aload _ => exact am_gr_mono h fun _ _ h => am_nn_mono h fun h => hk _ _ _ _ h
  | istore_n _ => exact am_i1_mono h fun _ _ h => hk _ _ _ _ h
  | istore _ => exact am_i1_mono h fun _ _ h => hk _ _ _ _ h
  | lstore_n _ => exact am_l1_mono h fun _ _ h => hk _ _ _ _ h
  | lstore _ => exact am_l1_mono h fun _ _ h => hk _ _ _ _ h
  | astore_n _ => exact am_r1_mono h fun _ _ _ h => am_nn_mono h fun h => hk _ _ _ _ h
  | astore _ => exact am_r1_mono h fun _ _ _ h => am_nn_mono h fun h => hk _ _ _ _ h
  | iinc _ _ => exact am_gi_mono h fun _ h => hk _ _ _ _ h
  | dup =>
    rcases st with _ | ⟨x | x | q, r⟩
    · exact h
    · exact hk _ _ _ _ h
    · exact h
    · exact hk _ _ _ _ h
  | dup2 =>
    rcases st with _ | ⟨x | x | q, _ | ⟨y | y | u, r⟩⟩
    · exact h
    · exact h
    · exact h
    · exact h
    · exact hk _ _ _ _ h
    · exact h
    · exact h
    · exact h
    · exact h
    · exact h
    · exact h
    · exact h
    · exact h
  | pop => exact am_i1_mono h fun _ _ h => hk _ _ _ _ h
  | iadd => exact am_i2_mono h fun _ _ _ h => hk _ _ _ _ h
  | isub => exact am_i2_mono h fun _ _ _ h => hk _ _ _ _ h
  | imul => exact am_i2_mono h fun _ _ _ h => hk _ _ _ _ h
  | idiv => exact am_i2_mono h fun _ _ _ h => ⟨h.1, hk _ _ _ _ h.2⟩
  | irem => exact am_i2_mono h fun _ _ _ h => ⟨h.1, hk _ _ _ _ h.2⟩
  | ishl => exact am_i2_mono h fun _ _ _ h => hk _ _ _ _ h
  | ishr => exact am_i2_mono h fun _ _ _ h => hk _ _ _ _ h
  | iushr => exact am_i2_mono h fun _ _ _ h => hk _ _ _ _ h
  | iand => exact am_i2_mono h fun _ _ _ h => hk _ _ _ _ h
  | ior => exact am_i2_mono h fun _ _ _ h => hk _ _ _ _ h
  | ixor => exact am_i2_mono h fun _ _ _ h => hk _ _ _ _ h
  | ladd => exact am_l2_mono h fun _ _ _ h => hk _ _ _ _ h
  | lsub => exact am_l2_mono h fun _ _ _ h => hk _ _ _ _ h
  | lmul => exact am_l2_mono h fun _ _ _ h => hk _ _ _ _ h
  | ldiv => exact am_l2_mono h fun _ _ _ h => ⟨h.1, hk _ _ _ _ h.2⟩
  | lrem => exact am_l2_mono h fun _ _ _ h => ⟨h.1, hk _ _ _ _ h.2⟩
  | land => exact am_l2_mono h fun _ _ _ h => hk _ _ _ _ h
  | lor => exact am_l2_mono h fun _ _ _ h => hk _ _ _ _ h
  | lshl => exact am_i1_mono h fun _ _ h => am_l1_mono h fun _ _ h => hk _ _ _ _ h
  | lshr => exact am_i1_mono h fun _ _ h => am_l1_mono h fun _ _ h => hk _ _ _ _ h
  | i2l => exact am_i1_mono h fun _ _ h => hk _ _ _ _ h
  | l2i => exact am_l1_mono h fun _ _ h => hk _ _ _ _ h
  | i2b => exact am_i1_mono h fun _ _ h => hk _ _ _ _ h
  | i2s => exact am_i1_mono h fun _ _ h => hk _ _ _ _ h
  | lcmp => exact am_l2_mono h fun _ _ _ h => hk _ _ _ _ h
  | ifCond _ _ => exact am_i1_mono h fun _ _ h => am_cz_mono h (fun h => hk _ _ _ _ h) (fun h => hk _ _ _ _ h)
  | if_icmp _ _ => exact am_i2_mono h fun _ _ _ h => am_cc_mono h (fun h => hk _ _ _ _ h) (fun h => hk _ _ _ _ h)
  | goto _ => exact hk _ _ _ _ h
  | tableswitch _ _ _ _ => exact am_i1_mono h fun _ _ h => am_tw_mono (fun _ h => hk _ _ _ _ h) _ _ h
  | lookupswitch _ _ => exact am_i1_mono h fun _ _ h => am_lw_mono (fun _ h => hk _ _ _ _ h) _ h
  | ifnull _ =>
    refine am_r1_mono h fun t i r h => ?_
    split at h
    · exact ⟨fun z => hk _ _ _ _ (h.1 z), fun z => hk _ _ _ _ (h.2 z)⟩
    · exact h
  | getstatic k => exact ⟨h.1, hk _ _ _ _ h.2⟩
  | i2c => exact am_i1_mono h fun _ _ h => hk _ _ _ _ h
  | getfield k =>
    refine am_r1_mono h fun t o r h => ?_
    split at h
    · exact ⟨h.1, am_gf_mono h.2 fun _ h => hk _ _ _ _ h⟩
    · split at h
      · exact ⟨h.1, hk _ _ _ _ h.2⟩
      · exact ⟨h.1, hk _ _ _ _ h.2⟩
      · exact h
      · exact h
  | putfield k =>
    rcases st with _ | ⟨v, st'⟩
    · exact h
    · refine am_r1_mono h fun t o r h => ?_
      split at h
      · exact ⟨h.1, am_pf_mono h.2 fun _ h => hk _ _ _ _ h⟩
      · exact h
  | iaload => exact am_i1_mono h fun _ _ h => am_r1_mono h fun _ _ _ h => ⟨h.1, h.2.1, hk _ _ _ _ h.2.2⟩
  | baload =>
    refine am_i1_mono h fun _ _ h => am_r1_mono h fun _ _ _ h => ?_
    split at h
    · exact ⟨h.1, h.2.1, hk _ _ _ _ h.2.2⟩
    · exact ⟨h.1, h.2.1, hk _ _ _ _ h.2.2⟩
  | laload => exact am_i1_mono h fun _ _ h => am_r1_mono h fun _ _ _ h => ⟨h.1, h.2.1, hk _ _ _ _ h.2.2⟩
  | aaload => exact am_i1_mono h fun _ _ h => am_r1_mono h fun _ _ _ h => ⟨h.1, am_aa_mono h.2 fun _ h => hk _ _ _ _ h⟩
  | iastore => exact am_i1_mono h fun _ _ h => am_i1_mono h fun _ _ h => am_r1_mono h fun _ _ _ h => ⟨h.1, h.2.1, hk _ _ _ _ h.2.2⟩
  | bastore => exact am_i1_mono h fun _ _ h => am_i1_mono h fun _ _ h => am_r1_mono h fun _ _ _ h => h.imp (fun h => ⟨h.1, h.2.1, hk _ _ _ _ h.2.2⟩) (fun h => ⟨h.1, h.2.1, hk _ _ _ _ h.2.2⟩)
  | lastore => exact am_l1_mono h fun _ _ h => am_i1_mono h fun _ _ h => am_r1_mono h fun _ _ _ h => ⟨h.1, h.2.1, hk _ _ _ _ h.2.2⟩
  | arraylength =>
    refine am_r1_mono h fun _ _ _ h => ?_
    split at h
    · exact ⟨h.1, hk _ _ _ _ h.2⟩
    · exact ⟨h.1, hk _ _ _ _ h.2⟩
  | invokestatic _ => exact am_ivs_mono hk h
  | invokevirtual _ => exact am_ivv_mono hk h
  | ireturn => exact h
  | lreturn => exact h
  | areturn => exact h
  | return_ => exact h
  | _ => exact h
theorem am_L_run {M : AM} {code : List (Nat × Instr × Nat)} {P : AP} {fin : Option AV → AS → Prop} {X : Nat → AL → List AV → AS → Prop} (hX : am_clo M code P fin X) : ∀ (is : List (Nat × Instr × Nat)), (∀ q ∈ is, q ∈ code) → ∀ pc lv st σ, am_L M P fin X is pc lv st σ → X pc lv st σ
  | [], _, _, _, _, _, h => h
  | (q, i, n) :: is, hin, pc, lv, st, σ, h => by
    unfold am_L at h
    split at h
    · rename_i e
      have e2 : pc = q := Nat.eq_of_beq_eq_true e
      subst e2
      exact hX.1 pc i n lv st σ (hin _ List.mem_cons_self) (am_1_mono (am_L_run hX is (fun q hq => hin q (List.mem_cons_of_mem _ hq))) h)
    · exact h.elim
theorem am_blk {M : AM} {code : List (Nat × Instr × Nat)} {P : AP} {fin : Option AV → AS → Prop} {X : Nat → AL → List AV → AS → Prop} (hX : am_clo M code P fin X) (a n : Nat) {pc : Nat} {lv : AL} {st : List AV} {σ : AS} (h : am_L M P fin X ((code.drop a).take n) pc lv st σ) : X pc lv st σ :=
  am_L_run hX _ (fun q hq => List.mem_of_mem_drop (List.mem_of_mem_take hq)) pc lv st σ h
theorem am_wk {M : AM} {code : List (Nat × Instr × Nat)} {P : AP} {fin : Option AV → AS → Prop} {X : Nat → AL → List AV → AS → Prop} (hX : am_clo M code P fin X) (ks : List Nat) {pc : Nat} {lv : AL} {st : List AV} {σ : AS} (h : X pc (ks.filterMap (fun i => lv[i]?)) st σ) : X pc lv st σ :=
  hX.2 pc lv _ st σ h (fun q hq => by
    obtain ⟨i, -, hi⟩ := List.mem_filterMap.mp hq
    exact List.mem_of_getElem? hi)
-- the pure functions' words
def am_fu : Nat := 1000000
def am_g {α : Type} (p : Prop) [Decidable p] (k : Option α) : Option α := if p then k else none
def am_let {α β : Type} (e : α) (k : α → β) : β := k e
/-- a call that may write -/
def am_c {α β : Type} (x : Option (AS × α)) (k : AS → α → Option β) : Option β := match x with
  | some (s, v) => k s v
  | none => none
/-- a call that only reads -/
def am_r {α β : Type} (x : Option α) (k : α → Option β) : Option β := match x with
  | some v => k v
  | none => none
theorem am_g_of {α : Type} {p : Prop} [Decidable p] {k : Option α} {r : α} (h : am_g p k = some r) : p ∧ k = some r := by
  unfold am_g at h
  split at h
  · rename_i hp; exact ⟨hp, h⟩
  · cases h
theorem am_c_of {α β : Type} {x : Option (AS × α)} {k : AS → α → Option β} {r : β} (h : am_c x k = some r) : ∃ s v, x = some (s, v) ∧ k s v = some r := by
  unfold am_c at h
  split at h
  · rename_i s v; exact ⟨s, v, rfl, h⟩
  · cases h
theorem am_r_of {α β : Type} {x : Option α} {k : α → Option β} {r : β} (h : am_r x k = some r) : ∃ v, x = some v ∧ k v = some r := by
  unfold am_r at h
  split at h
  · rename_i v; exact ⟨v, rfl, h⟩
  · cases h
theorem am_nl {α β : Type} {e : α} {B : α → Option β} {r : β} {Z : α → Prop} (h : am_let e B = some r) (k : ∀ x, B x = some r → Z x) : Z e := k e h
theorem am_jn {γ β : Type} {F : γ} {C : γ → Option β} {r : β} {G : Prop} (hf : am_let F C = some r) (Kp : γ → Prop) (hA : Kp F) (k : ∀ J, Kp J → C J = some r → G) : G := k F hA hf
theorem am_it {α : Type} {c : Prop} [Decidable c] {a b : Option α} {r : Option α} (h : (if c then a else b) = r) (hc : c) : a = r := by rw [if_pos hc] at h; exact h
theorem am_if {α : Type} {c : Prop} [Decidable c] {a b : Option α} {r : Option α} (h : (if c then a else b) = r) (hc : ¬ c) : b = r := by rw [if_neg hc] at h; exact h
theorem am_ri {σ σ' : AS} {v r : Int32} (h : some (σ, v) = some (σ', r)) : (some (Sum.inl v) : Option AV) = some (.inl r) ∧ σ = σ' := by cases h; exact ⟨rfl, rfl⟩
theorem am_rl {σ σ' : AS} {v r : Int64} (h : some (σ, v) = some (σ', r)) : (some (Sum.inr (Sum.inl v)) : Option AV) = some (.inr (.inl r)) ∧ σ = σ' := by cases h; exact ⟨rfl, rfl⟩
theorem am_rv {σ σ' : AS} {u : Unit} (h : some (σ, ()) = some (σ', u)) : (none : Option AV) = none ∧ σ = σ' := by cases h; exact ⟨rfl, rfl⟩
theorem am_rpi {σ : AS} {v r : Int32} (h : some v = some r) : (some (Sum.inl v) : Option AV) = some (.inl r) ∧ σ = σ := by cases h; exact ⟨rfl, rfl⟩
theorem am_rpl {σ : AS} {v r : Int64} (h : some v = some r) : (some (Sum.inr (Sum.inl v)) : Option AV) = some (.inr (.inl r)) ∧ σ = σ := by cases h; exact ⟨rfl, rfl⟩
theorem am_rpv {σ : AS} {u : Unit} (_ : some () = some u) : (none : Option AV) = none ∧ σ = σ := ⟨rfl, rfl⟩
theorem am_rpw {σ : AS} {v r : Nat} (h : some v = some r) : (some (Sum.inr (Sum.inr ((12, 0, 0), v))) : Option AV) = some (.inr (.inr ((12, 0, 0), r))) ∧ σ = σ := by cases h; exact ⟨rfl, rfl⟩
theorem am_no {α : Type} {r : α} {G : Prop} (h : (none : Option α) = some r) : G := by cases h
end

section
-- ===== PART A: goes FIRST, ahead of the names: the tables' words, and 'selects' of the private methods out of them =====
/-- a private method of a class that the tables say can be made, by its rows of tables_1 -/
def lw_okq (q : MethodName × Nat) : Prop := (q.1.cls ≠ "java/lang/invoke/MethodHandle" ∧ q.1.cls ≠ "java/lang/invoke/VarHandle") ∧ Cond.instantiable q.1.cls q.2 ∈ tables_1 ∧ Cond.privateMethod q.1 ∈ tables_1 ∧ Cond.instanceMethod q.1 ∈ tables_1
theorem lw_p0 : lw_okq (⟨"FairByEar$Goods", "sameAs", "(III)I"⟩, 6) := ⟨⟨by decide +kernel, by decide +kernel⟩, List.mem_of_getElem? (i := 81) (by decide +kernel), List.mem_of_getElem? (i := 550) (by decide +kernel), List.mem_of_getElem? (i := 551) (by decide +kernel)⟩
theorem lw_p1 : lw_okq (⟨"FairByEar$Goods", "betterTests", "(II)Z"⟩, 6) := ⟨⟨by decide +kernel, by decide +kernel⟩, List.mem_of_getElem? (i := 81) (by decide +kernel), List.mem_of_getElem? (i := 584) (by decide +kernel), List.mem_of_getElem? (i := 585) (by decide +kernel)⟩
theorem lw_p2 : lw_okq (⟨"FairByEar$Goods", "costOfAll", "(I)I"⟩, 6) := ⟨⟨by decide +kernel, by decide +kernel⟩, List.mem_of_getElem? (i := 81) (by decide +kernel), List.mem_of_getElem? (i := 589) (by decide +kernel), List.mem_of_getElem? (i := 590) (by decide +kernel)⟩
theorem lw_p3 : lw_okq (⟨"FairByEar$Goods", "givesWay", "(II)Z"⟩, 6) := ⟨⟨by decide +kernel, by decide +kernel⟩, List.mem_of_getElem? (i := 81) (by decide +kernel), List.mem_of_getElem? (i := 602) (by decide +kernel), List.mem_of_getElem? (i := 603) (by decide +kernel)⟩
theorem lw_p4 : lw_okq (⟨"FairByEar$Tree", "least", "(II)I"⟩, 4) := ⟨⟨by decide +kernel, by decide +kernel⟩, List.mem_of_getElem? (i := 106) (by decide +kernel), List.mem_of_getElem? (i := 615) (by decide +kernel), List.mem_of_getElem? (i := 616) (by decide +kernel)⟩
theorem lw_p5 : lw_okq (⟨"FairByEar$Tree", "leastOfParts", "(III)I"⟩, 4) := ⟨⟨by decide +kernel, by decide +kernel⟩, List.mem_of_getElem? (i := 106) (by decide +kernel), List.mem_of_getElem? (i := 638) (by decide +kernel), List.mem_of_getElem? (i := 639) (by decide +kernel)⟩
theorem lw_p6 : lw_okq (⟨"FairByEar$Tree", "costFor", "(II)I"⟩, 4) := ⟨⟨by decide +kernel, by decide +kernel⟩, List.mem_of_getElem? (i := 106) (by decide +kernel), List.mem_of_getElem? (i := 656) (by decide +kernel), List.mem_of_getElem? (i := 657) (by decide +kernel)⟩
theorem lw_p7 : lw_okq (⟨"FairByEar$Tree", "mostTold", "(III)I"⟩, 4) := ⟨⟨by decide +kernel, by decide +kernel⟩, List.mem_of_getElem? (i := 106) (by decide +kernel), List.mem_of_getElem? (i := 676) (by decide +kernel), List.mem_of_getElem? (i := 677) (by decide +kernel)⟩
theorem lw_p8 : lw_okq (⟨"FairByEar$Tree", "mostOfParts", "(IIII)I"⟩, 4) := ⟨⟨by decide +kernel, by decide +kernel⟩, List.mem_of_getElem? (i := 106) (by decide +kernel), List.mem_of_getElem? (i := 684) (by decide +kernel), List.mem_of_getElem? (i := 685) (by decide +kernel)⟩
theorem lw_p9 : lw_okq (⟨"FairByEar$Rule", "startDraft", "()V"⟩, 15) := ⟨⟨by decide +kernel, by decide +kernel⟩, List.mem_of_getElem? (i := 125) (by decide +kernel), List.mem_of_getElem? (i := 727) (by decide +kernel), List.mem_of_getElem? (i := 728) (by decide +kernel)⟩
theorem lw_p10 : lw_okq (⟨"FairByEar$Rule", "takesThing", "(I)Z"⟩, 15) := ⟨⟨by decide +kernel, by decide +kernel⟩, List.mem_of_getElem? (i := 125) (by decide +kernel), List.mem_of_getElem? (i := 731) (by decide +kernel), List.mem_of_getElem? (i := 732) (by decide +kernel)⟩
theorem lw_p11 : lw_okq (⟨"FairByEar$Rule", "await", "(I)V"⟩, 15) := ⟨⟨by decide +kernel, by decide +kernel⟩, List.mem_of_getElem? (i := 125) (by decide +kernel), List.mem_of_getElem? (i := 735) (by decide +kernel), List.mem_of_getElem? (i := 736) (by decide +kernel)⟩
theorem lw_p12 : lw_okq (⟨"FairByEar$Rule", "opens", "()Z"⟩, 15) := ⟨⟨by decide +kernel, by decide +kernel⟩, List.mem_of_getElem? (i := 125) (by decide +kernel), List.mem_of_getElem? (i := 739) (by decide +kernel), List.mem_of_getElem? (i := 740) (by decide +kernel)⟩
theorem lw_p13 : lw_okq (⟨"FairByEar$Rule", "emit", "(I)V"⟩, 15) := ⟨⟨by decide +kernel, by decide +kernel⟩, List.mem_of_getElem? (i := 125) (by decide +kernel), List.mem_of_getElem? (i := 746) (by decide +kernel), List.mem_of_getElem? (i := 747) (by decide +kernel)⟩
theorem lw_p14 : lw_okq (⟨"FairByEar$Rule", "takesBehind", "(I)Z"⟩, 15) := ⟨⟨by decide +kernel, by decide +kernel⟩, List.mem_of_getElem? (i := 125) (by decide +kernel), List.mem_of_getElem? (i := 753) (by decide +kernel), List.mem_of_getElem? (i := 754) (by decide +kernel)⟩
theorem lw_p15 : lw_okq (⟨"FairByEar$Rule", "goesOn", "(I)Z"⟩, 15) := ⟨⟨by decide +kernel, by decide +kernel⟩, List.mem_of_getElem? (i := 125) (by decide +kernel), List.mem_of_getElem? (i := 757) (by decide +kernel), List.mem_of_getElem? (i := 758) (by decide +kernel)⟩
def lw_privs_1 : List (MethodName × Nat) := [(⟨"FairByEar$Goods", "sameAs", "(III)I"⟩, 6), (⟨"FairByEar$Goods", "betterTests", "(II)Z"⟩, 6), (⟨"FairByEar$Goods", "costOfAll", "(I)I"⟩, 6), (⟨"FairByEar$Goods", "givesWay", "(II)Z"⟩, 6), (⟨"FairByEar$Tree", "least", "(II)I"⟩, 4), (⟨"FairByEar$Tree", "leastOfParts", "(III)I"⟩, 4), (⟨"FairByEar$Tree", "costFor", "(II)I"⟩, 4), (⟨"FairByEar$Tree", "mostTold", "(III)I"⟩, 4), (⟨"FairByEar$Tree", "mostOfParts", "(IIII)I"⟩, 4), (⟨"FairByEar$Rule", "startDraft", "()V"⟩, 15), (⟨"FairByEar$Rule", "takesThing", "(I)Z"⟩, 15), (⟨"FairByEar$Rule", "await", "(I)V"⟩, 15), (⟨"FairByEar$Rule", "opens", "()Z"⟩, 15), (⟨"FairByEar$Rule", "emit", "(I)V"⟩, 15), (⟨"FairByEar$Rule", "takesBehind", "(I)Z"⟩, 15), (⟨"FairByEar$Rule", "goesOn", "(I)Z"⟩, 15)]
theorem lw_r1 : ∀ q ∈ lw_privs_1, lw_okq q := List.forall_mem_cons.mpr ⟨lw_p0, List.forall_mem_cons.mpr ⟨lw_p1, List.forall_mem_cons.mpr ⟨lw_p2, List.forall_mem_cons.mpr ⟨lw_p3, List.forall_mem_cons.mpr ⟨lw_p4, List.forall_mem_cons.mpr ⟨lw_p5, List.forall_mem_cons.mpr ⟨lw_p6, List.forall_mem_cons.mpr ⟨lw_p7, List.forall_mem_cons.mpr ⟨lw_p8, List.forall_mem_cons.mpr ⟨lw_p9, List.forall_mem_cons.mpr ⟨lw_p10, List.forall_mem_cons.mpr ⟨lw_p11, List.forall_mem_cons.mpr ⟨lw_p12, List.forall_mem_cons.mpr ⟨lw_p13, List.forall_mem_cons.mpr ⟨lw_p14, List.forall_mem_cons.mpr ⟨lw_p15, fun _ h => absurd h List.not_mem_nil⟩⟩⟩⟩⟩⟩⟩⟩⟩⟩⟩⟩⟩⟩⟩⟩
theorem lw_p16 : lw_okq (⟨"FairByEar$Rule", "closes", "()Z"⟩, 15) := ⟨⟨by decide +kernel, by decide +kernel⟩, List.mem_of_getElem? (i := 125) (by decide +kernel), List.mem_of_getElem? (i := 761) (by decide +kernel), List.mem_of_getElem? (i := 762) (by decide +kernel)⟩
theorem lw_p17 : lw_okq (⟨"FairByEar$Rule", "release", "(I)V"⟩, 15) := ⟨⟨by decide +kernel, by decide +kernel⟩, List.mem_of_getElem? (i := 125) (by decide +kernel), List.mem_of_getElem? (i := 765) (by decide +kernel), List.mem_of_getElem? (i := 766) (by decide +kernel)⟩
theorem lw_p18 : lw_okq (⟨"FairByEar$Rule", "signFor", "(II)I"⟩, 15) := ⟨⟨by decide +kernel, by decide +kernel⟩, List.mem_of_getElem? (i := 125) (by decide +kernel), List.mem_of_getElem? (i := 788) (by decide +kernel), List.mem_of_getElem? (i := 789) (by decide +kernel)⟩
theorem lw_p19 : lw_okq (⟨"FairByEar$Rule", "put", "(II)I"⟩, 15) := ⟨⟨by decide +kernel, by decide +kernel⟩, List.mem_of_getElem? (i := 125) (by decide +kernel), List.mem_of_getElem? (i := 817) (by decide +kernel), List.mem_of_getElem? (i := 818) (by decide +kernel)⟩
theorem lw_p20 : lw_okq (⟨"FairByEar$Rule", "firstOf", "(II)I"⟩, 15) := ⟨⟨by decide +kernel, by decide +kernel⟩, List.mem_of_getElem? (i := 125) (by decide +kernel), List.mem_of_getElem? (i := 842) (by decide +kernel), List.mem_of_getElem? (i := 843) (by decide +kernel)⟩
theorem lw_p21 : lw_okq (⟨"FairByEar$Rule", "equalPairs", "(I)I"⟩, 15) := ⟨⟨by decide +kernel, by decide +kernel⟩, List.mem_of_getElem? (i := 125) (by decide +kernel), List.mem_of_getElem? (i := 848) (by decide +kernel), List.mem_of_getElem? (i := 849) (by decide +kernel)⟩
theorem lw_p22 : lw_okq (⟨"FairByEar$Asking", "wantsOf", "(II)I"⟩, 7) := ⟨⟨by decide +kernel, by decide +kernel⟩, List.mem_of_getElem? (i := 215) (by decide +kernel), List.mem_of_getElem? (i := 860) (by decide +kernel), List.mem_of_getElem? (i := 861) (by decide +kernel)⟩
theorem lw_p23 : lw_okq (⟨"FairByEar$Asking", "findLates", "()V"⟩, 7) := ⟨⟨by decide +kernel, by decide +kernel⟩, List.mem_of_getElem? (i := 215) (by decide +kernel), List.mem_of_getElem? (i := 898) (by decide +kernel), List.mem_of_getElem? (i := 899) (by decide +kernel)⟩
theorem lw_p24 : lw_okq (⟨"FairByEar$Asking", "lateFor", "(II)I"⟩, 7) := ⟨⟨by decide +kernel, by decide +kernel⟩, List.mem_of_getElem? (i := 215) (by decide +kernel), List.mem_of_getElem? (i := 907) (by decide +kernel), List.mem_of_getElem? (i := 908) (by decide +kernel)⟩
theorem lw_p25 : lw_okq (⟨"FairByEar$Asking", "askOnce", "(I)I"⟩, 7) := ⟨⟨by decide +kernel, by decide +kernel⟩, List.mem_of_getElem? (i := 215) (by decide +kernel), List.mem_of_getElem? (i := 925) (by decide +kernel), List.mem_of_getElem? (i := 926) (by decide +kernel)⟩
theorem lw_p26 : lw_okq (⟨"FairByEar$Asking", "choice", "(II)I"⟩, 7) := ⟨⟨by decide +kernel, by decide +kernel⟩, List.mem_of_getElem? (i := 215) (by decide +kernel), List.mem_of_getElem? (i := 929) (by decide +kernel), List.mem_of_getElem? (i := 930) (by decide +kernel)⟩
theorem lw_p27 : lw_okq (⟨"FairByEar$Asking", "sameBehind", "(II)Z"⟩, 7) := ⟨⟨by decide +kernel, by decide +kernel⟩, List.mem_of_getElem? (i := 215) (by decide +kernel), List.mem_of_getElem? (i := 958) (by decide +kernel), List.mem_of_getElem? (i := 959) (by decide +kernel)⟩
theorem lw_p28 : lw_okq (⟨"FairByEar$Items", "note", "(III)V"⟩, 10) := ⟨⟨by decide +kernel, by decide +kernel⟩, List.mem_of_getElem? (i := 178) (by decide +kernel), List.mem_of_getElem? (i := 982) (by decide +kernel), List.mem_of_getElem? (i := 983) (by decide +kernel)⟩
theorem lw_p29 : lw_okq (⟨"FairByEar$Watch", "takenBy", "(I)I"⟩, 17) := ⟨⟨by decide +kernel, by decide +kernel⟩, List.mem_of_getElem? (i := 243) (by decide +kernel), List.mem_of_getElem? (i := 1025) (by decide +kernel), List.mem_of_getElem? (i := 1026) (by decide +kernel)⟩
theorem lw_p30 : lw_okq (⟨"FairByEar$Watch", "countAhead", "(I)I"⟩, 17) := ⟨⟨by decide +kernel, by decide +kernel⟩, List.mem_of_getElem? (i := 243) (by decide +kernel), List.mem_of_getElem? (i := 1029) (by decide +kernel), List.mem_of_getElem? (i := 1030) (by decide +kernel)⟩
theorem lw_p31 : lw_okq (⟨"FairByEar$Watch", "suspectsBy", "(I)I"⟩, 17) := ⟨⟨by decide +kernel, by decide +kernel⟩, List.mem_of_getElem? (i := 243) (by decide +kernel), List.mem_of_getElem? (i := 1045) (by decide +kernel), List.mem_of_getElem? (i := 1046) (by decide +kernel)⟩
def lw_privs_2 : List (MethodName × Nat) := [(⟨"FairByEar$Rule", "closes", "()Z"⟩, 15), (⟨"FairByEar$Rule", "release", "(I)V"⟩, 15), (⟨"FairByEar$Rule", "signFor", "(II)I"⟩, 15), (⟨"FairByEar$Rule", "put", "(II)I"⟩, 15), (⟨"FairByEar$Rule", "firstOf", "(II)I"⟩, 15), (⟨"FairByEar$Rule", "equalPairs", "(I)I"⟩, 15), (⟨"FairByEar$Asking", "wantsOf", "(II)I"⟩, 7), (⟨"FairByEar$Asking", "findLates", "()V"⟩, 7), (⟨"FairByEar$Asking", "lateFor", "(II)I"⟩, 7), (⟨"FairByEar$Asking", "askOnce", "(I)I"⟩, 7), (⟨"FairByEar$Asking", "choice", "(II)I"⟩, 7), (⟨"FairByEar$Asking", "sameBehind", "(II)Z"⟩, 7), (⟨"FairByEar$Items", "note", "(III)V"⟩, 10), (⟨"FairByEar$Watch", "takenBy", "(I)I"⟩, 17), (⟨"FairByEar$Watch", "countAhead", "(I)I"⟩, 17), (⟨"FairByEar$Watch", "suspectsBy", "(I)I"⟩, 17)]
theorem lw_r2 : ∀ q ∈ lw_privs_2, lw_okq q := List.forall_mem_cons.mpr ⟨lw_p16, List.forall_mem_cons.mpr ⟨lw_p17, List.forall_mem_cons.mpr ⟨lw_p18, List.forall_mem_cons.mpr ⟨lw_p19, List.forall_mem_cons.mpr ⟨lw_p20, List.forall_mem_cons.mpr ⟨lw_p21, List.forall_mem_cons.mpr ⟨lw_p22, List.forall_mem_cons.mpr ⟨lw_p23, List.forall_mem_cons.mpr ⟨lw_p24, List.forall_mem_cons.mpr ⟨lw_p25, List.forall_mem_cons.mpr ⟨lw_p26, List.forall_mem_cons.mpr ⟨lw_p27, List.forall_mem_cons.mpr ⟨lw_p28, List.forall_mem_cons.mpr ⟨lw_p29, List.forall_mem_cons.mpr ⟨lw_p30, List.forall_mem_cons.mpr ⟨lw_p31, fun _ h => absurd h List.not_mem_nil⟩⟩⟩⟩⟩⟩⟩⟩⟩⟩⟩⟩⟩⟩⟩⟩
theorem lw_p32 : lw_okq (⟨"FairByEar$Watch", "present", "(III)I"⟩, 17) := ⟨⟨by decide +kernel, by decide +kernel⟩, List.mem_of_getElem? (i := 243) (by decide +kernel), List.mem_of_getElem? (i := 1049) (by decide +kernel), List.mem_of_getElem? (i := 1050) (by decide +kernel)⟩
theorem lw_p33 : lw_okq (⟨"FairByEar$Watch", "meetsAll", "(II)Z"⟩, 17) := ⟨⟨by decide +kernel, by decide +kernel⟩, List.mem_of_getElem? (i := 243) (by decide +kernel), List.mem_of_getElem? (i := 1063) (by decide +kernel), List.mem_of_getElem? (i := 1064) (by decide +kernel)⟩
theorem lw_p34 : lw_okq (⟨"FairByEar$Watch", "giveTo", "(II)V"⟩, 17) := ⟨⟨by decide +kernel, by decide +kernel⟩, List.mem_of_getElem? (i := 243) (by decide +kernel), List.mem_of_getElem? (i := 1083) (by decide +kernel), List.mem_of_getElem? (i := 1084) (by decide +kernel)⟩
theorem lw_p35 : lw_okq (⟨"FairByEar$Watch", "canTake", "(II)J"⟩, 17) := ⟨⟨by decide +kernel, by decide +kernel⟩, List.mem_of_getElem? (i := 243) (by decide +kernel), List.mem_of_getElem? (i := 1087) (by decide +kernel), List.mem_of_getElem? (i := 1088) (by decide +kernel)⟩
theorem lw_p36 : lw_okq (⟨"FairByEar$Watch", "sumOf", "(I)I"⟩, 17) := ⟨⟨by decide +kernel, by decide +kernel⟩, List.mem_of_getElem? (i := 243) (by decide +kernel), List.mem_of_getElem? (i := 1092) (by decide +kernel), List.mem_of_getElem? (i := 1093) (by decide +kernel)⟩
theorem lw_p37 : lw_okq (⟨"FairByEar$Watch", "traceBack", "(IIJ)J"⟩, 17) := ⟨⟨by decide +kernel, by decide +kernel⟩, List.mem_of_getElem? (i := 243) (by decide +kernel), List.mem_of_getElem? (i := 1098) (by decide +kernel), List.mem_of_getElem? (i := 1099) (by decide +kernel)⟩
theorem lw_p38 : lw_okq (⟨"FairByEar$Watch", "markHand", "(II)V"⟩, 17) := ⟨⟨by decide +kernel, by decide +kernel⟩, List.mem_of_getElem? (i := 243) (by decide +kernel), List.mem_of_getElem? (i := 1102) (by decide +kernel), List.mem_of_getElem? (i := 1103) (by decide +kernel)⟩
theorem lw_p39 : lw_okq (⟨"FairByEar$Noise", "voice", "(II)I"⟩, 11) := ⟨⟨by decide +kernel, by decide +kernel⟩, List.mem_of_getElem? (i := 301) (by decide +kernel), List.mem_of_getElem? (i := 1116) (by decide +kernel), List.mem_of_getElem? (i := 1117) (by decide +kernel)⟩
theorem lw_p40 : lw_okq (⟨"FairByEar$Noise", "findRests", "()V"⟩, 11) := ⟨⟨by decide +kernel, by decide +kernel⟩, List.mem_of_getElem? (i := 301) (by decide +kernel), List.mem_of_getElem? (i := 1152) (by decide +kernel), List.mem_of_getElem? (i := 1153) (by decide +kernel)⟩
theorem lw_p41 : lw_okq (⟨"FairByEar$Noise", "fill", "(I)I"⟩, 11) := ⟨⟨by decide +kernel, by decide +kernel⟩, List.mem_of_getElem? (i := 301) (by decide +kernel), List.mem_of_getElem? (i := 1156) (by decide +kernel), List.mem_of_getElem? (i := 1157) (by decide +kernel)⟩
theorem lw_p42 : lw_okq (⟨"FairByEar$Noise", "isHopeless", "(I)Z"⟩, 11) := ⟨⟨by decide +kernel, by decide +kernel⟩, List.mem_of_getElem? (i := 301) (by decide +kernel), List.mem_of_getElem? (i := 1160) (by decide +kernel), List.mem_of_getElem? (i := 1161) (by decide +kernel)⟩
theorem lw_p43 : lw_okq (⟨"FairByEar$Noise", "keepFirst", "()V"⟩, 11) := ⟨⟨by decide +kernel, by decide +kernel⟩, List.mem_of_getElem? (i := 301) (by decide +kernel), List.mem_of_getElem? (i := 1164) (by decide +kernel), List.mem_of_getElem? (i := 1165) (by decide +kernel)⟩
theorem lw_p44 : lw_okq (⟨"FairByEar$Noise", "shout", "(II)V"⟩, 11) := ⟨⟨by decide +kernel, by decide +kernel⟩, List.mem_of_getElem? (i := 301) (by decide +kernel), List.mem_of_getElem? (i := 1169) (by decide +kernel), List.mem_of_getElem? (i := 1170) (by decide +kernel)⟩
theorem lw_p45 : lw_okq (⟨"FairByEar$Air", "nearest", "(I)I"⟩, 5) := ⟨⟨by decide +kernel, by decide +kernel⟩, List.mem_of_getElem? (i := 341) (by decide +kernel), List.mem_of_getElem? (i := 1204) (by decide +kernel), List.mem_of_getElem? (i := 1205) (by decide +kernel)⟩
theorem lw_p46 : lw_okq (⟨"FairByEar$Ears", "weightOf", "(IIII)I"⟩, 3) := ⟨⟨by decide +kernel, by decide +kernel⟩, List.mem_of_getElem? (i := 363) (by decide +kernel), List.mem_of_getElem? (i := 1246) (by decide +kernel), List.mem_of_getElem? (i := 1247) (by decide +kernel)⟩
theorem lw_p47 : lw_okq (⟨"FairByEar$Ears", "chanceOf", "(I)I"⟩, 3) := ⟨⟨by decide +kernel, by decide +kernel⟩, List.mem_of_getElem? (i := 363) (by decide +kernel), List.mem_of_getElem? (i := 1251) (by decide +kernel), List.mem_of_getElem? (i := 1252) (by decide +kernel)⟩
def lw_privs_3 : List (MethodName × Nat) := [(⟨"FairByEar$Watch", "present", "(III)I"⟩, 17), (⟨"FairByEar$Watch", "meetsAll", "(II)Z"⟩, 17), (⟨"FairByEar$Watch", "giveTo", "(II)V"⟩, 17), (⟨"FairByEar$Watch", "canTake", "(II)J"⟩, 17), (⟨"FairByEar$Watch", "sumOf", "(I)I"⟩, 17), (⟨"FairByEar$Watch", "traceBack", "(IIJ)J"⟩, 17), (⟨"FairByEar$Watch", "markHand", "(II)V"⟩, 17), (⟨"FairByEar$Noise", "voice", "(II)I"⟩, 11), (⟨"FairByEar$Noise", "findRests", "()V"⟩, 11), (⟨"FairByEar$Noise", "fill", "(I)I"⟩, 11), (⟨"FairByEar$Noise", "isHopeless", "(I)Z"⟩, 11), (⟨"FairByEar$Noise", "keepFirst", "()V"⟩, 11), (⟨"FairByEar$Noise", "shout", "(II)V"⟩, 11), (⟨"FairByEar$Air", "nearest", "(I)I"⟩, 5), (⟨"FairByEar$Ears", "weightOf", "(IIII)I"⟩, 3), (⟨"FairByEar$Ears", "chanceOf", "(I)I"⟩, 3)]
theorem lw_r3 : ∀ q ∈ lw_privs_3, lw_okq q := List.forall_mem_cons.mpr ⟨lw_p32, List.forall_mem_cons.mpr ⟨lw_p33, List.forall_mem_cons.mpr ⟨lw_p34, List.forall_mem_cons.mpr ⟨lw_p35, List.forall_mem_cons.mpr ⟨lw_p36, List.forall_mem_cons.mpr ⟨lw_p37, List.forall_mem_cons.mpr ⟨lw_p38, List.forall_mem_cons.mpr ⟨lw_p39, List.forall_mem_cons.mpr ⟨lw_p40, List.forall_mem_cons.mpr ⟨lw_p41, List.forall_mem_cons.mpr ⟨lw_p42, List.forall_mem_cons.mpr ⟨lw_p43, List.forall_mem_cons.mpr ⟨lw_p44, List.forall_mem_cons.mpr ⟨lw_p45, List.forall_mem_cons.mpr ⟨lw_p46, List.forall_mem_cons.mpr ⟨lw_p47, fun _ h => absurd h List.not_mem_nil⟩⟩⟩⟩⟩⟩⟩⟩⟩⟩⟩⟩⟩⟩⟩⟩
theorem lw_p48 : lw_okq (⟨"FairByEar$Ears", "likeliest", "(ILFairByEar$Row;)I"⟩, 3) := ⟨⟨by decide +kernel, by decide +kernel⟩, List.mem_of_getElem? (i := 363) (by decide +kernel), List.mem_of_getElem? (i := 1258) (by decide +kernel), List.mem_of_getElem? (i := 1259) (by decide +kernel)⟩
theorem lw_p49 : lw_okq (⟨"FairByEar$Asking", "wanters", "(II)I"⟩, 7) := ⟨⟨by decide +kernel, by decide +kernel⟩, List.mem_of_getElem? (i := 215) (by decide +kernel), List.mem_of_getElem? (i := 1305) (by decide +kernel), List.mem_of_getElem? (i := 1306) (by decide +kernel)⟩
theorem lw_p50 : lw_okq (⟨"java/lang/Throwable", "fillInStackTrace", "(I)Ljava/lang/Throwable;"⟩, 6) := ⟨⟨by decide +kernel, by decide +kernel⟩, List.mem_of_getElem? (i := 1383) (by decide +kernel), List.mem_of_getElem? (i := 1381) (by decide +kernel), List.mem_of_getElem? (i := 1382) (by decide +kernel)⟩
theorem lw_p51 : lw_okq (⟨"FairByEarModel", "shortens", "(III)V"⟩, 68) := ⟨⟨by decide +kernel, by decide +kernel⟩, List.mem_of_getElem? (i := 1456) (by decide +kernel), List.mem_of_getElem? (i := 1454) (by decide +kernel), List.mem_of_getElem? (i := 1455) (by decide +kernel)⟩
theorem lw_p52 : lw_okq (⟨"FairByEarModel", "farOf", "(II)I"⟩, 68) := ⟨⟨by decide +kernel, by decide +kernel⟩, List.mem_of_getElem? (i := 1456) (by decide +kernel), List.mem_of_getElem? (i := 1459) (by decide +kernel), List.mem_of_getElem? (i := 1460) (by decide +kernel)⟩
theorem lw_p53 : lw_okq (⟨"FairByEarModel", "isPerson", "(I)Z"⟩, 68) := ⟨⟨by decide +kernel, by decide +kernel⟩, List.mem_of_getElem? (i := 1456) (by decide +kernel), List.mem_of_getElem? (i := 1480) (by decide +kernel), List.mem_of_getElem? (i := 1481) (by decide +kernel)⟩
theorem lw_p54 : lw_okq (⟨"FairByEarModel", "refuse", "()I"⟩, 68) := ⟨⟨by decide +kernel, by decide +kernel⟩, List.mem_of_getElem? (i := 1456) (by decide +kernel), List.mem_of_getElem? (i := 1489) (by decide +kernel), List.mem_of_getElem? (i := 1490) (by decide +kernel)⟩
theorem lw_p55 : lw_okq (⟨"FairByEarModel", "isGood", "(I)Z"⟩, 68) := ⟨⟨by decide +kernel, by decide +kernel⟩, List.mem_of_getElem? (i := 1456) (by decide +kernel), List.mem_of_getElem? (i := 1505) (by decide +kernel), List.mem_of_getElem? (i := 1506) (by decide +kernel)⟩
theorem lw_p56 : lw_okq (⟨"FairByEarModel", "isTest", "(I)Z"⟩, 68) := ⟨⟨by decide +kernel, by decide +kernel⟩, List.mem_of_getElem? (i := 1456) (by decide +kernel), List.mem_of_getElem? (i := 1509) (by decide +kernel), List.mem_of_getElem? (i := 1510) (by decide +kernel)⟩
theorem lw_p57 : lw_okq (⟨"FairByEarModel", "answerOf", "(II)I"⟩, 68) := ⟨⟨by decide +kernel, by decide +kernel⟩, List.mem_of_getElem? (i := 1456) (by decide +kernel), List.mem_of_getElem? (i := 1513) (by decide +kernel), List.mem_of_getElem? (i := 1514) (by decide +kernel)⟩
theorem lw_p58 : lw_okq (⟨"FairByEarModel", "partedBy", "(II)I"⟩, 68) := ⟨⟨by decide +kernel, by decide +kernel⟩, List.mem_of_getElem? (i := 1456) (by decide +kernel), List.mem_of_getElem? (i := 1528) (by decide +kernel), List.mem_of_getElem? (i := 1529) (by decide +kernel)⟩
theorem lw_p59 : lw_okq (⟨"FairByEarModel", "areGoods", "(I)Z"⟩, 68) := ⟨⟨by decide +kernel, by decide +kernel⟩, List.mem_of_getElem? (i := 1456) (by decide +kernel), List.mem_of_getElem? (i := 1536) (by decide +kernel), List.mem_of_getElem? (i := 1537) (by decide +kernel)⟩
theorem lw_p60 : lw_okq (⟨"FairByEarModel", "areTests", "(I)Z"⟩, 68) := ⟨⟨by decide +kernel, by decide +kernel⟩, List.mem_of_getElem? (i := 1456) (by decide +kernel), List.mem_of_getElem? (i := 1540) (by decide +kernel), List.mem_of_getElem? (i := 1541) (by decide +kernel)⟩
theorem lw_p61 : lw_okq (⟨"FairByEarModel", "mixed", "(II)I"⟩, 68) := ⟨⟨by decide +kernel, by decide +kernel⟩, List.mem_of_getElem? (i := 1456) (by decide +kernel), List.mem_of_getElem? (i := 1544) (by decide +kernel), List.mem_of_getElem? (i := 1545) (by decide +kernel)⟩
theorem lw_p62 : lw_okq (⟨"FairByEarModel", "isMixed", "(III)Z"⟩, 68) := ⟨⟨by decide +kernel, by decide +kernel⟩, List.mem_of_getElem? (i := 1456) (by decide +kernel), List.mem_of_getElem? (i := 1551) (by decide +kernel), List.mem_of_getElem? (i := 1552) (by decide +kernel)⟩
theorem lw_p63 : lw_okq (⟨"FairByEarModel", "enters", "(J)V"⟩, 68) := ⟨⟨by decide +kernel, by decide +kernel⟩, List.mem_of_getElem? (i := 1456) (by decide +kernel), List.mem_of_getElem? (i := 1555) (by decide +kernel), List.mem_of_getElem? (i := 1556) (by decide +kernel)⟩
def lw_privs_4 : List (MethodName × Nat) := [(⟨"FairByEar$Ears", "likeliest", "(ILFairByEar$Row;)I"⟩, 3), (⟨"FairByEar$Asking", "wanters", "(II)I"⟩, 7), (⟨"java/lang/Throwable", "fillInStackTrace", "(I)Ljava/lang/Throwable;"⟩, 6), (⟨"FairByEarModel", "shortens", "(III)V"⟩, 68), (⟨"FairByEarModel", "farOf", "(II)I"⟩, 68), (⟨"FairByEarModel", "isPerson", "(I)Z"⟩, 68), (⟨"FairByEarModel", "refuse", "()I"⟩, 68), (⟨"FairByEarModel", "isGood", "(I)Z"⟩, 68), (⟨"FairByEarModel", "isTest", "(I)Z"⟩, 68), (⟨"FairByEarModel", "answerOf", "(II)I"⟩, 68), (⟨"FairByEarModel", "partedBy", "(II)I"⟩, 68), (⟨"FairByEarModel", "areGoods", "(I)Z"⟩, 68), (⟨"FairByEarModel", "areTests", "(I)Z"⟩, 68), (⟨"FairByEarModel", "mixed", "(II)I"⟩, 68), (⟨"FairByEarModel", "isMixed", "(III)Z"⟩, 68), (⟨"FairByEarModel", "enters", "(J)V"⟩, 68)]
theorem lw_r4 : ∀ q ∈ lw_privs_4, lw_okq q := List.forall_mem_cons.mpr ⟨lw_p48, List.forall_mem_cons.mpr ⟨lw_p49, List.forall_mem_cons.mpr ⟨lw_p50, List.forall_mem_cons.mpr ⟨lw_p51, List.forall_mem_cons.mpr ⟨lw_p52, List.forall_mem_cons.mpr ⟨lw_p53, List.forall_mem_cons.mpr ⟨lw_p54, List.forall_mem_cons.mpr ⟨lw_p55, List.forall_mem_cons.mpr ⟨lw_p56, List.forall_mem_cons.mpr ⟨lw_p57, List.forall_mem_cons.mpr ⟨lw_p58, List.forall_mem_cons.mpr ⟨lw_p59, List.forall_mem_cons.mpr ⟨lw_p60, List.forall_mem_cons.mpr ⟨lw_p61, List.forall_mem_cons.mpr ⟨lw_p62, List.forall_mem_cons.mpr ⟨lw_p63, fun _ h => absurd h List.not_mem_nil⟩⟩⟩⟩⟩⟩⟩⟩⟩⟩⟩⟩⟩⟩⟩⟩
theorem lw_p64 : lw_okq (⟨"FairByEarModel", "isBetter", "(II[I)Z"⟩, 68) := ⟨⟨by decide +kernel, by decide +kernel⟩, List.mem_of_getElem? (i := 1456) (by decide +kernel), List.mem_of_getElem? (i := 1564) (by decide +kernel), List.mem_of_getElem? (i := 1565) (by decide +kernel)⟩
theorem lw_p65 : lw_okq (⟨"FairByEarModel", "sumOf", "(I[I)I"⟩, 68) := ⟨⟨by decide +kernel, by decide +kernel⟩, List.mem_of_getElem? (i := 1456) (by decide +kernel), List.mem_of_getElem? (i := 1568) (by decide +kernel), List.mem_of_getElem? (i := 1569) (by decide +kernel)⟩
theorem lw_p66 : lw_okq (⟨"FairByEarModel", "trees", "(I)V"⟩, 68) := ⟨⟨by decide +kernel, by decide +kernel⟩, List.mem_of_getElem? (i := 1456) (by decide +kernel), List.mem_of_getElem? (i := 1580) (by decide +kernel), List.mem_of_getElem? (i := 1581) (by decide +kernel)⟩
theorem lw_p67 : lw_okq (⟨"FairByEarModel", "parts", "(II)Z"⟩, 68) := ⟨⟨by decide +kernel, by decide +kernel⟩, List.mem_of_getElem? (i := 1456) (by decide +kernel), List.mem_of_getElem? (i := 1584) (by decide +kernel), List.mem_of_getElem? (i := 1585) (by decide +kernel)⟩
theorem lw_p68 : lw_okq (⟨"FairByEarModel", "partOf", "(III)I"⟩, 68) := ⟨⟨by decide +kernel, by decide +kernel⟩, List.mem_of_getElem? (i := 1456) (by decide +kernel), List.mem_of_getElem? (i := 1592) (by decide +kernel), List.mem_of_getElem? (i := 1593) (by decide +kernel)⟩
theorem lw_p69 : lw_okq (⟨"FairByEarModel", "tells", "(II)V"⟩, 68) := ⟨⟨by decide +kernel, by decide +kernel⟩, List.mem_of_getElem? (i := 1456) (by decide +kernel), List.mem_of_getElem? (i := 1601) (by decide +kernel), List.mem_of_getElem? (i := 1602) (by decide +kernel)⟩
theorem lw_p70 : lw_okq (⟨"FairByEarModel", "ranked", "(I)Z"⟩, 68) := ⟨⟨by decide +kernel, by decide +kernel⟩, List.mem_of_getElem? (i := 1456) (by decide +kernel), List.mem_of_getElem? (i := 1621) (by decide +kernel), List.mem_of_getElem? (i := 1622) (by decide +kernel)⟩
theorem lw_p71 : lw_okq (⟨"FairByEarModel", "ahead", "()Z"⟩, 68) := ⟨⟨by decide +kernel, by decide +kernel⟩, List.mem_of_getElem? (i := 1456) (by decide +kernel), List.mem_of_getElem? (i := 1625) (by decide +kernel), List.mem_of_getElem? (i := 1626) (by decide +kernel)⟩
theorem lw_p72 : lw_okq (⟨"FairByEarModel", "among", "(Ljava/lang/String;)I"⟩, 68) := ⟨⟨by decide +kernel, by decide +kernel⟩, List.mem_of_getElem? (i := 1456) (by decide +kernel), List.mem_of_getElem? (i := 1630) (by decide +kernel), List.mem_of_getElem? (i := 1631) (by decide +kernel)⟩
theorem lw_p73 : lw_okq (⟨"FairByEarModel", "thing", "()Z"⟩, 68) := ⟨⟨by decide +kernel, by decide +kernel⟩, List.mem_of_getElem? (i := 1456) (by decide +kernel), List.mem_of_getElem? (i := 1682) (by decide +kernel), List.mem_of_getElem? (i := 1683) (by decide +kernel)⟩
theorem lw_p74 : lw_okq (⟨"FairByEarModel", "isDigit", "()Z"⟩, 68) := ⟨⟨by decide +kernel, by decide +kernel⟩, List.mem_of_getElem? (i := 1456) (by decide +kernel), List.mem_of_getElem? (i := 1686) (by decide +kernel), List.mem_of_getElem? (i := 1687) (by decide +kernel)⟩
theorem lw_p75 : lw_okq (⟨"FairByEarModel", "marks", "(I)V"⟩, 68) := ⟨⟨by decide +kernel, by decide +kernel⟩, List.mem_of_getElem? (i := 1456) (by decide +kernel), List.mem_of_getElem? (i := 1692) (by decide +kernel), List.mem_of_getElem? (i := 1693) (by decide +kernel)⟩
theorem lw_p76 : lw_okq (⟨"FairByEarModel", "right", "(I)I"⟩, 68) := ⟨⟨by decide +kernel, by decide +kernel⟩, List.mem_of_getElem? (i := 1456) (by decide +kernel), List.mem_of_getElem? (i := 1709) (by decide +kernel), List.mem_of_getElem? (i := 1710) (by decide +kernel)⟩
theorem lw_p77 : lw_okq (⟨"FairByEarModel", "valueOf", "(II)I"⟩, 68) := ⟨⟨by decide +kernel, by decide +kernel⟩, List.mem_of_getElem? (i := 1456) (by decide +kernel), List.mem_of_getElem? (i := 1713) (by decide +kernel), List.mem_of_getElem? (i := 1714) (by decide +kernel)⟩
theorem lw_p78 : lw_okq (⟨"FairByEarModel", "peopleAt", "(I)I"⟩, 68) := ⟨⟨by decide +kernel, by decide +kernel⟩, List.mem_of_getElem? (i := 1456) (by decide +kernel), List.mem_of_getElem? (i := 1717) (by decide +kernel), List.mem_of_getElem? (i := 1718) (by decide +kernel)⟩
theorem lw_p79 : lw_okq (⟨"FairByEarModel", "isItem", "(I)Z"⟩, 68) := ⟨⟨by decide +kernel, by decide +kernel⟩, List.mem_of_getElem? (i := 1456) (by decide +kernel), List.mem_of_getElem? (i := 1743) (by decide +kernel), List.mem_of_getElem? (i := 1744) (by decide +kernel)⟩
def lw_privs_5 : List (MethodName × Nat) := [(⟨"FairByEarModel", "isBetter", "(II[I)Z"⟩, 68), (⟨"FairByEarModel", "sumOf", "(I[I)I"⟩, 68), (⟨"FairByEarModel", "trees", "(I)V"⟩, 68), (⟨"FairByEarModel", "parts", "(II)Z"⟩, 68), (⟨"FairByEarModel", "partOf", "(III)I"⟩, 68), (⟨"FairByEarModel", "tells", "(II)V"⟩, 68), (⟨"FairByEarModel", "ranked", "(I)Z"⟩, 68), (⟨"FairByEarModel", "ahead", "()Z"⟩, 68), (⟨"FairByEarModel", "among", "(Ljava/lang/String;)I"⟩, 68), (⟨"FairByEarModel", "thing", "()Z"⟩, 68), (⟨"FairByEarModel", "isDigit", "()Z"⟩, 68), (⟨"FairByEarModel", "marks", "(I)V"⟩, 68), (⟨"FairByEarModel", "right", "(I)I"⟩, 68), (⟨"FairByEarModel", "valueOf", "(II)I"⟩, 68), (⟨"FairByEarModel", "peopleAt", "(I)I"⟩, 68), (⟨"FairByEarModel", "isItem", "(I)Z"⟩, 68)]
theorem lw_r5 : ∀ q ∈ lw_privs_5, lw_okq q := List.forall_mem_cons.mpr ⟨lw_p64, List.forall_mem_cons.mpr ⟨lw_p65, List.forall_mem_cons.mpr ⟨lw_p66, List.forall_mem_cons.mpr ⟨lw_p67, List.forall_mem_cons.mpr ⟨lw_p68, List.forall_mem_cons.mpr ⟨lw_p69, List.forall_mem_cons.mpr ⟨lw_p70, List.forall_mem_cons.mpr ⟨lw_p71, List.forall_mem_cons.mpr ⟨lw_p72, List.forall_mem_cons.mpr ⟨lw_p73, List.forall_mem_cons.mpr ⟨lw_p74, List.forall_mem_cons.mpr ⟨lw_p75, List.forall_mem_cons.mpr ⟨lw_p76, List.forall_mem_cons.mpr ⟨lw_p77, List.forall_mem_cons.mpr ⟨lw_p78, List.forall_mem_cons.mpr ⟨lw_p79, fun _ h => absurd h List.not_mem_nil⟩⟩⟩⟩⟩⟩⟩⟩⟩⟩⟩⟩⟩⟩⟩⟩
theorem lw_p80 : lw_okq (⟨"FairByEarModel", "goesRound", "()I"⟩, 68) := ⟨⟨by decide +kernel, by decide +kernel⟩, List.mem_of_getElem? (i := 1456) (by decide +kernel), List.mem_of_getElem? (i := 1756) (by decide +kernel), List.mem_of_getElem? (i := 1757) (by decide +kernel)⟩
theorem lw_p81 : lw_okq (⟨"FairByEarModel", "asksFor", "(I)I"⟩, 68) := ⟨⟨by decide +kernel, by decide +kernel⟩, List.mem_of_getElem? (i := 1456) (by decide +kernel), List.mem_of_getElem? (i := 1760) (by decide +kernel), List.mem_of_getElem? (i := 1761) (by decide +kernel)⟩
theorem lw_p82 : lw_okq (⟨"FairByEarModel", "heardBy", "(II)I"⟩, 68) := ⟨⟨by decide +kernel, by decide +kernel⟩, List.mem_of_getElem? (i := 1456) (by decide +kernel), List.mem_of_getElem? (i := 1764) (by decide +kernel), List.mem_of_getElem? (i := 1765) (by decide +kernel)⟩
theorem lw_p83 : lw_okq (⟨"FairByEarModel", "settling", "()I"⟩, 68) := ⟨⟨by decide +kernel, by decide +kernel⟩, List.mem_of_getElem? (i := 1456) (by decide +kernel), List.mem_of_getElem? (i := 1772) (by decide +kernel), List.mem_of_getElem? (i := 1773) (by decide +kernel)⟩
theorem lw_p84 : lw_okq (⟨"FairByEarModel", "lays", "(I)V"⟩, 68) := ⟨⟨by decide +kernel, by decide +kernel⟩, List.mem_of_getElem? (i := 1456) (by decide +kernel), List.mem_of_getElem? (i := 1776) (by decide +kernel), List.mem_of_getElem? (i := 1777) (by decide +kernel)⟩
theorem lw_p85 : lw_okq (⟨"FairByEarModel", "isAs", "(I)Z"⟩, 68) := ⟨⟨by decide +kernel, by decide +kernel⟩, List.mem_of_getElem? (i := 1456) (by decide +kernel), List.mem_of_getElem? (i := 1780) (by decide +kernel), List.mem_of_getElem? (i := 1781) (by decide +kernel)⟩
theorem lw_p86 : lw_okq (⟨"FairByEarModel", "findsThefts", "(I)V"⟩, 68) := ⟨⟨by decide +kernel, by decide +kernel⟩, List.mem_of_getElem? (i := 1456) (by decide +kernel), List.mem_of_getElem? (i := 1807) (by decide +kernel), List.mem_of_getElem? (i := 1808) (by decide +kernel)⟩
theorem lw_p87 : lw_okq (⟨"FairByEarModel", "there", "(III)I"⟩, 68) := ⟨⟨by decide +kernel, by decide +kernel⟩, List.mem_of_getElem? (i := 1456) (by decide +kernel), List.mem_of_getElem? (i := 1815) (by decide +kernel), List.mem_of_getElem? (i := 1816) (by decide +kernel)⟩
theorem lw_p88 : lw_okq (⟨"FairByEarModel", "isGang", "(I)Z"⟩, 68) := ⟨⟨by decide +kernel, by decide +kernel⟩, List.mem_of_getElem? (i := 1456) (by decide +kernel), List.mem_of_getElem? (i := 1823) (by decide +kernel), List.mem_of_getElem? (i := 1824) (by decide +kernel)⟩
theorem lw_p89 : lw_okq (⟨"FairByEarModel", "gives", "(I)I"⟩, 68) := ⟨⟨by decide +kernel, by decide +kernel⟩, List.mem_of_getElem? (i := 1456) (by decide +kernel), List.mem_of_getElem? (i := 1835) (by decide +kernel), List.mem_of_getElem? (i := 1836) (by decide +kernel)⟩
theorem lw_p90 : lw_okq (⟨"FairByEarModel", "loudAt", "(I)I"⟩, 68) := ⟨⟨by decide +kernel, by decide +kernel⟩, List.mem_of_getElem? (i := 1456) (by decide +kernel), List.mem_of_getElem? (i := 1843) (by decide +kernel), List.mem_of_getElem? (i := 1844) (by decide +kernel)⟩
theorem lw_p91 : lw_okq (⟨"FairByEarModel", "isHeard", "(II)Z"⟩, 68) := ⟨⟨by decide +kernel, by decide +kernel⟩, List.mem_of_getElem? (i := 1456) (by decide +kernel), List.mem_of_getElem? (i := 1863) (by decide +kernel), List.mem_of_getElem? (i := 1864) (by decide +kernel)⟩
theorem lw_p92 : lw_okq (⟨"FairByEarModel", "waysOut", "()I"⟩, 68) := ⟨⟨by decide +kernel, by decide +kernel⟩, List.mem_of_getElem? (i := 1456) (by decide +kernel), List.mem_of_getElem? (i := 1877) (by decide +kernel), List.mem_of_getElem? (i := 1878) (by decide +kernel)⟩
theorem lw_p93 : lw_okq (⟨"FairByEarModel", "judges", "(IIIZ)I"⟩, 68) := ⟨⟨by decide +kernel, by decide +kernel⟩, List.mem_of_getElem? (i := 1456) (by decide +kernel), List.mem_of_getElem? (i := 1900) (by decide +kernel), List.mem_of_getElem? (i := 1901) (by decide +kernel)⟩
theorem lw_p94 : lw_okq (⟨"FairByEarModel", "likely", "(IIII)I"⟩, 68) := ⟨⟨by decide +kernel, by decide +kernel⟩, List.mem_of_getElem? (i := 1456) (by decide +kernel), List.mem_of_getElem? (i := 1904) (by decide +kernel), List.mem_of_getElem? (i := 1905) (by decide +kernel)⟩
theorem lw_p95 : lw_okq (⟨"FairByEarModel", "chanceOf", "(I)I"⟩, 68) := ⟨⟨by decide +kernel, by decide +kernel⟩, List.mem_of_getElem? (i := 1456) (by decide +kernel), List.mem_of_getElem? (i := 1908) (by decide +kernel), List.mem_of_getElem? (i := 1909) (by decide +kernel)⟩
def lw_privs_6 : List (MethodName × Nat) := [(⟨"FairByEarModel", "goesRound", "()I"⟩, 68), (⟨"FairByEarModel", "asksFor", "(I)I"⟩, 68), (⟨"FairByEarModel", "heardBy", "(II)I"⟩, 68), (⟨"FairByEarModel", "settling", "()I"⟩, 68), (⟨"FairByEarModel", "lays", "(I)V"⟩, 68), (⟨"FairByEarModel", "isAs", "(I)Z"⟩, 68), (⟨"FairByEarModel", "findsThefts", "(I)V"⟩, 68), (⟨"FairByEarModel", "there", "(III)I"⟩, 68), (⟨"FairByEarModel", "isGang", "(I)Z"⟩, 68), (⟨"FairByEarModel", "gives", "(I)I"⟩, 68), (⟨"FairByEarModel", "loudAt", "(I)I"⟩, 68), (⟨"FairByEarModel", "isHeard", "(II)Z"⟩, 68), (⟨"FairByEarModel", "waysOut", "()I"⟩, 68), (⟨"FairByEarModel", "judges", "(IIIZ)I"⟩, 68), (⟨"FairByEarModel", "likely", "(IIII)I"⟩, 68), (⟨"FairByEarModel", "chanceOf", "(I)I"⟩, 68)]
theorem lw_r6 : ∀ q ∈ lw_privs_6, lw_okq q := List.forall_mem_cons.mpr ⟨lw_p80, List.forall_mem_cons.mpr ⟨lw_p81, List.forall_mem_cons.mpr ⟨lw_p82, List.forall_mem_cons.mpr ⟨lw_p83, List.forall_mem_cons.mpr ⟨lw_p84, List.forall_mem_cons.mpr ⟨lw_p85, List.forall_mem_cons.mpr ⟨lw_p86, List.forall_mem_cons.mpr ⟨lw_p87, List.forall_mem_cons.mpr ⟨lw_p88, List.forall_mem_cons.mpr ⟨lw_p89, List.forall_mem_cons.mpr ⟨lw_p90, List.forall_mem_cons.mpr ⟨lw_p91, List.forall_mem_cons.mpr ⟨lw_p92, List.forall_mem_cons.mpr ⟨lw_p93, List.forall_mem_cons.mpr ⟨lw_p94, List.forall_mem_cons.mpr ⟨lw_p95, fun _ h => absurd h List.not_mem_nil⟩⟩⟩⟩⟩⟩⟩⟩⟩⟩⟩⟩⟩⟩⟩⟩
theorem lw_p96 : lw_okq (⟨"FairByEarModel", "entersFraction", "(JJ)V"⟩, 68) := ⟨⟨by decide +kernel, by decide +kernel⟩, List.mem_of_getElem? (i := 1456) (by decide +kernel), List.mem_of_getElem? (i := 1912) (by decide +kernel), List.mem_of_getElem? (i := 1913) (by decide +kernel)⟩
theorem lw_p97 : lw_okq (⟨"FairByEarModel", "soldBits", "()I"⟩, 68) := ⟨⟨by decide +kernel, by decide +kernel⟩, List.mem_of_getElem? (i := 1456) (by decide +kernel), List.mem_of_getElem? (i := 1931) (by decide +kernel), List.mem_of_getElem? (i := 1932) (by decide +kernel)⟩
theorem lw_p98 : lw_okq (⟨"FairByEarModel", "purses", "()I"⟩, 68) := ⟨⟨by decide +kernel, by decide +kernel⟩, List.mem_of_getElem? (i := 1456) (by decide +kernel), List.mem_of_getElem? (i := 1935) (by decide +kernel), List.mem_of_getElem? (i := 1936) (by decide +kernel)⟩
def lw_privs_7 : List (MethodName × Nat) := [(⟨"FairByEarModel", "entersFraction", "(JJ)V"⟩, 68), (⟨"FairByEarModel", "soldBits", "()I"⟩, 68), (⟨"FairByEarModel", "purses", "()I"⟩, 68)]
theorem lw_r7 : ∀ q ∈ lw_privs_7, lw_okq q := List.forall_mem_cons.mpr ⟨lw_p96, List.forall_mem_cons.mpr ⟨lw_p97, List.forall_mem_cons.mpr ⟨lw_p98, fun _ h => absurd h List.not_mem_nil⟩⟩⟩
def lw_privs : List (MethodName × Nat) := lw_privs_1 ++ (lw_privs_2 ++ (lw_privs_3 ++ (lw_privs_4 ++ (lw_privs_5 ++ (lw_privs_6 ++ (lw_privs_7))))))
def lw_tbl : List Cond := k2_sels lw_privs ++ tables_1
theorem lw_privs_ok : ∀ q ∈ lw_privs, lw_okq q := by
  show ∀ q ∈ lw_privs_1 ++ (lw_privs_2 ++ (lw_privs_3 ++ (lw_privs_4 ++ (lw_privs_5 ++ (lw_privs_6 ++ (lw_privs_7)))))), lw_okq q
  exact List.forall_mem_append.mpr ⟨lw_r1, List.forall_mem_append.mpr ⟨lw_r2, List.forall_mem_append.mpr ⟨lw_r3, List.forall_mem_append.mpr ⟨lw_r4, List.forall_mem_append.mpr ⟨lw_r5, List.forall_mem_append.mpr ⟨lw_r6, lw_r7⟩⟩⟩⟩⟩⟩
end
section
/-! the classes whose objects are made, their fields; the cells of one fair and one reference -/
def jx_T0 : u_T := fun k => match k with
  | 0 => ("FairByEar$Air", "mine", "LFairByEar$Mine;", true)
  | 1 => ("FairByEar$Air", "gas", "I", false)
  | 2 => ("FairByEar$Air", "breath", "I", false)
  | 3 => ("FairByEar$Air", "limit", "I", false)
  | _ => ("FairByEar$Air", "fire", "I", false)
def jx_ty0 : Nat → FieldType := fun k => match k with
  | 0 => (.object "FairByEar$Mine")
  | 1 => .int
  | 2 => .int
  | 3 => .int
  | _ => .int
theorem jx_nm0 : ∀ a, a < 5 → ∀ b, b < 5 → a ≠ b → (jx_T0 a).2.1 ≠ (jx_T0 b).2.1 := by decide +kernel
theorem jx_ok0 : ∀ k, k < 5 → parseFieldDescriptor (jx_T0 k).2.2.1 = some (jx_ty0 k) := by decide +kernel
def jx_T1 : u_T := fun k => match k with
  | 0 => ("FairByEar$Asking", "mine", "LFairByEar$Mine;", true)
  | 1 => ("FairByEar$Asking", "items", "LFairByEar$Items;", true)
  | 2 => ("FairByEar$Asking", "wants", "[I", true)
  | 3 => ("FairByEar$Asking", "wind", "I", false)
  | 4 => ("FairByEar$Asking", "prices", "[I", true)
  | 5 => ("FairByEar$Asking", "lates", "[I", true)
  | _ => ("FairByEar$Asking", "askers", "[I", true)
def jx_ty1 : Nat → FieldType := fun k => match k with
  | 0 => (.object "FairByEar$Mine")
  | 1 => (.object "FairByEar$Items")
  | 2 => (.array .int)
  | 3 => .int
  | 4 => (.array .int)
  | 5 => (.array .int)
  | _ => (.array .int)
theorem jx_nm1 : ∀ a, a < 7 → ∀ b, b < 7 → a ≠ b → (jx_T1 a).2.1 ≠ (jx_T1 b).2.1 := by decide +kernel
theorem jx_ok1 : ∀ k, k < 7 → parseFieldDescriptor (jx_T1 k).2.2.1 = some (jx_ty1 k) := by decide +kernel
def jx_T2 : u_T := fun k => match k with
  | 0 => ("FairByEar$Ears", "mine", "LFairByEar$Mine;", true)
  | 1 => ("FairByEar$Ears", "chances", "[I", true)
  | _ => ("FairByEar$Ears", "weights", "[I", true)
def jx_ty2 : Nat → FieldType := fun k => match k with
  | 0 => (.object "FairByEar$Mine")
  | 1 => (.array .int)
  | _ => (.array .int)
theorem jx_nm2 : ∀ a, a < 3 → ∀ b, b < 3 → a ≠ b → (jx_T2 a).2.1 ≠ (jx_T2 b).2.1 := by decide +kernel
theorem jx_ok2 : ∀ k, k < 3 → parseFieldDescriptor (jx_T2 k).2.2.1 = some (jx_ty2 k) := by decide +kernel
def jx_T3 : u_T := fun k => match k with
  | 0 => ("FairByEar$Goods", "often", "[I", true)
  | 1 => ("FairByEar$Goods", "costs", "[I", true)
  | 2 => ("FairByEar$Goods", "answers", "[I", true)
  | 3 => ("FairByEar$Goods", "sharing", "[I", true)
  | 4 => ("FairByEar$Goods", "goods", "I", false)
  | _ => ("FairByEar$Goods", "tests", "I", false)
def jx_ty3 : Nat → FieldType := fun k => match k with
  | 0 => (.array .int)
  | 1 => (.array .int)
  | 2 => (.array .int)
  | 3 => (.array .int)
  | 4 => .int
  | _ => .int
theorem jx_nm3 : ∀ a, a < 6 → ∀ b, b < 6 → a ≠ b → (jx_T3 a).2.1 ≠ (jx_T3 b).2.1 := by decide +kernel
theorem jx_ok3 : ∀ k, k < 6 → parseFieldDescriptor (jx_T3 k).2.2.1 = some (jx_ty3 k) := by decide +kernel
def jx_T4 : u_T := fun k => match k with
  | 0 => ("FairByEar$Items", "mine", "LFairByEar$Mine;", true)
  | 1 => ("FairByEar$Items", "goods", "[I", true)
  | 2 => ("FairByEar$Items", "owners", "[I", true)
  | 3 => ("FairByEar$Items", "size", "I", false)
  | 4 => ("FairByEar$Items", "sold", "I", false)
  | 5 => ("FairByEar$Items", "saleItems", "[I", true)
  | 6 => ("FairByEar$Items", "sellers", "[I", true)
  | 7 => ("FairByEar$Items", "sellerPurses", "[I", true)
  | 8 => ("FairByEar$Items", "buyerPurses", "[I", true)
  | _ => ("FairByEar$Items", "sales", "I", false)
def jx_ty4 : Nat → FieldType := fun k => match k with
  | 0 => (.object "FairByEar$Mine")
  | 1 => (.array .int)
  | 2 => (.array .int)
  | 3 => .int
  | 4 => .int
  | 5 => (.array .int)
  | 6 => (.array .int)
  | 7 => (.array .int)
  | 8 => (.array .int)
  | _ => .int
theorem jx_nm4 : ∀ a, a < 10 → ∀ b, b < 10 → a ≠ b → (jx_T4 a).2.1 ≠ (jx_T4 b).2.1 := by decide +kernel
theorem jx_ok4 : ∀ k, k < 10 → parseFieldDescriptor (jx_T4 k).2.2.1 = some (jx_ty4 k) := by decide +kernel
def jx_T5 : u_T := fun k => match k with
  | 0 => ("FairByEar$Mine", "ways", "[I", true)
  | 1 => ("FairByEar$Mine", "walls", "[I", true)
  | 2 => ("FairByEar$Mine", "places", "[I", true)
  | 3 => ("FairByEar$Mine", "purses", "[I", true)
  | 4 => ("FairByEar$Mine", "loads", "[I", true)
  | 5 => ("FairByEar$Mine", "tunnels", "I", false)
  | _ => ("FairByEar$Mine", "people", "I", false)
def jx_ty5 : Nat → FieldType := fun k => match k with
  | 0 => (.array .int)
  | 1 => (.array .int)
  | 2 => (.array .int)
  | 3 => (.array .int)
  | 4 => (.array .int)
  | 5 => .int
  | _ => .int
theorem jx_nm5 : ∀ a, a < 7 → ∀ b, b < 7 → a ≠ b → (jx_T5 a).2.1 ≠ (jx_T5 b).2.1 := by decide +kernel
theorem jx_ok5 : ∀ k, k < 7 → parseFieldDescriptor (jx_T5 k).2.2.1 = some (jx_ty5 k) := by decide +kernel
def jx_T6 : u_T := fun k => match k with
  | 0 => ("FairByEar$Noise", "mine", "LFairByEar$Mine;", true)
  | 1 => ("FairByEar$Noise", "heardAt", "[I", true)
  | 2 => ("FairByEar$Noise", "heardAs", "[I", true)
  | 3 => ("FairByEar$Noise", "size", "I", false)
  | 4 => ("FairByEar$Noise", "crowd", "[I", true)
  | 5 => ("FairByEar$Noise", "firstCrowd", "[I", true)
  | 6 => ("FairByEar$Noise", "sums", "[I", true)
  | 7 => ("FairByEar$Noise", "rests", "[I", true)
  | 8 => ("FairByEar$Noise", "crowded", "I", false)
  | 9 => ("FairByEar$Noise", "slack", "I", false)
  | _ => ("FairByEar$Noise", "found", "Z", false)
def jx_ty6 : Nat → FieldType := fun k => match k with
  | 0 => (.object "FairByEar$Mine")
  | 1 => (.array .int)
  | 2 => (.array .int)
  | 3 => .int
  | 4 => (.array .int)
  | 5 => (.array .int)
  | 6 => (.array .int)
  | 7 => (.array .int)
  | 8 => .int
  | 9 => .int
  | _ => .boolean
theorem jx_nm6 : ∀ a, a < 11 → ∀ b, b < 11 → a ≠ b → (jx_T6 a).2.1 ≠ (jx_T6 b).2.1 := by decide +kernel
theorem jx_ok6 : ∀ k, k < 11 → parseFieldDescriptor (jx_T6 k).2.2.1 = some (jx_ty6 k) := by decide +kernel
def jx_T7 : u_T := fun k => match k with
  | 0 => ("FairByEar$Row", "numbers", "[J", true)
  | _ => ("FairByEar$Row", "size", "I", false)
def jx_ty7 : Nat → FieldType := fun k => match k with
  | 0 => (.array .long)
  | _ => .int
theorem jx_nm7 : ∀ a, a < 2 → ∀ b, b < 2 → a ≠ b → (jx_T7 a).2.1 ≠ (jx_T7 b).2.1 := by decide +kernel
theorem jx_ok7 : ∀ k, k < 2 → parseFieldDescriptor (jx_T7 k).2.2.1 = some (jx_ty7 k) := by decide +kernel
def jx_T8 : u_T := fun k => match k with
  | 0 => ("FairByEar$Rule", "mine", "LFairByEar$Mine;", true)
  | 1 => ("FairByEar$Rule", "text", "[I", true)
  | 2 => ("FairByEar$Rule", "length", "I", false)
  | 3 => ("FairByEar$Rule", "steps", "[I", true)
  | 4 => ("FairByEar$Rule", "size", "I", false)
  | 5 => ("FairByEar$Rule", "draft", "[I", true)
  | 6 => ("FairByEar$Rule", "drafted", "I", false)
  | 7 => ("FairByEar$Rule", "waiting", "[I", true)
  | 8 => ("FairByEar$Rule", "waits", "I", false)
  | 9 => ("FairByEar$Rule", "compared", "[Z", true)
  | 10 => ("FairByEar$Rule", "open", "I", false)
  | 11 => ("FairByEar$Rule", "digits", "I", false)
  | 12 => ("FairByEar$Rule", "wantsThing", "Z", false)
  | 13 => ("FairByEar$Rule", "values", "[I", true)
  | _ => ("FairByEar$Rule", "byPerson", "[I", true)
def jx_ty8 : Nat → FieldType := fun k => match k with
  | 0 => (.object "FairByEar$Mine")
  | 1 => (.array .int)
  | 2 => .int
  | 3 => (.array .int)
  | 4 => .int
  | 5 => (.array .int)
  | 6 => .int
  | 7 => (.array .int)
  | 8 => .int
  | 9 => (.array .boolean)
  | 10 => .int
  | 11 => .int
  | 12 => .boolean
  | 13 => (.array .int)
  | _ => (.array .int)
theorem jx_nm8 : ∀ a, a < 15 → ∀ b, b < 15 → a ≠ b → (jx_T8 a).2.1 ≠ (jx_T8 b).2.1 := by decide +kernel
theorem jx_ok8 : ∀ k, k < 15 → parseFieldDescriptor (jx_T8 k).2.2.1 = some (jx_ty8 k) := by decide +kernel
def jx_T9 : u_T := fun k => match k with
  | 0 => ("FairByEar$Tree", "goods", "LFairByEar$Goods;", true)
  | 1 => ("FairByEar$Tree", "leasts", "[I", true)
  | 2 => ("FairByEar$Tree", "firsts", "[I", true)
  | _ => ("FairByEar$Tree", "tolds", "[I", true)
def jx_ty9 : Nat → FieldType := fun k => match k with
  | 0 => (.object "FairByEar$Goods")
  | 1 => (.array .int)
  | 2 => (.array .int)
  | _ => (.array .int)
theorem jx_nm9 : ∀ a, a < 4 → ∀ b, b < 4 → a ≠ b → (jx_T9 a).2.1 ≠ (jx_T9 b).2.1 := by decide +kernel
theorem jx_ok9 : ∀ k, k < 4 → parseFieldDescriptor (jx_T9 k).2.2.1 = some (jx_ty9 k) := by decide +kernel
def jx_T10 : u_T := fun k => match k with
  | 0 => ("FairByEar$Watch", "mine", "LFairByEar$Mine;", true)
  | 1 => ("FairByEar$Watch", "countPlaces", "[I", true)
  | 2 => ("FairByEar$Watch", "countMinutes", "[I", true)
  | 3 => ("FairByEar$Watch", "countMany", "[I", true)
  | 4 => ("FairByEar$Watch", "counts", "I", false)
  | 5 => ("FairByEar$Watch", "stayPeople", "[I", true)
  | 6 => ("FairByEar$Watch", "stayPlaces", "[I", true)
  | 7 => ("FairByEar$Watch", "stayFrom", "[I", true)
  | 8 => ("FairByEar$Watch", "stayTo", "[I", true)
  | 9 => ("FairByEar$Watch", "stays", "I", false)
  | 10 => ("FairByEar$Watch", "clinkPlaces", "[I", true)
  | 11 => ("FairByEar$Watch", "clinkMinutes", "[I", true)
  | 12 => ("FairByEar$Watch", "coins", "[I", true)
  | 13 => ("FairByEar$Watch", "clinks", "I", false)
  | 14 => ("FairByEar$Watch", "blamed", "[I", true)
  | 15 => ("FairByEar$Watch", "ways", "[I", true)
  | _ => ("FairByEar$Watch", "whose", "[I", true)
def jx_ty10 : Nat → FieldType := fun k => match k with
  | 0 => (.object "FairByEar$Mine")
  | 1 => (.array .int)
  | 2 => (.array .int)
  | 3 => (.array .int)
  | 4 => .int
  | 5 => (.array .int)
  | 6 => (.array .int)
  | 7 => (.array .int)
  | 8 => (.array .int)
  | 9 => .int
  | 10 => (.array .int)
  | 11 => (.array .int)
  | 12 => (.array .int)
  | 13 => .int
  | 14 => (.array .int)
  | 15 => (.array .int)
  | _ => (.array .int)
theorem jx_nm10 : ∀ a, a < 17 → ∀ b, b < 17 → a ≠ b → (jx_T10 a).2.1 ≠ (jx_T10 b).2.1 := by decide +kernel
theorem jx_ok10 : ∀ k, k < 17 → parseFieldDescriptor (jx_T10 k).2.2.1 = some (jx_ty10 k) := by decide +kernel
def jx_T11 : u_T := fun k => match k with
  | 0 => ("FairByEar", "told", "LFairByEar$Row;", true)
  | 1 => ("FairByEar", "mine", "LFairByEar$Mine;", true)
  | 2 => ("FairByEar", "shelf", "LFairByEar$Goods;", true)
  | 3 => ("FairByEar", "trees", "LFairByEar$Tree;", true)
  | 4 => ("FairByEar", "way", "LFairByEar$Rule;", true)
  | 5 => ("FairByEar", "items", "LFairByEar$Items;", true)
  | 6 => ("FairByEar", "asking", "LFairByEar$Asking;", true)
  | 7 => ("FairByEar", "watch", "LFairByEar$Watch;", true)
  | 8 => ("FairByEar", "noise", "LFairByEar$Noise;", true)
  | 9 => ("FairByEar", "air", "LFairByEar$Air;", true)
  | _ => ("FairByEar", "ears", "LFairByEar$Ears;", true)
def jx_ty11 : Nat → FieldType := fun k => match k with
  | 0 => (.object "FairByEar$Row")
  | 1 => (.object "FairByEar$Mine")
  | 2 => (.object "FairByEar$Goods")
  | 3 => (.object "FairByEar$Tree")
  | 4 => (.object "FairByEar$Rule")
  | 5 => (.object "FairByEar$Items")
  | 6 => (.object "FairByEar$Asking")
  | 7 => (.object "FairByEar$Watch")
  | 8 => (.object "FairByEar$Noise")
  | 9 => (.object "FairByEar$Air")
  | _ => (.object "FairByEar$Ears")
theorem jx_nm11 : ∀ a, a < 11 → ∀ b, b < 11 → a ≠ b → (jx_T11 a).2.1 ≠ (jx_T11 b).2.1 := by decide +kernel
theorem jx_ok11 : ∀ k, k < 11 → parseFieldDescriptor (jx_T11 k).2.2.1 = some (jx_ty11 k) := by decide +kernel
def jx_T12 : u_T := fun k => match k with
  | 0 => ("FairByEarModel", "thrown", "I", false)
  | 1 => ("FairByEarModel", "rows", "I", false)
  | 2 => ("FairByEarModel", "row", "[J", true)
  | 3 => ("FairByEarModel", "tunnels", "I", false)
  | 4 => ("FairByEarModel", "away", "[I", true)
  | 5 => ("FairByEarModel", "walls", "[I", true)
  | 6 => ("FairByEarModel", "people", "I", false)
  | 7 => ("FairByEarModel", "at", "[I", true)
  | 8 => ("FairByEarModel", "purse", "[I", true)
  | 9 => ("FairByEarModel", "load", "[I", true)
  | 10 => ("FairByEarModel", "goods", "I", false)
  | 11 => ("FairByEarModel", "often", "[I", true)
  | 12 => ("FairByEarModel", "tests", "I", false)
  | 13 => ("FairByEarModel", "cost", "[I", true)
  | 14 => ("FairByEarModel", "answers", "[I", true)
  | 15 => ("FairByEarModel", "least", "[I", true)
  | 16 => ("FairByEarModel", "firstTest", "[I", true)
  | 17 => ("FairByEarModel", "worst", "[I", true)
  | 18 => ("FairByEarModel", "told", "[I", true)
  | 19 => ("FairByEarModel", "code", "[I", true)
  | 20 => ("FairByEarModel", "codes", "[I", true)
  | 21 => ("FairByEarModel", "stack", "[I", true)
  | 22 => ("FairByEarModel", "tape", "[I", true)
  | 23 => ("FairByEarModel", "taped", "I", false)
  | 24 => ("FairByEarModel", "place", "I", false)
  | 25 => ("FairByEarModel", "to", "I", false)
  | 26 => ("FairByEarModel", "nest", "I", false)
  | 27 => ("FairByEarModel", "wants", "[I", true)
  | 28 => ("FairByEarModel", "items", "I", false)
  | 29 => ("FairByEarModel", "goodOf", "[I", true)
  | 30 => ("FairByEarModel", "owner", "[I", true)
  | 31 => ("FairByEarModel", "isSold", "[Z", true)
  | 32 => ("FairByEarModel", "prices", "[I", true)
  | 33 => ("FairByEarModel", "asked", "[I", true)
  | 34 => ("FairByEarModel", "windNow", "I", false)
  | 35 => ("FairByEarModel", "states", "[I", true)
  | 36 => ("FairByEarModel", "sales", "I", false)
  | 37 => ("FairByEarModel", "sale", "[I", true)
  | 38 => ("FairByEarModel", "counts", "I", false)
  | 39 => ("FairByEarModel", "countPlace", "[I", true)
  | 40 => ("FairByEarModel", "countMinute", "[I", true)
  | 41 => ("FairByEarModel", "countMany", "[I", true)
  | 42 => ("FairByEarModel", "stays", "I", false)
  | 43 => ("FairByEarModel", "stayWho", "[I", true)
  | 44 => ("FairByEarModel", "stayPlace", "[I", true)
  | 45 => ("FairByEarModel", "stayFrom", "[I", true)
  | 46 => ("FairByEarModel", "stayTo", "[I", true)
  | 47 => ("FairByEarModel", "inOrder", "[I", true)
  | 48 => ("FairByEarModel", "theftFrom", "[I", true)
  | 49 => ("FairByEarModel", "theftTo", "[I", true)
  | 50 => ("FairByEarModel", "thefts", "I", false)
  | 51 => ("FairByEarModel", "taken", "I", false)
  | 52 => ("FairByEarModel", "clinks", "I", false)
  | 53 => ("FairByEarModel", "clinkPlace", "[I", true)
  | 54 => ("FairByEarModel", "clinkMinute", "[I", true)
  | 55 => ("FairByEarModel", "clinkCoin", "[I", true)
  | 56 => ("FairByEarModel", "hand", "[I", true)
  | 57 => ("FairByEarModel", "canBe", "[I", true)
  | 58 => ("FairByEarModel", "spent", "[I", true)
  | 59 => ("FairByEarModel", "heards", "I", false)
  | 60 => ("FairByEarModel", "heardPlace", "[I", true)
  | 61 => ("FairByEarModel", "heardLoud", "[I", true)
  | 62 => ("FairByEarModel", "crowd", "[I", true)
  | 63 => ("FairByEarModel", "gasNow", "I", false)
  | 64 => ("FairByEarModel", "breath", "I", false)
  | 65 => ("FairByEarModel", "limit", "I", false)
  | 66 => ("FairByEarModel", "fire", "I", false)
  | _ => ("FairByEarModel", "ears", "[I", true)
def jx_ty12 : Nat → FieldType := fun k => match k with
  | 0 => .int
  | 1 => .int
  | 2 => (.array .long)
  | 3 => .int
  | 4 => (.array .int)
  | 5 => (.array .int)
  | 6 => .int
  | 7 => (.array .int)
  | 8 => (.array .int)
  | 9 => (.array .int)
  | 10 => .int
  | 11 => (.array .int)
  | 12 => .int
  | 13 => (.array .int)
  | 14 => (.array .int)
  | 15 => (.array .int)
  | 16 => (.array .int)
  | 17 => (.array .int)
  | 18 => (.array .int)
  | 19 => (.array .int)
  | 20 => (.array .int)
  | 21 => (.array .int)
  | 22 => (.array .int)
  | 23 => .int
  | 24 => .int
  | 25 => .int
  | 26 => .int
  | 27 => (.array .int)
  | 28 => .int
  | 29 => (.array .int)
  | 30 => (.array .int)
  | 31 => (.array .boolean)
  | 32 => (.array .int)
  | 33 => (.array .int)
  | 34 => .int
  | 35 => (.array .int)
  | 36 => .int
  | 37 => (.array .int)
  | 38 => .int
  | 39 => (.array .int)
  | 40 => (.array .int)
  | 41 => (.array .int)
  | 42 => .int
  | 43 => (.array .int)
  | 44 => (.array .int)
  | 45 => (.array .int)
  | 46 => (.array .int)
  | 47 => (.array .int)
  | 48 => (.array .int)
  | 49 => (.array .int)
  | 50 => .int
  | 51 => .int
  | 52 => .int
  | 53 => (.array .int)
  | 54 => (.array .int)
  | 55 => (.array .int)
  | 56 => (.array .int)
  | 57 => (.array .int)
  | 58 => (.array .int)
  | 59 => .int
  | 60 => (.array .int)
  | 61 => (.array .int)
  | 62 => (.array .int)
  | 63 => .int
  | 64 => .int
  | 65 => .int
  | 66 => .int
  | _ => (.array .int)
theorem jx_nm12 : ∀ a, a < 68 → ∀ b, b < 68 → a ≠ b → (jx_T12 a).2.1 ≠ (jx_T12 b).2.1 := by decide +kernel
theorem jx_ok12 : ∀ k, k < 68 → parseFieldDescriptor (jx_T12 k).2.2.1 = some (jx_ty12 k) := by decide +kernel
abbrev jx_cl : List vw_C := [("FairByEar$Air", jx_T0, 5), ("FairByEar$Asking", jx_T1, 7), ("FairByEar$Ears", jx_T2, 3), ("FairByEar$Goods", jx_T3, 6), ("FairByEar$Items", jx_T4, 10), ("FairByEar$Mine", jx_T5, 7), ("FairByEar$Noise", jx_T6, 11), ("FairByEar$Row", jx_T7, 2), ("FairByEar$Rule", jx_T8, 15), ("FairByEar$Tree", jx_T9, 4), ("FairByEar$Watch", jx_T10, 17), ("FairByEar", jx_T11, 11), ("FairByEarModel", jx_T12, 68)]
abbrev jx_Sh : Type := (Nat × List (Option Nat)) ⊕ (Nat × Nat)
def jx_sh : List jx_Sh := [.inl (11, [some 1, some 2, some 3, some 4, some 5, some 6, some 7, some 8, some 9, some 10, some 11]),
  .inl (7, [some 14, none]),
  .inl (5, [some 15, some 16, some 17, some 18, some 19, none, none]),
  .inl (3, [some 20, some 21, some 22, some 23, none, none]),
  .inl (9, [some 3, some 24, some 25, some 26]),
  .inl (8, [some 2, some 27, none, some 28, none, some 29, none, some 30, none, some 31, none, none, none, some 32, some 33]),
  .inl (4, [some 2, some 34, some 35, none, none, some 36, some 37, some 38, some 39, none]),
  .inl (1, [some 2, some 6, some 40, none, some 41, some 42, some 43]),
  .inl (10, [some 2, some 44, some 45, some 46, none, some 47, some 48, some 49, some 50, none, some 51, some 52, some 53, none, some 54, some 55, some 56]),
  .inl (6, [some 2, some 57, some 58, none, some 59, some 60, some 61, some 62, none, none, none]),
  .inl (0, [some 2, none, none, none, none]),
  .inl (2, [some 2, some 63, some 64]),
  .inl (12, [none, none, some 65, none, some 66, some 67, none, some 68, some 69, some 70, none, some 71, none, some 72, some 73, some 74, some 75, some 76, some 77, some 78, some 79, some 80, some 81, none, none, none, none, some 82, none, some 83, some 84, some 85, some 86, some 87, none, some 88, none, some 89, none, some 90, some 91, some 92, none, some 93, some 94, some 95, some 96, some 97, some 98, some 99, none, none, none, some 100, some 101, some 102, some 103, some 104, some 105, none, some 106, some 107, some 108, none, none, none, none, some 109]),
  .inr (1, 1),
  .inr (1, 12),
  .inr (0, 100),
  .inr (0, 10),
  .inr (0, 8),
  .inr (0, 8),
  .inr (0, 8),
  .inr (0, 10),
  .inr (0, 6),
  .inr (0, 60),
  .inr (0, 60),
  .inr (0, 1024),
  .inr (0, 1024),
  .inr (0, 640),
  .inr (0, 60),
  .inr (0, 40),
  .inr (0, 40),
  .inr (0, 40),
  .inr (2, 6),
  .inr (0, 40),
  .inr (0, 8),
  .inr (0, 12),
  .inr (0, 12),
  .inr (0, 12),
  .inr (0, 12),
  .inr (0, 12),
  .inr (0, 12),
  .inr (0, 80),
  .inr (0, 2520),
  .inr (0, 96),
  .inr (0, 12),
  .inr (0, 16),
  .inr (0, 16),
  .inr (0, 16),
  .inr (0, 20),
  .inr (0, 20),
  .inr (0, 20),
  .inr (0, 20),
  .inr (0, 6),
  .inr (0, 6),
  .inr (0, 6),
  .inr (0, 16),
  .inr (0, 576),
  .inr (0, 6),
  .inr (0, 6),
  .inr (0, 6),
  .inr (0, 6),
  .inr (0, 6),
  .inr (0, 6),
  .inr (0, 42),
  .inr (0, 4),
  .inr (0, 10),
  .inr (1, 24),
  .inr (0, 100),
  .inr (0, 10),
  .inr (0, 8),
  .inr (0, 8),
  .inr (0, 8),
  .inr (0, 10),
  .inr (0, 6),
  .inr (0, 60),
  .inr (0, 1024),
  .inr (0, 1024),
  .inr (0, 1024),
  .inr (0, 56320),
  .inr (0, 96),
  .inr (0, 2),
  .inr (0, 48),
  .inr (0, 60),
  .inr (0, 80),
  .inr (0, 12),
  .inr (0, 12),
  .inr (2, 12),
  .inr (0, 120),
  .inr (0, 12),
  .inr (0, 24120),
  .inr (0, 60),
  .inr (0, 16),
  .inr (0, 16),
  .inr (0, 16),
  .inr (0, 20),
  .inr (0, 20),
  .inr (0, 20),
  .inr (0, 20),
  .inr (0, 16),
  .inr (0, 16),
  .inr (0, 16),
  .inr (0, 6),
  .inr (0, 6),
  .inr (0, 6),
  .inr (0, 6),
  .inr (0, 6),
  .inr (0, 8),
  .inr (0, 6),
  .inr (0, 6),
  .inr (0, 6),
  .inr (0, 4)]
def jx_str : List (List Int32) := [[108, 117, 110, 102, 119, 107], [40], [41], [33, 45], [124], [38], [60, 62, 61], [43, 45], [42]]
def jx_stx : List (Nat × String) := [(213, "lunfwk"), (219, "("), (227, ")"), (229, "!-"), (237, "|"), (239, "&"), (241, "<>="), (243, "+-"), (245, "*")]
end
section
/-! the methods as data: place, length, instruction, what it names, constants, what is kept of the locals where roads meet -/
abbrev jx_El : Type := Nat × Nat × Instr × List Nat × List Value × Option (List Nat)
abbrev jx_M : Type := MethodName × ByteArray × Nat × Option FieldType × Bool × Nat × List jx_El
def jx_C0 : List jx_El := [(0, 1, .iload_n 0, [0], [], none),
  (1, 3, .ifCond .ge 8, [9], [], none),
  (4, 1, .iload_n 0, [0], [], none),
  (5, 1, .ineg, [], [], none),
  (6, 3, .goto 4, [10], [], none),
  (9, 1, .iload_n 0, [0], [], none),
  (10, 1, .ireturn, [], [], some [])]
def jx_M0 : jx_M := (⟨"java/lang/Math", "abs", "(I)I"⟩, prog_20_method_59_code, 1, (some .int), true, 0, jx_C0)
def jx_C1 : List jx_El := [(0, 1, .iload_n 0, [0], [], none),
  (1, 1, .iload_n 1, [1], [], none),
  (2, 3, .if_icmp .lt 7, [9], [], none),
  (5, 1, .iload_n 0, [0], [], none),
  (6, 3, .goto 4, [10], [], none),
  (9, 1, .iload_n 1, [1], [], none),
  (10, 1, .ireturn, [], [], some [])]
def jx_M1 : jx_M := (⟨"java/lang/Math", "max", "(II)I"⟩, prog_20_method_65_code, 2, (some .int), true, 0, jx_C1)
def jx_C2 : List jx_El := [(0, 1, .iload_n 0, [0], [], none),
  (1, 1, .iload_n 1, [1], [], none),
  (2, 3, .if_icmp .gt 7, [9], [], none),
  (5, 1, .iload_n 0, [0], [], none),
  (6, 3, .goto 4, [10], [], none),
  (9, 1, .iload_n 1, [1], [], none),
  (10, 1, .ireturn, [], [], some [])]
def jx_M2 : jx_M := (⟨"java/lang/Math", "min", "(II)I"⟩, prog_20_method_69_code, 2, (some .int), true, 0, jx_C2)
def jx_C3 : List jx_El := [(0, 1, .iload_n 0, [0], [], none),
  (1, 1, .iload_n 0, [0], [], none),
  (2, 1, .iconst 1, [], [.int 1], none),
  (3, 1, .iushr, [], [], none),
  (4, 3, .ldc_w 267, [], [.int 1431655765], none),
  (7, 1, .iand, [], [], none),
  (8, 1, .isub, [], [], none),
  (9, 1, .istore_n 0, [0], [], none),
  (10, 1, .iload_n 0, [0], [], none),
  (11, 3, .ldc_w 268, [], [.int 858993459], none),
  (14, 1, .iand, [], [], none),
  (15, 1, .iload_n 0, [0], [], none),
  (16, 1, .iconst 2, [], [.int 2], none),
  (17, 1, .iushr, [], [], none),
  (18, 3, .ldc_w 268, [], [.int 858993459], none),
  (21, 1, .iand, [], [], none),
  (22, 1, .iadd, [], [], none),
  (23, 1, .istore_n 0, [0], [], none),
  (24, 1, .iload_n 0, [0], [], none),
  (25, 1, .iload_n 0, [0], [], none),
  (26, 1, .iconst 4, [], [.int 4], none),
  (27, 1, .iushr, [], [], none),
  (28, 1, .iadd, [], [], none),
  (29, 3, .ldc_w 269, [], [.int 252645135], none),
  (32, 1, .iand, [], [], none),
  (33, 1, .istore_n 0, [0], [], none),
  (34, 1, .iload_n 0, [0], [], none),
  (35, 1, .iload_n 0, [0], [], none),
  (36, 2, .bipush 8, [], [.int 8], none),
  (38, 1, .iushr, [], [], none),
  (39, 1, .iadd, [], [], none),
  (40, 1, .istore_n 0, [0], [], none),
  (41, 1, .iload_n 0, [0], [], none),
  (42, 1, .iload_n 0, [0], [], none),
  (43, 2, .bipush 16, [], [.int 16], none),
  (45, 1, .iushr, [], [], none),
  (46, 1, .iadd, [], [], none),
  (47, 1, .istore_n 0, [0], [], none),
  (48, 1, .iload_n 0, [0], [], none),
  (49, 2, .bipush 63, [], [.int 63], none),
  (51, 1, .iand, [], [], none),
  (52, 1, .ireturn, [], [], none)]
def jx_M3 : jx_M := (⟨"java/lang/Integer", "bitCount", "(I)I"⟩, prog_19_method_49_code, 1, (some .int), true, 0, jx_C3)
def jx_C4 : List jx_El := [(0, 1, .iload_n 0, [0], [], none),
  (1, 1, .iconst (-1), [], [.int (-1)], none),
  (2, 1, .ixor, [], [], none),
  (3, 1, .iload_n 0, [0], [], none),
  (4, 1, .iconst 1, [], [.int 1], none),
  (5, 1, .isub, [], [], none),
  (6, 1, .iand, [], [], none),
  (7, 1, .istore_n 0, [0], [], none),
  (8, 1, .iload_n 0, [0], [], none),
  (9, 3, .ifCond .gt 8, [17], [], none),
  (12, 1, .iload_n 0, [0], [], none),
  (13, 2, .bipush 32, [], [.int 32], none),
  (15, 1, .iand, [], [], none),
  (16, 1, .ireturn, [], [], none),
  (17, 1, .iconst 1, [], [.int 1], none),
  (18, 1, .istore_n 1, [1], [], none),
  (19, 1, .iload_n 0, [0], [], none),
  (20, 3, .ldc_w 266, [], [.int 65536], none),
  (23, 3, .if_icmp .le 11, [34], [], none),
  (26, 3, .iinc 1 16, [1], [.int 16], none),
  (29, 1, .iload_n 0, [0], [], none),
  (30, 2, .bipush 16, [], [.int 16], none),
  (32, 1, .iushr, [], [], none),
  (33, 1, .istore_n 0, [0], [], none),
  (34, 1, .iload_n 0, [0], [], some [0, 1]),
  (35, 3, .sipush 256, [], [.int 256], none),
  (38, 3, .if_icmp .le 11, [49], [], none),
  (41, 3, .iinc 1 8, [1], [.int 8], none),
  (44, 1, .iload_n 0, [0], [], none),
  (45, 2, .bipush 8, [], [.int 8], none),
  (47, 1, .iushr, [], [], none),
  (48, 1, .istore_n 0, [0], [], none),
  (49, 1, .iload_n 0, [0], [], some [0, 1]),
  (50, 2, .bipush 16, [], [.int 16], none),
  (52, 3, .if_icmp .le 10, [62], [], none),
  (55, 3, .iinc 1 4, [1], [.int 4], none),
  (58, 1, .iload_n 0, [0], [], none),
  (59, 1, .iconst 4, [], [.int 4], none),
  (60, 1, .iushr, [], [], none),
  (61, 1, .istore_n 0, [0], [], none),
  (62, 1, .iload_n 0, [0], [], some [0, 1]),
  (63, 1, .iconst 4, [], [.int 4], none),
  (64, 3, .if_icmp .le 10, [74], [], none),
  (67, 3, .iinc 1 2, [1], [.int 2], none),
  (70, 1, .iload_n 0, [0], [], none),
  (71, 1, .iconst 2, [], [.int 2], none),
  (72, 1, .iushr, [], [], none),
  (73, 1, .istore_n 0, [0], [], none),
  (74, 1, .iload_n 1, [1], [], some [0, 1]),
  (75, 1, .iload_n 0, [0], [], none),
  (76, 1, .iconst 1, [], [.int 1], none),
  (77, 1, .iushr, [], [], none),
  (78, 1, .iadd, [], [], none),
  (79, 1, .ireturn, [], [], none)]
def jx_M4 : jx_M := (⟨"java/lang/Integer", "numberOfTrailingZeros", "(I)I"⟩, prog_19_method_48_code, 2, (some .int), true, 0, jx_C4)
def jx_C5 : List jx_El := [(0, 1, .iconst 0, [], [.int 0], none),
  (1, 1, .istore_n 2, [2], [], none),
  (2, 1, .aload_n 0, [0], [], none),
  (3, 1, .arraylength, [], [], none),
  (4, 1, .istore_n 3, [3], [], none),
  (5, 1, .iload_n 2, [2], [], some [0, 1, 2, 3]),
  (6, 1, .iload_n 3, [3], [], none),
  (7, 3, .if_icmp .ge 13, [20], [], none),
  (10, 1, .aload_n 0, [0], [], none),
  (11, 1, .iload_n 2, [2], [], none),
  (12, 1, .iload_n 1, [1], [], none),
  (13, 1, .iastore, [], [], none),
  (14, 3, .iinc 2 1, [2], [.int 1], none),
  (17, 3, .goto (-12), [5], [], none),
  (20, 1, .return_, [], [], none)]
def jx_M5 : jx_M := (⟨"java/util/Arrays", "fill", "([II)V"⟩, prog_29_method_103_code, 4, none, true, 0, jx_C5)
def jx_C6 : List jx_El := [(0, 1, .aload_n 0, [0], [], none),
  (1, 1, .iconst 0, [], [.int 0], none),
  (2, 3, .putfield 15, [1, 7, 0], [], none),
  (5, 1, .return_, [], [], none)]
def jx_M6 : jx_M := (⟨"FairByEar$Row", "clear", "()V"⟩, prog_9_method_2_code, 1, none, false, 0, jx_C6)
def jx_C7 : List jx_El := [(0, 1, .aload_n 0, [0], [], none),
  (1, 3, .getfield 15, [1, 7], [], none),
  (4, 1, .aload_n 0, [0], [], none),
  (5, 3, .getfield 9, [0, 7], [], none),
  (8, 1, .arraylength, [], [], none),
  (9, 3, .if_icmp .ge 23, [32], [], none),
  (12, 1, .aload_n 0, [0], [], none),
  (13, 3, .getfield 9, [0, 7], [], none),
  (16, 1, .aload_n 0, [0], [], none),
  (17, 3, .getfield 15, [1, 7], [], none),
  (20, 1, .lload_n 1, [1], [], none),
  (21, 1, .lastore, [], [], none),
  (22, 1, .aload_n 0, [0], [], none),
  (23, 1, .dup, [], [], none),
  (24, 3, .getfield 15, [1, 7], [], none),
  (27, 1, .iconst 1, [], [.int 1], none),
  (28, 1, .iadd, [], [], none),
  (29, 3, .putfield 15, [1, 7, 0], [], none),
  (32, 1, .return_, [], [], some [])]
def jx_M7 : jx_M := (⟨"FairByEar$Row", "add", "(J)V"⟩, prog_9_method_3_code, 3, none, false, 0, jx_C7)
def jx_C8 : List jx_El := [(0, 1, .aload_n 0, [0], [], none),
  (1, 3, .invokevirtual 19, [6, 0, 0, 1, 7], [], none),
  (4, 1, .aload_n 0, [0], [], none),
  (5, 1, .lload_n 1, [1], [], none),
  (6, 3, .invokevirtual 22, [7, 0, 0, 2, 7], [], none),
  (9, 1, .return_, [], [], none)]
def jx_M8 : jx_M := (⟨"FairByEar$Row", "tell", "(J)V"⟩, prog_9_method_4_code, 3, none, false, 1, jx_C8)
def jx_C9 : List jx_El := [(0, 1, .aload_n 0, [0], [], none),
  (1, 3, .invokevirtual 19, [6, 0, 0, 1, 7], [], none),
  (4, 1, .aload_n 0, [0], [], none),
  (5, 1, .lload_n 1, [1], [], none),
  (6, 3, .invokevirtual 22, [7, 0, 0, 2, 7], [], none),
  (9, 1, .aload_n 0, [0], [], none),
  (10, 1, .lload_n 3, [3], [], none),
  (11, 3, .invokevirtual 22, [7, 0, 0, 2, 7], [], none),
  (14, 1, .return_, [], [], none)]
def jx_M9 : jx_M := (⟨"FairByEar$Row", "tell", "(JJ)V"⟩, prog_9_method_5_code, 5, none, false, 1, jx_C9)
def jx_C10 : List jx_El := [(0, 1, .iload_n 1, [1], [], none),
  (1, 1, .iload_n 2, [2], [], none),
  (2, 3, .invokestatic 26, [14, 0, 1, 2], [], none),
  (5, 1, .istore_n 3, [3], [], none),
  (6, 1, .iload_n 1, [1], [], none),
  (7, 3, .ifCond .eq 7, [14], [], none),
  (10, 1, .iload_n 3, [3], [], none),
  (11, 3, .ifCond .ne 12, [23], [], none),
  (14, 1, .aload_n 0, [0], [], some [0]),
  (15, 1, .lconst 0, [], [.long 0], none),
  (16, 1, .lconst 1, [], [.long 1], none),
  (17, 3, .invokevirtual 30, [9, 0, 0, 3, 7], [], none),
  (20, 3, .goto 15, [35], [], none),
  (23, 1, .aload_n 0, [0], [], none),
  (24, 1, .iload_n 1, [1], [], none),
  (25, 1, .iload_n 3, [3], [], none),
  (26, 1, .idiv, [], [], none),
  (27, 1, .i2l, [], [], none),
  (28, 1, .iload_n 2, [2], [], none),
  (29, 1, .iload_n 3, [3], [], none),
  (30, 1, .idiv, [], [], none),
  (31, 1, .i2l, [], [], none),
  (32, 3, .invokevirtual 30, [9, 0, 0, 3, 7], [], none),
  (35, 1, .return_, [], [], some [])]
def jx_M10 : jx_M := (⟨"FairByEar$Row", "tellFraction", "(II)V"⟩, prog_9_method_6_code, 4, none, false, 2, jx_C10)
def jx_C11 : List jx_El := [(0, 1, .aload_n 0, [0], [], none),
  (1, 3, .getfield 15, [1, 7], [], none),
  (4, 1, .ireturn, [], [], none)]
def jx_M11 : jx_M := (⟨"FairByEar$Row", "size", "()I"⟩, prog_9_method_7_code, 1, (some .int), false, 0, jx_C11)
def jx_C12 : List jx_El := [(0, 1, .iload_n 1, [1], [], none),
  (1, 3, .ifCond .lt 15, [16], [], none),
  (4, 1, .iload_n 1, [1], [], none),
  (5, 1, .aload_n 0, [0], [], none),
  (6, 3, .getfield 15, [1, 7], [], none),
  (9, 3, .if_icmp .ge 7, [16], [], none),
  (12, 1, .iconst 1, [], [.int 1], none),
  (13, 3, .goto 4, [17], [], none),
  (16, 1, .iconst 0, [], [.int 0], some []),
  (17, 1, .ireturn, [1], [], some [])]
def jx_M12 : jx_M := (⟨"FairByEar$Row", "holds", "(I)Z"⟩, prog_9_method_8_code, 2, (some .boolean), false, 0, jx_C12)
def jx_C13 : List jx_El := [(0, 1, .aload_n 0, [0], [], none),
  (1, 1, .iload_n 1, [1], [], none),
  (2, 3, .invokevirtual 34, [12, 0, 1, 2, 7], [], none),
  (5, 3, .ifCond .eq 12, [17], [], none),
  (8, 1, .aload_n 0, [0], [], none),
  (9, 3, .getfield 9, [0, 7], [], none),
  (12, 1, .iload_n 1, [1], [], none),
  (13, 1, .laload, [], [], none),
  (14, 3, .goto 4, [18], [], none),
  (17, 1, .lconst 0, [], [.long 0], none),
  (18, 1, .lreturn, [], [], some [])]
def jx_M13 : jx_M := (⟨"FairByEar$Row", "get", "(I)J"⟩, prog_9_method_9_code, 2, (some .long), false, 1, jx_C13)
def jx_C14 : List jx_El := [(0, 1, .iload_n 0, [0], [], none),
  (1, 1, .istore_n 2, [2], [], none),
  (2, 1, .iload_n 1, [1], [], none),
  (3, 1, .istore_n 3, [3], [], none),
  (4, 1, .iconst 0, [], [.int 0], none),
  (5, 2, .istore 4, [4], [], none),
  (7, 2, .iload 4, [4], [], some [2, 3, 4]),
  (9, 2, .bipush 100, [], [.int 100], none),
  (11, 3, .if_icmp .ge 23, [34], [], none),
  (14, 1, .iload_n 3, [3], [], none),
  (15, 3, .ifCond .eq 19, [34], [], none),
  (18, 1, .iload_n 2, [2], [], none),
  (19, 1, .iload_n 3, [3], [], none),
  (20, 1, .irem, [], [], none),
  (21, 2, .istore 5, [5], [], none),
  (23, 1, .iload_n 3, [3], [], none),
  (24, 1, .istore_n 2, [2], [], none),
  (25, 2, .iload 5, [5], [], none),
  (27, 1, .istore_n 3, [3], [], none),
  (28, 3, .iinc 4 1, [4], [.int 1], none),
  (31, 3, .goto (-24), [7], [], none),
  (34, 1, .iload_n 2, [2], [], some [2]),
  (35, 1, .ireturn, [], [], none)]
def jx_M14 : jx_M := (⟨"FairByEar$Row", "commonDivisor", "(II)I"⟩, prog_9_method_10_code, 6, (some .int), true, 0, jx_C14)
def jx_C15 : List jx_El := [(0, 1, .iload_n 1, [1], [], none),
  (1, 3, .ifCond .lt 13, [14], [], none),
  (4, 1, .iload_n 1, [1], [], none),
  (5, 2, .bipush 10, [], [.int 10], none),
  (7, 3, .if_icmp .ge 7, [14], [], none),
  (10, 1, .iconst 1, [], [.int 1], none),
  (11, 3, .goto 4, [15], [], none),
  (14, 1, .iconst 0, [], [.int 0], some []),
  (15, 1, .ireturn, [1], [], some [])]
def jx_M15 : jx_M := (⟨"FairByEar$Mine", "isPlace", "(I)Z"⟩, prog_7_method_2_code, 2, (some .boolean), false, 0, jx_C15)
def jx_C16 : List jx_El := [(0, 1, .iload_n 1, [1], [], none),
  (1, 3, .ifCond .lt 15, [16], [], none),
  (4, 1, .iload_n 1, [1], [], none),
  (5, 1, .aload_n 0, [0], [], none),
  (6, 3, .getfield 31, [6, 5], [], none),
  (9, 3, .if_icmp .ge 7, [16], [], none),
  (12, 1, .iconst 1, [], [.int 1], none),
  (13, 3, .goto 4, [17], [], none),
  (16, 1, .iconst 0, [], [.int 0], some []),
  (17, 1, .ireturn, [1], [], some [])]
def jx_M16 : jx_M := (⟨"FairByEar$Mine", "isPerson", "(I)Z"⟩, prog_7_method_3_code, 2, (some .boolean), false, 0, jx_C16)
def jx_C17 : List jx_El := [(0, 1, .aload_n 0, [0], [], none),
  (1, 3, .getfield 27, [5, 5], [], none),
  (4, 1, .ireturn, [], [], none)]
def jx_M17 : jx_M := (⟨"FairByEar$Mine", "tunnels", "()I"⟩, prog_7_method_4_code, 1, (some .int), false, 0, jx_C17)
def jx_C18 : List jx_El := [(0, 1, .aload_n 0, [0], [], none),
  (1, 3, .getfield 31, [6, 5], [], none),
  (4, 1, .ireturn, [], [], none)]
def jx_M18 : jx_M := (⟨"FairByEar$Mine", "people", "()I"⟩, prog_7_method_5_code, 1, (some .int), false, 0, jx_C18)
def jx_C19 : List jx_El := [(0, 1, .aload_n 0, [0], [], none),
  (1, 1, .iload_n 1, [1], [], none),
  (2, 3, .invokevirtual 40, [15, 0, 1, 2, 5], [], none),
  (5, 3, .ifCond .eq 16, [21], [], none),
  (8, 1, .aload_n 0, [0], [], none),
  (9, 1, .iload_n 2, [2], [], none),
  (10, 3, .invokevirtual 40, [15, 0, 1, 2, 5], [], none),
  (13, 3, .ifCond .eq 8, [21], [], none),
  (16, 1, .iload_n 1, [1], [], none),
  (17, 1, .iload_n 2, [2], [], none),
  (18, 3, .if_icmp .ne 5, [23], [], none),
  (21, 1, .iconst (-1), [], [.int (-1)], some []),
  (22, 1, .ireturn, [], [], none),
  (23, 1, .iload_n 3, [3], [], none),
  (24, 1, .iconst 1, [], [.int 1], none),
  (25, 2, .bipush 20, [], [.int 20], none),
  (27, 3, .invokestatic 44, [215, 0, 1, 3], [], none),
  (30, 3, .ifCond .eq 12, [42], [], none),
  (33, 1, .aload_n 0, [0], [], none),
  (34, 3, .getfield 27, [5, 5], [], none),
  (37, 2, .bipush 16, [], [.int 16], none),
  (39, 3, .if_icmp .lt 5, [44], [], none),
  (42, 1, .iconst (-1), [], [.int (-1)], some []),
  (43, 1, .ireturn, [], [], none),
  (44, 1, .iconst 0, [], [.int 0], none),
  (45, 2, .istore 4, [4], [], none),
  (47, 2, .iload 4, [4], [], some [0, 1, 2, 3, 4]),
  (49, 2, .bipush 10, [], [.int 10], none),
  (51, 3, .if_icmp .ge 98, [149], [], none),
  (54, 1, .iconst 0, [], [.int 0], none),
  (55, 2, .istore 5, [5], [], none),
  (57, 2, .iload 5, [5], [], some [0, 1, 2, 3, 4, 5]),
  (59, 2, .bipush 10, [], [.int 10], none),
  (61, 3, .if_icmp .ge 82, [143], [], none),
  (64, 1, .aload_n 0, [0], [], none),
  (65, 2, .iload 4, [4], [], none),
  (67, 1, .iload_n 1, [1], [], none),
  (68, 3, .invokevirtual 48, [20, 0, 1, 3, 5], [], none),
  (71, 1, .iload_n 3, [3], [], none),
  (72, 1, .iadd, [], [], none),
  (73, 1, .aload_n 0, [0], [], none),
  (74, 1, .iload_n 2, [2], [], none),
  (75, 2, .iload 5, [5], [], none),
  (77, 3, .invokevirtual 48, [20, 0, 1, 3, 5], [], none),
  (80, 1, .iadd, [], [], none),
  (81, 2, .istore 6, [6], [], none),
  (83, 1, .aload_n 0, [0], [], none),
  (84, 2, .iload 4, [4], [], none),
  (86, 1, .iload_n 2, [2], [], none),
  (87, 3, .invokevirtual 48, [20, 0, 1, 3, 5], [], none),
  (90, 1, .iload_n 3, [3], [], none),
  (91, 1, .iadd, [], [], none),
  (92, 1, .aload_n 0, [0], [], none),
  (93, 1, .iload_n 1, [1], [], none),
  (94, 2, .iload 5, [5], [], none),
  (96, 3, .invokevirtual 48, [20, 0, 1, 3, 5], [], none),
  (99, 1, .iadd, [], [], none),
  (100, 2, .istore 7, [7], [], none),
  (102, 1, .aload_n 0, [0], [], none),
  (103, 2, .iload 4, [4], [], none),
  (105, 2, .iload 5, [5], [], none),
  (107, 3, .invokevirtual 48, [20, 0, 1, 3, 5], [], none),
  (110, 2, .istore 8, [8], [], none),
  (112, 1, .aload_n 0, [0], [], none),
  (113, 3, .getfield 9, [0, 5], [], none),
  (116, 2, .iload 4, [4], [], none),
  (118, 2, .bipush 10, [], [.int 10], none),
  (120, 1, .imul, [], [], none),
  (121, 2, .iload 5, [5], [], none),
  (123, 1, .iadd, [], [], none),
  (124, 2, .iload 8, [8], [], none),
  (126, 2, .iload 6, [6], [], none),
  (128, 2, .iload 7, [7], [], none),
  (130, 3, .invokestatic 52, [2, 0, 1, 2], [], none),
  (133, 3, .invokestatic 52, [2, 0, 1, 2], [], none),
  (136, 1, .iastore, [], [], none),
  (137, 3, .iinc 5 1, [5], [.int 1], none),
  (140, 3, .goto (-83), [57], [], none),
  (143, 3, .iinc 4 1, [4], [.int 1], none),
  (146, 3, .goto (-99), [47], [], none),
  (149, 1, .aload_n 0, [0], [], none),
  (150, 1, .dup, [], [], none),
  (151, 3, .getfield 27, [5, 5], [], none),
  (154, 1, .iconst 1, [], [.int 1], none),
  (155, 1, .iadd, [], [], none),
  (156, 3, .putfield 27, [5, 5, 0], [], none),
  (159, 1, .aload_n 0, [0], [], none),
  (160, 3, .getfield 27, [5, 5], [], none),
  (163, 1, .iconst 1, [], [.int 1], none),
  (164, 1, .isub, [], [], none),
  (165, 1, .ireturn, [], [], none)]
def jx_M19 : jx_M := (⟨"FairByEar$Mine", "addTunnel", "(III)I"⟩, prog_7_method_6_code, 9, (some .int), false, 2, jx_C19)
def jx_C20 : List jx_El := [(0, 1, .aload_n 0, [0], [], none),
  (1, 1, .iload_n 1, [1], [], none),
  (2, 3, .invokevirtual 40, [15, 0, 1, 2, 5], [], none),
  (5, 3, .ifCond .eq 25, [30], [], none),
  (8, 1, .aload_n 0, [0], [], none),
  (9, 1, .iload_n 2, [2], [], none),
  (10, 3, .invokevirtual 40, [15, 0, 1, 2, 5], [], none),
  (13, 3, .ifCond .eq 17, [30], [], none),
  (16, 1, .aload_n 0, [0], [], none),
  (17, 3, .getfield 9, [0, 5], [], none),
  (20, 1, .iload_n 1, [1], [], none),
  (21, 2, .bipush 10, [], [.int 10], none),
  (23, 1, .imul, [], [], none),
  (24, 1, .iload_n 2, [2], [], none),
  (25, 1, .iadd, [], [], none),
  (26, 1, .iaload, [], [], none),
  (27, 3, .goto 6, [33], [], none),
  (30, 3, .sipush 999, [], [.int 999], some []),
  (33, 1, .ireturn, [], [], some [])]
def jx_M20 : jx_M := (⟨"FairByEar$Mine", "distance", "(II)I"⟩, prog_7_method_7_code, 3, (some .int), false, 1, jx_C20)
def jx_C21 : List jx_El := [(0, 1, .aload_n 0, [0], [], none),
  (1, 1, .iload_n 1, [1], [], none),
  (2, 1, .iload_n 2, [2], [], none),
  (3, 3, .invokevirtual 48, [20, 0, 1, 3, 5], [], none),
  (6, 3, .sipush 999, [], [.int 999], none),
  (9, 3, .if_icmp .ge 7, [16], [], none),
  (12, 1, .iconst 1, [], [.int 1], none),
  (13, 3, .goto 4, [17], [], none),
  (16, 1, .iconst 0, [], [.int 0], none),
  (17, 1, .ireturn, [1], [], some [])]
def jx_M21 : jx_M := (⟨"FairByEar$Mine", "joined", "(II)Z"⟩, prog_7_method_8_code, 3, (some .boolean), false, 2, jx_C21)
def jx_C22 : List jx_El := [(0, 1, .aload_n 0, [0], [], none),
  (1, 1, .iload_n 1, [1], [], none),
  (2, 3, .invokevirtual 40, [15, 0, 1, 2, 5], [], none),
  (5, 3, .ifCond .eq 13, [18], [], none),
  (8, 1, .iload_n 2, [2], [], none),
  (9, 1, .iconst 0, [], [.int 0], none),
  (10, 2, .bipush 20, [], [.int 20], none),
  (12, 3, .invokestatic 44, [215, 0, 1, 3], [], none),
  (15, 3, .ifCond .ne 5, [20], [], none),
  (18, 1, .iconst (-1), [], [.int (-1)], some []),
  (19, 1, .ireturn, [], [], none),
  (20, 1, .aload_n 0, [0], [], none),
  (21, 3, .getfield 15, [1, 5], [], none),
  (24, 1, .iload_n 1, [1], [], none),
  (25, 1, .iaload, [], [], none),
  (26, 1, .istore_n 3, [3], [], none),
  (27, 1, .aload_n 0, [0], [], none),
  (28, 3, .getfield 15, [1, 5], [], none),
  (31, 1, .iload_n 1, [1], [], none),
  (32, 1, .iload_n 2, [2], [], none),
  (33, 1, .iastore, [], [], none),
  (34, 1, .iload_n 3, [3], [], none),
  (35, 1, .ireturn, [], [], none)]
def jx_M22 : jx_M := (⟨"FairByEar$Mine", "setWall", "(II)I"⟩, prog_7_method_9_code, 4, (some .int), false, 1, jx_C22)
def jx_C23 : List jx_El := [(0, 1, .aload_n 0, [0], [], none),
  (1, 1, .iload_n 1, [1], [], none),
  (2, 3, .invokevirtual 40, [15, 0, 1, 2, 5], [], none),
  (5, 3, .ifCond .eq 12, [17], [], none),
  (8, 1, .aload_n 0, [0], [], none),
  (9, 3, .getfield 15, [1, 5], [], none),
  (12, 1, .iload_n 1, [1], [], none),
  (13, 1, .iaload, [], [], none),
  (14, 3, .goto 4, [18], [], none),
  (17, 1, .iconst 0, [], [.int 0], none),
  (18, 1, .ireturn, [], [], some [])]
def jx_M23 : jx_M := (⟨"FairByEar$Mine", "wallOf", "(I)I"⟩, prog_7_method_10_code, 2, (some .int), false, 1, jx_C23)
def jx_C24 : List jx_El := [(0, 1, .aload_n 0, [0], [], none),
  (1, 1, .iload_n 1, [1], [], none),
  (2, 3, .invokevirtual 40, [15, 0, 1, 2, 5], [], none),
  (5, 3, .ifCond .eq 24, [29], [], none),
  (8, 1, .iload_n 2, [2], [], none),
  (9, 1, .iconst 0, [], [.int 0], none),
  (10, 3, .sipush 999, [], [.int 999], none),
  (13, 3, .invokestatic 44, [215, 0, 1, 3], [], none),
  (16, 3, .ifCond .eq 13, [29], [], none),
  (19, 1, .iload_n 3, [3], [], none),
  (20, 1, .iconst 0, [], [.int 0], none),
  (21, 2, .bipush 9, [], [.int 9], none),
  (23, 3, .invokestatic 44, [215, 0, 1, 3], [], none),
  (26, 3, .ifCond .ne 5, [31], [], none),
  (29, 1, .iconst (-1), [], [.int (-1)], some []),
  (30, 1, .ireturn, [], [], none),
  (31, 1, .aload_n 0, [0], [], none),
  (32, 3, .getfield 31, [6, 5], [], none),
  (35, 2, .bipush 8, [], [.int 8], none),
  (37, 3, .if_icmp .lt 5, [42], [], none),
  (40, 1, .iconst (-1), [], [.int (-1)], none),
  (41, 1, .ireturn, [], [], none),
  (42, 1, .aload_n 0, [0], [], none),
  (43, 3, .getfield 18, [2, 5], [], none),
  (46, 1, .aload_n 0, [0], [], none),
  (47, 3, .getfield 31, [6, 5], [], none),
  (50, 1, .iload_n 1, [1], [], none),
  (51, 1, .iastore, [], [], none),
  (52, 1, .aload_n 0, [0], [], none),
  (53, 3, .getfield 21, [3, 5], [], none),
  (56, 1, .aload_n 0, [0], [], none),
  (57, 3, .getfield 31, [6, 5], [], none),
  (60, 1, .iload_n 2, [2], [], none),
  (61, 1, .iastore, [], [], none),
  (62, 1, .aload_n 0, [0], [], none),
  (63, 3, .getfield 24, [4, 5], [], none),
  (66, 1, .aload_n 0, [0], [], none),
  (67, 3, .getfield 31, [6, 5], [], none),
  (70, 1, .iload_n 3, [3], [], none),
  (71, 1, .iastore, [], [], none),
  (72, 1, .aload_n 0, [0], [], none),
  (73, 1, .dup, [], [], none),
  (74, 3, .getfield 31, [6, 5], [], none),
  (77, 1, .iconst 1, [], [.int 1], none),
  (78, 1, .iadd, [], [], none),
  (79, 3, .putfield 31, [6, 5, 0], [], none),
  (82, 1, .aload_n 0, [0], [], none),
  (83, 3, .getfield 31, [6, 5], [], none),
  (86, 1, .iconst 1, [], [.int 1], none),
  (87, 1, .isub, [], [], none),
  (88, 1, .ireturn, [], [], none)]
def jx_M24 : jx_M := (⟨"FairByEar$Mine", "addPerson", "(III)I"⟩, prog_7_method_11_code, 4, (some .int), false, 1, jx_C24)
def jx_C25 : List jx_El := [(0, 1, .aload_n 0, [0], [], none),
  (1, 1, .iload_n 1, [1], [], none),
  (2, 3, .invokevirtual 57, [16, 0, 1, 2, 5], [], none),
  (5, 3, .ifCond .eq 11, [16], [], none),
  (8, 1, .aload_n 0, [0], [], none),
  (9, 1, .iload_n 2, [2], [], none),
  (10, 3, .invokevirtual 40, [15, 0, 1, 2, 5], [], none),
  (13, 3, .ifCond .ne 5, [18], [], none),
  (16, 1, .iconst (-1), [], [.int (-1)], some []),
  (17, 1, .ireturn, [], [], none),
  (18, 1, .aload_n 0, [0], [], none),
  (19, 1, .aload_n 0, [0], [], none),
  (20, 3, .getfield 18, [2, 5], [], none),
  (23, 1, .iload_n 1, [1], [], none),
  (24, 1, .iaload, [], [], none),
  (25, 1, .iload_n 2, [2], [], none),
  (26, 3, .invokevirtual 48, [20, 0, 1, 3, 5], [], none),
  (29, 1, .istore_n 3, [3], [], none),
  (30, 1, .iload_n 3, [3], [], none),
  (31, 3, .sipush 999, [], [.int 999], none),
  (34, 3, .if_icmp .lt 6, [40], [], none),
  (37, 2, .bipush (-2), [], [.int (-2)], none),
  (39, 1, .ireturn, [], [], none),
  (40, 1, .aload_n 0, [0], [], none),
  (41, 3, .getfield 18, [2, 5], [], none),
  (44, 1, .iload_n 1, [1], [], none),
  (45, 1, .iload_n 2, [2], [], none),
  (46, 1, .iastore, [], [], none),
  (47, 1, .iload_n 3, [3], [], none),
  (48, 1, .ireturn, [], [], none)]
def jx_M25 : jx_M := (⟨"FairByEar$Mine", "move", "(II)I"⟩, prog_7_method_12_code, 4, (some .int), false, 2, jx_C25)
def jx_C26 : List jx_El := [(0, 1, .aload_n 0, [0], [], none),
  (1, 1, .iload_n 1, [1], [], none),
  (2, 3, .invokevirtual 57, [16, 0, 1, 2, 5], [], none),
  (5, 3, .ifCond .eq 12, [17], [], none),
  (8, 1, .aload_n 0, [0], [], none),
  (9, 3, .getfield 18, [2, 5], [], none),
  (12, 1, .iload_n 1, [1], [], none),
  (13, 1, .iaload, [], [], none),
  (14, 3, .goto 4, [18], [], none),
  (17, 1, .iconst 0, [], [.int 0], none),
  (18, 1, .ireturn, [], [], some [])]
def jx_M26 : jx_M := (⟨"FairByEar$Mine", "placeOf", "(I)I"⟩, prog_7_method_13_code, 2, (some .int), false, 1, jx_C26)
def jx_C27 : List jx_El := [(0, 1, .aload_n 0, [0], [], none),
  (1, 1, .iload_n 1, [1], [], none),
  (2, 3, .invokevirtual 57, [16, 0, 1, 2, 5], [], none),
  (5, 3, .ifCond .eq 12, [17], [], none),
  (8, 1, .aload_n 0, [0], [], none),
  (9, 3, .getfield 21, [3, 5], [], none),
  (12, 1, .iload_n 1, [1], [], none),
  (13, 1, .iaload, [], [], none),
  (14, 3, .goto 4, [18], [], none),
  (17, 1, .iconst 0, [], [.int 0], none),
  (18, 1, .ireturn, [], [], some [])]
def jx_M27 : jx_M := (⟨"FairByEar$Mine", "purseOf", "(I)I"⟩, prog_7_method_14_code, 2, (some .int), false, 1, jx_C27)
def jx_C28 : List jx_El := [(0, 1, .aload_n 0, [0], [], none),
  (1, 1, .iload_n 1, [1], [], none),
  (2, 3, .invokevirtual 57, [16, 0, 1, 2, 5], [], none),
  (5, 3, .ifCond .eq 16, [21], [], none),
  (8, 1, .aload_n 0, [0], [], none),
  (9, 3, .getfield 21, [3, 5], [], none),
  (12, 1, .iload_n 1, [1], [], none),
  (13, 1, .iload_n 2, [2], [], none),
  (14, 3, .sipush 999, [], [.int 999], none),
  (17, 3, .invokestatic 52, [2, 0, 1, 2], [], none),
  (20, 1, .iastore, [], [], none),
  (21, 1, .return_, [], [], some [])]
def jx_M28 : jx_M := (⟨"FairByEar$Mine", "setPurse", "(II)V"⟩, prog_7_method_15_code, 3, none, false, 1, jx_C28)
def jx_C29 : List jx_El := [(0, 1, .aload_n 0, [0], [], none),
  (1, 1, .iload_n 1, [1], [], none),
  (2, 3, .invokevirtual 57, [16, 0, 1, 2, 5], [], none),
  (5, 3, .ifCond .eq 12, [17], [], none),
  (8, 1, .aload_n 0, [0], [], none),
  (9, 3, .getfield 24, [4, 5], [], none),
  (12, 1, .iload_n 1, [1], [], none),
  (13, 1, .iaload, [], [], none),
  (14, 3, .goto 4, [18], [], none),
  (17, 1, .iconst 0, [], [.int 0], none),
  (18, 1, .ireturn, [], [], some [])]
def jx_M29 : jx_M := (⟨"FairByEar$Mine", "loadOf", "(I)I"⟩, prog_7_method_16_code, 2, (some .int), false, 1, jx_C29)
def jx_C30 : List jx_El := [(0, 1, .aload_n 0, [0], [], none),
  (1, 1, .iconst 0, [], [.int 0], none),
  (2, 1, .aload_n 0, [0], [], none),
  (3, 1, .iload_n 1, [1], [], none),
  (4, 3, .invokevirtual 60, [26, 0, 1, 2, 5], [], none),
  (7, 3, .invokevirtual 48, [20, 0, 1, 3, 5], [], none),
  (10, 1, .ireturn, [], [], none)]
def jx_M30 : jx_M := (⟨"FairByEar$Mine", "farOut", "(I)I"⟩, prog_7_method_17_code, 2, (some .int), false, 2, jx_C30)
def jx_C31 : List jx_El := [(0, 1, .iconst 0, [], [.int 0], none),
  (1, 1, .istore_n 2, [2], [], none),
  (2, 1, .iconst 0, [], [.int 0], none),
  (3, 1, .istore_n 3, [3], [], none),
  (4, 1, .iload_n 3, [3], [], some [0, 1, 2, 3]),
  (5, 1, .aload_n 0, [0], [], none),
  (6, 3, .getfield 31, [6, 5], [], none),
  (9, 3, .if_icmp .ge 22, [31], [], none),
  (12, 1, .aload_n 0, [0], [], none),
  (13, 3, .getfield 18, [2, 5], [], none),
  (16, 1, .iload_n 3, [3], [], none),
  (17, 1, .iaload, [], [], none),
  (18, 1, .iload_n 1, [1], [], none),
  (19, 3, .if_icmp .ne 6, [25], [], none),
  (22, 3, .iinc 2 1, [2], [.int 1], none),
  (25, 3, .iinc 3 1, [3], [.int 1], some [0, 1, 2, 3]),
  (28, 3, .goto (-24), [4], [], none),
  (31, 1, .iload_n 2, [2], [], none),
  (32, 1, .ireturn, [], [], none)]
def jx_M31 : jx_M := (⟨"FairByEar$Mine", "peopleAt", "(I)I"⟩, prog_7_method_18_code, 4, (some .int), false, 0, jx_C31)
def jx_C32 : List jx_El := [(0, 1, .iconst 0, [], [.int 0], none),
  (1, 1, .istore_n 3, [3], [], none),
  (2, 1, .iconst 0, [], [.int 0], none),
  (3, 2, .istore 4, [4], [], none),
  (5, 2, .iload 4, [4], [], some [0, 1, 2, 3, 4]),
  (7, 1, .aload_n 0, [0], [], none),
  (8, 3, .getfield 31, [6, 5], [], none),
  (11, 3, .if_icmp .ge 32, [43], [], none),
  (14, 1, .aload_n 0, [0], [], none),
  (15, 1, .iload_n 1, [1], [], none),
  (16, 1, .aload_n 0, [0], [], none),
  (17, 3, .getfield 18, [2, 5], [], none),
  (20, 2, .iload 4, [4], [], none),
  (22, 1, .iaload, [], [], none),
  (23, 3, .invokevirtual 48, [20, 0, 1, 3, 5], [], none),
  (26, 1, .iload_n 2, [2], [], none),
  (27, 3, .if_icmp .gt 10, [37], [], none),
  (30, 1, .iload_n 3, [3], [], none),
  (31, 1, .iconst 1, [], [.int 1], none),
  (32, 2, .iload 4, [4], [], none),
  (34, 1, .ishl, [], [], none),
  (35, 1, .ior, [], [], none),
  (36, 1, .istore_n 3, [3], [], none),
  (37, 3, .iinc 4 1, [4], [.int 1], some [0, 1, 2, 3, 4]),
  (40, 3, .goto (-35), [5], [], none),
  (43, 1, .iload_n 3, [3], [], none),
  (44, 1, .ireturn, [], [], none)]
def jx_M32 : jx_M := (⟨"FairByEar$Mine", "peopleNear", "(II)I"⟩, prog_7_method_19_code, 5, (some .int), false, 2, jx_C32)
def jx_C33 : List jx_El := [(0, 1, .aload_n 0, [0], [], none),
  (1, 3, .getfield 21, [3, 5], [], none),
  (4, 1, .iconst 0, [], [.int 0], none),
  (5, 3, .invokestatic 34, [5, 0, 0, 2], [], none),
  (8, 1, .return_, [], [], none)]
def jx_M33 : jx_M := (⟨"FairByEar$Mine", "dropPurses", "()V"⟩, prog_7_method_20_code, 1, none, false, 1, jx_C33)
def jx_C34 : List jx_El := [(0, 1, .iconst 0, [], [.int 0], none),
  (1, 1, .istore_n 1, [1], [], none),
  (2, 1, .iconst 0, [], [.int 0], none),
  (3, 1, .istore_n 2, [2], [], none),
  (4, 1, .iload_n 2, [2], [], some [0, 1, 2]),
  (5, 1, .aload_n 0, [0], [], none),
  (6, 3, .getfield 31, [6, 5], [], none),
  (9, 3, .if_icmp .ge 18, [27], [], none),
  (12, 1, .iload_n 1, [1], [], none),
  (13, 1, .aload_n 0, [0], [], none),
  (14, 3, .getfield 21, [3, 5], [], none),
  (17, 1, .iload_n 2, [2], [], none),
  (18, 1, .iaload, [], [], none),
  (19, 1, .iadd, [], [], none),
  (20, 1, .istore_n 1, [1], [], none),
  (21, 3, .iinc 2 1, [2], [.int 1], none),
  (24, 3, .goto (-20), [4], [], none),
  (27, 1, .iload_n 1, [1], [], none),
  (28, 1, .ireturn, [], [], none)]
def jx_M34 : jx_M := (⟨"FairByEar$Mine", "allPurses", "()I"⟩, prog_7_method_21_code, 3, (some .int), false, 0, jx_C34)
def jx_C35 : List jx_El := [(0, 1, .aload_n 0, [0], [], none),
  (1, 3, .getfield 24, [4, 3], [], none),
  (4, 1, .ireturn, [], [], none)]
def jx_M35 : jx_M := (⟨"FairByEar$Goods", "goods", "()I"⟩, prog_5_method_2_code, 1, (some .int), false, 0, jx_C35)
def jx_C36 : List jx_El := [(0, 1, .aload_n 0, [0], [], none),
  (1, 3, .getfield 28, [5, 3], [], none),
  (4, 1, .ireturn, [], [], none)]
def jx_M36 : jx_M := (⟨"FairByEar$Goods", "tests", "()I"⟩, prog_5_method_3_code, 1, (some .int), false, 0, jx_C36)
def jx_C37 : List jx_El := [(0, 1, .iload_n 1, [1], [], none),
  (1, 3, .ifCond .lt 15, [16], [], none),
  (4, 1, .iload_n 1, [1], [], none),
  (5, 1, .aload_n 0, [0], [], none),
  (6, 3, .getfield 24, [4, 3], [], none),
  (9, 3, .if_icmp .ge 7, [16], [], none),
  (12, 1, .iconst 1, [], [.int 1], none),
  (13, 3, .goto 4, [17], [], none),
  (16, 1, .iconst 0, [], [.int 0], some []),
  (17, 1, .ireturn, [1], [], some [])]
def jx_M37 : jx_M := (⟨"FairByEar$Goods", "isGood", "(I)Z"⟩, prog_5_method_4_code, 2, (some .boolean), false, 0, jx_C37)
def jx_C38 : List jx_El := [(0, 1, .iload_n 1, [1], [], none),
  (1, 3, .ifCond .lt 15, [16], [], none),
  (4, 1, .iload_n 1, [1], [], none),
  (5, 1, .aload_n 0, [0], [], none),
  (6, 3, .getfield 28, [5, 3], [], none),
  (9, 3, .if_icmp .ge 7, [16], [], none),
  (12, 1, .iconst 1, [], [.int 1], none),
  (13, 3, .goto 4, [17], [], none),
  (16, 1, .iconst 0, [], [.int 0], some []),
  (17, 1, .ireturn, [1], [], some [])]
def jx_M38 : jx_M := (⟨"FairByEar$Goods", "isTest", "(I)Z"⟩, prog_5_method_5_code, 2, (some .boolean), false, 0, jx_C38)
def jx_C39 : List jx_El := [(0, 1, .iload_n 1, [1], [], none),
  (1, 1, .iconst 1, [], [.int 1], none),
  (2, 3, .if_icmp .lt 17, [19], [], none),
  (5, 1, .iload_n 1, [1], [], none),
  (6, 1, .iconst 1, [], [.int 1], none),
  (7, 1, .aload_n 0, [0], [], none),
  (8, 3, .getfield 24, [4, 3], [], none),
  (11, 1, .ishl, [], [], none),
  (12, 3, .if_icmp .ge 7, [19], [], none),
  (15, 1, .iconst 1, [], [.int 1], none),
  (16, 3, .goto 4, [20], [], none),
  (19, 1, .iconst 0, [], [.int 0], some []),
  (20, 1, .ireturn, [1], [], some [])]
def jx_M39 : jx_M := (⟨"FairByEar$Goods", "areGoods", "(I)Z"⟩, prog_5_method_6_code, 2, (some .boolean), false, 0, jx_C39)
def jx_C40 : List jx_El := [(0, 1, .iload_n 1, [1], [], none),
  (1, 3, .ifCond .lt 17, [18], [], none),
  (4, 1, .iload_n 1, [1], [], none),
  (5, 1, .iconst 1, [], [.int 1], none),
  (6, 1, .aload_n 0, [0], [], none),
  (7, 3, .getfield 28, [5, 3], [], none),
  (10, 1, .ishl, [], [], none),
  (11, 3, .if_icmp .ge 7, [18], [], none),
  (14, 1, .iconst 1, [], [.int 1], none),
  (15, 3, .goto 4, [19], [], none),
  (18, 1, .iconst 0, [], [.int 0], some []),
  (19, 1, .ireturn, [1], [], some [])]
def jx_M40 : jx_M := (⟨"FairByEar$Goods", "areTests", "(I)Z"⟩, prog_5_method_7_code, 2, (some .boolean), false, 0, jx_C40)
def jx_C41 : List jx_El := [(0, 1, .iload_n 1, [1], [], none),
  (1, 1, .iconst 1, [], [.int 1], none),
  (2, 2, .bipush 9, [], [.int 9], none),
  (4, 3, .invokestatic 31, [215, 0, 1, 3], [], none),
  (7, 3, .ifCond .eq 12, [19], [], none),
  (10, 1, .aload_n 0, [0], [], none),
  (11, 3, .getfield 24, [4, 3], [], none),
  (14, 2, .bipush 10, [], [.int 10], none),
  (16, 3, .if_icmp .lt 5, [21], [], none),
  (19, 1, .iconst (-1), [], [.int (-1)], some []),
  (20, 1, .ireturn, [], [], none),
  (21, 1, .aload_n 0, [0], [], none),
  (22, 3, .getfield 9, [0, 3], [], none),
  (25, 1, .aload_n 0, [0], [], none),
  (26, 3, .getfield 24, [4, 3], [], none),
  (29, 1, .iload_n 1, [1], [], none),
  (30, 1, .iastore, [], [], none),
  (31, 1, .iconst 0, [], [.int 0], none),
  (32, 1, .istore_n 2, [2], [], none),
  (33, 1, .iload_n 2, [2], [], some [0, 2]),
  (34, 2, .bipush 6, [], [.int 6], none),
  (36, 3, .if_icmp .ge 27, [63], [], none),
  (39, 1, .aload_n 0, [0], [], none),
  (40, 3, .getfield 21, [3, 3], [], none),
  (43, 1, .iload_n 2, [2], [], none),
  (44, 2, .bipush 10, [], [.int 10], none),
  (46, 1, .imul, [], [], none),
  (47, 1, .dup2, [], [], none),
  (48, 1, .iaload, [], [], none),
  (49, 1, .iconst 1, [], [.int 1], none),
  (50, 1, .aload_n 0, [0], [], none),
  (51, 3, .getfield 24, [4, 3], [], none),
  (54, 1, .ishl, [], [], none),
  (55, 1, .ior, [], [], none),
  (56, 1, .iastore, [], [], none),
  (57, 3, .iinc 2 1, [2], [.int 1], none),
  (60, 3, .goto (-27), [33], [], none),
  (63, 1, .aload_n 0, [0], [], none),
  (64, 1, .dup, [], [], none),
  (65, 3, .getfield 24, [4, 3], [], none),
  (68, 1, .iconst 1, [], [.int 1], none),
  (69, 1, .iadd, [], [], none),
  (70, 3, .putfield 24, [4, 3, 0], [], none),
  (73, 1, .aload_n 0, [0], [], none),
  (74, 3, .getfield 24, [4, 3], [], none),
  (77, 1, .iconst 1, [], [.int 1], none),
  (78, 1, .isub, [], [], none),
  (79, 1, .ireturn, [], [], none)]
def jx_M41 : jx_M := (⟨"FairByEar$Goods", "addGood", "(I)I"⟩, prog_5_method_8_code, 3, (some .int), false, 1, jx_C41)
def jx_C42 : List jx_El := [(0, 1, .iload_n 1, [1], [], none),
  (1, 1, .iconst 1, [], [.int 1], none),
  (2, 2, .bipush 9, [], [.int 9], none),
  (4, 3, .invokestatic 31, [215, 0, 1, 3], [], none),
  (7, 3, .ifCond .eq 12, [19], [], none),
  (10, 1, .aload_n 0, [0], [], none),
  (11, 3, .getfield 28, [5, 3], [], none),
  (14, 2, .bipush 6, [], [.int 6], none),
  (16, 3, .if_icmp .lt 5, [21], [], none),
  (19, 1, .iconst (-1), [], [.int (-1)], some []),
  (20, 1, .ireturn, [], [], none),
  (21, 1, .aload_n 0, [0], [], none),
  (22, 3, .getfield 15, [1, 3], [], none),
  (25, 1, .aload_n 0, [0], [], none),
  (26, 3, .getfield 28, [5, 3], [], none),
  (29, 1, .iload_n 1, [1], [], none),
  (30, 1, .iastore, [], [], none),
  (31, 1, .aload_n 0, [0], [], none),
  (32, 1, .dup, [], [], none),
  (33, 3, .getfield 28, [5, 3], [], none),
  (36, 1, .iconst 1, [], [.int 1], none),
  (37, 1, .iadd, [], [], none),
  (38, 3, .putfield 28, [5, 3, 0], [], none),
  (41, 1, .aload_n 0, [0], [], none),
  (42, 3, .getfield 28, [5, 3], [], none),
  (45, 1, .iconst 1, [], [.int 1], none),
  (46, 1, .isub, [], [], none),
  (47, 1, .ireturn, [], [], none)]
def jx_M42 : jx_M := (⟨"FairByEar$Goods", "addTest", "(I)I"⟩, prog_5_method_9_code, 2, (some .int), false, 1, jx_C42)
def jx_C43 : List jx_El := [(0, 1, .aload_n 0, [0], [], none),
  (1, 1, .iload_n 1, [1], [], none),
  (2, 3, .invokevirtual 35, [38, 0, 1, 2, 3], [], none),
  (5, 3, .ifCond .eq 12, [17], [], none),
  (8, 1, .aload_n 0, [0], [], none),
  (9, 3, .getfield 15, [1, 3], [], none),
  (12, 1, .iload_n 1, [1], [], none),
  (13, 1, .iaload, [], [], none),
  (14, 3, .goto 4, [18], [], none),
  (17, 1, .iconst 0, [], [.int 0], none),
  (18, 1, .ireturn, [], [], some [])]
def jx_M43 : jx_M := (⟨"FairByEar$Goods", "costOf", "(I)I"⟩, prog_5_method_10_code, 2, (some .int), false, 1, jx_C43)
def jx_C44 : List jx_El := [(0, 1, .aload_n 0, [0], [], none),
  (1, 1, .iload_n 1, [1], [], none),
  (2, 3, .invokevirtual 39, [37, 0, 1, 2, 3], [], none),
  (5, 3, .ifCond .eq 25, [30], [], none),
  (8, 1, .aload_n 0, [0], [], none),
  (9, 1, .iload_n 2, [2], [], none),
  (10, 3, .invokevirtual 35, [38, 0, 1, 2, 3], [], none),
  (13, 3, .ifCond .eq 17, [30], [], none),
  (16, 1, .aload_n 0, [0], [], none),
  (17, 3, .getfield 18, [2, 3], [], none),
  (20, 1, .iload_n 1, [1], [], none),
  (21, 2, .bipush 6, [], [.int 6], none),
  (23, 1, .imul, [], [], none),
  (24, 1, .iload_n 2, [2], [], none),
  (25, 1, .iadd, [], [], none),
  (26, 1, .iaload, [], [], none),
  (27, 3, .goto 4, [31], [], none),
  (30, 1, .iconst 0, [], [.int 0], some []),
  (31, 1, .ireturn, [], [], some [])]
def jx_M44 : jx_M := (⟨"FairByEar$Goods", "answerOf", "(II)I"⟩, prog_5_method_11_code, 3, (some .int), false, 1, jx_C44)
def jx_C45 : List jx_El := [(0, 1, .aload_n 0, [0], [], none),
  (1, 1, .iload_n 1, [1], [], none),
  (2, 3, .invokevirtual 39, [37, 0, 1, 2, 3], [], none),
  (5, 3, .ifCond .eq 21, [26], [], none),
  (8, 1, .aload_n 0, [0], [], none),
  (9, 1, .iload_n 2, [2], [], none),
  (10, 3, .invokevirtual 35, [38, 0, 1, 2, 3], [], none),
  (13, 3, .ifCond .eq 13, [26], [], none),
  (16, 1, .iload_n 3, [3], [], none),
  (17, 1, .iconst 0, [], [.int 0], none),
  (18, 2, .bipush 9, [], [.int 9], none),
  (20, 3, .invokestatic 31, [215, 0, 1, 3], [], none),
  (23, 3, .ifCond .ne 5, [28], [], none),
  (26, 1, .iconst (-1), [], [.int (-1)], some []),
  (27, 1, .ireturn, [], [], none),
  (28, 1, .aload_n 0, [0], [], none),
  (29, 3, .getfield 18, [2, 3], [], none),
  (32, 1, .iload_n 1, [1], [], none),
  (33, 2, .bipush 6, [], [.int 6], none),
  (35, 1, .imul, [], [], none),
  (36, 1, .iload_n 2, [2], [], none),
  (37, 1, .iadd, [], [], none),
  (38, 1, .iaload, [], [], none),
  (39, 2, .istore 4, [4], [], none),
  (41, 1, .aload_n 0, [0], [], none),
  (42, 3, .getfield 21, [3, 3], [], none),
  (45, 1, .iload_n 2, [2], [], none),
  (46, 2, .bipush 10, [], [.int 10], none),
  (48, 1, .imul, [], [], none),
  (49, 2, .iload 4, [4], [], none),
  (51, 1, .iadd, [], [], none),
  (52, 1, .dup2, [], [], none),
  (53, 1, .iaload, [], [], none),
  (54, 1, .iconst 1, [], [.int 1], none),
  (55, 1, .iload_n 1, [1], [], none),
  (56, 1, .ishl, [], [], none),
  (57, 1, .iconst (-1), [], [.int (-1)], none),
  (58, 1, .ixor, [], [], none),
  (59, 1, .iand, [], [], none),
  (60, 1, .iastore, [], [], none),
  (61, 1, .aload_n 0, [0], [], none),
  (62, 3, .getfield 21, [3, 3], [], none),
  (65, 1, .iload_n 2, [2], [], none),
  (66, 2, .bipush 10, [], [.int 10], none),
  (68, 1, .imul, [], [], none),
  (69, 1, .iload_n 3, [3], [], none),
  (70, 1, .iadd, [], [], none),
  (71, 1, .dup2, [], [], none),
  (72, 1, .iaload, [], [], none),
  (73, 1, .iconst 1, [], [.int 1], none),
  (74, 1, .iload_n 1, [1], [], none),
  (75, 1, .ishl, [], [], none),
  (76, 1, .ior, [], [], none),
  (77, 1, .iastore, [], [], none),
  (78, 1, .aload_n 0, [0], [], none),
  (79, 3, .getfield 18, [2, 3], [], none),
  (82, 1, .iload_n 1, [1], [], none),
  (83, 2, .bipush 6, [], [.int 6], none),
  (85, 1, .imul, [], [], none),
  (86, 1, .iload_n 2, [2], [], none),
  (87, 1, .iadd, [], [], none),
  (88, 1, .iload_n 3, [3], [], none),
  (89, 1, .iastore, [], [], none),
  (90, 2, .iload 4, [4], [], none),
  (92, 1, .ireturn, [], [], none)]
def jx_M45 : jx_M := (⟨"FairByEar$Goods", "setAnswer", "(III)I"⟩, prog_5_method_12_code, 5, (some .int), false, 1, jx_C45)
def jx_C46 : List jx_El := [(0, 1, .aload_n 0, [0], [], none),
  (1, 1, .iload_n 1, [1], [], none),
  (2, 3, .invokevirtual 35, [38, 0, 1, 2, 3], [], none),
  (5, 3, .ifCond .eq 18, [23], [], none),
  (8, 1, .iload_n 2, [2], [], none),
  (9, 1, .iconst 0, [], [.int 0], none),
  (10, 1, .iconst 3, [], [.int 3], none),
  (11, 3, .invokestatic 31, [215, 0, 1, 3], [], none),
  (14, 3, .ifCond .eq 9, [23], [], none),
  (17, 1, .iload_n 3, [3], [], none),
  (18, 2, .bipush 10, [], [.int 10], none),
  (20, 3, .if_icmp .le 5, [25], [], none),
  (23, 1, .iconst (-1), [], [.int (-1)], some []),
  (24, 1, .ireturn, [], [], none),
  (25, 1, .iload_n 2, [2], [], none),
  (26, 1, .iconst 3, [], [.int 3], none),
  (27, 3, .if_icmp .eq 10, [37], [], none),
  (30, 1, .iload_n 3, [3], [], none),
  (31, 3, .ifCond .ge 6, [37], [], none),
  (34, 2, .bipush (-2), [], [.int (-2)], none),
  (36, 1, .ireturn, [], [], none),
  (37, 1, .iload_n 2, [2], [], some [0, 1, 2, 3, 4, 5]),
  (38, 1, .iconst 3, [], [.int 3], none),
  (39, 3, .if_icmp .ne 7, [46], [], none),
  (42, 1, .iconst 0, [], [.int 0], none),
  (43, 3, .goto 4, [47], [], none),
  (46, 1, .iload_n 3, [3], [], none),
  (47, 2, .istore 6, [6], [], some [0, 1, 2, 4, 5]),
  (49, 1, .iconst 0, [], [.int 0], none),
  (50, 2, .istore 7, [7], [], none),
  (52, 1, .iconst 0, [], [.int 0], none),
  (53, 2, .istore 8, [8], [], none),
  (55, 2, .iload 8, [8], [], some [0, 1, 2, 4, 5, 6, 7, 8]),
  (57, 1, .aload_n 0, [0], [], none),
  (58, 3, .getfield 24, [4, 3], [], none),
  (61, 3, .if_icmp .ge 51, [112], [], none),
  (64, 2, .iload 8, [8], [], none),
  (66, 2, .iload 6, [6], [], none),
  (68, 3, .if_icmp .ge 18, [86], [], none),
  (71, 1, .iload_n 2, [2], [], none),
  (72, 2, .iload 4, [4], [], none),
  (74, 2, .iload 8, [8], [], none),
  (76, 2, .iload 5, [5], [], none),
  (78, 1, .imul, [], [], none),
  (79, 1, .iadd, [], [], none),
  (80, 3, .invokestatic 42, [47, 0, 1, 2], [], none),
  (83, 3, .goto 4, [87], [], none),
  (86, 1, .iconst 0, [], [.int 0], none),
  (87, 2, .istore 9, [9], [], some [0, 1, 2, 4, 5, 6, 7, 8]),
  (89, 1, .aload_n 0, [0], [], none),
  (90, 2, .iload 8, [8], [], none),
  (92, 1, .iload_n 1, [1], [], none),
  (93, 2, .iload 9, [9], [], none),
  (95, 3, .invokevirtual 46, [45, 0, 1, 4, 3], [], none),
  (98, 1, .pop, [], [], none),
  (99, 2, .iload 7, [7], [], none),
  (101, 2, .iload 9, [9], [], none),
  (103, 1, .iadd, [], [], none),
  (104, 2, .istore 7, [7], [], none),
  (106, 3, .iinc 8 1, [8], [.int 1], none),
  (109, 3, .goto (-54), [55], [], none),
  (112, 1, .iload_n 2, [2], [], none),
  (113, 1, .iconst 3, [], [.int 3], none),
  (114, 3, .if_icmp .ne 8, [122], [], none),
  (117, 2, .bipush (-3), [], [.int (-3)], none),
  (119, 3, .goto 5, [124], [], none),
  (122, 2, .iload 7, [7], [], none),
  (124, 1, .ireturn, [], [], some [])]
def jx_M46 : jx_M := (⟨"FairByEar$Goods", "readSheet", "(IIIII)I"⟩, prog_5_method_13_code, 10, (some .int), false, 2, jx_C46)
def jx_C47 : List jx_El := [(0, 1, .iload_n 1, [1], [], none),
  (1, 1, .istore_n 2, [2], [], none),
  (2, 1, .iload_n 0, [0], [], none),
  (3, 3, .ifCond .ne 9, [12], [], none),
  (6, 1, .iload_n 1, [1], [], none),
  (7, 1, .i2b, [], [], none),
  (8, 1, .istore_n 2, [2], [], none),
  (9, 3, .goto 11, [20], [], none),
  (12, 1, .iload_n 0, [0], [], none),
  (13, 1, .iconst 1, [], [.int 1], none),
  (14, 3, .if_icmp .ne 6, [20], [], none),
  (17, 1, .iload_n 1, [1], [], none),
  (18, 1, .i2s, [], [], none),
  (19, 1, .istore_n 2, [2], [], none),
  (20, 1, .iconst 0, [], [.int 0], some [2]),
  (21, 2, .bipush 9, [], [.int 9], none),
  (23, 1, .iload_n 2, [2], [], none),
  (24, 3, .invokestatic 50, [2, 0, 1, 2], [], none),
  (27, 3, .invokestatic 55, [1, 0, 1, 2], [], none),
  (30, 1, .ireturn, [], [], none)]
def jx_M47 : jx_M := (⟨"FairByEar$Goods", "entry", "(II)I"⟩, prog_5_method_14_code, 3, (some .int), true, 1, jx_C47)
def jx_C48 : List jx_El := [(0, 1, .iconst 0, [], [.int 0], none),
  (1, 1, .istore_n 3, [3], [], none),
  (2, 1, .iconst 0, [], [.int 0], none),
  (3, 2, .istore 4, [4], [], none),
  (5, 2, .iload 4, [4], [], some [0, 1, 2, 3, 4]),
  (7, 1, .aload_n 0, [0], [], none),
  (8, 3, .getfield 28, [5, 3], [], none),
  (11, 3, .if_icmp .ge 33, [44], [], none),
  (14, 1, .aload_n 0, [0], [], none),
  (15, 1, .iload_n 1, [1], [], none),
  (16, 2, .iload 4, [4], [], none),
  (18, 3, .invokevirtual 58, [44, 0, 1, 3, 3], [], none),
  (21, 1, .aload_n 0, [0], [], none),
  (22, 1, .iload_n 2, [2], [], none),
  (23, 2, .iload 4, [4], [], none),
  (25, 3, .invokevirtual 58, [44, 0, 1, 3, 3], [], none),
  (28, 3, .if_icmp .eq 10, [38], [], none),
  (31, 1, .iload_n 3, [3], [], none),
  (32, 1, .iconst 1, [], [.int 1], none),
  (33, 2, .iload 4, [4], [], none),
  (35, 1, .ishl, [], [], none),
  (36, 1, .ior, [], [], none),
  (37, 1, .istore_n 3, [3], [], none),
  (38, 3, .iinc 4 1, [4], [.int 1], some [0, 1, 2, 3, 4]),
  (41, 3, .goto (-36), [5], [], none),
  (44, 1, .iload_n 3, [3], [], none),
  (45, 1, .ireturn, [], [], none)]
def jx_M48 : jx_M := (⟨"FairByEar$Goods", "unlike", "(II)I"⟩, prog_5_method_15_code, 5, (some .int), false, 2, jx_C48)
def jx_C49 : List jx_El := [(0, 1, .aload_n 0, [0], [], none),
  (1, 1, .iload_n 2, [2], [], none),
  (2, 3, .invokevirtual 35, [38, 0, 1, 2, 3], [], none),
  (5, 3, .ifCond .eq 29, [34], [], none),
  (8, 1, .iload_n 3, [3], [], none),
  (9, 1, .iconst 0, [], [.int 0], none),
  (10, 2, .bipush 9, [], [.int 9], none),
  (12, 3, .invokestatic 31, [215, 0, 1, 3], [], none),
  (15, 3, .ifCond .eq 19, [34], [], none),
  (18, 1, .iload_n 1, [1], [], none),
  (19, 1, .aload_n 0, [0], [], none),
  (20, 3, .getfield 21, [3, 3], [], none),
  (23, 1, .iload_n 2, [2], [], none),
  (24, 2, .bipush 10, [], [.int 10], none),
  (26, 1, .imul, [], [], none),
  (27, 1, .iload_n 3, [3], [], none),
  (28, 1, .iadd, [], [], none),
  (29, 1, .iaload, [], [], none),
  (30, 1, .iand, [], [], none),
  (31, 3, .goto 4, [35], [], none),
  (34, 1, .iconst 0, [], [.int 0], some []),
  (35, 1, .ireturn, [], [], some [])]
def jx_M49 : jx_M := (⟨"FairByEar$Goods", "part", "(III)I"⟩, prog_5_method_16_code, 4, (some .int), false, 1, jx_C49)
def jx_C50 : List jx_El := [(0, 1, .iconst 0, [], [.int 0], none),
  (1, 1, .istore_n 3, [3], [], none),
  (2, 1, .iload_n 3, [3], [], some [0, 1, 2, 3]),
  (3, 2, .bipush 10, [], [.int 10], none),
  (5, 3, .if_icmp .ge 35, [40], [], none),
  (8, 1, .aload_n 0, [0], [], none),
  (9, 1, .iload_n 1, [1], [], none),
  (10, 1, .iload_n 2, [2], [], none),
  (11, 1, .iload_n 3, [3], [], none),
  (12, 3, .invokevirtual 61, [49, 0, 1, 4, 3], [], none),
  (15, 2, .istore 4, [4], [], none),
  (17, 2, .iload 4, [4], [], none),
  (19, 3, .ifCond .eq 15, [34], [], none),
  (22, 2, .iload 4, [4], [], none),
  (24, 1, .iload_n 1, [1], [], none),
  (25, 3, .if_icmp .eq 7, [32], [], none),
  (28, 1, .iconst 1, [], [.int 1], none),
  (29, 3, .goto 4, [33], [], none),
  (32, 1, .iconst 0, [], [.int 0], none),
  (33, 1, .ireturn, [1], [], some []),
  (34, 3, .iinc 3 1, [3], [.int 1], none),
  (37, 3, .goto (-35), [2], [], none),
  (40, 1, .iconst 0, [], [.int 0], none),
  (41, 1, .ireturn, [1], [], none)]
def jx_M50 : jx_M := (⟨"FairByEar$Goods", "parts", "(II)Z"⟩, prog_5_method_17_code, 5, (some .boolean), false, 2, jx_C50)
def jx_C51 : List jx_El := [(0, 1, .iload_n 3, [3], [], none),
  (1, 2, .istore 4, [4], [], none),
  (3, 1, .iconst 0, [], [.int 0], none),
  (4, 2, .istore 5, [5], [], none),
  (6, 2, .iload 5, [5], [], some [0, 1, 2, 4, 5]),
  (8, 1, .aload_n 0, [0], [], none),
  (9, 3, .getfield 28, [5, 3], [], none),
  (12, 3, .if_icmp .ge 35, [47], [], none),
  (15, 1, .iload_n 2, [2], [], none),
  (16, 2, .iload 5, [5], [], none),
  (18, 3, .invokestatic 64, [216, 0, 1, 2], [], none),
  (21, 3, .ifCond .eq 20, [41], [], none),
  (24, 1, .aload_n 0, [0], [], none),
  (25, 2, .iload 4, [4], [], none),
  (27, 2, .iload 5, [5], [], none),
  (29, 1, .aload_n 0, [0], [], none),
  (30, 1, .iload_n 1, [1], [], none),
  (31, 2, .iload 5, [5], [], none),
  (33, 3, .invokevirtual 58, [44, 0, 1, 3, 3], [], none),
  (36, 3, .invokevirtual 61, [49, 0, 1, 4, 3], [], none),
  (39, 2, .istore 4, [4], [], none),
  (41, 3, .iinc 5 1, [5], [.int 1], some [0, 1, 2, 4, 5]),
  (44, 3, .goto (-38), [6], [], none),
  (47, 2, .iload 4, [4], [], none),
  (49, 1, .ireturn, [], [], none)]
def jx_M51 : jx_M := (⟨"FairByEar$Goods", "sameAs", "(III)I"⟩, prog_5_method_18_code, 6, (some .int), false, 2, jx_C51)
def jx_C52 : List jx_El := [(0, 1, .iconst 0, [], [.int 0], none),
  (1, 1, .istore_n 2, [2], [], none),
  (2, 1, .iconst 0, [], [.int 0], none),
  (3, 1, .istore_n 3, [3], [], none),
  (4, 1, .iload_n 3, [3], [], some [0, 1, 2, 3]),
  (5, 1, .aload_n 0, [0], [], none),
  (6, 3, .getfield 24, [4, 3], [], none),
  (9, 3, .if_icmp .ge 26, [35], [], none),
  (12, 1, .iload_n 1, [1], [], none),
  (13, 1, .iload_n 3, [3], [], none),
  (14, 3, .invokestatic 64, [216, 0, 1, 2], [], none),
  (17, 3, .ifCond .eq 12, [29], [], none),
  (20, 1, .iload_n 2, [2], [], none),
  (21, 1, .aload_n 0, [0], [], none),
  (22, 3, .getfield 9, [0, 3], [], none),
  (25, 1, .iload_n 3, [3], [], none),
  (26, 1, .iaload, [], [], none),
  (27, 1, .iadd, [], [], none),
  (28, 1, .istore_n 2, [2], [], none),
  (29, 3, .iinc 3 1, [3], [.int 1], some [0, 1, 2, 3]),
  (32, 3, .goto (-28), [4], [], none),
  (35, 1, .iload_n 2, [2], [], none),
  (36, 1, .ireturn, [], [], none)]
def jx_M52 : jx_M := (⟨"FairByEar$Goods", "oftenOf", "(I)I"⟩, prog_5_method_19_code, 4, (some .int), false, 1, jx_C52)
def jx_C53 : List jx_El := [(0, 1, .iconst 0, [], [.int 0], none),
  (1, 1, .istore_n 3, [3], [], none),
  (2, 1, .iconst 0, [], [.int 0], none),
  (3, 2, .istore 4, [4], [], none),
  (5, 2, .iload 4, [4], [], some [0, 1, 2, 3, 4]),
  (7, 1, .aload_n 0, [0], [], none),
  (8, 3, .getfield 24, [4, 3], [], none),
  (11, 3, .if_icmp .ge 40, [51], [], none),
  (14, 1, .iload_n 2, [2], [], none),
  (15, 2, .iload 4, [4], [], none),
  (17, 3, .invokestatic 64, [216, 0, 1, 2], [], none),
  (20, 3, .ifCond .eq 25, [45], [], none),
  (23, 1, .aload_n 0, [0], [], none),
  (24, 2, .iload 4, [4], [], none),
  (26, 1, .iload_n 1, [1], [], none),
  (27, 1, .iload_n 2, [2], [], none),
  (28, 3, .invokevirtual 68, [51, 0, 1, 4, 3], [], none),
  (31, 1, .iconst 1, [], [.int 1], none),
  (32, 2, .iload 4, [4], [], none),
  (34, 1, .ishl, [], [], none),
  (35, 3, .if_icmp .ne 10, [45], [], none),
  (38, 1, .iload_n 3, [3], [], none),
  (39, 1, .iconst 1, [], [.int 1], none),
  (40, 2, .iload 4, [4], [], none),
  (42, 1, .ishl, [], [], none),
  (43, 1, .ior, [], [], none),
  (44, 1, .istore_n 3, [3], [], none),
  (45, 3, .iinc 4 1, [4], [.int 1], some [0, 1, 2, 3, 4]),
  (48, 3, .goto (-43), [5], [], none),
  (51, 1, .iload_n 3, [3], [], none),
  (52, 1, .ireturn, [], [], none)]
def jx_M53 : jx_M := (⟨"FairByEar$Goods", "toldBy", "(II)I"⟩, prog_5_method_20_code, 5, (some .int), false, 3, jx_C53)
def jx_C54 : List jx_El := [(0, 1, .iconst (-1), [], [.int (-1)], none),
  (1, 1, .istore_n 2, [2], [], none),
  (2, 1, .iconst 0, [], [.int 0], none),
  (3, 1, .istore_n 3, [3], [], none),
  (4, 1, .iload_n 3, [3], [], some [0, 1, 2, 3]),
  (5, 1, .iconst 1, [], [.int 1], none),
  (6, 1, .aload_n 0, [0], [], none),
  (7, 3, .getfield 28, [5, 3], [], none),
  (10, 1, .ishl, [], [], none),
  (11, 3, .if_icmp .ge 35, [46], [], none),
  (14, 1, .iload_n 2, [2], [], none),
  (15, 1, .iconst (-1), [], [.int (-1)], none),
  (16, 3, .if_icmp .eq 12, [28], [], none),
  (19, 1, .aload_n 0, [0], [], none),
  (20, 1, .iload_n 3, [3], [], none),
  (21, 1, .iload_n 2, [2], [], none),
  (22, 3, .invokevirtual 71, [55, 0, 1, 3, 3], [], none),
  (25, 3, .ifCond .eq 15, [40], [], none),
  (28, 1, .aload_n 0, [0], [], some [0, 1, 2, 3]),
  (29, 1, .iload_n 3, [3], [], none),
  (30, 1, .iload_n 1, [1], [], none),
  (31, 3, .invokevirtual 74, [53, 0, 1, 3, 3], [], none),
  (34, 1, .iload_n 1, [1], [], none),
  (35, 3, .if_icmp .ne 5, [40], [], none),
  (38, 1, .iload_n 3, [3], [], none),
  (39, 1, .istore_n 2, [2], [], none),
  (40, 3, .iinc 3 1, [3], [.int 1], some [0, 1, 2, 3]),
  (43, 3, .goto (-39), [4], [], none),
  (46, 1, .iload_n 2, [2], [], none),
  (47, 1, .ireturn, [], [], none)]
def jx_M54 : jx_M := (⟨"FairByEar$Goods", "fewestTests", "(I)I"⟩, prog_5_method_21_code, 4, (some .int), false, 4, jx_C54)
def jx_C55 : List jx_El := [(0, 1, .iload_n 1, [1], [], none),
  (1, 3, .invokestatic 77, [3, 0, 1, 1], [], none),
  (4, 1, .iload_n 2, [2], [], none),
  (5, 3, .invokestatic 77, [3, 0, 1, 1], [], none),
  (8, 1, .isub, [], [], none),
  (9, 1, .istore_n 3, [3], [], none),
  (10, 1, .iload_n 3, [3], [], none),
  (11, 3, .ifCond .lt 20, [31], [], none),
  (14, 1, .iload_n 3, [3], [], none),
  (15, 3, .ifCond .ne 20, [35], [], none),
  (18, 1, .aload_n 0, [0], [], none),
  (19, 1, .iload_n 1, [1], [], none),
  (20, 3, .invokevirtual 83, [56, 0, 1, 2, 3], [], none),
  (23, 1, .aload_n 0, [0], [], none),
  (24, 1, .iload_n 2, [2], [], none),
  (25, 3, .invokevirtual 83, [56, 0, 1, 2, 3], [], none),
  (28, 3, .if_icmp .ge 7, [35], [], none),
  (31, 1, .iconst 1, [], [.int 1], some []),
  (32, 3, .goto 4, [36], [], none),
  (35, 1, .iconst 0, [], [.int 0], some []),
  (36, 1, .ireturn, [1], [], some [])]
def jx_M55 : jx_M := (⟨"FairByEar$Goods", "betterTests", "(II)Z"⟩, prog_5_method_22_code, 4, (some .boolean), false, 2, jx_C55)
def jx_C56 : List jx_El := [(0, 1, .iconst 0, [], [.int 0], none),
  (1, 1, .istore_n 2, [2], [], none),
  (2, 1, .iconst 0, [], [.int 0], none),
  (3, 1, .istore_n 3, [3], [], none),
  (4, 1, .iload_n 3, [3], [], some [0, 1, 2, 3]),
  (5, 1, .aload_n 0, [0], [], none),
  (6, 3, .getfield 28, [5, 3], [], none),
  (9, 3, .if_icmp .ge 26, [35], [], none),
  (12, 1, .iload_n 1, [1], [], none),
  (13, 1, .iload_n 3, [3], [], none),
  (14, 3, .invokestatic 64, [216, 0, 1, 2], [], none),
  (17, 3, .ifCond .eq 12, [29], [], none),
  (20, 1, .iload_n 2, [2], [], none),
  (21, 1, .aload_n 0, [0], [], none),
  (22, 3, .getfield 15, [1, 3], [], none),
  (25, 1, .iload_n 3, [3], [], none),
  (26, 1, .iaload, [], [], none),
  (27, 1, .iadd, [], [], none),
  (28, 1, .istore_n 2, [2], [], none),
  (29, 3, .iinc 3 1, [3], [.int 1], some [0, 1, 2, 3]),
  (32, 3, .goto (-28), [4], [], none),
  (35, 1, .iload_n 2, [2], [], none),
  (36, 1, .ireturn, [], [], none)]
def jx_M56 : jx_M := (⟨"FairByEar$Goods", "costOfAll", "(I)I"⟩, prog_5_method_23_code, 4, (some .int), false, 1, jx_C56)
def jx_C57 : List jx_El := [(0, 1, .iconst 0, [], [.int 0], none),
  (1, 1, .istore_n 3, [3], [], none),
  (2, 1, .iconst 0, [], [.int 0], none),
  (3, 2, .istore 4, [4], [], none),
  (5, 2, .iload 4, [4], [], some [0, 1, 2, 3, 4]),
  (7, 1, .aload_n 0, [0], [], none),
  (8, 3, .getfield 24, [4, 3], [], none),
  (11, 3, .if_icmp .ge 42, [53], [], none),
  (14, 1, .iload_n 2, [2], [], none),
  (15, 2, .iload 4, [4], [], none),
  (17, 3, .invokestatic 64, [216, 0, 1, 2], [], none),
  (20, 3, .ifCond .eq 27, [47], [], none),
  (23, 1, .aload_n 0, [0], [], none),
  (24, 2, .iload 4, [4], [], none),
  (26, 1, .aload_n 0, [0], [], none),
  (27, 2, .iload 4, [4], [], none),
  (29, 1, .iload_n 1, [1], [], none),
  (30, 1, .iload_n 2, [2], [], none),
  (31, 3, .invokevirtual 68, [51, 0, 1, 4, 3], [], none),
  (34, 3, .invokevirtual 86, [58, 0, 1, 3, 3], [], none),
  (37, 3, .ifCond .eq 10, [47], [], none),
  (40, 1, .iload_n 3, [3], [], none),
  (41, 1, .iconst 1, [], [.int 1], none),
  (42, 2, .iload 4, [4], [], none),
  (44, 1, .ishl, [], [], none),
  (45, 1, .ior, [], [], none),
  (46, 1, .istore_n 3, [3], [], none),
  (47, 3, .iinc 4 1, [4], [.int 1], some [0, 1, 2, 3, 4]),
  (50, 3, .goto (-45), [5], [], none),
  (53, 1, .iload_n 3, [3], [], none),
  (54, 1, .ireturn, [], [], none)]
def jx_M57 : jx_M := (⟨"FairByEar$Goods", "toBan", "(II)I"⟩, prog_5_method_24_code, 5, (some .int), false, 3, jx_C57)
def jx_C58 : List jx_El := [(0, 1, .iconst 0, [], [.int 0], none),
  (1, 1, .istore_n 3, [3], [], none),
  (2, 1, .iload_n 3, [3], [], some [0, 1, 2, 3]),
  (3, 1, .aload_n 0, [0], [], none),
  (4, 3, .getfield 24, [4, 3], [], none),
  (7, 3, .if_icmp .ge 62, [69], [], none),
  (10, 1, .iload_n 3, [3], [], none),
  (11, 1, .iload_n 1, [1], [], none),
  (12, 3, .if_icmp .eq 51, [63], [], none),
  (15, 1, .iload_n 2, [2], [], none),
  (16, 1, .iload_n 3, [3], [], none),
  (17, 3, .invokestatic 64, [216, 0, 1, 2], [], none),
  (20, 3, .ifCond .ne 6, [26], [], none),
  (23, 3, .goto 40, [63], [], none),
  (26, 1, .aload_n 0, [0], [], none),
  (27, 3, .getfield 9, [0, 3], [], none),
  (30, 1, .iload_n 3, [3], [], none),
  (31, 1, .iaload, [], [], none),
  (32, 1, .aload_n 0, [0], [], none),
  (33, 3, .getfield 9, [0, 3], [], none),
  (36, 1, .iload_n 1, [1], [], none),
  (37, 1, .iaload, [], [], none),
  (38, 3, .if_icmp .gt 23, [61], [], none),
  (41, 1, .aload_n 0, [0], [], none),
  (42, 3, .getfield 9, [0, 3], [], none),
  (45, 1, .iload_n 3, [3], [], none),
  (46, 1, .iaload, [], [], none),
  (47, 1, .aload_n 0, [0], [], none),
  (48, 3, .getfield 9, [0, 3], [], none),
  (51, 1, .iload_n 1, [1], [], none),
  (52, 1, .iaload, [], [], none),
  (53, 3, .if_icmp .ne 10, [63], [], none),
  (56, 1, .iload_n 3, [3], [], none),
  (57, 1, .iload_n 1, [1], [], none),
  (58, 3, .if_icmp .le 5, [63], [], none),
  (61, 1, .iconst 1, [], [.int 1], some []),
  (62, 1, .ireturn, [1], [], none),
  (63, 3, .iinc 3 1, [3], [.int 1], some [0, 1, 2, 3]),
  (66, 3, .goto (-64), [2], [], none),
  (69, 1, .iconst 0, [], [.int 0], none),
  (70, 1, .ireturn, [1], [], none)]
def jx_M58 : jx_M := (⟨"FairByEar$Goods", "givesWay", "(II)Z"⟩, prog_5_method_25_code, 4, (some .boolean), false, 1, jx_C58)
def jx_C59 : List jx_El := [(0, 1, .aload_n 0, [0], [], none),
  (1, 3, .getfield 9, [1, 9], [], none),
  (4, 1, .iconst (-1), [], [.int (-1)], none),
  (5, 3, .invokestatic 25, [5, 0, 0, 2], [], none),
  (8, 1, .aload_n 0, [0], [], none),
  (9, 1, .iload_n 1, [1], [], none),
  (10, 1, .iconst 0, [], [.int 0], none),
  (11, 3, .invokevirtual 31, [61, 1, 1, 3, 9], [], none),
  (14, 1, .ireturn, [], [], none)]
def jx_M59 : jx_M := (⟨"FairByEar$Tree", "grow", "(I)I"⟩, prog_11_method_2_code, 2, (some .int), false, 124, jx_C59)
def jx_C60 : List jx_El := [(0, 1, .iload_n 0, [0], [], none),
  (1, 3, .ifCond .lt 14, [15], [], none),
  (4, 1, .iload_n 0, [0], [], none),
  (5, 3, .sipush 1024, [], [.int 1024], none),
  (8, 3, .if_icmp .ge 7, [15], [], none),
  (11, 1, .iconst 1, [], [.int 1], none),
  (12, 3, .goto 4, [16], [], none),
  (15, 1, .iconst 0, [], [.int 0], some []),
  (16, 1, .ireturn, [1], [], some [])]
def jx_M60 : jx_M := (⟨"FairByEar$Tree", "isSet", "(I)Z"⟩, prog_11_method_3_code, 1, (some .boolean), true, 0, jx_C60)
def jx_C61 : List jx_El := [(0, 1, .iload_n 1, [1], [], none),
  (1, 3, .invokestatic 35, [60, 0, 1, 1], [], none),
  (4, 3, .ifCond .eq 9, [13], [], none),
  (7, 1, .iload_n 2, [2], [], none),
  (8, 2, .bipush 6, [], [.int 6], none),
  (10, 3, .if_icmp .le 5, [15], [], none),
  (13, 1, .iconst 0, [], [.int 0], some []),
  (14, 1, .ireturn, [], [], none),
  (15, 1, .aload_n 0, [0], [], none),
  (16, 3, .getfield 9, [1, 9], [], none),
  (19, 1, .iload_n 1, [1], [], none),
  (20, 1, .iaload, [], [], none),
  (21, 1, .iconst (-1), [], [.int (-1)], none),
  (22, 3, .if_icmp .eq 10, [32], [], none),
  (25, 1, .aload_n 0, [0], [], none),
  (26, 3, .getfield 9, [1, 9], [], none),
  (29, 1, .iload_n 1, [1], [], none),
  (30, 1, .iaload, [], [], none),
  (31, 1, .ireturn, [], [], none),
  (32, 1, .iconst 0, [], [.int 0], none),
  (33, 1, .istore_n 3, [3], [], none),
  (34, 1, .iconst (-1), [], [.int (-1)], none),
  (35, 2, .istore 4, [4], [], none),
  (37, 1, .iconst 0, [], [.int 0], none),
  (38, 2, .istore 5, [5], [], none),
  (40, 2, .iload 5, [5], [], some [0, 1, 2, 3, 4, 5]),
  (42, 1, .aload_n 0, [0], [], none),
  (43, 3, .getfield 21, [0, 9], [], none),
  (46, 3, .invokevirtual 39, [36, 0, 1, 1, 3], [], none),
  (49, 3, .if_icmp .ge 72, [121], [], none),
  (52, 1, .aload_n 0, [0], [], none),
  (53, 3, .getfield 21, [0, 9], [], none),
  (56, 1, .iload_n 1, [1], [], none),
  (57, 2, .iload 5, [5], [], none),
  (59, 3, .invokevirtual 45, [50, 0, 1, 3, 3], [], none),
  (62, 3, .ifCond .eq 53, [115], [], none),
  (65, 1, .aload_n 0, [0], [], none),
  (66, 3, .getfield 21, [0, 9], [], none),
  (69, 1, .iload_n 1, [1], [], none),
  (70, 3, .invokevirtual 49, [52, 0, 1, 2, 3], [], none),
  (73, 1, .aload_n 0, [0], [], none),
  (74, 3, .getfield 21, [0, 9], [], none),
  (77, 2, .iload 5, [5], [], none),
  (79, 3, .invokevirtual 53, [43, 0, 1, 2, 3], [], none),
  (82, 1, .imul, [], [], none),
  (83, 1, .aload_n 0, [0], [], none),
  (84, 1, .iload_n 1, [1], [], none),
  (85, 2, .iload 5, [5], [], none),
  (87, 1, .iload_n 2, [2], [], none),
  (88, 1, .iconst 1, [], [.int 1], none),
  (89, 1, .iadd, [], [], none),
  (90, 3, .invokevirtual 56, [62, 2, 1, 4, 9], [], none),
  (93, 1, .iadd, [], [], none),
  (94, 2, .istore 6, [6], [], none),
  (96, 2, .iload 4, [4], [], none),
  (98, 1, .iconst (-1), [], [.int (-1)], none),
  (99, 3, .if_icmp .eq 9, [108], [], none),
  (102, 2, .iload 6, [6], [], none),
  (104, 1, .iload_n 3, [3], [], none),
  (105, 3, .if_icmp .ge 10, [115], [], none),
  (108, 2, .iload 6, [6], [], some [0, 1, 2, 5, 6]),
  (110, 1, .istore_n 3, [3], [], none),
  (111, 2, .iload 5, [5], [], none),
  (113, 2, .istore 4, [4], [], none),
  (115, 3, .iinc 5 1, [5], [.int 1], some [0, 1, 2, 3, 4, 5]),
  (118, 3, .goto (-78), [40], [], none),
  (121, 1, .aload_n 0, [0], [], none),
  (122, 3, .getfield 9, [1, 9], [], none),
  (125, 1, .iload_n 1, [1], [], none),
  (126, 1, .iload_n 3, [3], [], none),
  (127, 1, .iastore, [], [], none),
  (128, 1, .aload_n 0, [0], [], none),
  (129, 3, .getfield 15, [2, 9], [], none),
  (132, 1, .iload_n 1, [1], [], none),
  (133, 2, .iload 4, [4], [], none),
  (135, 1, .iastore, [], [], none),
  (136, 1, .iload_n 3, [3], [], none),
  (137, 1, .ireturn, [], [], none)]
def jx_M61 : jx_M := (⟨"FairByEar$Tree", "least", "(II)I"⟩, prog_11_method_4_code, 7, (some .int), false, 3, jx_C61)
def jx_C62 : List jx_El := [(0, 1, .iconst 0, [], [.int 0], none),
  (1, 2, .istore 4, [4], [], none),
  (3, 1, .iconst 0, [], [.int 0], none),
  (4, 2, .istore 5, [5], [], none),
  (6, 2, .iload 5, [5], [], some [0, 1, 2, 3, 4, 5]),
  (8, 2, .bipush 10, [], [.int 10], none),
  (10, 3, .if_icmp .ge 39, [49], [], none),
  (13, 1, .aload_n 0, [0], [], none),
  (14, 3, .getfield 21, [0, 9], [], none),
  (17, 1, .iload_n 1, [1], [], none),
  (18, 1, .iload_n 2, [2], [], none),
  (19, 2, .iload 5, [5], [], none),
  (21, 3, .invokevirtual 60, [49, 0, 1, 4, 3], [], none),
  (24, 2, .istore 6, [6], [], none),
  (26, 2, .iload 6, [6], [], none),
  (28, 3, .ifCond .eq 15, [43], [], none),
  (31, 2, .iload 4, [4], [], none),
  (33, 1, .aload_n 0, [0], [], none),
  (34, 2, .iload 6, [6], [], none),
  (36, 1, .iload_n 3, [3], [], none),
  (37, 3, .invokevirtual 31, [61, 2, 1, 3, 9], [], none),
  (40, 1, .iadd, [], [], none),
  (41, 2, .istore 4, [4], [], none),
  (43, 3, .iinc 5 1, [5], [.int 1], some [0, 1, 2, 3, 4, 5]),
  (46, 3, .goto (-40), [6], [], none),
  (49, 2, .iload 4, [4], [], none),
  (51, 1, .ireturn, [], [], none)]
def jx_M62 : jx_M := (⟨"FairByEar$Tree", "leastOfParts", "(III)I"⟩, prog_11_method_5_code, 7, (some .int), false, 3, jx_C62)
def jx_C63 : List jx_El := [(0, 1, .iload_n 1, [1], [], none),
  (1, 3, .invokestatic 35, [60, 0, 1, 1], [], none),
  (4, 3, .ifCond .eq 22, [26], [], none),
  (7, 1, .aload_n 0, [0], [], none),
  (8, 3, .getfield 9, [1, 9], [], none),
  (11, 1, .iload_n 1, [1], [], none),
  (12, 1, .iaload, [], [], none),
  (13, 1, .iconst (-1), [], [.int (-1)], none),
  (14, 3, .if_icmp .eq 12, [26], [], none),
  (17, 1, .aload_n 0, [0], [], none),
  (18, 3, .getfield 15, [2, 9], [], none),
  (21, 1, .iload_n 1, [1], [], none),
  (22, 1, .iaload, [], [], none),
  (23, 3, .goto 4, [27], [], none),
  (26, 1, .iconst (-1), [], [.int (-1)], some []),
  (27, 1, .ireturn, [], [], some [])]
def jx_M63 : jx_M := (⟨"FairByEar$Tree", "firstTest", "(I)I"⟩, prog_11_method_6_code, 2, (some .int), false, 1, jx_C63)
def jx_C64 : List jx_El := [(0, 1, .iconst 0, [], [.int 0], none),
  (1, 1, .istore_n 2, [2], [], none),
  (2, 1, .iconst 0, [], [.int 0], none),
  (3, 1, .istore_n 3, [3], [], none),
  (4, 1, .iload_n 3, [3], [], some [0, 1, 2, 3]),
  (5, 1, .aload_n 0, [0], [], none),
  (6, 3, .getfield 21, [0, 9], [], none),
  (9, 3, .invokevirtual 63, [35, 0, 1, 1, 3], [], none),
  (12, 3, .if_icmp .ge 28, [40], [], none),
  (15, 1, .iload_n 1, [1], [], none),
  (16, 1, .iload_n 3, [3], [], none),
  (17, 3, .invokestatic 65, [216, 0, 1, 2], [], none),
  (20, 3, .ifCond .eq 14, [34], [], none),
  (23, 1, .iload_n 2, [2], [], none),
  (24, 1, .aload_n 0, [0], [], none),
  (25, 1, .iload_n 1, [1], [], none),
  (26, 1, .iload_n 3, [3], [], none),
  (27, 3, .invokevirtual 68, [65, 0, 1, 3, 9], [], none),
  (30, 3, .invokestatic 71, [1, 0, 1, 2], [], none),
  (33, 1, .istore_n 2, [2], [], none),
  (34, 3, .iinc 3 1, [3], [.int 1], some [0, 1, 2, 3]),
  (37, 3, .goto (-33), [4], [], none),
  (40, 1, .iload_n 2, [2], [], none),
  (41, 1, .ireturn, [], [], none)]
def jx_M64 : jx_M := (⟨"FairByEar$Tree", "dearest", "(I)I"⟩, prog_11_method_7_code, 4, (some .int), false, 3, jx_C64)
def jx_C65 : List jx_El := [(0, 1, .iload_n 1, [1], [], none),
  (1, 1, .istore_n 3, [3], [], none),
  (2, 1, .iconst 0, [], [.int 0], none),
  (3, 2, .istore 4, [4], [], none),
  (5, 1, .iconst 0, [], [.int 0], none),
  (6, 2, .istore 5, [5], [], none),
  (8, 2, .iload 5, [5], [], some [0, 2, 3, 4, 5]),
  (10, 2, .bipush 6, [], [.int 6], none),
  (12, 3, .if_icmp .ge 60, [72], [], none),
  (15, 1, .aload_n 0, [0], [], none),
  (16, 1, .iload_n 3, [3], [], none),
  (17, 3, .invokevirtual 76, [63, 0, 1, 2, 9], [], none),
  (20, 2, .istore 6, [6], [], none),
  (22, 2, .iload 6, [6], [], none),
  (24, 1, .iconst (-1), [], [.int (-1)], none),
  (25, 3, .if_icmp .ne 6, [31], [], none),
  (28, 3, .goto 44, [72], [], none),
  (31, 2, .iload 4, [4], [], none),
  (33, 1, .aload_n 0, [0], [], none),
  (34, 3, .getfield 21, [0, 9], [], none),
  (37, 2, .iload 6, [6], [], none),
  (39, 3, .invokevirtual 53, [43, 0, 1, 2, 3], [], none),
  (42, 1, .iadd, [], [], none),
  (43, 2, .istore 4, [4], [], none),
  (45, 1, .aload_n 0, [0], [], none),
  (46, 3, .getfield 21, [0, 9], [], none),
  (49, 1, .iload_n 3, [3], [], none),
  (50, 2, .iload 6, [6], [], none),
  (52, 1, .aload_n 0, [0], [], none),
  (53, 3, .getfield 21, [0, 9], [], none),
  (56, 1, .iload_n 2, [2], [], none),
  (57, 2, .iload 6, [6], [], none),
  (59, 3, .invokevirtual 79, [44, 0, 1, 3, 3], [], none),
  (62, 3, .invokevirtual 60, [49, 0, 1, 4, 3], [], none),
  (65, 1, .istore_n 3, [3], [], none),
  (66, 3, .iinc 5 1, [5], [.int 1], none),
  (69, 3, .goto (-61), [8], [], none),
  (72, 2, .iload 4, [4], [], some [4]),
  (74, 1, .ireturn, [], [], none)]
def jx_M65 : jx_M := (⟨"FairByEar$Tree", "costFor", "(II)I"⟩, prog_11_method_8_code, 7, (some .int), false, 2, jx_C65)
def jx_C66 : List jx_El := [(0, 1, .iload_n 1, [1], [], none),
  (1, 2, .istore 4, [4], [], none),
  (3, 1, .aload_n 3, [3], [], none),
  (4, 3, .invokevirtual 82, [6, 0, 0, 1, 7], [], none),
  (7, 1, .iconst 0, [], [.int 0], none),
  (8, 2, .istore 5, [5], [], none),
  (10, 2, .iload 5, [5], [], some [0, 2, 3, 4, 5]),
  (12, 2, .bipush 6, [], [.int 6], none),
  (14, 3, .if_icmp .ge 56, [70], [], none),
  (17, 1, .aload_n 0, [0], [], none),
  (18, 2, .iload 4, [4], [], none),
  (20, 3, .invokevirtual 76, [63, 0, 1, 2, 9], [], none),
  (23, 2, .istore 6, [6], [], none),
  (25, 2, .iload 6, [6], [], none),
  (27, 1, .iconst (-1), [], [.int (-1)], none),
  (28, 3, .if_icmp .ne 6, [34], [], none),
  (31, 3, .goto 39, [70], [], none),
  (34, 1, .aload_n 3, [3], [], none),
  (35, 2, .iload 6, [6], [], none),
  (37, 1, .i2l, [], [], none),
  (38, 3, .invokevirtual 87, [7, 0, 0, 2, 7], [], none),
  (41, 1, .aload_n 0, [0], [], none),
  (42, 3, .getfield 21, [0, 9], [], none),
  (45, 2, .iload 4, [4], [], none),
  (47, 2, .iload 6, [6], [], none),
  (49, 1, .aload_n 0, [0], [], none),
  (50, 3, .getfield 21, [0, 9], [], none),
  (53, 1, .iload_n 2, [2], [], none),
  (54, 2, .iload 6, [6], [], none),
  (56, 3, .invokevirtual 79, [44, 0, 1, 3, 3], [], none),
  (59, 3, .invokevirtual 60, [49, 0, 1, 4, 3], [], none),
  (62, 2, .istore 4, [4], [], none),
  (64, 3, .iinc 5 1, [5], [.int 1], none),
  (67, 3, .goto (-57), [10], [], none),
  (70, 1, .aload_n 3, [3], [], some [3, 4]),
  (71, 2, .iload 4, [4], [], none),
  (73, 1, .i2l, [], [], none),
  (74, 3, .invokevirtual 87, [7, 0, 0, 2, 7], [], none),
  (77, 1, .aload_n 3, [3], [], none),
  (78, 3, .invokevirtual 91, [11, 0, 1, 1, 7], [], none),
  (81, 1, .iconst 1, [], [.int 1], none),
  (82, 1, .isub, [], [], none),
  (83, 1, .ireturn, [], [], none)]
def jx_M66 : jx_M := (⟨"FairByEar$Tree", "tellPath", "(IILFairByEar$Row;)I"⟩, prog_11_method_9_code, 7, (some .int), false, 2, jx_C66)
def jx_C67 : List jx_El := [(0, 1, .aload_n 0, [0], [], none),
  (1, 3, .getfield 18, [3, 9], [], none),
  (4, 1, .iconst (-1), [], [.int (-1)], none),
  (5, 3, .invokestatic 25, [5, 0, 0, 2], [], none),
  (8, 1, .aload_n 0, [0], [], none),
  (9, 1, .iload_n 1, [1], [], none),
  (10, 1, .iconst 0, [], [.int 0], none),
  (11, 1, .iload_n 2, [2], [], none),
  (12, 3, .invokevirtual 94, [68, 1, 1, 4, 9], [], none),
  (15, 1, .ireturn, [], [], none)]
def jx_M67 : jx_M := (⟨"FairByEar$Tree", "toldWithin", "(II)I"⟩, prog_11_method_10_code, 3, (some .int), false, 124, jx_C67)
def jx_C68 : List jx_El := [(0, 1, .iload_n 1, [1], [], none),
  (1, 3, .invokestatic 97, [3, 0, 1, 1], [], none),
  (4, 1, .iconst 1, [], [.int 1], none),
  (5, 3, .if_icmp .ne 12, [17], [], none),
  (8, 1, .aload_n 0, [0], [], none),
  (9, 3, .getfield 21, [0, 9], [], none),
  (12, 1, .iload_n 1, [1], [], none),
  (13, 3, .invokevirtual 49, [52, 0, 1, 2, 3], [], none),
  (16, 1, .ireturn, [], [], none),
  (17, 1, .iload_n 2, [2], [], none),
  (18, 2, .bipush 10, [], [.int 10], none),
  (20, 1, .imul, [], [], none),
  (21, 1, .iload_n 1, [1], [], none),
  (22, 3, .invokestatic 102, [70, 0, 1, 1], [], none),
  (25, 1, .iadd, [], [], none),
  (26, 2, .istore 4, [4], [], none),
  (28, 2, .iload 4, [4], [], none),
  (30, 3, .ifCond .lt 13, [43], [], none),
  (33, 2, .iload 4, [4], [], none),
  (35, 1, .aload_n 0, [0], [], none),
  (36, 3, .getfield 18, [3, 9], [], none),
  (39, 1, .arraylength, [], [], none),
  (40, 3, .if_icmp .lt 5, [45], [], none),
  (43, 1, .iconst 0, [], [.int 0], some []),
  (44, 1, .ireturn, [], [], none),
  (45, 1, .aload_n 0, [0], [], none),
  (46, 3, .getfield 18, [3, 9], [], none),
  (49, 2, .iload 4, [4], [], none),
  (51, 1, .iaload, [], [], none),
  (52, 1, .iconst (-1), [], [.int (-1)], none),
  (53, 3, .if_icmp .eq 11, [64], [], none),
  (56, 1, .aload_n 0, [0], [], none),
  (57, 3, .getfield 18, [3, 9], [], none),
  (60, 2, .iload 4, [4], [], none),
  (62, 1, .iaload, [], [], none),
  (63, 1, .ireturn, [], [], none),
  (64, 1, .iconst 0, [], [.int 0], none),
  (65, 2, .istore 5, [5], [], none),
  (67, 1, .iconst 0, [], [.int 0], none),
  (68, 2, .istore 6, [6], [], none),
  (70, 2, .iload 6, [6], [], some [0, 1, 2, 3, 4, 5, 6]),
  (72, 1, .aload_n 0, [0], [], none),
  (73, 3, .getfield 21, [0, 9], [], none),
  (76, 3, .invokevirtual 39, [36, 0, 1, 1, 3], [], none),
  (79, 3, .if_icmp .ge 91, [170], [], none),
  (82, 1, .iload_n 2, [2], [], none),
  (83, 2, .iload 6, [6], [], none),
  (85, 3, .invokestatic 65, [216, 0, 1, 2], [], none),
  (88, 3, .ifCond .ne 20, [108], [], none),
  (91, 1, .aload_n 0, [0], [], none),
  (92, 3, .getfield 21, [0, 9], [], none),
  (95, 2, .iload 6, [6], [], none),
  (97, 3, .invokevirtual 53, [43, 0, 1, 2, 3], [], none),
  (100, 1, .iload_n 3, [3], [], none),
  (101, 3, .if_icmp .gt 7, [108], [], none),
  (104, 1, .iconst 1, [], [.int 1], none),
  (105, 3, .goto 4, [109], [], none),
  (108, 1, .iconst 0, [], [.int 0], some [0, 1, 2, 3, 4, 5, 6]),
  (109, 2, .istore 7, [7], [], some [0, 1, 2, 3, 4, 5, 6]),
  (111, 2, .iload 7, [7], [], none),
  (113, 3, .ifCond .eq 51, [164], [], none),
  (116, 1, .aload_n 0, [0], [], none),
  (117, 3, .getfield 21, [0, 9], [], none),
  (120, 1, .iload_n 1, [1], [], none),
  (121, 2, .iload 6, [6], [], none),
  (123, 3, .invokevirtual 45, [50, 0, 1, 3, 3], [], none),
  (126, 3, .ifCond .eq 38, [164], [], none),
  (129, 1, .iload_n 3, [3], [], none),
  (130, 1, .aload_n 0, [0], [], none),
  (131, 3, .getfield 21, [0, 9], [], none),
  (134, 2, .iload 6, [6], [], none),
  (136, 3, .invokevirtual 53, [43, 0, 1, 2, 3], [], none),
  (139, 1, .isub, [], [], none),
  (140, 2, .istore 8, [8], [], none),
  (142, 2, .iload 5, [5], [], none),
  (144, 1, .aload_n 0, [0], [], none),
  (145, 1, .iload_n 1, [1], [], none),
  (146, 2, .iload 6, [6], [], none),
  (148, 1, .iload_n 2, [2], [], none),
  (149, 1, .iconst 1, [], [.int 1], none),
  (150, 2, .iload 6, [6], [], none),
  (152, 1, .ishl, [], [], none),
  (153, 1, .ior, [], [], none),
  (154, 2, .iload 8, [8], [], none),
  (156, 3, .invokevirtual 105, [69, 2, 1, 5, 9], [], none),
  (159, 3, .invokestatic 71, [1, 0, 1, 2], [], none),
  (162, 2, .istore 5, [5], [], none),
  (164, 3, .iinc 6 1, [6], [.int 1], some [0, 1, 2, 3, 4, 5, 6]),
  (167, 3, .goto (-97), [70], [], none),
  (170, 1, .aload_n 0, [0], [], none),
  (171, 3, .getfield 18, [3, 9], [], none),
  (174, 2, .iload 4, [4], [], none),
  (176, 2, .iload 5, [5], [], none),
  (178, 1, .iastore, [], [], none),
  (179, 2, .iload 5, [5], [], none),
  (181, 1, .ireturn, [], [], none)]
def jx_M68 : jx_M := (⟨"FairByEar$Tree", "mostTold", "(III)I"⟩, prog_11_method_11_code, 9, (some .int), false, 3, jx_C68)
def jx_C69 : List jx_El := [(0, 1, .iconst 0, [], [.int 0], none),
  (1, 2, .istore 5, [5], [], none),
  (3, 1, .iconst 0, [], [.int 0], none),
  (4, 2, .istore 6, [6], [], none),
  (6, 2, .iload 6, [6], [], some [0, 1, 2, 3, 4, 5, 6]),
  (8, 2, .bipush 10, [], [.int 10], none),
  (10, 3, .if_icmp .ge 41, [51], [], none),
  (13, 1, .aload_n 0, [0], [], none),
  (14, 3, .getfield 21, [0, 9], [], none),
  (17, 1, .iload_n 1, [1], [], none),
  (18, 1, .iload_n 2, [2], [], none),
  (19, 2, .iload 6, [6], [], none),
  (21, 3, .invokevirtual 60, [49, 0, 1, 4, 3], [], none),
  (24, 2, .istore 7, [7], [], none),
  (26, 2, .iload 7, [7], [], none),
  (28, 3, .ifCond .eq 17, [45], [], none),
  (31, 2, .iload 5, [5], [], none),
  (33, 1, .aload_n 0, [0], [], none),
  (34, 2, .iload 7, [7], [], none),
  (36, 1, .iload_n 3, [3], [], none),
  (37, 2, .iload 4, [4], [], none),
  (39, 3, .invokevirtual 94, [68, 2, 1, 4, 9], [], none),
  (42, 1, .iadd, [], [], none),
  (43, 2, .istore 5, [5], [], none),
  (45, 3, .iinc 6 1, [6], [.int 1], some [0, 1, 2, 3, 4, 5, 6]),
  (48, 3, .goto (-42), [6], [], none),
  (51, 2, .iload 5, [5], [], none),
  (53, 1, .ireturn, [], [], none)]
def jx_M69 : jx_M := (⟨"FairByEar$Tree", "mostOfParts", "(IIII)I"⟩, prog_11_method_12_code, 8, (some .int), false, 3, jx_C69)
def jx_C70 : List jx_El := [(0, 1, .iconst 0, [], [.int 0], none),
  (1, 1, .istore_n 1, [1], [], none),
  (2, 1, .iload_n 1, [1], [], some [0, 1]),
  (3, 2, .bipush 10, [], [.int 10], none),
  (5, 3, .if_icmp .ge 19, [24], [], none),
  (8, 1, .iload_n 0, [0], [], none),
  (9, 1, .iload_n 1, [1], [], none),
  (10, 3, .invokestatic 65, [216, 0, 1, 2], [], none),
  (13, 3, .ifCond .eq 5, [18], [], none),
  (16, 1, .iload_n 1, [1], [], none),
  (17, 1, .ireturn, [], [], none),
  (18, 3, .iinc 1 1, [1], [.int 1], none),
  (21, 3, .goto (-19), [2], [], none),
  (24, 1, .iconst 0, [], [.int 0], none),
  (25, 1, .ireturn, [], [], none)]
def jx_M70 : jx_M := (⟨"FairByEar$Tree", "lowest", "(I)I"⟩, prog_11_method_13_code, 2, (some .int), true, 1, jx_C70)
def jx_C71 : List jx_El := [(0, 1, .aload_n 0, [0], [], none),
  (1, 3, .getfield 15, [2, 8], [], none),
  (4, 1, .ireturn, [], [], none)]
def jx_M71 : jx_M := (⟨"FairByEar$Rule", "signs", "()I"⟩, prog_10_method_2_code, 1, (some .int), false, 0, jx_C71)
def jx_C72 : List jx_El := [(0, 1, .aload_n 0, [0], [], none),
  (1, 3, .getfield 15, [2, 8], [], none),
  (4, 1, .iconst 4, [], [.int 4], none),
  (5, 1, .iadd, [], [], none),
  (6, 2, .bipush 60, [], [.int 60], none),
  (8, 3, .if_icmp .le 5, [13], [], none),
  (11, 1, .iconst (-1), [], [.int (-1)], none),
  (12, 1, .ireturn, [], [], none),
  (13, 2, .bipush 24, [], [.int 24], none),
  (15, 1, .istore_n 2, [2], [], none),
  (16, 1, .iload_n 2, [2], [], some [0, 1, 2]),
  (17, 3, .ifCond .lt 35, [52], [], none),
  (20, 1, .aload_n 0, [0], [], none),
  (21, 3, .getfield 11, [1, 8], [], none),
  (24, 1, .aload_n 0, [0], [], none),
  (25, 3, .getfield 15, [2, 8], [], none),
  (28, 1, .iload_n 1, [1], [], none),
  (29, 1, .iload_n 2, [2], [], none),
  (30, 1, .iushr, [], [], none),
  (31, 3, .sipush 255, [], [.int 255], none),
  (34, 1, .iand, [], [], none),
  (35, 1, .iastore, [], [], none),
  (36, 1, .aload_n 0, [0], [], none),
  (37, 1, .dup, [], [], none),
  (38, 3, .getfield 15, [2, 8], [], none),
  (41, 1, .iconst 1, [], [.int 1], none),
  (42, 1, .iadd, [], [], none),
  (43, 3, .putfield 15, [2, 8, 0], [], none),
  (46, 3, .iinc 2 (-8), [2], [.int (-8)], none),
  (49, 3, .goto (-33), [16], [], none),
  (52, 1, .aload_n 0, [0], [], none),
  (53, 3, .getfield 15, [2, 8], [], none),
  (56, 1, .ireturn, [], [], none)]
def jx_M72 : jx_M := (⟨"FairByEar$Rule", "append", "(I)I"⟩, prog_10_method_3_code, 3, (some .int), false, 0, jx_C72)
def jx_C73 : List jx_El := [(0, 1, .iload_n 1, [1], [], none),
  (1, 3, .ifCond .lt 11, [12], [], none),
  (4, 1, .iload_n 1, [1], [], none),
  (5, 1, .aload_n 0, [0], [], none),
  (6, 3, .getfield 15, [2, 8], [], none),
  (9, 3, .if_icmp .le 5, [14], [], none),
  (12, 1, .iconst 0, [], [.int 0], some []),
  (13, 1, .ireturn, [1], [], none),
  (14, 1, .aload_n 0, [0], [], none),
  (15, 1, .iload_n 1, [1], [], none),
  (16, 3, .putfield 15, [2, 8, 0], [], none),
  (19, 1, .iconst 1, [], [.int 1], none),
  (20, 1, .ireturn, [1], [], none)]
def jx_M73 : jx_M := (⟨"FairByEar$Rule", "cut", "(I)Z"⟩, prog_10_method_4_code, 2, (some .boolean), false, 0, jx_C73)
def jx_C74 : List jx_El := [(0, 1, .aload_n 0, [0], [], none),
  (1, 3, .getfield 15, [2, 8], [], none),
  (4, 1, .istore_n 1, [1], [], none),
  (5, 1, .aload_n 0, [0], [], none),
  (6, 1, .iconst 0, [], [.int 0], none),
  (7, 3, .putfield 15, [2, 8, 0], [], none),
  (10, 1, .iload_n 1, [1], [], none),
  (11, 3, .ifCond .ne 10, [21], [], none),
  (14, 1, .aload_n 0, [0], [], none),
  (15, 1, .iconst 0, [], [.int 0], none),
  (16, 3, .putfield 22, [4, 8, 0], [], none),
  (19, 1, .iconst 0, [], [.int 0], none),
  (20, 1, .ireturn, [], [], none),
  (21, 1, .aload_n 0, [0], [], none),
  (22, 3, .invokevirtual 61, [75, 0, 0, 1, 8], [], none),
  (25, 1, .iconst 0, [], [.int 0], none),
  (26, 1, .istore_n 2, [2], [], none),
  (27, 1, .iload_n 2, [2], [], some [0, 1, 2]),
  (28, 1, .iload_n 1, [1], [], none),
  (29, 3, .if_icmp .ge 54, [83], [], none),
  (32, 1, .iload_n 2, [2], [], none),
  (33, 2, .bipush 40, [], [.int 40], none),
  (35, 3, .if_icmp .ge 48, [83], [], none),
  (38, 1, .aload_n 0, [0], [], none),
  (39, 3, .getfield 47, [12, 8], [], none),
  (42, 3, .ifCond .eq 16, [58], [], none),
  (45, 1, .aload_n 0, [0], [], none),
  (46, 1, .aload_n 0, [0], [], none),
  (47, 3, .getfield 11, [1, 8], [], none),
  (50, 1, .iload_n 2, [2], [], none),
  (51, 1, .iaload, [], [], none),
  (52, 3, .invokevirtual 64, [76, 0, 1, 2, 8], [], none),
  (55, 3, .goto 13, [68], [], none),
  (58, 1, .aload_n 0, [0], [], none),
  (59, 1, .aload_n 0, [0], [], none),
  (60, 3, .getfield 11, [1, 8], [], none),
  (63, 1, .iload_n 2, [2], [], none),
  (64, 1, .iaload, [], [], none),
  (65, 3, .invokevirtual 68, [77, 0, 1, 2, 8], [], none),
  (68, 1, .istore_n 3, [3], [], some [0, 1, 2]),
  (69, 1, .iload_n 3, [3], [], none),
  (70, 3, .ifCond .ne 7, [77], [], none),
  (73, 1, .iconst (-1), [], [.int (-1)], none),
  (74, 1, .iload_n 2, [2], [], none),
  (75, 1, .isub, [], [], none),
  (76, 1, .ireturn, [], [], none),
  (77, 3, .iinc 2 1, [2], [.int 1], none),
  (80, 3, .goto (-53), [27], [], none),
  (83, 1, .iload_n 1, [1], [], some [0, 1]),
  (84, 2, .bipush 40, [], [.int 40], none),
  (86, 3, .if_icmp .le 6, [92], [], none),
  (89, 2, .bipush (-41), [], [.int (-41)], none),
  (91, 1, .ireturn, [], [], none),
  (92, 1, .aload_n 0, [0], [], none),
  (93, 3, .getfield 47, [12, 8], [], none),
  (96, 3, .ifCond .ne 10, [106], [], none),
  (99, 1, .aload_n 0, [0], [], none),
  (100, 3, .getfield 41, [10, 8], [], none),
  (103, 3, .ifCond .le 7, [110], [], none),
  (106, 1, .iconst (-1), [], [.int (-1)], some [1]),
  (107, 1, .iload_n 1, [1], [], none),
  (108, 1, .isub, [], [], none),
  (109, 1, .ireturn, [], [], none),
  (110, 1, .aload_n 0, [0], [], none),
  (111, 1, .iconst 1, [], [.int 1], none),
  (112, 3, .invokevirtual 71, [87, 0, 0, 2, 8], [], none),
  (115, 1, .aload_n 0, [0], [], none),
  (116, 3, .getfield 25, [5, 8], [], none),
  (119, 1, .iconst 0, [], [.int 0], none),
  (120, 1, .aload_n 0, [0], [], none),
  (121, 3, .getfield 19, [3, 8], [], none),
  (124, 1, .iconst 0, [], [.int 0], none),
  (125, 1, .aload_n 0, [0], [], none),
  (126, 3, .getfield 28, [6, 8], [], none),
  (129, 3, .invokestatic 75, [0], [], none),
  (132, 1, .aload_n 0, [0], [], none),
  (133, 1, .aload_n 0, [0], [], none),
  (134, 3, .getfield 28, [6, 8], [], none),
  (137, 3, .putfield 22, [4, 8, 0], [], none),
  (140, 1, .iconst 0, [], [.int 0], none),
  (141, 1, .ireturn, [], [], none)]
def jx_M74 : jx_M := (⟨"FairByEar$Rule", "read", "()I"⟩, prog_10_method_5_code, 4, (some .int), false, 5, jx_C74)
def jx_C75 : List jx_El := [(0, 1, .aload_n 0, [0], [], none),
  (1, 1, .iconst 0, [], [.int 0], none),
  (2, 3, .putfield 28, [6, 8, 0], [], none),
  (5, 1, .aload_n 0, [0], [], none),
  (6, 1, .iconst 0, [], [.int 0], none),
  (7, 3, .putfield 34, [8, 8, 0], [], none),
  (10, 1, .aload_n 0, [0], [], none),
  (11, 1, .iconst 0, [], [.int 0], none),
  (12, 3, .putfield 41, [10, 8, 0], [], none),
  (15, 1, .aload_n 0, [0], [], none),
  (16, 3, .getfield 37, [9, 8], [], none),
  (19, 1, .iconst 0, [], [.int 0], none),
  (20, 1, .iconst 0, [], [.int 0], none),
  (21, 1, .bastore, [], [], none),
  (22, 1, .aload_n 0, [0], [], none),
  (23, 1, .iconst 0, [], [.int 0], none),
  (24, 3, .putfield 44, [11, 8, 0], [], none),
  (27, 1, .aload_n 0, [0], [], none),
  (28, 1, .iconst 1, [], [.int 1], none),
  (29, 3, .putfield 47, [12, 8, 1], [], none),
  (32, 1, .return_, [], [], none)]
def jx_M75 : jx_M := (⟨"FairByEar$Rule", "startDraft", "()V"⟩, prog_10_method_6_code, 1, none, false, 0, jx_C75)
def jx_C76 : List jx_El := [(0, 1, .iload_n 1, [1], [], none),
  (1, 2, .bipush 33, [], [.int 33], none),
  (3, 3, .if_icmp .ne 12, [15], [], none),
  (6, 1, .aload_n 0, [0], [], none),
  (7, 2, .bipush 33, [], [.int 33], none),
  (9, 3, .invokevirtual 81, [86, 0, 0, 2, 8], [], none),
  (12, 3, .goto 80, [92], [], none),
  (15, 1, .iload_n 1, [1], [], none),
  (16, 2, .bipush 45, [], [.int 45], none),
  (18, 3, .if_icmp .ne 12, [30], [], none),
  (21, 1, .aload_n 0, [0], [], none),
  (22, 2, .bipush 126, [], [.int 126], none),
  (24, 3, .invokevirtual 81, [86, 0, 0, 2, 8], [], none),
  (27, 3, .goto 65, [92], [], none),
  (30, 1, .iload_n 1, [1], [], none),
  (31, 2, .bipush 40, [], [.int 40], none),
  (33, 3, .if_icmp .ne 8, [41], [], none),
  (36, 1, .aload_n 0, [0], [], none),
  (37, 3, .invokevirtual 84, [79, 0, 1, 1, 8], [], none),
  (40, 1, .ireturn, [1], [], none),
  (41, 1, .iload_n 1, [1], [], none),
  (42, 3, .invokestatic 88, [81, 0, 1, 1], [], none),
  (45, 3, .ifCond .eq 24, [69], [], none),
  (48, 1, .aload_n 0, [0], [], none),
  (49, 1, .iload_n 1, [1], [], none),
  (50, 2, .bipush 48, [], [.int 48], none),
  (52, 1, .isub, [], [], none),
  (53, 3, .invokevirtual 91, [85, 0, 0, 2, 8], [], none),
  (56, 1, .aload_n 0, [0], [], none),
  (57, 1, .iconst 1, [], [.int 1], none),
  (58, 3, .putfield 44, [11, 8, 0], [], none),
  (61, 1, .aload_n 0, [0], [], none),
  (62, 1, .iconst 0, [], [.int 0], none),
  (63, 3, .putfield 47, [12, 8, 1], [], none),
  (66, 3, .goto 26, [92], [], none),
  (69, 1, .iload_n 1, [1], [], none),
  (70, 3, .invokestatic 94, [82, 0, 1, 1], [], none),
  (73, 3, .ifCond .eq 17, [90], [], none),
  (76, 1, .aload_n 0, [0], [], none),
  (77, 1, .iload_n 1, [1], [], none),
  (78, 1, .ineg, [], [], none),
  (79, 3, .invokevirtual 91, [85, 0, 0, 2, 8], [], none),
  (82, 1, .aload_n 0, [0], [], none),
  (83, 1, .iconst 0, [], [.int 0], none),
  (84, 3, .putfield 47, [12, 8, 1], [], none),
  (87, 3, .goto 5, [92], [], none),
  (90, 1, .iconst 0, [], [.int 0], none),
  (91, 1, .ireturn, [1], [], none),
  (92, 1, .iconst 1, [], [.int 1], some []),
  (93, 1, .ireturn, [1], [], none)]
def jx_M76 : jx_M := (⟨"FairByEar$Rule", "takesThing", "(I)Z"⟩, prog_10_method_7_code, 2, (some .boolean), false, 2, jx_C76)
def jx_C77 : List jx_El := [(0, 1, .iload_n 1, [1], [], none),
  (1, 3, .invokestatic 88, [81, 0, 1, 1], [], none),
  (4, 3, .ifCond .eq 12, [16], [], none),
  (7, 1, .aload_n 0, [0], [], none),
  (8, 1, .iload_n 1, [1], [], none),
  (9, 2, .bipush 48, [], [.int 48], none),
  (11, 1, .isub, [], [], none),
  (12, 3, .invokevirtual 97, [78, 0, 1, 2, 8], [], none),
  (15, 1, .ireturn, [1], [], none),
  (16, 1, .aload_n 0, [0], [], none),
  (17, 1, .iconst 0, [], [.int 0], none),
  (18, 3, .putfield 44, [11, 8, 0], [], none),
  (21, 1, .iload_n 1, [1], [], none),
  (22, 2, .bipush 41, [], [.int 41], none),
  (24, 3, .if_icmp .ne 8, [32], [], none),
  (27, 1, .aload_n 0, [0], [], none),
  (28, 3, .invokevirtual 100, [80, 0, 1, 1, 8], [], none),
  (31, 1, .ireturn, [1], [], none),
  (32, 1, .iload_n 1, [1], [], none),
  (33, 3, .invokestatic 103, [83, 0, 1, 1], [], none),
  (36, 1, .istore_n 2, [2], [], none),
  (37, 1, .iload_n 2, [2], [], none),
  (38, 3, .ifCond .eq 20, [58], [], none),
  (41, 1, .iload_n 2, [2], [], none),
  (42, 1, .iconst 3, [], [.int 3], none),
  (43, 3, .if_icmp .ne 17, [60], [], none),
  (46, 1, .aload_n 0, [0], [], none),
  (47, 3, .getfield 37, [9, 8], [], none),
  (50, 1, .aload_n 0, [0], [], none),
  (51, 3, .getfield 41, [10, 8], [], none),
  (54, 1, .baload, [], [], none),
  (55, 3, .ifCond .eq 5, [60], [], none),
  (58, 1, .iconst 0, [], [.int 0], some []),
  (59, 1, .ireturn, [1], [], none),
  (60, 1, .iload_n 2, [2], [], some [0, 1, 2]),
  (61, 1, .iconst 3, [], [.int 3], none),
  (62, 3, .if_icmp .gt 22, [84], [], none),
  (65, 1, .aload_n 0, [0], [], none),
  (66, 3, .getfield 37, [9, 8], [], none),
  (69, 1, .aload_n 0, [0], [], none),
  (70, 3, .getfield 41, [10, 8], [], none),
  (73, 1, .iload_n 2, [2], [], none),
  (74, 1, .iconst 3, [], [.int 3], none),
  (75, 3, .if_icmp .ne 7, [82], [], none),
  (78, 1, .iconst 1, [], [.int 1], none),
  (79, 3, .goto 4, [83], [], none),
  (82, 1, .iconst 0, [], [.int 0], none),
  (83, 1, .bastore, [], [], some [0, 1, 2]),
  (84, 1, .aload_n 0, [0], [], some [0, 1, 2]),
  (85, 1, .iload_n 2, [2], [], none),
  (86, 3, .invokevirtual 71, [87, 0, 0, 2, 8], [], none),
  (89, 1, .aload_n 0, [0], [], none),
  (90, 1, .iload_n 1, [1], [], none),
  (91, 3, .invokevirtual 81, [86, 0, 0, 2, 8], [], none),
  (94, 1, .aload_n 0, [0], [], none),
  (95, 1, .iconst 1, [], [.int 1], none),
  (96, 3, .putfield 47, [12, 8, 1], [], none),
  (99, 1, .iconst 1, [], [.int 1], none),
  (100, 1, .ireturn, [1], [], none)]
def jx_M77 : jx_M := (⟨"FairByEar$Rule", "takesBehind", "(I)Z"⟩, prog_10_method_8_code, 3, (some .boolean), false, 4, jx_C77)
def jx_C78 : List jx_El := [(0, 1, .aload_n 0, [0], [], none),
  (1, 3, .getfield 44, [11, 8], [], none),
  (4, 3, .ifCond .eq 18, [22], [], none),
  (7, 1, .aload_n 0, [0], [], none),
  (8, 3, .getfield 44, [11, 8], [], none),
  (11, 1, .iconst 3, [], [.int 3], none),
  (12, 3, .if_icmp .ge 10, [22], [], none),
  (15, 1, .aload_n 0, [0], [], none),
  (16, 3, .getfield 28, [6, 8], [], none),
  (19, 3, .ifCond .ne 5, [24], [], none),
  (22, 1, .iconst 0, [], [.int 0], some []),
  (23, 1, .ireturn, [1], [], none),
  (24, 1, .aload_n 0, [0], [], none),
  (25, 3, .getfield 25, [5, 8], [], none),
  (28, 1, .aload_n 0, [0], [], none),
  (29, 3, .getfield 28, [6, 8], [], none),
  (32, 1, .iconst 1, [], [.int 1], none),
  (33, 1, .isub, [], [], none),
  (34, 1, .aload_n 0, [0], [], none),
  (35, 3, .getfield 25, [5, 8], [], none),
  (38, 1, .aload_n 0, [0], [], none),
  (39, 3, .getfield 28, [6, 8], [], none),
  (42, 1, .iconst 1, [], [.int 1], none),
  (43, 1, .isub, [], [], none),
  (44, 1, .iaload, [], [], none),
  (45, 2, .bipush 10, [], [.int 10], none),
  (47, 1, .imul, [], [], none),
  (48, 1, .iload_n 1, [1], [], none),
  (49, 1, .iadd, [], [], none),
  (50, 1, .iastore, [], [], none),
  (51, 1, .aload_n 0, [0], [], none),
  (52, 1, .dup, [], [], none),
  (53, 3, .getfield 44, [11, 8], [], none),
  (56, 1, .iconst 1, [], [.int 1], none),
  (57, 1, .iadd, [], [], none),
  (58, 3, .putfield 44, [11, 8, 0], [], none),
  (61, 1, .iconst 1, [], [.int 1], none),
  (62, 1, .ireturn, [1], [], none)]
def jx_M78 : jx_M := (⟨"FairByEar$Rule", "goesOn", "(I)Z"⟩, prog_10_method_9_code, 2, (some .boolean), false, 0, jx_C78)
def jx_C79 : List jx_El := [(0, 1, .aload_n 0, [0], [], none),
  (1, 3, .getfield 41, [10, 8], [], none),
  (4, 1, .iconst 5, [], [.int 5], none),
  (5, 3, .if_icmp .lt 5, [10], [], none),
  (8, 1, .iconst 0, [], [.int 0], none),
  (9, 1, .ireturn, [1], [], none),
  (10, 1, .aload_n 0, [0], [], none),
  (11, 1, .dup, [], [], none),
  (12, 3, .getfield 41, [10, 8], [], none),
  (15, 1, .iconst 1, [], [.int 1], none),
  (16, 1, .iadd, [], [], none),
  (17, 3, .putfield 41, [10, 8, 0], [], none),
  (20, 1, .aload_n 0, [0], [], none),
  (21, 3, .getfield 37, [9, 8], [], none),
  (24, 1, .aload_n 0, [0], [], none),
  (25, 3, .getfield 41, [10, 8], [], none),
  (28, 1, .iconst 0, [], [.int 0], none),
  (29, 1, .bastore, [], [], none),
  (30, 1, .aload_n 0, [0], [], none),
  (31, 2, .bipush 40, [], [.int 40], none),
  (33, 3, .invokevirtual 81, [86, 0, 0, 2, 8], [], none),
  (36, 1, .iconst 1, [], [.int 1], none),
  (37, 1, .ireturn, [1], [], none)]
def jx_M79 : jx_M := (⟨"FairByEar$Rule", "opens", "()Z"⟩, prog_10_method_10_code, 1, (some .boolean), false, 1, jx_C79)
def jx_C80 : List jx_El := [(0, 1, .aload_n 0, [0], [], none),
  (1, 3, .getfield 41, [10, 8], [], none),
  (4, 3, .ifCond .ne 5, [9], [], none),
  (7, 1, .iconst 0, [], [.int 0], none),
  (8, 1, .ireturn, [1], [], none),
  (9, 1, .aload_n 0, [0], [], none),
  (10, 1, .iconst 1, [], [.int 1], none),
  (11, 3, .invokevirtual 71, [87, 0, 0, 2, 8], [], none),
  (14, 1, .aload_n 0, [0], [], none),
  (15, 1, .dup, [], [], none),
  (16, 3, .getfield 41, [10, 8], [], none),
  (19, 1, .iconst 1, [], [.int 1], none),
  (20, 1, .isub, [], [], none),
  (21, 3, .putfield 41, [10, 8, 0], [], none),
  (24, 1, .aload_n 0, [0], [], none),
  (25, 1, .iconst 0, [], [.int 0], none),
  (26, 1, .aload_n 0, [0], [], none),
  (27, 3, .getfield 34, [8, 8], [], none),
  (30, 1, .iconst 1, [], [.int 1], none),
  (31, 1, .isub, [], [], none),
  (32, 3, .invokestatic 107, [1, 0, 1, 2], [], none),
  (35, 3, .putfield 34, [8, 8, 0], [], none),
  (38, 1, .iconst 1, [], [.int 1], none),
  (39, 1, .ireturn, [1], [], none)]
def jx_M80 : jx_M := (⟨"FairByEar$Rule", "closes", "()Z"⟩, prog_10_method_11_code, 1, (some .boolean), false, 3, jx_C80)
def jx_C81 : List jx_El := [(0, 1, .iload_n 0, [0], [], none),
  (1, 2, .bipush 48, [], [.int 48], none),
  (3, 3, .if_icmp .lt 13, [16], [], none),
  (6, 1, .iload_n 0, [0], [], none),
  (7, 2, .bipush 57, [], [.int 57], none),
  (9, 3, .if_icmp .gt 7, [16], [], none),
  (12, 1, .iconst 1, [], [.int 1], none),
  (13, 3, .goto 4, [17], [], none),
  (16, 1, .iconst 0, [], [.int 0], some []),
  (17, 1, .ireturn, [1], [], some [])]
def jx_M81 : jx_M := (⟨"FairByEar$Rule", "isDigit", "(I)Z"⟩, prog_10_method_12_code, 1, (some .boolean), true, 0, jx_C81)
def jx_C82 : List jx_El := [(0, 1, .iload_n 0, [0], [], none),
  (1, 2, .bipush 108, [], [.int 108], none),
  (3, 3, .if_icmp .eq 33, [36], [], none),
  (6, 1, .iload_n 0, [0], [], none),
  (7, 2, .bipush 117, [], [.int 117], none),
  (9, 3, .if_icmp .eq 27, [36], [], none),
  (12, 1, .iload_n 0, [0], [], none),
  (13, 2, .bipush 110, [], [.int 110], none),
  (15, 3, .if_icmp .eq 21, [36], [], none),
  (18, 1, .iload_n 0, [0], [], none),
  (19, 2, .bipush 102, [], [.int 102], none),
  (21, 3, .if_icmp .eq 15, [36], [], none),
  (24, 1, .iload_n 0, [0], [], none),
  (25, 2, .bipush 119, [], [.int 119], none),
  (27, 3, .if_icmp .eq 9, [36], [], none),
  (30, 1, .iload_n 0, [0], [], none),
  (31, 2, .bipush 107, [], [.int 107], none),
  (33, 3, .if_icmp .ne 7, [40], [], none),
  (36, 1, .iconst 1, [], [.int 1], some []),
  (37, 3, .goto 4, [41], [], none),
  (40, 1, .iconst 0, [], [.int 0], none),
  (41, 1, .ireturn, [1], [], some [])]
def jx_M82 : jx_M := (⟨"FairByEar$Rule", "isSign", "(I)Z"⟩, prog_10_method_13_code, 1, (some .boolean), true, 0, jx_C82)
def jx_C83 : List jx_El := [(0, 1, .iload_n 0, [0], [], none),
  (1, 75, .lookupswitch 85 #[(38, 77), (42, 83), (43, 81), (45, 81), (60, 79), (61, 79), (62, 79), (124, 75)], [86, 78, 84, 82, 82, 80, 80, 80, 76], [.int 38, .int 42, .int 43, .int 45, .int 60, .int 61, .int 62, .int 124], none),
  (76, 1, .iconst 1, [], [.int 1], none),
  (77, 1, .ireturn, [], [], none),
  (78, 1, .iconst 2, [], [.int 2], none),
  (79, 1, .ireturn, [], [], none),
  (80, 1, .iconst 3, [], [.int 3], none),
  (81, 1, .ireturn, [], [], none),
  (82, 1, .iconst 4, [], [.int 4], none),
  (83, 1, .ireturn, [], [], none),
  (84, 1, .iconst 5, [], [.int 5], none),
  (85, 1, .ireturn, [], [], none),
  (86, 1, .iconst 0, [], [.int 0], none),
  (87, 1, .ireturn, [], [], none)]
def jx_M83 : jx_M := (⟨"FairByEar$Rule", "levelBetween", "(I)I"⟩, prog_10_method_14_code, 1, (some .int), true, 0, jx_C83)
def jx_C84 : List jx_El := [(0, 1, .iload_n 0, [0], [], none),
  (1, 2, .bipush 33, [], [.int 33], none),
  (3, 3, .if_icmp .eq 9, [12], [], none),
  (6, 1, .iload_n 0, [0], [], none),
  (7, 2, .bipush 126, [], [.int 126], none),
  (9, 3, .if_icmp .ne 8, [17], [], none),
  (12, 2, .bipush 6, [], [.int 6], some []),
  (14, 3, .goto 7, [21], [], none),
  (17, 1, .iload_n 0, [0], [], none),
  (18, 3, .invokestatic 103, [83, 0, 1, 1], [], none),
  (21, 1, .ireturn, [], [], some [])]
def jx_M84 : jx_M := (⟨"FairByEar$Rule", "levelWaiting", "(I)I"⟩, prog_10_method_15_code, 1, (some .int), true, 1, jx_C84)
def jx_C85 : List jx_El := [(0, 1, .aload_n 0, [0], [], none),
  (1, 3, .getfield 28, [6, 8], [], none),
  (4, 1, .aload_n 0, [0], [], none),
  (5, 3, .getfield 25, [5, 8], [], none),
  (8, 1, .arraylength, [], [], none),
  (9, 3, .if_icmp .ge 23, [32], [], none),
  (12, 1, .aload_n 0, [0], [], none),
  (13, 3, .getfield 25, [5, 8], [], none),
  (16, 1, .aload_n 0, [0], [], none),
  (17, 3, .getfield 28, [6, 8], [], none),
  (20, 1, .iload_n 1, [1], [], none),
  (21, 1, .iastore, [], [], none),
  (22, 1, .aload_n 0, [0], [], none),
  (23, 1, .dup, [], [], none),
  (24, 3, .getfield 28, [6, 8], [], none),
  (27, 1, .iconst 1, [], [.int 1], none),
  (28, 1, .iadd, [], [], none),
  (29, 3, .putfield 28, [6, 8, 0], [], none),
  (32, 1, .return_, [], [], some [])]
def jx_M85 : jx_M := (⟨"FairByEar$Rule", "emit", "(I)V"⟩, prog_10_method_16_code, 2, none, false, 0, jx_C85)
def jx_C86 : List jx_El := [(0, 1, .aload_n 0, [0], [], none),
  (1, 3, .getfield 34, [8, 8], [], none),
  (4, 1, .aload_n 0, [0], [], none),
  (5, 3, .getfield 31, [7, 8], [], none),
  (8, 1, .arraylength, [], [], none),
  (9, 3, .if_icmp .ge 23, [32], [], none),
  (12, 1, .aload_n 0, [0], [], none),
  (13, 3, .getfield 31, [7, 8], [], none),
  (16, 1, .aload_n 0, [0], [], none),
  (17, 3, .getfield 34, [8, 8], [], none),
  (20, 1, .iload_n 1, [1], [], none),
  (21, 1, .iastore, [], [], none),
  (22, 1, .aload_n 0, [0], [], none),
  (23, 1, .dup, [], [], none),
  (24, 3, .getfield 34, [8, 8], [], none),
  (27, 1, .iconst 1, [], [.int 1], none),
  (28, 1, .iadd, [], [], none),
  (29, 3, .putfield 34, [8, 8, 0], [], none),
  (32, 1, .return_, [], [], some [])]
def jx_M86 : jx_M := (⟨"FairByEar$Rule", "await", "(I)V"⟩, prog_10_method_17_code, 2, none, false, 0, jx_C86)
def jx_C87 : List jx_El := [(0, 1, .aload_n 0, [0], [], some [0, 1]),
  (1, 3, .getfield 34, [8, 8], [], none),
  (4, 3, .ifCond .le 50, [54], [], none),
  (7, 1, .aload_n 0, [0], [], none),
  (8, 3, .getfield 31, [7, 8], [], none),
  (11, 1, .aload_n 0, [0], [], none),
  (12, 3, .getfield 34, [8, 8], [], none),
  (15, 1, .iconst 1, [], [.int 1], none),
  (16, 1, .isub, [], [], none),
  (17, 1, .iaload, [], [], none),
  (18, 3, .invokestatic 113, [84, 0, 1, 1], [], none),
  (21, 1, .iload_n 1, [1], [], none),
  (22, 3, .if_icmp .lt 32, [54], [], none),
  (25, 1, .aload_n 0, [0], [], none),
  (26, 1, .aload_n 0, [0], [], none),
  (27, 3, .getfield 31, [7, 8], [], none),
  (30, 1, .aload_n 0, [0], [], none),
  (31, 3, .getfield 34, [8, 8], [], none),
  (34, 1, .iconst 1, [], [.int 1], none),
  (35, 1, .isub, [], [], none),
  (36, 1, .iaload, [], [], none),
  (37, 1, .ineg, [], [], none),
  (38, 3, .invokevirtual 91, [85, 0, 0, 2, 8], [], none),
  (41, 1, .aload_n 0, [0], [], none),
  (42, 1, .dup, [], [], none),
  (43, 3, .getfield 34, [8, 8], [], none),
  (46, 1, .iconst 1, [], [.int 1], none),
  (47, 1, .isub, [], [], none),
  (48, 3, .putfield 34, [8, 8, 0], [], none),
  (51, 3, .goto (-51), [0], [], none),
  (54, 1, .return_, [], [], some [])]
def jx_M87 : jx_M := (⟨"FairByEar$Rule", "release", "(I)V"⟩, prog_10_method_18_code, 2, none, false, 2, jx_C87)
def jx_C88 : List jx_El := [(0, 1, .iconst 0, [], [.int 0], none),
  (1, 1, .istore_n 2, [2], [], none),
  (2, 1, .iconst 0, [], [.int 0], none),
  (3, 1, .istore_n 3, [3], [], none),
  (4, 1, .iload_n 3, [3], [], some [0, 1, 2, 3]),
  (5, 1, .aload_n 0, [0], [], none),
  (6, 3, .getfield 22, [4, 8], [], none),
  (9, 3, .if_icmp .ge 157, [166], [], none),
  (12, 1, .aload_n 0, [0], [], none),
  (13, 3, .getfield 19, [3, 8], [], none),
  (16, 1, .iload_n 3, [3], [], none),
  (17, 1, .iaload, [], [], none),
  (18, 2, .istore 4, [4], [], none),
  (20, 2, .iload 4, [4], [], none),
  (22, 3, .ifCond .ge 12, [34], [], none),
  (25, 2, .iload 4, [4], [], none),
  (27, 1, .ineg, [], [], none),
  (28, 3, .invokestatic 94, [82, 0, 1, 1], [], none),
  (31, 3, .ifCond .eq 30, [61], [], none),
  (34, 1, .aload_n 0, [0], [], some [0, 1, 2, 3, 4]),
  (35, 1, .iload_n 2, [2], [], none),
  (36, 2, .iload 4, [4], [], none),
  (38, 3, .ifCond .lt 8, [46], [], none),
  (41, 2, .iload 4, [4], [], none),
  (43, 3, .goto 11, [54], [], none),
  (46, 1, .aload_n 0, [0], [], none),
  (47, 2, .iload 4, [4], [], none),
  (49, 1, .ineg, [], [], none),
  (50, 1, .iload_n 1, [1], [], none),
  (51, 3, .invokevirtual 116, [90, 0, 1, 3, 8], [], none),
  (54, 3, .invokevirtual 119, [89, 0, 1, 3, 8], [], some [0, 1, 3]),
  (57, 1, .istore_n 2, [2], [], none),
  (58, 3, .goto 102, [160], [], none),
  (61, 1, .iload_n 2, [2], [], none),
  (62, 1, .iconst 1, [], [.int 1], none),
  (63, 3, .if_icmp .lt 61, [124], [], none),
  (66, 2, .iload 4, [4], [], none),
  (68, 1, .ineg, [], [], none),
  (69, 3, .invokestatic 113, [84, 0, 1, 1], [], none),
  (72, 2, .bipush 6, [], [.int 6], none),
  (74, 3, .if_icmp .ne 50, [124], [], none),
  (77, 1, .aload_n 0, [0], [], none),
  (78, 3, .getfield 51, [13, 8], [], none),
  (81, 1, .iload_n 2, [2], [], none),
  (82, 1, .iconst 1, [], [.int 1], none),
  (83, 1, .isub, [], [], none),
  (84, 1, .iaload, [], [], none),
  (85, 2, .istore 5, [5], [], none),
  (87, 1, .aload_n 0, [0], [], none),
  (88, 3, .getfield 51, [13, 8], [], none),
  (91, 1, .iload_n 2, [2], [], none),
  (92, 1, .iconst 1, [], [.int 1], none),
  (93, 1, .isub, [], [], none),
  (94, 2, .iload 4, [4], [], none),
  (96, 2, .bipush (-126), [], [.int (-126)], none),
  (98, 3, .if_icmp .ne 9, [107], [], none),
  (101, 2, .iload 5, [5], [], none),
  (103, 1, .ineg, [], [], none),
  (104, 3, .goto 16, [120], [], none),
  (107, 2, .iload 5, [5], [], none),
  (109, 3, .ifCond .ne 7, [116], [], none),
  (112, 1, .iconst 1, [], [.int 1], none),
  (113, 3, .goto 4, [117], [], none),
  (116, 1, .iconst 0, [], [.int 0], none),
  (117, 3, .invokestatic 122, [92, 0, 1, 1], [], some [0, 1, 2, 3]),
  (120, 1, .iastore, [], [], some [0, 1, 2, 3]),
  (121, 3, .goto 39, [160], [], none),
  (124, 1, .iload_n 2, [2], [], some [0, 1, 2, 3, 4]),
  (125, 1, .iconst 2, [], [.int 2], none),
  (126, 3, .if_icmp .lt 34, [160], [], none),
  (129, 3, .iinc 2 (-1), [2], [.int (-1)], none),
  (132, 1, .aload_n 0, [0], [], none),
  (133, 3, .getfield 51, [13, 8], [], none),
  (136, 1, .iload_n 2, [2], [], none),
  (137, 1, .iconst 1, [], [.int 1], none),
  (138, 1, .isub, [], [], none),
  (139, 2, .iload 4, [4], [], none),
  (141, 1, .ineg, [], [], none),
  (142, 1, .aload_n 0, [0], [], none),
  (143, 3, .getfield 51, [13, 8], [], none),
  (146, 1, .iload_n 2, [2], [], none),
  (147, 1, .iconst 1, [], [.int 1], none),
  (148, 1, .isub, [], [], none),
  (149, 1, .iaload, [], [], none),
  (150, 1, .aload_n 0, [0], [], none),
  (151, 3, .getfield 51, [13, 8], [], none),
  (154, 1, .iload_n 2, [2], [], none),
  (155, 1, .iaload, [], [], none),
  (156, 3, .invokestatic 126, [91, 0, 1, 3], [], none),
  (159, 1, .iastore, [], [], none),
  (160, 3, .iinc 3 1, [3], [.int 1], some [0, 1, 2, 3]),
  (163, 3, .goto (-159), [4], [], none),
  (166, 1, .iload_n 2, [2], [], none),
  (167, 3, .ifCond .le 12, [179], [], none),
  (170, 1, .aload_n 0, [0], [], none),
  (171, 3, .getfield 51, [13, 8], [], none),
  (174, 1, .iconst 0, [], [.int 0], none),
  (175, 1, .iaload, [], [], none),
  (176, 3, .goto 4, [180], [], none),
  (179, 1, .iconst 0, [], [.int 0], none),
  (180, 1, .ireturn, [], [], some [])]
def jx_M88 : jx_M := (⟨"FairByEar$Rule", "valueFor", "(I)I"⟩, prog_10_method_19_code, 6, (some .int), false, 4, jx_C88)
def jx_C89 : List jx_El := [(0, 1, .iload_n 1, [1], [], none),
  (1, 3, .ifCond .lt 12, [13], [], none),
  (4, 1, .iload_n 1, [1], [], none),
  (5, 1, .aload_n 0, [0], [], none),
  (6, 3, .getfield 51, [13, 8], [], none),
  (9, 1, .arraylength, [], [], none),
  (10, 3, .if_icmp .lt 5, [15], [], none),
  (13, 1, .iload_n 1, [1], [], some [1]),
  (14, 1, .ireturn, [], [], none),
  (15, 1, .aload_n 0, [0], [], none),
  (16, 3, .getfield 51, [13, 8], [], none),
  (19, 1, .iload_n 1, [1], [], none),
  (20, 1, .iload_n 2, [2], [], none),
  (21, 1, .iastore, [], [], none),
  (22, 1, .iload_n 1, [1], [], none),
  (23, 1, .iconst 1, [], [.int 1], none),
  (24, 1, .iadd, [], [], none),
  (25, 1, .ireturn, [], [], none)]
def jx_M89 : jx_M := (⟨"FairByEar$Rule", "put", "(II)I"⟩, prog_10_method_20_code, 3, (some .int), false, 0, jx_C89)
def jx_C90 : List jx_El := [(0, 1, .aload_n 0, [0], [], none),
  (1, 3, .getfield 57, [0, 8], [], none),
  (4, 1, .iload_n 2, [2], [], none),
  (5, 3, .invokevirtual 130, [26, 0, 1, 2, 5], [], none),
  (8, 1, .istore_n 3, [3], [], none),
  (9, 1, .iload_n 1, [1], [], none),
  (10, 50, .lookupswitch 88 #[(102, 70), (108, 50), (110, 68), (117, 59), (119, 79)], [98, 80, 60, 78, 69, 89], [.int 102, .int 108, .int 110, .int 117, .int 119], none),
  (60, 1, .aload_n 0, [0], [], none),
  (61, 3, .getfield 57, [0, 8], [], none),
  (64, 1, .iload_n 2, [2], [], none),
  (65, 3, .invokevirtual 135, [29, 0, 1, 2, 5], [], none),
  (68, 1, .ireturn, [], [], none),
  (69, 1, .aload_n 0, [0], [], none),
  (70, 3, .getfield 57, [0, 8], [], none),
  (73, 1, .iload_n 2, [2], [], none),
  (74, 3, .invokevirtual 138, [27, 0, 1, 2, 5], [], none),
  (77, 1, .ireturn, [], [], none),
  (78, 1, .iload_n 2, [2], [], none),
  (79, 1, .ireturn, [], [], none),
  (80, 1, .aload_n 0, [0], [], none),
  (81, 3, .getfield 57, [0, 8], [], none),
  (84, 1, .iload_n 2, [2], [], none),
  (85, 3, .invokevirtual 141, [30, 0, 1, 2, 5], [], none),
  (88, 1, .ireturn, [], [], none),
  (89, 1, .aload_n 0, [0], [], none),
  (90, 3, .getfield 57, [0, 8], [], none),
  (93, 1, .iload_n 3, [3], [], none),
  (94, 3, .invokevirtual 144, [23, 0, 1, 2, 5], [], none),
  (97, 1, .ireturn, [], [], none),
  (98, 1, .aload_n 0, [0], [], none),
  (99, 3, .getfield 57, [0, 8], [], none),
  (102, 1, .iload_n 3, [3], [], none),
  (103, 3, .invokevirtual 147, [31, 0, 1, 2, 5], [], none),
  (106, 1, .ireturn, [], [], none)]
def jx_M90 : jx_M := (⟨"FairByEar$Rule", "signFor", "(II)I"⟩, prog_10_method_21_code, 4, (some .int), false, 3, jx_C90)
def jx_C91 : List jx_El := [(0, 1, .iload_n 0, [0], [], none),
  (1, 67, .lookupswitch 151 #[(38, 84), (43, 143), (45, 147), (60, 101), (61, 129), (62, 115), (124, 67)], [152, 85, 144, 148, 102, 130, 116, 68], [.int 38, .int 43, .int 45, .int 60, .int 61, .int 62, .int 124], none),
  (68, 1, .iload_n 1, [1], [], none),
  (69, 3, .ifCond .ne 7, [76], [], none),
  (72, 1, .iload_n 2, [2], [], none),
  (73, 3, .ifCond .eq 7, [80], [], none),
  (76, 1, .iconst 1, [], [.int 1], some []),
  (77, 3, .goto 4, [81], [], none),
  (80, 1, .iconst 0, [], [.int 0], none),
  (81, 3, .invokestatic 122, [92, 0, 1, 1], [], some []),
  (84, 1, .ireturn, [], [], none),
  (85, 1, .iload_n 1, [1], [], none),
  (86, 3, .ifCond .eq 11, [97], [], none),
  (89, 1, .iload_n 2, [2], [], none),
  (90, 3, .ifCond .eq 7, [97], [], none),
  (93, 1, .iconst 1, [], [.int 1], none),
  (94, 3, .goto 4, [98], [], none),
  (97, 1, .iconst 0, [], [.int 0], some []),
  (98, 3, .invokestatic 122, [92, 0, 1, 1], [], some []),
  (101, 1, .ireturn, [], [], none),
  (102, 1, .iload_n 1, [1], [], none),
  (103, 1, .iload_n 2, [2], [], none),
  (104, 3, .if_icmp .ge 7, [111], [], none),
  (107, 1, .iconst 1, [], [.int 1], none),
  (108, 3, .goto 4, [112], [], none),
  (111, 1, .iconst 0, [], [.int 0], none),
  (112, 3, .invokestatic 122, [92, 0, 1, 1], [], some []),
  (115, 1, .ireturn, [], [], none),
  (116, 1, .iload_n 1, [1], [], none),
  (117, 1, .iload_n 2, [2], [], none),
  (118, 3, .if_icmp .le 7, [125], [], none),
  (121, 1, .iconst 1, [], [.int 1], none),
  (122, 3, .goto 4, [126], [], none),
  (125, 1, .iconst 0, [], [.int 0], none),
  (126, 3, .invokestatic 122, [92, 0, 1, 1], [], some []),
  (129, 1, .ireturn, [], [], none),
  (130, 1, .iload_n 1, [1], [], none),
  (131, 1, .iload_n 2, [2], [], none),
  (132, 3, .if_icmp .ne 7, [139], [], none),
  (135, 1, .iconst 1, [], [.int 1], none),
  (136, 3, .goto 4, [140], [], none),
  (139, 1, .iconst 0, [], [.int 0], none),
  (140, 3, .invokestatic 122, [92, 0, 1, 1], [], some []),
  (143, 1, .ireturn, [], [], none),
  (144, 1, .iload_n 1, [1], [], none),
  (145, 1, .iload_n 2, [2], [], none),
  (146, 1, .iadd, [], [], none),
  (147, 1, .ireturn, [], [], none),
  (148, 1, .iload_n 1, [1], [], none),
  (149, 1, .iload_n 2, [2], [], none),
  (150, 1, .isub, [], [], none),
  (151, 1, .ireturn, [], [], none),
  (152, 1, .iload_n 1, [1], [], none),
  (153, 1, .iload_n 2, [2], [], none),
  (154, 1, .imul, [], [], none),
  (155, 1, .ireturn, [], [], none)]
def jx_M91 : jx_M := (⟨"FairByEar$Rule", "between", "(III)I"⟩, prog_10_method_22_code, 3, (some .int), true, 1, jx_C91)
def jx_C92 : List jx_El := [(0, 1, .iload_n 0, [0], [], none),
  (1, 3, .ifCond .eq 7, [8], [], none),
  (4, 1, .iconst 1, [], [.int 1], none),
  (5, 3, .goto 4, [9], [], none),
  (8, 1, .iconst 0, [], [.int 0], none),
  (9, 1, .ireturn, [], [], some [])]
def jx_M92 : jx_M := (⟨"FairByEar$Rule", "bit", "(Z)I"⟩, prog_10_method_23_code, 1, (some .int), true, 0, jx_C92)
def jx_C93 : List jx_El := [(0, 1, .aload_n 0, [0], [], none),
  (1, 3, .getfield 57, [0, 8], [], none),
  (4, 3, .invokevirtual 150, [18, 0, 1, 1, 5], [], none),
  (7, 1, .istore_n 2, [2], [], none),
  (8, 1, .iconst 0, [], [.int 0], none),
  (9, 1, .istore_n 3, [3], [], none),
  (10, 1, .iload_n 3, [3], [], some [0, 1, 2, 3]),
  (11, 1, .iload_n 2, [2], [], none),
  (12, 3, .if_icmp .ge 20, [32], [], none),
  (15, 1, .aload_n 0, [0], [], none),
  (16, 3, .getfield 54, [14, 8], [], none),
  (19, 1, .iload_n 3, [3], [], none),
  (20, 1, .aload_n 0, [0], [], none),
  (21, 1, .iload_n 3, [3], [], none),
  (22, 3, .invokevirtual 154, [88, 0, 1, 2, 8], [], none),
  (25, 1, .iastore, [], [], none),
  (26, 3, .iinc 3 1, [3], [.int 1], none),
  (29, 3, .goto (-19), [10], [], none),
  (32, 1, .aload_n 1, [1], [], none),
  (33, 3, .invokevirtual 157, [6, 0, 0, 1, 7], [], none),
  (36, 1, .iconst 0, [], [.int 0], none),
  (37, 1, .istore_n 3, [3], [], none),
  (38, 1, .iconst 0, [], [.int 0], none),
  (39, 2, .istore 4, [4], [], none),
  (41, 2, .iload 4, [4], [], some [0, 1, 2, 3, 4]),
  (43, 1, .iload_n 2, [2], [], none),
  (44, 3, .if_icmp .ge 41, [85], [], none),
  (47, 1, .aload_n 0, [0], [], none),
  (48, 1, .iload_n 2, [2], [], none),
  (49, 1, .iload_n 3, [3], [], none),
  (50, 3, .invokevirtual 162, [94, 0, 1, 3, 8], [], none),
  (53, 2, .istore 5, [5], [], none),
  (55, 1, .iload_n 3, [3], [], none),
  (56, 2, .iload 5, [5], [], none),
  (58, 1, .iconst (-1), [], [.int (-1)], none),
  (59, 3, .if_icmp .ne 7, [66], [], none),
  (62, 1, .iconst 0, [], [.int 0], none),
  (63, 3, .goto 7, [70], [], none),
  (66, 1, .iconst 1, [], [.int 1], none),
  (67, 2, .iload 5, [5], [], none),
  (69, 1, .ishl, [], [], none),
  (70, 1, .ior, [], [], some [0, 1, 2, 4, 5]),
  (71, 1, .istore_n 3, [3], [], none),
  (72, 1, .aload_n 1, [1], [], none),
  (73, 2, .iload 5, [5], [], none),
  (75, 1, .i2l, [], [], none),
  (76, 3, .invokevirtual 165, [7, 0, 0, 2, 7], [], none),
  (79, 3, .iinc 4 1, [4], [.int 1], none),
  (82, 3, .goto (-41), [41], [], none),
  (85, 1, .aload_n 0, [0], [], none),
  (86, 1, .iload_n 2, [2], [], none),
  (87, 3, .invokevirtual 169, [95, 0, 1, 2, 8], [], none),
  (90, 1, .ireturn, [], [], none)]
def jx_M93 : jx_M := (⟨"FairByEar$Rule", "tellOrder", "(LFairByEar$Row;)I"⟩, prog_10_method_24_code, 6, (some .int), false, 5, jx_C93)
def jx_C94 : List jx_El := [(0, 1, .iconst (-1), [], [.int (-1)], none),
  (1, 1, .istore_n 3, [3], [], none),
  (2, 1, .iconst 0, [], [.int 0], none),
  (3, 2, .istore 4, [4], [], none),
  (5, 1, .iconst 0, [], [.int 0], none),
  (6, 2, .istore 5, [5], [], none),
  (8, 2, .iload 5, [5], [], some [0, 1, 2, 3, 4, 5]),
  (10, 1, .iload_n 1, [1], [], none),
  (11, 3, .if_icmp .ge 47, [58], [], none),
  (14, 1, .iload_n 2, [2], [], none),
  (15, 2, .iload 5, [5], [], none),
  (17, 3, .invokestatic 172, [216, 0, 1, 2], [], none),
  (20, 3, .ifCond .ne 32, [52], [], none),
  (23, 1, .iload_n 3, [3], [], none),
  (24, 1, .iconst (-1), [], [.int (-1)], none),
  (25, 3, .if_icmp .eq 15, [40], [], none),
  (28, 1, .aload_n 0, [0], [], none),
  (29, 3, .getfield 54, [14, 8], [], none),
  (32, 2, .iload 5, [5], [], none),
  (34, 1, .iaload, [], [], none),
  (35, 2, .iload 4, [4], [], none),
  (37, 3, .if_icmp .le 15, [52], [], none),
  (40, 2, .iload 5, [5], [], some [0, 1, 2, 5]),
  (42, 1, .istore_n 3, [3], [], none),
  (43, 1, .aload_n 0, [0], [], none),
  (44, 3, .getfield 54, [14, 8], [], none),
  (47, 2, .iload 5, [5], [], none),
  (49, 1, .iaload, [], [], none),
  (50, 2, .istore 4, [4], [], none),
  (52, 3, .iinc 5 1, [5], [.int 1], some [0, 1, 2, 3, 4, 5]),
  (55, 3, .goto (-47), [8], [], none),
  (58, 1, .iload_n 3, [3], [], none),
  (59, 1, .ireturn, [], [], none)]
def jx_M94 : jx_M := (⟨"FairByEar$Rule", "firstOf", "(II)I"⟩, prog_10_method_25_code, 6, (some .int), false, 1, jx_C94)
def jx_C95 : List jx_El := [(0, 1, .iconst 0, [], [.int 0], none),
  (1, 1, .istore_n 2, [2], [], none),
  (2, 1, .iconst 0, [], [.int 0], none),
  (3, 1, .istore_n 3, [3], [], none),
  (4, 1, .iload_n 3, [3], [], some [0, 1, 2, 3]),
  (5, 1, .iload_n 1, [1], [], none),
  (6, 3, .if_icmp .ge 45, [51], [], none),
  (9, 1, .iload_n 3, [3], [], none),
  (10, 1, .iconst 1, [], [.int 1], none),
  (11, 1, .iadd, [], [], none),
  (12, 2, .istore 4, [4], [], none),
  (14, 2, .iload 4, [4], [], some [0, 1, 2, 3, 4]),
  (16, 1, .iload_n 1, [1], [], none),
  (17, 3, .if_icmp .ge 28, [45], [], none),
  (20, 1, .aload_n 0, [0], [], none),
  (21, 3, .getfield 54, [14, 8], [], none),
  (24, 1, .iload_n 3, [3], [], none),
  (25, 1, .iaload, [], [], none),
  (26, 1, .aload_n 0, [0], [], none),
  (27, 3, .getfield 54, [14, 8], [], none),
  (30, 2, .iload 4, [4], [], none),
  (32, 1, .iaload, [], [], none),
  (33, 3, .if_icmp .ne 6, [39], [], none),
  (36, 3, .iinc 2 1, [2], [.int 1], none),
  (39, 3, .iinc 4 1, [4], [.int 1], some [0, 1, 2, 3, 4]),
  (42, 3, .goto (-28), [14], [], none),
  (45, 3, .iinc 3 1, [3], [.int 1], none),
  (48, 3, .goto (-44), [4], [], none),
  (51, 1, .iload_n 2, [2], [], none),
  (52, 1, .ireturn, [], [], none)]
def jx_M95 : jx_M := (⟨"FairByEar$Rule", "equalPairs", "(I)I"⟩, prog_10_method_26_code, 5, (some .int), false, 0, jx_C95)
def jx_C96 : List jx_El := [(0, 1, .aload_n 0, [0], [], none),
  (1, 3, .getfield 18, [3, 4], [], none),
  (4, 1, .ireturn, [], [], none)]
def jx_M96 : jx_M := (⟨"FairByEar$Items", "size", "()I"⟩, prog_6_method_2_code, 1, (some .int), false, 0, jx_C96)
def jx_C97 : List jx_El := [(0, 1, .aload_n 0, [0], [], none),
  (1, 3, .getfield 37, [9, 4], [], none),
  (4, 1, .ireturn, [], [], none)]
def jx_M97 : jx_M := (⟨"FairByEar$Items", "sales", "()I"⟩, prog_6_method_3_code, 1, (some .int), false, 0, jx_C97)
def jx_C98 : List jx_El := [(0, 1, .aload_n 0, [0], [], none),
  (1, 3, .getfield 22, [4, 4], [], none),
  (4, 1, .ireturn, [], [], none)]
def jx_M98 : jx_M := (⟨"FairByEar$Items", "soldOnes", "()I"⟩, prog_6_method_4_code, 1, (some .int), false, 0, jx_C98)
def jx_C99 : List jx_El := [(0, 1, .iload_n 1, [1], [], none),
  (1, 3, .ifCond .lt 15, [16], [], none),
  (4, 1, .iload_n 1, [1], [], none),
  (5, 1, .aload_n 0, [0], [], none),
  (6, 3, .getfield 18, [3, 4], [], none),
  (9, 3, .if_icmp .ge 7, [16], [], none),
  (12, 1, .iconst 1, [], [.int 1], none),
  (13, 3, .goto 4, [17], [], none),
  (16, 1, .iconst 0, [], [.int 0], some []),
  (17, 1, .ireturn, [1], [], some [])]
def jx_M99 : jx_M := (⟨"FairByEar$Items", "isItem", "(I)Z"⟩, prog_6_method_5_code, 2, (some .boolean), false, 0, jx_C99)
def jx_C100 : List jx_El := [(0, 1, .aload_n 0, [0], [], none),
  (1, 1, .iload_n 1, [1], [], none),
  (2, 3, .invokevirtual 44, [99, 0, 1, 2, 4], [], none),
  (5, 3, .ifCond .eq 18, [23], [], none),
  (8, 1, .aload_n 0, [0], [], none),
  (9, 3, .getfield 22, [4, 4], [], none),
  (12, 1, .iload_n 1, [1], [], none),
  (13, 3, .invokestatic 48, [216, 0, 1, 2], [], none),
  (16, 3, .ifCond .eq 7, [23], [], none),
  (19, 1, .iconst 1, [], [.int 1], none),
  (20, 3, .goto 4, [24], [], none),
  (23, 1, .iconst 0, [], [.int 0], some []),
  (24, 1, .ireturn, [1], [], some [])]
def jx_M100 : jx_M := (⟨"FairByEar$Items", "isSold", "(I)Z"⟩, prog_6_method_6_code, 2, (some .boolean), false, 1, jx_C100)
def jx_C101 : List jx_El := [(0, 1, .aload_n 0, [0], [], none),
  (1, 1, .iload_n 1, [1], [], none),
  (2, 3, .invokevirtual 44, [99, 0, 1, 2, 4], [], none),
  (5, 3, .ifCond .eq 12, [17], [], none),
  (8, 1, .aload_n 0, [0], [], none),
  (9, 3, .getfield 9, [1, 4], [], none),
  (12, 1, .iload_n 1, [1], [], none),
  (13, 1, .iaload, [], [], none),
  (14, 3, .goto 4, [18], [], none),
  (17, 1, .iconst 0, [], [.int 0], none),
  (18, 1, .ireturn, [], [], some [])]
def jx_M101 : jx_M := (⟨"FairByEar$Items", "goodOf", "(I)I"⟩, prog_6_method_7_code, 2, (some .int), false, 1, jx_C101)
def jx_C102 : List jx_El := [(0, 1, .aload_n 0, [0], [], none),
  (1, 1, .iload_n 1, [1], [], none),
  (2, 3, .invokevirtual 44, [99, 0, 1, 2, 4], [], none),
  (5, 3, .ifCond .eq 12, [17], [], none),
  (8, 1, .aload_n 0, [0], [], none),
  (9, 3, .getfield 15, [2, 4], [], none),
  (12, 1, .iload_n 1, [1], [], none),
  (13, 1, .iaload, [], [], none),
  (14, 3, .goto 4, [18], [], none),
  (17, 1, .iconst (-1), [], [.int (-1)], none),
  (18, 1, .ireturn, [], [], some [])]
def jx_M102 : jx_M := (⟨"FairByEar$Items", "ownerOf", "(I)I"⟩, prog_6_method_8_code, 2, (some .int), false, 1, jx_C102)
def jx_C103 : List jx_El := [(0, 1, .aload_n 0, [0], [], none),
  (1, 3, .getfield 18, [3, 4], [], none),
  (4, 2, .bipush 12, [], [.int 12], none),
  (6, 3, .if_icmp .lt 5, [11], [], none),
  (9, 1, .iconst (-1), [], [.int (-1)], none),
  (10, 1, .ireturn, [], [], none),
  (11, 1, .aload_n 0, [0], [], none),
  (12, 3, .getfield 9, [1, 4], [], none),
  (15, 1, .aload_n 0, [0], [], none),
  (16, 3, .getfield 18, [3, 4], [], none),
  (19, 1, .iload_n 1, [1], [], none),
  (20, 1, .iastore, [], [], none),
  (21, 1, .aload_n 0, [0], [], none),
  (22, 3, .getfield 15, [2, 4], [], none),
  (25, 1, .aload_n 0, [0], [], none),
  (26, 3, .getfield 18, [3, 4], [], none),
  (29, 1, .iload_n 2, [2], [], none),
  (30, 1, .iastore, [], [], none),
  (31, 1, .aload_n 0, [0], [], none),
  (32, 1, .dup, [], [], none),
  (33, 3, .getfield 18, [3, 4], [], none),
  (36, 1, .iconst 1, [], [.int 1], none),
  (37, 1, .iadd, [], [], none),
  (38, 3, .putfield 18, [3, 4, 0], [], none),
  (41, 1, .aload_n 0, [0], [], none),
  (42, 3, .getfield 18, [3, 4], [], none),
  (45, 1, .iconst 1, [], [.int 1], none),
  (46, 1, .isub, [], [], none),
  (47, 1, .ireturn, [], [], none)]
def jx_M103 : jx_M := (⟨"FairByEar$Items", "addItem", "(II)I"⟩, prog_6_method_9_code, 3, (some .int), false, 0, jx_C103)
def jx_C104 : List jx_El := [(0, 1, .iconst 0, [], [.int 0], none),
  (1, 1, .istore_n 2, [2], [], none),
  (2, 1, .iconst 0, [], [.int 0], none),
  (3, 1, .istore_n 3, [3], [], none),
  (4, 1, .iload_n 3, [3], [], some [0, 1, 2, 3]),
  (5, 1, .aload_n 0, [0], [], none),
  (6, 3, .getfield 18, [3, 4], [], none),
  (9, 3, .if_icmp .ge 28, [37], [], none),
  (12, 1, .iload_n 1, [1], [], none),
  (13, 1, .aload_n 0, [0], [], none),
  (14, 3, .getfield 15, [2, 4], [], none),
  (17, 1, .iload_n 3, [3], [], none),
  (18, 1, .iaload, [], [], none),
  (19, 3, .invokestatic 48, [216, 0, 1, 2], [], none),
  (22, 3, .ifCond .eq 9, [31], [], none),
  (25, 1, .iload_n 2, [2], [], none),
  (26, 1, .iconst 1, [], [.int 1], none),
  (27, 1, .iload_n 3, [3], [], none),
  (28, 1, .ishl, [], [], none),
  (29, 1, .ior, [], [], none),
  (30, 1, .istore_n 2, [2], [], none),
  (31, 3, .iinc 3 1, [3], [.int 1], some [0, 1, 2, 3]),
  (34, 3, .goto (-30), [4], [], none),
  (37, 1, .iload_n 2, [2], [], none),
  (38, 1, .ireturn, [], [], none)]
def jx_M104 : jx_M := (⟨"FairByEar$Items", "ownedBy", "(I)I"⟩, prog_6_method_10_code, 4, (some .int), false, 1, jx_C104)
def jx_C105 : List jx_El := [(0, 1, .aload_n 0, [0], [], none),
  (1, 1, .iload_n 1, [1], [], none),
  (2, 3, .invokevirtual 44, [99, 0, 1, 2, 4], [], none),
  (5, 3, .ifCond .eq 14, [19], [], none),
  (8, 1, .aload_n 0, [0], [], none),
  (9, 3, .getfield 40, [0, 4], [], none),
  (12, 1, .iload_n 2, [2], [], none),
  (13, 3, .invokevirtual 52, [16, 0, 1, 2, 5], [], none),
  (16, 3, .ifCond .ne 5, [21], [], none),
  (19, 1, .iconst (-1), [], [.int (-1)], some []),
  (20, 1, .ireturn, [], [], none),
  (21, 1, .aload_n 0, [0], [], none),
  (22, 1, .iload_n 1, [1], [], none),
  (23, 3, .invokevirtual 57, [100, 0, 1, 2, 4], [], none),
  (26, 3, .ifCond .eq 6, [32], [], none),
  (29, 2, .bipush (-2), [], [.int (-2)], none),
  (31, 1, .ireturn, [], [], none),
  (32, 1, .aload_n 0, [0], [], none),
  (33, 3, .getfield 15, [2, 4], [], none),
  (36, 1, .iload_n 1, [1], [], none),
  (37, 1, .iaload, [], [], none),
  (38, 2, .istore 4, [4], [], none),
  (40, 2, .iload 4, [4], [], none),
  (42, 1, .iload_n 2, [2], [], none),
  (43, 3, .if_icmp .eq 15, [58], [], none),
  (46, 1, .iload_n 3, [3], [], none),
  (47, 1, .aload_n 0, [0], [], none),
  (48, 3, .getfield 40, [0, 4], [], none),
  (51, 1, .iload_n 2, [2], [], none),
  (52, 3, .invokevirtual 60, [27, 0, 1, 2, 5], [], none),
  (55, 3, .if_icmp .le 6, [61], [], none),
  (58, 2, .bipush (-3), [], [.int (-3)], some []),
  (60, 1, .ireturn, [], [], none),
  (61, 1, .aload_n 0, [0], [], none),
  (62, 3, .getfield 40, [0, 4], [], none),
  (65, 1, .aload_n 0, [0], [], none),
  (66, 3, .getfield 40, [0, 4], [], none),
  (69, 1, .iload_n 2, [2], [], none),
  (70, 3, .invokevirtual 64, [26, 0, 1, 2, 5], [], none),
  (73, 1, .aload_n 0, [0], [], none),
  (74, 3, .getfield 40, [0, 4], [], none),
  (77, 2, .iload 4, [4], [], none),
  (79, 3, .invokevirtual 64, [26, 0, 1, 2, 5], [], none),
  (82, 3, .invokevirtual 67, [21, 0, 1, 3, 5], [], none),
  (85, 3, .ifCond .ne 6, [91], [], none),
  (88, 2, .bipush (-4), [], [.int (-4)], none),
  (90, 1, .ireturn, [], [], none),
  (91, 1, .aload_n 0, [0], [], none),
  (92, 1, .iload_n 1, [1], [], none),
  (93, 2, .iload 4, [4], [], none),
  (95, 1, .iload_n 2, [2], [], none),
  (96, 3, .invokevirtual 70, [106, 0, 0, 4, 4], [], none),
  (99, 1, .aload_n 0, [0], [], none),
  (100, 3, .getfield 40, [0, 4], [], none),
  (103, 1, .iload_n 2, [2], [], none),
  (104, 1, .aload_n 0, [0], [], none),
  (105, 3, .getfield 40, [0, 4], [], none),
  (108, 1, .iload_n 2, [2], [], none),
  (109, 3, .invokevirtual 60, [27, 0, 1, 2, 5], [], none),
  (112, 1, .iload_n 3, [3], [], none),
  (113, 1, .isub, [], [], none),
  (114, 3, .invokevirtual 74, [28, 0, 0, 3, 5], [], none),
  (117, 1, .aload_n 0, [0], [], none),
  (118, 3, .getfield 40, [0, 4], [], none),
  (121, 2, .iload 4, [4], [], none),
  (123, 1, .aload_n 0, [0], [], none),
  (124, 3, .getfield 40, [0, 4], [], none),
  (127, 2, .iload 4, [4], [], none),
  (129, 3, .invokevirtual 60, [27, 0, 1, 2, 5], [], none),
  (132, 1, .iload_n 3, [3], [], none),
  (133, 1, .iadd, [], [], none),
  (134, 3, .invokevirtual 74, [28, 0, 0, 3, 5], [], none),
  (137, 1, .aload_n 0, [0], [], none),
  (138, 3, .getfield 15, [2, 4], [], none),
  (141, 1, .iload_n 1, [1], [], none),
  (142, 1, .iload_n 2, [2], [], none),
  (143, 1, .iastore, [], [], none),
  (144, 1, .aload_n 0, [0], [], none),
  (145, 1, .dup, [], [], none),
  (146, 3, .getfield 22, [4, 4], [], none),
  (149, 1, .iconst 1, [], [.int 1], none),
  (150, 1, .iload_n 1, [1], [], none),
  (151, 1, .ishl, [], [], none),
  (152, 1, .ior, [], [], none),
  (153, 3, .putfield 22, [4, 4, 0], [], none),
  (156, 1, .aload_n 0, [0], [], none),
  (157, 3, .getfield 40, [0, 4], [], none),
  (160, 1, .iload_n 2, [2], [], none),
  (161, 3, .invokevirtual 60, [27, 0, 1, 2, 5], [], none),
  (164, 1, .ireturn, [], [], none)]
def jx_M105 : jx_M := (⟨"FairByEar$Items", "sell", "(III)I"⟩, prog_6_method_11_code, 5, (some .int), false, 3, jx_C105)
def jx_C106 : List jx_El := [(0, 1, .aload_n 0, [0], [], none),
  (1, 3, .getfield 37, [9, 4], [], none),
  (4, 2, .bipush 12, [], [.int 12], none),
  (6, 3, .if_icmp .ge 67, [73], [], none),
  (9, 1, .aload_n 0, [0], [], none),
  (10, 3, .getfield 25, [5, 4], [], none),
  (13, 1, .aload_n 0, [0], [], none),
  (14, 3, .getfield 37, [9, 4], [], none),
  (17, 1, .iload_n 1, [1], [], none),
  (18, 1, .iastore, [], [], none),
  (19, 1, .aload_n 0, [0], [], none),
  (20, 3, .getfield 28, [6, 4], [], none),
  (23, 1, .aload_n 0, [0], [], none),
  (24, 3, .getfield 37, [9, 4], [], none),
  (27, 1, .iload_n 2, [2], [], none),
  (28, 1, .iastore, [], [], none),
  (29, 1, .aload_n 0, [0], [], none),
  (30, 3, .getfield 31, [7, 4], [], none),
  (33, 1, .aload_n 0, [0], [], none),
  (34, 3, .getfield 37, [9, 4], [], none),
  (37, 1, .aload_n 0, [0], [], none),
  (38, 3, .getfield 40, [0, 4], [], none),
  (41, 1, .iload_n 2, [2], [], none),
  (42, 3, .invokevirtual 60, [27, 0, 1, 2, 5], [], none),
  (45, 1, .iastore, [], [], none),
  (46, 1, .aload_n 0, [0], [], none),
  (47, 3, .getfield 34, [8, 4], [], none),
  (50, 1, .aload_n 0, [0], [], none),
  (51, 3, .getfield 37, [9, 4], [], none),
  (54, 1, .aload_n 0, [0], [], none),
  (55, 3, .getfield 40, [0, 4], [], none),
  (58, 1, .iload_n 3, [3], [], none),
  (59, 3, .invokevirtual 60, [27, 0, 1, 2, 5], [], none),
  (62, 1, .iastore, [], [], none),
  (63, 1, .aload_n 0, [0], [], none),
  (64, 1, .dup, [], [], none),
  (65, 3, .getfield 37, [9, 4], [], none),
  (68, 1, .iconst 1, [], [.int 1], none),
  (69, 1, .iadd, [], [], none),
  (70, 3, .putfield 37, [9, 4, 0], [], none),
  (73, 1, .return_, [], [], some [])]
def jx_M106 : jx_M := (⟨"FairByEar$Items", "note", "(III)V"⟩, prog_6_method_12_code, 4, none, false, 2, jx_C106)
def jx_C107 : List jx_El := [(0, 1, .aload_n 0, [0], [], none),
  (1, 3, .getfield 37, [9, 4], [], none),
  (4, 3, .ifCond .ne 6, [10], [], none),
  (7, 2, .bipush (-2), [], [.int (-2)], none),
  (9, 1, .ireturn, [], [], none),
  (10, 1, .aload_n 0, [0], [], none),
  (11, 1, .dup, [], [], none),
  (12, 3, .getfield 37, [9, 4], [], none),
  (15, 1, .iconst 1, [], [.int 1], none),
  (16, 1, .isub, [], [], none),
  (17, 3, .putfield 37, [9, 4, 0], [], none),
  (20, 1, .aload_n 0, [0], [], none),
  (21, 3, .getfield 25, [5, 4], [], none),
  (24, 1, .aload_n 0, [0], [], none),
  (25, 3, .getfield 37, [9, 4], [], none),
  (28, 1, .iaload, [], [], none),
  (29, 1, .istore_n 1, [1], [], none),
  (30, 1, .aload_n 0, [0], [], none),
  (31, 3, .getfield 40, [0, 4], [], none),
  (34, 1, .aload_n 0, [0], [], none),
  (35, 3, .getfield 15, [2, 4], [], none),
  (38, 1, .iload_n 1, [1], [], none),
  (39, 1, .iaload, [], [], none),
  (40, 1, .aload_n 0, [0], [], none),
  (41, 3, .getfield 34, [8, 4], [], none),
  (44, 1, .aload_n 0, [0], [], none),
  (45, 3, .getfield 37, [9, 4], [], none),
  (48, 1, .iaload, [], [], none),
  (49, 3, .invokevirtual 74, [28, 0, 0, 3, 5], [], none),
  (52, 1, .aload_n 0, [0], [], none),
  (53, 3, .getfield 40, [0, 4], [], none),
  (56, 1, .aload_n 0, [0], [], none),
  (57, 3, .getfield 28, [6, 4], [], none),
  (60, 1, .aload_n 0, [0], [], none),
  (61, 3, .getfield 37, [9, 4], [], none),
  (64, 1, .iaload, [], [], none),
  (65, 1, .aload_n 0, [0], [], none),
  (66, 3, .getfield 31, [7, 4], [], none),
  (69, 1, .aload_n 0, [0], [], none),
  (70, 3, .getfield 37, [9, 4], [], none),
  (73, 1, .iaload, [], [], none),
  (74, 3, .invokevirtual 74, [28, 0, 0, 3, 5], [], none),
  (77, 1, .aload_n 0, [0], [], none),
  (78, 3, .getfield 15, [2, 4], [], none),
  (81, 1, .iload_n 1, [1], [], none),
  (82, 1, .aload_n 0, [0], [], none),
  (83, 3, .getfield 28, [6, 4], [], none),
  (86, 1, .aload_n 0, [0], [], none),
  (87, 3, .getfield 37, [9, 4], [], none),
  (90, 1, .iaload, [], [], none),
  (91, 1, .iastore, [], [], none),
  (92, 1, .aload_n 0, [0], [], none),
  (93, 1, .dup, [], [], none),
  (94, 3, .getfield 22, [4, 4], [], none),
  (97, 1, .iconst 1, [], [.int 1], none),
  (98, 1, .iload_n 1, [1], [], none),
  (99, 1, .ishl, [], [], none),
  (100, 1, .iconst (-1), [], [.int (-1)], none),
  (101, 1, .ixor, [], [], none),
  (102, 1, .iand, [], [], none),
  (103, 3, .putfield 22, [4, 4, 0], [], none),
  (106, 1, .iload_n 1, [1], [], none),
  (107, 1, .ireturn, [], [], none)]
def jx_M107 : jx_M := (⟨"FairByEar$Items", "takeBack", "()I"⟩, prog_6_method_13_code, 2, (some .int), false, 2, jx_C107)
def jx_C108 : List jx_El := [(0, 1, .aload_n 0, [0], [], none),
  (1, 1, .iload_n 1, [1], [], none),
  (2, 1, .iload_n 2, [2], [], none),
  (3, 3, .invokevirtual 36, [109, 0, 1, 3, 1], [], none),
  (6, 2, .istore 4, [4], [], none),
  (8, 1, .aload_n 0, [0], [], none),
  (9, 3, .getfield 28, [0, 1], [], none),
  (12, 1, .iload_n 1, [1], [], none),
  (13, 3, .invokevirtual 40, [16, 0, 1, 2, 5], [], none),
  (16, 3, .ifCond .eq 25, [41], [], none),
  (19, 1, .iload_n 2, [2], [], none),
  (20, 1, .iconst 0, [], [.int 0], none),
  (21, 2, .bipush 9, [], [.int 9], none),
  (23, 3, .invokestatic 46, [215, 0, 1, 3], [], none),
  (26, 3, .ifCond .eq 15, [41], [], none),
  (29, 1, .aload_n 0, [0], [], none),
  (30, 3, .getfield 11, [2, 1], [], none),
  (33, 1, .iload_n 1, [1], [], none),
  (34, 2, .bipush 10, [], [.int 10], none),
  (36, 1, .imul, [], [], none),
  (37, 1, .iload_n 2, [2], [], none),
  (38, 1, .iadd, [], [], none),
  (39, 1, .iload_n 3, [3], [], none),
  (40, 1, .iastore, [], [], none),
  (41, 2, .iload 4, [4], [], some [4]),
  (43, 1, .ireturn, [], [], none)]
def jx_M108 : jx_M := (⟨"FairByEar$Asking", "setWants", "(III)I"⟩, prog_3_method_2_code, 5, (some .int), false, 2, jx_C108)
def jx_C109 : List jx_El := [(0, 1, .aload_n 0, [0], [], none),
  (1, 3, .getfield 28, [0, 1], [], none),
  (4, 1, .iload_n 1, [1], [], none),
  (5, 3, .invokevirtual 40, [16, 0, 1, 2, 5], [], none),
  (8, 3, .ifCond .eq 17, [25], [], none),
  (11, 1, .iload_n 2, [2], [], none),
  (12, 1, .iconst 0, [], [.int 0], none),
  (13, 2, .bipush 9, [], [.int 9], none),
  (15, 3, .invokestatic 46, [215, 0, 1, 3], [], none),
  (18, 3, .ifCond .eq 7, [25], [], none),
  (21, 1, .iconst 1, [], [.int 1], none),
  (22, 3, .goto 4, [26], [], none),
  (25, 1, .iconst 0, [], [.int 0], some [0, 1, 2]),
  (26, 1, .istore_n 3, [3], [], some [0, 1, 2]),
  (27, 1, .iload_n 3, [3], [], none),
  (28, 3, .ifCond .eq 17, [45], [], none),
  (31, 1, .aload_n 0, [0], [], none),
  (32, 3, .getfield 11, [2, 1], [], none),
  (35, 1, .iload_n 1, [1], [], none),
  (36, 2, .bipush 10, [], [.int 10], none),
  (38, 1, .imul, [], [], none),
  (39, 1, .iload_n 2, [2], [], none),
  (40, 1, .iadd, [], [], none),
  (41, 1, .iaload, [], [], none),
  (42, 3, .goto 4, [46], [], none),
  (45, 1, .iconst 0, [], [.int 0], none),
  (46, 1, .ireturn, [], [], some [])]
def jx_M109 : jx_M := (⟨"FairByEar$Asking", "wantsOf", "(II)I"⟩, prog_3_method_3_code, 4, (some .int), false, 1, jx_C109)
def jx_C110 : List jx_El := [(0, 1, .iload_n 1, [1], [], none),
  (1, 1, .iconst 1, [], [.int 1], none),
  (2, 2, .bipush 20, [], [.int 20], none),
  (4, 3, .invokestatic 46, [215, 0, 1, 3], [], none),
  (7, 3, .ifCond .ne 5, [12], [], none),
  (10, 1, .iconst (-1), [], [.int (-1)], none),
  (11, 1, .ireturn, [], [], none),
  (12, 1, .aload_n 0, [0], [], none),
  (13, 3, .getfield 15, [3, 1], [], none),
  (16, 1, .istore_n 2, [2], [], none),
  (17, 1, .aload_n 0, [0], [], none),
  (18, 1, .iload_n 1, [1], [], none),
  (19, 3, .putfield 15, [3, 1, 0], [], none),
  (22, 1, .iload_n 2, [2], [], none),
  (23, 1, .ireturn, [], [], none)]
def jx_M110 : jx_M := (⟨"FairByEar$Asking", "setWind", "(I)I"⟩, prog_3_method_4_code, 3, (some .int), false, 1, jx_C110)
def jx_C111 : List jx_El := [(0, 1, .aload_n 0, [0], [], none),
  (1, 3, .getfield 32, [1, 1], [], none),
  (4, 1, .iload_n 1, [1], [], none),
  (5, 3, .invokevirtual 50, [99, 0, 1, 2, 4], [], none),
  (8, 3, .ifCond .ne 4, [12], [], none),
  (11, 1, .return_, [], [], none),
  (12, 1, .iconst 0, [], [.int 0], none),
  (13, 1, .istore_n 3, [3], [], none),
  (14, 1, .iload_n 3, [3], [], some [0, 1, 2, 3]),
  (15, 2, .bipush 10, [], [.int 10], none),
  (17, 3, .if_icmp .ge 21, [38], [], none),
  (20, 1, .aload_n 0, [0], [], none),
  (21, 3, .getfield 19, [4, 1], [], none),
  (24, 1, .iload_n 3, [3], [], none),
  (25, 2, .bipush 12, [], [.int 12], none),
  (27, 1, .imul, [], [], none),
  (28, 1, .iload_n 1, [1], [], none),
  (29, 1, .iadd, [], [], none),
  (30, 1, .iload_n 2, [2], [], none),
  (31, 1, .iastore, [], [], none),
  (32, 3, .iinc 3 1, [3], [.int 1], none),
  (35, 3, .goto (-21), [14], [], none),
  (38, 1, .return_, [], [], none)]
def jx_M111 : jx_M := (⟨"FairByEar$Asking", "startPrice", "(II)V"⟩, prog_3_method_5_code, 4, none, false, 1, jx_C111)
def jx_C112 : List jx_El := [(0, 1, .aload_n 0, [0], [], none),
  (1, 3, .getfield 32, [1, 1], [], none),
  (4, 1, .iload_n 1, [1], [], none),
  (5, 3, .invokevirtual 50, [99, 0, 1, 2, 4], [], none),
  (8, 3, .ifCond .eq 15, [23], [], none),
  (11, 1, .aload_n 0, [0], [], none),
  (12, 3, .getfield 19, [4, 1], [], none),
  (15, 2, .bipush 108, [], [.int 108], none),
  (17, 1, .iload_n 1, [1], [], none),
  (18, 1, .iadd, [], [], none),
  (19, 1, .iaload, [], [], none),
  (20, 3, .goto 4, [24], [], none),
  (23, 1, .iconst 0, [], [.int 0], none),
  (24, 1, .ireturn, [], [], some [])]
def jx_M112 : jx_M := (⟨"FairByEar$Asking", "priceOf", "(I)I"⟩, prog_3_method_6_code, 2, (some .int), false, 1, jx_C112)
def jx_C113 : List jx_El := [(0, 1, .iload_n 1, [1], [], none),
  (1, 1, .iconst 0, [], [.int 0], none),
  (2, 3, .sipush 200, [], [.int 200], none),
  (5, 3, .invokestatic 46, [215, 0, 1, 3], [], none),
  (8, 3, .ifCond .ne 5, [13], [], none),
  (11, 1, .iconst 0, [], [.int 0], none),
  (12, 1, .ireturn, [], [], none),
  (13, 1, .aload_n 0, [0], [], none),
  (14, 3, .invokevirtual 55, [117, 0, 0, 1, 1], [], none),
  (17, 1, .aload_n 0, [0], [], none),
  (18, 3, .getfield 25, [6, 1], [], none),
  (21, 1, .iconst 0, [], [.int 0], none),
  (22, 3, .invokestatic 58, [5, 0, 0, 2], [], none),
  (25, 1, .iconst 0, [], [.int 0], none),
  (26, 1, .istore_n 2, [2], [], none),
  (27, 1, .iconst 0, [], [.int 0], none),
  (28, 1, .istore_n 3, [3], [], none),
  (29, 1, .iload_n 3, [3], [], some [0, 1, 2, 3]),
  (30, 1, .iload_n 1, [1], [], none),
  (31, 3, .if_icmp .ge 18, [49], [], none),
  (34, 1, .aload_n 0, [0], [], none),
  (35, 2, .bipush 9, [], [.int 9], none),
  (37, 1, .iload_n 3, [3], [], none),
  (38, 1, .iadd, [], [], none),
  (39, 3, .invokevirtual 64, [119, 0, 1, 2, 1], [], none),
  (42, 1, .istore_n 2, [2], [], none),
  (43, 3, .iinc 3 1, [3], [.int 1], none),
  (46, 3, .goto (-17), [29], [], none),
  (49, 1, .aload_n 0, [0], [], none),
  (50, 3, .getfield 19, [4, 1], [], none),
  (53, 1, .iload_n 1, [1], [], none),
  (54, 2, .bipush 12, [], [.int 12], none),
  (56, 1, .imul, [], [], none),
  (57, 1, .aload_n 0, [0], [], none),
  (58, 3, .getfield 19, [4, 1], [], none),
  (61, 1, .iconst 0, [], [.int 0], none),
  (62, 2, .bipush 120, [], [.int 120], none),
  (64, 3, .invokestatic 68, [0], [], none),
  (67, 1, .iload_n 2, [2], [], none),
  (68, 1, .ireturn, [], [], none)]
def jx_M113 : jx_M := (⟨"FairByEar$Asking", "askOn", "(I)I"⟩, prog_3_method_7_code, 4, (some .int), false, 4, jx_C113)
def jx_C114 : List jx_El := [(0, 1, .aload_n 1, [1], [], none),
  (1, 3, .invokevirtual 74, [6, 0, 0, 1, 7], [], none),
  (4, 1, .iconst 0, [], [.int 0], none),
  (5, 1, .istore_n 2, [2], [], none),
  (6, 1, .iload_n 2, [2], [], some [0, 1, 2]),
  (7, 1, .aload_n 0, [0], [], none),
  (8, 3, .getfield 32, [1, 1], [], none),
  (11, 3, .invokevirtual 79, [96, 0, 1, 1, 4], [], none),
  (14, 3, .if_icmp .ge 20, [34], [], none),
  (17, 1, .aload_n 1, [1], [], none),
  (18, 1, .aload_n 0, [0], [], none),
  (19, 3, .getfield 25, [6, 1], [], none),
  (22, 1, .iload_n 2, [2], [], none),
  (23, 1, .iaload, [], [], none),
  (24, 1, .i2l, [], [], none),
  (25, 3, .invokevirtual 83, [7, 0, 0, 2, 7], [], none),
  (28, 3, .iinc 2 1, [2], [.int 1], none),
  (31, 3, .goto (-25), [6], [], none),
  (34, 1, .return_, [], [], none)]
def jx_M114 : jx_M := (⟨"FairByEar$Asking", "tellAskers", "(LFairByEar$Row;)V"⟩, prog_3_method_8_code, 3, none, false, 1, jx_C114)
def jx_C115 : List jx_El := [(0, 1, .aload_n 0, [0], [], none),
  (1, 3, .invokevirtual 55, [117, 0, 0, 1, 1], [], none),
  (4, 1, .iconst 1, [], [.int 1], none),
  (5, 1, .istore_n 1, [1], [], none),
  (6, 1, .iload_n 1, [1], [], some [0, 1]),
  (7, 3, .sipush 200, [], [.int 200], none),
  (10, 3, .if_icmp .gt 60, [70], [], none),
  (13, 1, .aload_n 0, [0], [], none),
  (14, 2, .bipush 9, [], [.int 9], none),
  (16, 1, .iload_n 1, [1], [], none),
  (17, 1, .iadd, [], [], none),
  (18, 1, .iconst 1, [], [.int 1], none),
  (19, 1, .isub, [], [], none),
  (20, 3, .invokevirtual 64, [119, 0, 1, 2, 1], [], none),
  (23, 1, .pop, [], [], none),
  (24, 1, .iload_n 1, [1], [], none),
  (25, 1, .iconst 1, [], [.int 1], none),
  (26, 1, .isub, [], [], none),
  (27, 1, .istore_n 2, [2], [], none),
  (28, 1, .iload_n 2, [2], [], some [0, 1, 2]),
  (29, 3, .ifCond .lt 35, [64], [], none),
  (32, 1, .aload_n 0, [0], [], none),
  (33, 1, .iload_n 2, [2], [], none),
  (34, 1, .iload_n 1, [1], [], none),
  (35, 3, .invokevirtual 87, [116, 0, 1, 3, 1], [], none),
  (38, 3, .ifCond .eq 20, [58], [], none),
  (41, 1, .iload_n 2, [2], [], none),
  (42, 1, .iload_n 1, [1], [], none),
  (43, 1, .iconst 1, [], [.int 1], none),
  (44, 1, .isub, [], [], none),
  (45, 3, .if_icmp .ne 7, [52], [], none),
  (48, 1, .iload_n 2, [2], [], none),
  (49, 3, .goto 8, [57], [], none),
  (52, 1, .iconst (-1), [], [.int (-1)], none),
  (53, 1, .iload_n 1, [1], [], none),
  (54, 1, .iload_n 2, [2], [], none),
  (55, 1, .isub, [], [], none),
  (56, 1, .isub, [], [], none),
  (57, 1, .ireturn, [], [], some []),
  (58, 3, .iinc 2 (-1), [2], [.int (-1)], none),
  (61, 3, .goto (-33), [28], [], none),
  (64, 3, .iinc 1 1, [1], [.int 1], none),
  (67, 3, .goto (-61), [6], [], none),
  (70, 3, .sipush (-999), [], [.int (-999)], none),
  (73, 1, .ireturn, [], [], none)]
def jx_M115 : jx_M := (⟨"FairByEar$Asking", "foresee", "()I"⟩, prog_3_method_9_code, 3, (some .int), false, 4, jx_C115)
def jx_C116 : List jx_El := [(0, 2, .bipush 9, [], [.int 9], none),
  (2, 1, .istore_n 3, [3], [], none),
  (3, 1, .iload_n 3, [3], [], some [0, 1, 2, 3]),
  (4, 3, .ifCond .lt 71, [75], [], none),
  (7, 1, .iload_n 1, [1], [], none),
  (8, 1, .iload_n 3, [3], [], none),
  (9, 1, .iadd, [], [], none),
  (10, 2, .bipush 12, [], [.int 12], none),
  (12, 1, .imul, [], [], none),
  (13, 2, .istore 4, [4], [], none),
  (15, 1, .iload_n 2, [2], [], none),
  (16, 1, .iload_n 3, [3], [], none),
  (17, 1, .iadd, [], [], none),
  (18, 2, .bipush 12, [], [.int 12], none),
  (20, 1, .imul, [], [], none),
  (21, 2, .istore 5, [5], [], none),
  (23, 1, .iconst 0, [], [.int 0], none),
  (24, 2, .istore 6, [6], [], none),
  (26, 2, .iload 6, [6], [], some [0, 1, 2, 3, 4, 5, 6]),
  (28, 1, .aload_n 0, [0], [], none),
  (29, 3, .getfield 32, [1, 1], [], none),
  (32, 3, .invokevirtual 79, [96, 0, 1, 1, 4], [], none),
  (35, 3, .if_icmp .ge 34, [69], [], none),
  (38, 1, .aload_n 0, [0], [], none),
  (39, 3, .getfield 19, [4, 1], [], none),
  (42, 2, .iload 4, [4], [], none),
  (44, 2, .iload 6, [6], [], none),
  (46, 1, .iadd, [], [], none),
  (47, 1, .iaload, [], [], none),
  (48, 1, .aload_n 0, [0], [], none),
  (49, 3, .getfield 19, [4, 1], [], none),
  (52, 2, .iload 5, [5], [], none),
  (54, 2, .iload 6, [6], [], none),
  (56, 1, .iadd, [], [], none),
  (57, 1, .iaload, [], [], none),
  (58, 3, .if_icmp .eq 5, [63], [], none),
  (61, 1, .iconst 0, [], [.int 0], none),
  (62, 1, .ireturn, [1], [], none),
  (63, 3, .iinc 6 1, [6], [.int 1], none),
  (66, 3, .goto (-40), [26], [], none),
  (69, 3, .iinc 3 (-1), [3], [.int (-1)], none),
  (72, 3, .goto (-69), [3], [], none),
  (75, 1, .iconst 1, [], [.int 1], none),
  (76, 1, .ireturn, [1], [], none)]
def jx_M116 : jx_M := (⟨"FairByEar$Asking", "sameBehind", "(II)Z"⟩, prog_3_method_10_code, 7, (some .boolean), false, 1, jx_C116)
def jx_C117 : List jx_El := [(0, 1, .iconst 0, [], [.int 0], none),
  (1, 1, .istore_n 1, [1], [], none),
  (2, 1, .iload_n 1, [1], [], some [0, 1]),
  (3, 1, .aload_n 0, [0], [], none),
  (4, 3, .getfield 28, [0, 1], [], none),
  (7, 3, .invokevirtual 91, [18, 0, 1, 1, 5], [], none),
  (10, 3, .if_icmp .ge 45, [55], [], none),
  (13, 1, .iconst 0, [], [.int 0], none),
  (14, 1, .istore_n 2, [2], [], none),
  (15, 1, .iload_n 2, [2], [], some [0, 1, 2]),
  (16, 1, .aload_n 0, [0], [], none),
  (17, 3, .getfield 32, [1, 1], [], none),
  (20, 3, .invokevirtual 79, [96, 0, 1, 1, 4], [], none),
  (23, 3, .if_icmp .ge 26, [49], [], none),
  (26, 1, .aload_n 0, [0], [], none),
  (27, 3, .getfield 22, [5, 1], [], none),
  (30, 1, .iload_n 1, [1], [], none),
  (31, 2, .bipush 12, [], [.int 12], none),
  (33, 1, .imul, [], [], none),
  (34, 1, .iload_n 2, [2], [], none),
  (35, 1, .iadd, [], [], none),
  (36, 1, .aload_n 0, [0], [], none),
  (37, 1, .iload_n 1, [1], [], none),
  (38, 1, .iload_n 2, [2], [], none),
  (39, 3, .invokevirtual 94, [118, 0, 1, 3, 1], [], none),
  (42, 1, .iastore, [], [], none),
  (43, 3, .iinc 2 1, [2], [.int 1], none),
  (46, 3, .goto (-31), [15], [], none),
  (49, 3, .iinc 1 1, [1], [.int 1], none),
  (52, 3, .goto (-50), [2], [], none),
  (55, 1, .return_, [], [], none)]
def jx_M117 : jx_M := (⟨"FairByEar$Asking", "findLates", "()V"⟩, prog_3_method_11_code, 3, none, false, 3, jx_C117)
def jx_C118 : List jx_El := [(0, 1, .aload_n 0, [0], [], none),
  (1, 3, .getfield 32, [1, 1], [], none),
  (4, 1, .iload_n 2, [2], [], none),
  (5, 3, .invokevirtual 97, [102, 0, 1, 2, 4], [], none),
  (8, 1, .istore_n 3, [3], [], none),
  (9, 1, .aload_n 0, [0], [], none),
  (10, 3, .getfield 32, [1, 1], [], none),
  (13, 1, .iload_n 2, [2], [], none),
  (14, 3, .invokevirtual 100, [100, 0, 1, 2, 4], [], none),
  (17, 3, .ifCond .ne 16, [33], [], none),
  (20, 1, .iload_n 3, [3], [], none),
  (21, 1, .iload_n 1, [1], [], none),
  (22, 3, .if_icmp .eq 11, [33], [], none),
  (25, 1, .aload_n 0, [0], [], none),
  (26, 3, .getfield 15, [3, 1], [], none),
  (29, 1, .iconst 1, [], [.int 1], none),
  (30, 3, .if_icmp .ge 5, [35], [], none),
  (33, 1, .iconst (-1), [], [.int (-1)], some []),
  (34, 1, .ireturn, [], [], none),
  (35, 1, .aload_n 0, [0], [], none),
  (36, 3, .getfield 28, [0, 1], [], none),
  (39, 1, .aload_n 0, [0], [], none),
  (40, 3, .getfield 28, [0, 1], [], none),
  (43, 1, .iload_n 3, [3], [], none),
  (44, 3, .invokevirtual 103, [26, 0, 1, 2, 5], [], none),
  (47, 1, .aload_n 0, [0], [], none),
  (48, 3, .getfield 28, [0, 1], [], none),
  (51, 1, .iload_n 1, [1], [], none),
  (52, 3, .invokevirtual 103, [26, 0, 1, 2, 5], [], none),
  (55, 3, .invokevirtual 106, [20, 0, 1, 3, 5], [], none),
  (58, 2, .istore 4, [4], [], none),
  (60, 2, .iload 4, [4], [], none),
  (62, 3, .sipush 999, [], [.int 999], none),
  (65, 3, .if_icmp .lt 7, [72], [], none),
  (68, 1, .iconst (-1), [], [.int (-1)], none),
  (69, 3, .goto 15, [84], [], none),
  (72, 2, .bipush 9, [], [.int 9], none),
  (74, 2, .iload 4, [4], [], none),
  (76, 1, .aload_n 0, [0], [], none),
  (77, 3, .getfield 15, [3, 1], [], none),
  (80, 1, .idiv, [], [], none),
  (81, 3, .invokestatic 109, [2, 0, 1, 2], [], none),
  (84, 1, .ireturn, [], [], some [])]
def jx_M118 : jx_M := (⟨"FairByEar$Asking", "lateFor", "(II)I"⟩, prog_3_method_12_code, 5, (some .int), false, 2, jx_C118)
def jx_C119 : List jx_El := [(0, 1, .aload_n 0, [0], [], none),
  (1, 3, .getfield 25, [6, 1], [], none),
  (4, 1, .iconst 0, [], [.int 0], none),
  (5, 3, .invokestatic 58, [5, 0, 0, 2], [], none),
  (8, 1, .iconst 0, [], [.int 0], none),
  (9, 1, .istore_n 2, [2], [], none),
  (10, 1, .iload_n 2, [2], [], some [0, 1, 2]),
  (11, 1, .aload_n 0, [0], [], none),
  (12, 3, .getfield 28, [0, 1], [], none),
  (15, 3, .invokevirtual 91, [18, 0, 1, 1, 5], [], none),
  (18, 3, .if_icmp .ge 33, [51], [], none),
  (21, 1, .aload_n 0, [0], [], none),
  (22, 1, .iload_n 2, [2], [], none),
  (23, 1, .iload_n 1, [1], [], none),
  (24, 3, .invokevirtual 114, [121, 0, 1, 3, 1], [], none),
  (27, 1, .istore_n 3, [3], [], none),
  (28, 1, .iload_n 3, [3], [], none),
  (29, 1, .iconst (-1), [], [.int (-1)], none),
  (30, 3, .if_icmp .eq 15, [45], [], none),
  (33, 1, .aload_n 0, [0], [], none),
  (34, 3, .getfield 25, [6, 1], [], none),
  (37, 1, .iload_n 3, [3], [], none),
  (38, 1, .dup2, [], [], none),
  (39, 1, .iaload, [], [], none),
  (40, 1, .iconst 1, [], [.int 1], none),
  (41, 1, .iload_n 2, [2], [], none),
  (42, 1, .ishl, [], [], none),
  (43, 1, .ior, [], [], none),
  (44, 1, .iastore, [], [], none),
  (45, 3, .iinc 2 1, [2], [.int 1], some [0, 1, 2]),
  (48, 3, .goto (-38), [10], [], none),
  (51, 1, .iconst 0, [], [.int 0], none),
  (52, 1, .istore_n 2, [2], [], none),
  (53, 1, .iconst 0, [], [.int 0], none),
  (54, 1, .istore_n 3, [3], [], none),
  (55, 1, .iload_n 3, [3], [], some [0, 1, 2, 3]),
  (56, 1, .aload_n 0, [0], [], none),
  (57, 3, .getfield 32, [1, 1], [], none),
  (60, 3, .invokevirtual 79, [96, 0, 1, 1, 4], [], none),
  (63, 3, .if_icmp .ge 79, [142], [], none),
  (66, 1, .aload_n 0, [0], [], none),
  (67, 3, .getfield 19, [4, 1], [], none),
  (70, 1, .iload_n 1, [1], [], none),
  (71, 2, .bipush 12, [], [.int 12], none),
  (73, 1, .imul, [], [], none),
  (74, 1, .iload_n 3, [3], [], none),
  (75, 1, .iadd, [], [], none),
  (76, 1, .iaload, [], [], none),
  (77, 2, .istore 4, [4], [], none),
  (79, 1, .aload_n 0, [0], [], none),
  (80, 3, .getfield 32, [1, 1], [], none),
  (83, 1, .iload_n 3, [3], [], none),
  (84, 3, .invokevirtual 100, [100, 0, 1, 2, 4], [], none),
  (87, 3, .ifCond .eq 8, [95], [], none),
  (90, 2, .iload 4, [4], [], none),
  (92, 3, .goto 17, [109], [], none),
  (95, 2, .iload 4, [4], [], none),
  (97, 1, .aload_n 0, [0], [], none),
  (98, 3, .getfield 25, [6, 1], [], none),
  (101, 1, .iload_n 3, [3], [], none),
  (102, 1, .iaload, [], [], none),
  (103, 3, .invokestatic 117, [3, 0, 1, 1], [], none),
  (106, 3, .invokestatic 122, [120, 0, 1, 2], [], none),
  (109, 2, .istore 5, [5], [], some [0, 1, 2, 3, 4]),
  (111, 1, .aload_n 0, [0], [], none),
  (112, 3, .getfield 19, [4, 1], [], none),
  (115, 1, .iload_n 1, [1], [], none),
  (116, 1, .iconst 1, [], [.int 1], none),
  (117, 1, .iadd, [], [], none),
  (118, 2, .bipush 12, [], [.int 12], none),
  (120, 1, .imul, [], [], none),
  (121, 1, .iload_n 3, [3], [], none),
  (122, 1, .iadd, [], [], none),
  (123, 2, .iload 5, [5], [], none),
  (125, 1, .iastore, [], [], none),
  (126, 2, .iload 5, [5], [], none),
  (128, 2, .iload 4, [4], [], none),
  (130, 3, .if_icmp .eq 6, [136], [], none),
  (133, 3, .iinc 2 1, [2], [.int 1], none),
  (136, 3, .iinc 3 1, [3], [.int 1], some [0, 1, 2, 3]),
  (139, 3, .goto (-84), [55], [], none),
  (142, 1, .iload_n 2, [2], [], none),
  (143, 1, .ireturn, [], [], none)]
def jx_M119 : jx_M := (⟨"FairByEar$Asking", "askOnce", "(I)I"⟩, prog_3_method_13_code, 6, (some .int), false, 3, jx_C119)
def jx_C120 : List jx_El := [(0, 1, .iload_n 1, [1], [], none),
  (1, 3, .ifCond .ne 11, [12], [], none),
  (4, 1, .iconst 0, [], [.int 0], none),
  (5, 1, .iload_n 0, [0], [], none),
  (6, 1, .iconst 1, [], [.int 1], none),
  (7, 1, .isub, [], [], none),
  (8, 3, .invokestatic 125, [1, 0, 1, 2], [], none),
  (11, 1, .ireturn, [], [], none),
  (12, 1, .iload_n 1, [1], [], none),
  (13, 1, .iconst 1, [], [.int 1], none),
  (14, 3, .if_icmp .ne 7, [21], [], none),
  (17, 1, .iload_n 0, [0], [], none),
  (18, 3, .goto 11, [29], [], none),
  (21, 2, .bipush 99, [], [.int 99], none),
  (23, 1, .iload_n 0, [0], [], none),
  (24, 1, .iconst 1, [], [.int 1], none),
  (25, 1, .iadd, [], [], none),
  (26, 3, .invokestatic 109, [2, 0, 1, 2], [], none),
  (29, 1, .ireturn, [], [], some [])]
def jx_M120 : jx_M := (⟨"FairByEar$Asking", "nextPrice", "(II)I"⟩, prog_3_method_14_code, 2, (some .int), true, 1, jx_C120)
def jx_C121 : List jx_El := [(0, 1, .iconst (-1), [], [.int (-1)], none),
  (1, 1, .istore_n 3, [3], [], none),
  (2, 1, .iconst 0, [], [.int 0], none),
  (3, 2, .istore 4, [4], [], none),
  (5, 1, .iconst 0, [], [.int 0], none),
  (6, 2, .istore 5, [5], [], none),
  (8, 2, .iload 5, [5], [], some [0, 1, 2, 3, 4, 5]),
  (10, 1, .aload_n 0, [0], [], none),
  (11, 3, .getfield 32, [1, 1], [], none),
  (14, 3, .invokevirtual 79, [96, 0, 1, 1, 4], [], none),
  (17, 3, .if_icmp .ge 117, [134], [], none),
  (20, 1, .aload_n 0, [0], [], none),
  (21, 3, .getfield 22, [5, 1], [], none),
  (24, 1, .iload_n 1, [1], [], none),
  (25, 2, .bipush 12, [], [.int 12], none),
  (27, 1, .imul, [], [], none),
  (28, 2, .iload 5, [5], [], none),
  (30, 1, .iadd, [], [], none),
  (31, 1, .iaload, [], [], none),
  (32, 2, .istore 6, [6], [], none),
  (34, 2, .iload 6, [6], [], none),
  (36, 1, .iconst (-1), [], [.int (-1)], none),
  (37, 3, .if_icmp .ne 6, [43], [], none),
  (40, 3, .goto 88, [128], [], none),
  (43, 1, .aload_n 0, [0], [], none),
  (44, 3, .getfield 19, [4, 1], [], none),
  (47, 1, .iload_n 2, [2], [], none),
  (48, 2, .iload 6, [6], [], none),
  (50, 1, .isub, [], [], none),
  (51, 2, .bipush 12, [], [.int 12], none),
  (53, 1, .imul, [], [], none),
  (54, 2, .iload 5, [5], [], none),
  (56, 1, .iadd, [], [], none),
  (57, 1, .iaload, [], [], none),
  (58, 2, .istore 7, [7], [], none),
  (60, 1, .aload_n 0, [0], [], none),
  (61, 1, .iload_n 1, [1], [], none),
  (62, 1, .aload_n 0, [0], [], none),
  (63, 3, .getfield 32, [1, 1], [], none),
  (66, 2, .iload 5, [5], [], none),
  (68, 3, .invokevirtual 128, [101, 0, 1, 2, 4], [], none),
  (71, 3, .invokevirtual 36, [109, 0, 1, 3, 1], [], none),
  (74, 2, .iload 7, [7], [], none),
  (76, 1, .isub, [], [], none),
  (77, 2, .istore 8, [8], [], none),
  (79, 2, .iload 8, [8], [], none),
  (81, 3, .ifCond .lt 20, [101], [], none),
  (84, 2, .iload 7, [7], [], none),
  (86, 1, .aload_n 0, [0], [], none),
  (87, 3, .getfield 28, [0, 1], [], none),
  (90, 1, .iload_n 1, [1], [], none),
  (91, 3, .invokevirtual 131, [27, 0, 1, 2, 5], [], none),
  (94, 3, .if_icmp .gt 7, [101], [], none),
  (97, 1, .iconst 1, [], [.int 1], none),
  (98, 3, .goto 4, [102], [], none),
  (101, 1, .iconst 0, [], [.int 0], some [0, 1, 2, 3, 4, 5, 8]),
  (102, 2, .istore 9, [9], [], some [0, 1, 2, 3, 4, 5, 8]),
  (104, 2, .iload 9, [9], [], none),
  (106, 3, .ifCond .eq 22, [128], [], none),
  (109, 1, .iload_n 3, [3], [], none),
  (110, 1, .iconst (-1), [], [.int (-1)], none),
  (111, 3, .if_icmp .eq 10, [121], [], none),
  (114, 2, .iload 8, [8], [], none),
  (116, 2, .iload 4, [4], [], none),
  (118, 3, .if_icmp .le 10, [128], [], none),
  (121, 2, .iload 5, [5], [], some [0, 1, 2, 5, 8]),
  (123, 1, .istore_n 3, [3], [], none),
  (124, 2, .iload 8, [8], [], none),
  (126, 2, .istore 4, [4], [], none),
  (128, 3, .iinc 5 1, [5], [.int 1], some [0, 1, 2, 3, 4, 5]),
  (131, 3, .goto (-123), [8], [], none),
  (134, 1, .iload_n 3, [3], [], none),
  (135, 1, .ireturn, [], [], none)]
def jx_M121 : jx_M := (⟨"FairByEar$Asking", "choice", "(II)I"⟩, prog_3_method_15_code, 10, (some .int), false, 2, jx_C121)
def jx_C122 : List jx_El := [(0, 1, .iconst 0, [], [.int 0], none),
  (1, 1, .istore_n 3, [3], [], none),
  (2, 1, .iconst 0, [], [.int 0], none),
  (3, 2, .istore 4, [4], [], none),
  (5, 2, .iload 4, [4], [], some [0, 1, 2, 3, 4]),
  (7, 1, .aload_n 0, [0], [], none),
  (8, 3, .getfield 32, [1, 1], [], none),
  (11, 3, .invokevirtual 79, [96, 0, 1, 1, 4], [], none),
  (14, 3, .if_icmp .ge 48, [62], [], none),
  (17, 1, .iload_n 1, [1], [], none),
  (18, 2, .iload 4, [4], [], none),
  (20, 3, .invokestatic 134, [216, 0, 1, 2], [], none),
  (23, 3, .ifCond .eq 33, [56], [], none),
  (26, 1, .aload_n 0, [0], [], none),
  (27, 3, .getfield 32, [1, 1], [], none),
  (30, 2, .iload 4, [4], [], none),
  (32, 3, .invokevirtual 100, [100, 0, 1, 2, 4], [], none),
  (35, 3, .ifCond .ne 21, [56], [], none),
  (38, 1, .aload_n 0, [0], [], none),
  (39, 2, .iload 4, [4], [], none),
  (41, 1, .iload_n 2, [2], [], none),
  (42, 3, .invokevirtual 137, [123, 0, 1, 3, 1], [], none),
  (45, 1, .iconst 2, [], [.int 2], none),
  (46, 3, .if_icmp .lt 10, [56], [], none),
  (49, 1, .iload_n 3, [3], [], none),
  (50, 1, .iconst 1, [], [.int 1], none),
  (51, 2, .iload 4, [4], [], none),
  (53, 1, .ishl, [], [], none),
  (54, 1, .ior, [], [], none),
  (55, 1, .istore_n 3, [3], [], none),
  (56, 3, .iinc 4 1, [4], [.int 1], some [0, 1, 2, 3, 4]),
  (59, 3, .goto (-54), [5], [], none),
  (62, 1, .iload_n 3, [3], [], none),
  (63, 1, .ireturn, [], [], none)]
def jx_M122 : jx_M := (⟨"FairByEar$Asking", "wantedByTwo", "(II)I"⟩, prog_3_method_16_code, 5, (some .int), false, 3, jx_C122)
def jx_C123 : List jx_El := [(0, 1, .iconst 0, [], [.int 0], none),
  (1, 1, .istore_n 3, [3], [], none),
  (2, 1, .iconst 0, [], [.int 0], none),
  (3, 2, .istore 4, [4], [], none),
  (5, 2, .iload 4, [4], [], some [0, 1, 2, 3, 4]),
  (7, 1, .aload_n 0, [0], [], none),
  (8, 3, .getfield 28, [0, 1], [], none),
  (11, 3, .invokevirtual 91, [18, 0, 1, 1, 5], [], none),
  (14, 3, .if_icmp .ge 68, [82], [], none),
  (17, 1, .iload_n 2, [2], [], none),
  (18, 2, .iload 4, [4], [], none),
  (20, 3, .invokestatic 134, [216, 0, 1, 2], [], none),
  (23, 3, .ifCond .eq 20, [43], [], none),
  (26, 2, .iload 4, [4], [], none),
  (28, 1, .aload_n 0, [0], [], none),
  (29, 3, .getfield 32, [1, 1], [], none),
  (32, 1, .iload_n 1, [1], [], none),
  (33, 3, .invokevirtual 97, [102, 0, 1, 2, 4], [], none),
  (36, 3, .if_icmp .eq 7, [43], [], none),
  (39, 1, .iconst 1, [], [.int 1], none),
  (40, 3, .goto 4, [44], [], none),
  (43, 1, .iconst 0, [], [.int 0], some [0, 1, 2, 3, 4]),
  (44, 2, .istore 5, [5], [], some [0, 1, 2, 3, 4]),
  (46, 2, .iload 5, [5], [], none),
  (48, 3, .ifCond .eq 28, [76], [], none),
  (51, 1, .aload_n 0, [0], [], none),
  (52, 2, .iload 4, [4], [], none),
  (54, 1, .aload_n 0, [0], [], none),
  (55, 3, .getfield 32, [1, 1], [], none),
  (58, 1, .iload_n 1, [1], [], none),
  (59, 3, .invokevirtual 128, [101, 0, 1, 2, 4], [], none),
  (62, 3, .invokevirtual 36, [109, 0, 1, 3, 1], [], none),
  (65, 1, .aload_n 0, [0], [], none),
  (66, 1, .iload_n 1, [1], [], none),
  (67, 3, .invokevirtual 140, [112, 0, 1, 2, 1], [], none),
  (70, 3, .if_icmp .le 6, [76], [], none),
  (73, 3, .iinc 3 1, [3], [.int 1], none),
  (76, 3, .iinc 4 1, [4], [.int 1], some [0, 1, 2, 3, 4]),
  (79, 3, .goto (-74), [5], [], none),
  (82, 1, .iload_n 3, [3], [], none),
  (83, 1, .ireturn, [], [], none)]
def jx_M123 : jx_M := (⟨"FairByEar$Asking", "wanters", "(II)I"⟩, prog_3_method_17_code, 6, (some .int), false, 2, jx_C123)
def jx_C124 : List jx_El := [(0, 1, .aload_n 0, [0], [], none),
  (1, 3, .getfield 61, [0, 10], [], none),
  (4, 1, .iload_n 1, [1], [], none),
  (5, 3, .invokevirtual 65, [15, 0, 1, 2, 5], [], none),
  (8, 3, .ifCond .eq 24, [32], [], none),
  (11, 1, .iload_n 2, [2], [], none),
  (12, 1, .iconst 0, [], [.int 0], none),
  (13, 3, .sipush 999, [], [.int 999], none),
  (16, 3, .invokestatic 71, [215, 0, 1, 3], [], none),
  (19, 3, .ifCond .eq 13, [32], [], none),
  (22, 1, .iload_n 3, [3], [], none),
  (23, 1, .iconst 0, [], [.int 0], none),
  (24, 2, .bipush 99, [], [.int 99], none),
  (26, 3, .invokestatic 71, [215, 0, 1, 3], [], none),
  (29, 3, .ifCond .ne 5, [34], [], none),
  (32, 1, .iconst (-1), [], [.int (-1)], some []),
  (33, 1, .ireturn, [], [], none),
  (34, 1, .aload_n 0, [0], [], none),
  (35, 3, .getfield 21, [4, 10], [], none),
  (38, 2, .bipush 16, [], [.int 16], none),
  (40, 3, .if_icmp .lt 5, [45], [], none),
  (43, 1, .iconst (-1), [], [.int (-1)], none),
  (44, 1, .ireturn, [], [], none),
  (45, 1, .aload_n 0, [0], [], none),
  (46, 3, .getfield 21, [4, 10], [], none),
  (49, 2, .istore 4, [4], [], none),
  (51, 2, .iload 4, [4], [], some [0, 1, 2, 3, 4]),
  (53, 3, .ifCond .le 70, [123], [], none),
  (56, 1, .aload_n 0, [0], [], none),
  (57, 3, .getfield 15, [2, 10], [], none),
  (60, 2, .iload 4, [4], [], none),
  (62, 1, .iconst 1, [], [.int 1], none),
  (63, 1, .isub, [], [], none),
  (64, 1, .iaload, [], [], none),
  (65, 1, .iload_n 2, [2], [], none),
  (66, 3, .if_icmp .le 57, [123], [], none),
  (69, 1, .aload_n 0, [0], [], none),
  (70, 3, .getfield 11, [1, 10], [], none),
  (73, 2, .iload 4, [4], [], none),
  (75, 1, .aload_n 0, [0], [], none),
  (76, 3, .getfield 11, [1, 10], [], none),
  (79, 2, .iload 4, [4], [], none),
  (81, 1, .iconst 1, [], [.int 1], none),
  (82, 1, .isub, [], [], none),
  (83, 1, .iaload, [], [], none),
  (84, 1, .iastore, [], [], none),
  (85, 1, .aload_n 0, [0], [], none),
  (86, 3, .getfield 15, [2, 10], [], none),
  (89, 2, .iload 4, [4], [], none),
  (91, 1, .aload_n 0, [0], [], none),
  (92, 3, .getfield 15, [2, 10], [], none),
  (95, 2, .iload 4, [4], [], none),
  (97, 1, .iconst 1, [], [.int 1], none),
  (98, 1, .isub, [], [], none),
  (99, 1, .iaload, [], [], none),
  (100, 1, .iastore, [], [], none),
  (101, 1, .aload_n 0, [0], [], none),
  (102, 3, .getfield 18, [3, 10], [], none),
  (105, 2, .iload 4, [4], [], none),
  (107, 1, .aload_n 0, [0], [], none),
  (108, 3, .getfield 18, [3, 10], [], none),
  (111, 2, .iload 4, [4], [], none),
  (113, 1, .iconst 1, [], [.int 1], none),
  (114, 1, .isub, [], [], none),
  (115, 1, .iaload, [], [], none),
  (116, 1, .iastore, [], [], none),
  (117, 3, .iinc 4 (-1), [4], [.int (-1)], none),
  (120, 3, .goto (-69), [51], [], none),
  (123, 1, .aload_n 0, [0], [], some [0, 1, 2, 3, 4]),
  (124, 3, .getfield 11, [1, 10], [], none),
  (127, 2, .iload 4, [4], [], none),
  (129, 1, .iload_n 1, [1], [], none),
  (130, 1, .iastore, [], [], none),
  (131, 1, .aload_n 0, [0], [], none),
  (132, 3, .getfield 15, [2, 10], [], none),
  (135, 2, .iload 4, [4], [], none),
  (137, 1, .iload_n 2, [2], [], none),
  (138, 1, .iastore, [], [], none),
  (139, 1, .aload_n 0, [0], [], none),
  (140, 3, .getfield 18, [3, 10], [], none),
  (143, 2, .iload 4, [4], [], none),
  (145, 1, .iload_n 3, [3], [], none),
  (146, 1, .iastore, [], [], none),
  (147, 1, .aload_n 0, [0], [], none),
  (148, 1, .dup, [], [], none),
  (149, 3, .getfield 21, [4, 10], [], none),
  (152, 1, .iconst 1, [], [.int 1], none),
  (153, 1, .iadd, [], [], none),
  (154, 3, .putfield 21, [4, 10, 0], [], none),
  (157, 1, .aload_n 0, [0], [], none),
  (158, 3, .getfield 21, [4, 10], [], none),
  (161, 1, .ireturn, [], [], none)]
def jx_M124 : jx_M := (⟨"FairByEar$Watch", "addCount", "(III)I"⟩, prog_12_method_2_code, 5, (some .int), false, 1, jx_C124)
def jx_C125 : List jx_El := [(0, 1, .aload_n 0, [0], [], none),
  (1, 3, .getfield 61, [0, 10], [], none),
  (4, 1, .iload_n 1, [1], [], none),
  (5, 3, .invokevirtual 75, [16, 0, 1, 2, 5], [], none),
  (8, 3, .ifCond .eq 23, [31], [], none),
  (11, 1, .aload_n 0, [0], [], none),
  (12, 3, .getfield 61, [0, 10], [], none),
  (15, 1, .iload_n 2, [2], [], none),
  (16, 3, .invokevirtual 65, [15, 0, 1, 2, 5], [], none),
  (19, 3, .ifCond .eq 12, [31], [], none),
  (22, 1, .aload_n 0, [0], [], none),
  (23, 3, .getfield 37, [9, 10], [], none),
  (26, 2, .bipush 20, [], [.int 20], none),
  (28, 3, .if_icmp .lt 5, [33], [], none),
  (31, 1, .iconst (-1), [], [.int (-1)], some []),
  (32, 1, .ireturn, [], [], none),
  (33, 1, .iload_n 3, [3], [], none),
  (34, 1, .iconst 0, [], [.int 0], none),
  (35, 3, .sipush 999, [], [.int 999], none),
  (38, 3, .invokestatic 71, [215, 0, 1, 3], [], none),
  (41, 3, .ifCond .eq 15, [56], [], none),
  (44, 2, .iload 4, [4], [], none),
  (46, 1, .iload_n 3, [3], [], none),
  (47, 3, .sipush 999, [], [.int 999], none),
  (50, 3, .invokestatic 71, [215, 0, 1, 3], [], none),
  (53, 3, .ifCond .ne 5, [58], [], none),
  (56, 1, .iconst (-1), [], [.int (-1)], some []),
  (57, 1, .ireturn, [], [], none),
  (58, 1, .aload_n 0, [0], [], none),
  (59, 3, .getfield 25, [5, 10], [], none),
  (62, 1, .aload_n 0, [0], [], none),
  (63, 3, .getfield 37, [9, 10], [], none),
  (66, 1, .iload_n 1, [1], [], none),
  (67, 1, .iastore, [], [], none),
  (68, 1, .aload_n 0, [0], [], none),
  (69, 3, .getfield 28, [6, 10], [], none),
  (72, 1, .aload_n 0, [0], [], none),
  (73, 3, .getfield 37, [9, 10], [], none),
  (76, 1, .iload_n 2, [2], [], none),
  (77, 1, .iastore, [], [], none),
  (78, 1, .aload_n 0, [0], [], none),
  (79, 3, .getfield 31, [7, 10], [], none),
  (82, 1, .aload_n 0, [0], [], none),
  (83, 3, .getfield 37, [9, 10], [], none),
  (86, 1, .iload_n 3, [3], [], none),
  (87, 1, .iastore, [], [], none),
  (88, 1, .aload_n 0, [0], [], none),
  (89, 3, .getfield 34, [8, 10], [], none),
  (92, 1, .aload_n 0, [0], [], none),
  (93, 3, .getfield 37, [9, 10], [], none),
  (96, 2, .iload 4, [4], [], none),
  (98, 1, .iastore, [], [], none),
  (99, 1, .aload_n 0, [0], [], none),
  (100, 1, .dup, [], [], none),
  (101, 3, .getfield 37, [9, 10], [], none),
  (104, 1, .iconst 1, [], [.int 1], none),
  (105, 1, .iadd, [], [], none),
  (106, 3, .putfield 37, [9, 10, 0], [], none),
  (109, 1, .aload_n 0, [0], [], none),
  (110, 3, .getfield 37, [9, 10], [], none),
  (113, 1, .ireturn, [], [], none)]
def jx_M125 : jx_M := (⟨"FairByEar$Watch", "addStay", "(IIII)I"⟩, prog_12_method_3_code, 5, (some .int), false, 1, jx_C125)
def jx_C126 : List jx_El := [(0, 1, .aload_n 0, [0], [], none),
  (1, 3, .getfield 61, [0, 10], [], none),
  (4, 1, .iload_n 1, [1], [], none),
  (5, 3, .invokevirtual 65, [15, 0, 1, 2, 5], [], none),
  (8, 3, .ifCond .eq 24, [32], [], none),
  (11, 1, .iload_n 2, [2], [], none),
  (12, 1, .iconst 0, [], [.int 0], none),
  (13, 3, .sipush 999, [], [.int 999], none),
  (16, 3, .invokestatic 71, [215, 0, 1, 3], [], none),
  (19, 3, .ifCond .eq 13, [32], [], none),
  (22, 1, .iload_n 3, [3], [], none),
  (23, 1, .iconst 1, [], [.int 1], none),
  (24, 2, .bipush 99, [], [.int 99], none),
  (26, 3, .invokestatic 71, [215, 0, 1, 3], [], none),
  (29, 3, .ifCond .ne 5, [34], [], none),
  (32, 1, .iconst (-1), [], [.int (-1)], some []),
  (33, 1, .ireturn, [], [], none),
  (34, 1, .aload_n 0, [0], [], none),
  (35, 3, .getfield 49, [13, 10], [], none),
  (38, 2, .bipush 6, [], [.int 6], none),
  (40, 3, .if_icmp .lt 5, [45], [], none),
  (43, 1, .iconst (-1), [], [.int (-1)], none),
  (44, 1, .ireturn, [], [], none),
  (45, 1, .aload_n 0, [0], [], none),
  (46, 3, .getfield 40, [10, 10], [], none),
  (49, 1, .aload_n 0, [0], [], none),
  (50, 3, .getfield 49, [13, 10], [], none),
  (53, 1, .iload_n 1, [1], [], none),
  (54, 1, .iastore, [], [], none),
  (55, 1, .aload_n 0, [0], [], none),
  (56, 3, .getfield 43, [11, 10], [], none),
  (59, 1, .aload_n 0, [0], [], none),
  (60, 3, .getfield 49, [13, 10], [], none),
  (63, 1, .iload_n 2, [2], [], none),
  (64, 1, .iastore, [], [], none),
  (65, 1, .aload_n 0, [0], [], none),
  (66, 3, .getfield 46, [12, 10], [], none),
  (69, 1, .aload_n 0, [0], [], none),
  (70, 3, .getfield 49, [13, 10], [], none),
  (73, 1, .iload_n 3, [3], [], none),
  (74, 1, .iastore, [], [], none),
  (75, 1, .aload_n 0, [0], [], none),
  (76, 1, .dup, [], [], none),
  (77, 3, .getfield 49, [13, 10], [], none),
  (80, 1, .iconst 1, [], [.int 1], none),
  (81, 1, .iadd, [], [], none),
  (82, 3, .putfield 49, [13, 10, 0], [], none),
  (85, 1, .aload_n 0, [0], [], none),
  (86, 3, .getfield 49, [13, 10], [], none),
  (89, 1, .ireturn, [], [], none)]
def jx_M126 : jx_M := (⟨"FairByEar$Watch", "addClink", "(III)I"⟩, prog_12_method_4_code, 4, (some .int), false, 1, jx_C126)
def jx_C127 : List jx_El := [(0, 1, .iload_n 1, [1], [], none),
  (1, 1, .iconst 1, [], [.int 1], none),
  (2, 1, .isub, [], [], none),
  (3, 1, .istore_n 2, [2], [], none),
  (4, 1, .iload_n 2, [2], [], some [0, 1, 2]),
  (5, 3, .ifCond .lt 26, [31], [], none),
  (8, 1, .aload_n 0, [0], [], none),
  (9, 3, .getfield 11, [1, 10], [], none),
  (12, 1, .iload_n 2, [2], [], none),
  (13, 1, .iaload, [], [], none),
  (14, 1, .aload_n 0, [0], [], none),
  (15, 3, .getfield 11, [1, 10], [], none),
  (18, 1, .iload_n 1, [1], [], none),
  (19, 1, .iaload, [], [], none),
  (20, 3, .if_icmp .ne 5, [25], [], none),
  (23, 1, .iload_n 2, [2], [], none),
  (24, 1, .ireturn, [], [], none),
  (25, 3, .iinc 2 (-1), [2], [.int (-1)], none),
  (28, 3, .goto (-24), [4], [], none),
  (31, 1, .iconst (-1), [], [.int (-1)], none),
  (32, 1, .ireturn, [], [], none)]
def jx_M127 : jx_M := (⟨"FairByEar$Watch", "countAhead", "(I)I"⟩, prog_12_method_5_code, 3, (some .int), false, 0, jx_C127)
def jx_C128 : List jx_El := [(0, 1, .aload_n 0, [0], [], none),
  (1, 1, .iload_n 1, [1], [], none),
  (2, 3, .invokevirtual 78, [127, 0, 1, 2, 10], [], none),
  (5, 1, .istore_n 2, [2], [], none),
  (6, 1, .iload_n 2, [2], [], none),
  (7, 1, .iconst (-1), [], [.int (-1)], none),
  (8, 3, .if_icmp .ne 7, [15], [], none),
  (11, 1, .iconst 0, [], [.int 0], none),
  (12, 3, .goto 20, [32], [], none),
  (15, 1, .iconst 0, [], [.int 0], none),
  (16, 1, .aload_n 0, [0], [], none),
  (17, 3, .getfield 18, [3, 10], [], none),
  (20, 1, .iload_n 2, [2], [], none),
  (21, 1, .iaload, [], [], none),
  (22, 1, .aload_n 0, [0], [], none),
  (23, 3, .getfield 18, [3, 10], [], none),
  (26, 1, .iload_n 1, [1], [], none),
  (27, 1, .iaload, [], [], none),
  (28, 1, .isub, [], [], none),
  (29, 3, .invokestatic 82, [1, 0, 1, 2], [], none),
  (32, 1, .ireturn, [], [], some [])]
def jx_M128 : jx_M := (⟨"FairByEar$Watch", "takenBy", "(I)I"⟩, prog_12_method_6_code, 3, (some .int), false, 1, jx_C128)
def jx_C129 : List jx_El := [(0, 1, .iconst 0, [], [.int 0], none),
  (1, 1, .istore_n 3, [3], [], none),
  (2, 1, .iconst (-1), [], [.int (-1)], none),
  (3, 2, .istore 4, [4], [], none),
  (5, 1, .iconst 0, [], [.int 0], none),
  (6, 2, .istore 5, [5], [], none),
  (8, 1, .iconst 0, [], [.int 0], none),
  (9, 2, .istore 6, [6], [], none),
  (11, 2, .iload 6, [6], [], some [0, 1, 2, 3, 4, 5, 6]),
  (13, 1, .aload_n 0, [0], [], none),
  (14, 3, .getfield 21, [4, 10], [], none),
  (17, 3, .if_icmp .ge 56, [73], [], none),
  (20, 1, .aload_n 0, [0], [], none),
  (21, 3, .getfield 11, [1, 10], [], none),
  (24, 2, .iload 6, [6], [], none),
  (26, 1, .iaload, [], [], none),
  (27, 1, .iload_n 1, [1], [], none),
  (28, 3, .if_icmp .ne 39, [67], [], none),
  (31, 1, .aload_n 0, [0], [], none),
  (32, 2, .iload 6, [6], [], none),
  (34, 3, .invokevirtual 88, [128, 0, 1, 2, 10], [], none),
  (37, 3, .ifCond .le 30, [67], [], none),
  (40, 1, .iload_n 3, [3], [], none),
  (41, 3, .ifCond .ne 8, [49], [], none),
  (44, 2, .iload 6, [6], [], none),
  (46, 3, .goto 5, [51], [], none),
  (49, 2, .iload 4, [4], [], none),
  (51, 2, .istore 4, [4], [], some [0, 1, 2, 3, 5, 6]),
  (53, 3, .iinc 3 1, [3], [.int 1], none),
  (56, 2, .iload 5, [5], [], none),
  (58, 1, .aload_n 0, [0], [], none),
  (59, 2, .iload 6, [6], [], none),
  (61, 3, .invokevirtual 88, [128, 0, 1, 2, 10], [], none),
  (64, 1, .iadd, [], [], none),
  (65, 2, .istore 5, [5], [], none),
  (67, 3, .iinc 6 1, [6], [.int 1], some [0, 1, 2, 3, 4, 5, 6]),
  (70, 3, .goto (-59), [11], [], none),
  (73, 1, .aload_n 2, [2], [], none),
  (74, 3, .invokevirtual 91, [6, 0, 0, 1, 7], [], none),
  (77, 2, .iload 4, [4], [], none),
  (79, 1, .iconst (-1), [], [.int (-1)], none),
  (80, 3, .if_icmp .ne 7, [87], [], none),
  (83, 1, .iconst (-1), [], [.int (-1)], none),
  (84, 3, .goto 9, [93], [], none),
  (87, 1, .aload_n 0, [0], [], none),
  (88, 2, .iload 4, [4], [], none),
  (90, 3, .invokevirtual 78, [127, 0, 1, 2, 10], [], none),
  (93, 2, .istore 6, [6], [], some [0, 2, 3, 4, 5]),
  (95, 2, .iload 6, [6], [], none),
  (97, 1, .iconst (-1), [], [.int (-1)], none),
  (98, 3, .if_icmp .eq 30, [128], [], none),
  (101, 1, .aload_n 2, [2], [], none),
  (102, 1, .aload_n 0, [0], [], none),
  (103, 3, .getfield 15, [2, 10], [], none),
  (106, 2, .iload 6, [6], [], none),
  (108, 1, .iaload, [], [], none),
  (109, 1, .i2l, [], [], none),
  (110, 1, .aload_n 0, [0], [], none),
  (111, 3, .getfield 15, [2, 10], [], none),
  (114, 2, .iload 4, [4], [], none),
  (116, 1, .iaload, [], [], none),
  (117, 1, .i2l, [], [], none),
  (118, 3, .invokevirtual 96, [9, 0, 0, 3, 7], [], none),
  (121, 1, .aload_n 2, [2], [], none),
  (122, 2, .iload 5, [5], [], none),
  (124, 1, .i2l, [], [], none),
  (125, 3, .invokevirtual 100, [7, 0, 0, 2, 7], [], none),
  (128, 1, .iload_n 3, [3], [], some [3]),
  (129, 1, .ireturn, [], [], none)]
def jx_M129 : jx_M := (⟨"FairByEar$Watch", "tellThefts", "(ILFairByEar$Row;)I"⟩, prog_12_method_7_code, 7, (some .int), false, 2, jx_C129)
def jx_C130 : List jx_El := [(0, 1, .iconst 0, [], [.int 0], none),
  (1, 1, .istore_n 3, [3], [], none),
  (2, 1, .iconst 0, [], [.int 0], none),
  (3, 2, .istore 4, [4], [], none),
  (5, 2, .iload 4, [4], [], some [0, 1, 2, 3, 4]),
  (7, 1, .aload_n 0, [0], [], none),
  (8, 3, .getfield 21, [4, 10], [], none),
  (11, 3, .if_icmp .ge 44, [55], [], none),
  (14, 1, .aload_n 0, [0], [], none),
  (15, 3, .getfield 11, [1, 10], [], none),
  (18, 2, .iload 4, [4], [], none),
  (20, 1, .iaload, [], [], none),
  (21, 1, .iload_n 1, [1], [], none),
  (22, 3, .if_icmp .ne 27, [49], [], none),
  (25, 1, .aload_n 0, [0], [], none),
  (26, 2, .iload 4, [4], [], none),
  (28, 3, .invokevirtual 88, [128, 0, 1, 2, 10], [], none),
  (31, 3, .ifCond .le 18, [49], [], none),
  (34, 1, .iload_n 3, [3], [], none),
  (35, 1, .iload_n 2, [2], [], none),
  (36, 3, .if_icmp .ne 10, [46], [], none),
  (39, 1, .aload_n 0, [0], [], none),
  (40, 2, .iload 4, [4], [], none),
  (42, 3, .invokevirtual 104, [131, 0, 1, 2, 10], [], none),
  (45, 1, .ireturn, [], [], none),
  (46, 3, .iinc 3 1, [3], [.int 1], none),
  (49, 3, .iinc 4 1, [4], [.int 1], some [0, 1, 2, 3, 4]),
  (52, 3, .goto (-47), [5], [], none),
  (55, 2, .bipush (-2), [], [.int (-2)], none),
  (57, 1, .ireturn, [], [], none)]
def jx_M130 : jx_M := (⟨"FairByEar$Watch", "suspectsOf", "(II)I"⟩, prog_12_method_8_code, 5, (some .int), false, 2, jx_C130)
def jx_C131 : List jx_El := [(0, 1, .aload_n 0, [0], [], none),
  (1, 1, .iload_n 1, [1], [], none),
  (2, 3, .invokevirtual 78, [127, 0, 1, 2, 10], [], none),
  (5, 1, .istore_n 2, [2], [], none),
  (6, 1, .iload_n 2, [2], [], none),
  (7, 1, .iconst (-1), [], [.int (-1)], none),
  (8, 3, .if_icmp .ne 5, [13], [], none),
  (11, 1, .iconst 0, [], [.int 0], none),
  (12, 1, .ireturn, [], [], none),
  (13, 1, .aload_n 0, [0], [], none),
  (14, 1, .aload_n 0, [0], [], none),
  (15, 3, .getfield 11, [1, 10], [], none),
  (18, 1, .iload_n 1, [1], [], none),
  (19, 1, .iaload, [], [], none),
  (20, 1, .aload_n 0, [0], [], none),
  (21, 3, .getfield 15, [2, 10], [], none),
  (24, 1, .iload_n 2, [2], [], none),
  (25, 1, .iaload, [], [], none),
  (26, 1, .aload_n 0, [0], [], none),
  (27, 3, .getfield 15, [2, 10], [], none),
  (30, 1, .iload_n 1, [1], [], none),
  (31, 1, .iaload, [], [], none),
  (32, 3, .invokevirtual 107, [132, 0, 1, 4, 10], [], none),
  (35, 1, .ireturn, [], [], none)]
def jx_M131 : jx_M := (⟨"FairByEar$Watch", "suspectsBy", "(I)I"⟩, prog_12_method_9_code, 3, (some .int), false, 1, jx_C131)
def jx_C132 : List jx_El := [(0, 1, .iconst 0, [], [.int 0], none),
  (1, 2, .istore 4, [4], [], none),
  (3, 1, .iconst 0, [], [.int 0], none),
  (4, 2, .istore 5, [5], [], none),
  (6, 2, .iload 5, [5], [], some [0, 1, 2, 3, 4, 5]),
  (8, 1, .aload_n 0, [0], [], none),
  (9, 3, .getfield 37, [9, 10], [], none),
  (12, 3, .if_icmp .ge 56, [68], [], none),
  (15, 1, .aload_n 0, [0], [], none),
  (16, 3, .getfield 28, [6, 10], [], none),
  (19, 2, .iload 5, [5], [], none),
  (21, 1, .iaload, [], [], none),
  (22, 1, .iload_n 1, [1], [], none),
  (23, 3, .if_icmp .ne 39, [62], [], none),
  (26, 1, .aload_n 0, [0], [], none),
  (27, 3, .getfield 31, [7, 10], [], none),
  (30, 2, .iload 5, [5], [], none),
  (32, 1, .iaload, [], [], none),
  (33, 1, .iload_n 3, [3], [], none),
  (34, 3, .if_icmp .gt 28, [62], [], none),
  (37, 1, .aload_n 0, [0], [], none),
  (38, 3, .getfield 34, [8, 10], [], none),
  (41, 2, .iload 5, [5], [], none),
  (43, 1, .iaload, [], [], none),
  (44, 1, .iload_n 2, [2], [], none),
  (45, 3, .if_icmp .lt 17, [62], [], none),
  (48, 2, .iload 4, [4], [], none),
  (50, 1, .iconst 1, [], [.int 1], none),
  (51, 1, .aload_n 0, [0], [], none),
  (52, 3, .getfield 25, [5, 10], [], none),
  (55, 2, .iload 5, [5], [], none),
  (57, 1, .iaload, [], [], none),
  (58, 1, .ishl, [], [], none),
  (59, 1, .ior, [], [], none),
  (60, 2, .istore 4, [4], [], none),
  (62, 3, .iinc 5 1, [5], [.int 1], some [0, 1, 2, 3, 4, 5]),
  (65, 3, .goto (-59), [6], [], none),
  (68, 2, .iload 4, [4], [], none),
  (70, 1, .ireturn, [], [], none)]
def jx_M132 : jx_M := (⟨"FairByEar$Watch", "present", "(III)I"⟩, prog_12_method_10_code, 6, (some .int), false, 0, jx_C132)
def jx_C133 : List jx_El := [(0, 1, .iconst 0, [], [.int 0], none),
  (1, 1, .istore_n 1, [1], [], none),
  (2, 1, .iconst 0, [], [.int 0], none),
  (3, 1, .istore_n 2, [2], [], none),
  (4, 1, .iload_n 2, [2], [], some [0, 1, 2]),
  (5, 1, .aload_n 0, [0], [], none),
  (6, 3, .getfield 21, [4, 10], [], none),
  (9, 3, .if_icmp .ge 31, [40], [], none),
  (12, 1, .aload_n 0, [0], [], none),
  (13, 1, .iload_n 2, [2], [], none),
  (14, 3, .invokevirtual 88, [128, 0, 1, 2, 10], [], none),
  (17, 3, .ifCond .le 17, [34], [], none),
  (20, 1, .aload_n 0, [0], [], none),
  (21, 3, .getfield 52, [14, 10], [], none),
  (24, 1, .iload_n 1, [1], [], none),
  (25, 1, .aload_n 0, [0], [], none),
  (26, 1, .iload_n 2, [2], [], none),
  (27, 3, .invokevirtual 104, [131, 0, 1, 2, 10], [], none),
  (30, 1, .iastore, [], [], none),
  (31, 3, .iinc 1 1, [1], [.int 1], none),
  (34, 3, .iinc 2 1, [2], [.int 1], some [0, 1, 2]),
  (37, 3, .goto (-33), [4], [], none),
  (40, 1, .iconst (-1), [], [.int (-1)], none),
  (41, 1, .istore_n 2, [2], [], none),
  (42, 1, .iconst 0, [], [.int 0], none),
  (43, 1, .istore_n 3, [3], [], none),
  (44, 1, .iload_n 3, [3], [], some [0, 1, 2, 3]),
  (45, 1, .iconst 1, [], [.int 1], none),
  (46, 1, .aload_n 0, [0], [], none),
  (47, 3, .getfield 61, [0, 10], [], none),
  (50, 3, .invokevirtual 111, [18, 0, 1, 1, 5], [], none),
  (53, 1, .ishl, [], [], none),
  (54, 3, .if_icmp .ge 48, [102], [], none),
  (57, 1, .iload_n 2, [2], [], none),
  (58, 1, .iconst (-1), [], [.int (-1)], none),
  (59, 3, .if_icmp .eq 14, [73], [], none),
  (62, 1, .iload_n 3, [3], [], none),
  (63, 3, .invokestatic 115, [3, 0, 1, 1], [], none),
  (66, 1, .iload_n 2, [2], [], none),
  (67, 3, .invokestatic 115, [3, 0, 1, 1], [], none),
  (70, 3, .if_icmp .ge 7, [77], [], none),
  (73, 1, .iconst 1, [], [.int 1], some [0, 1, 2, 3]),
  (74, 3, .goto 4, [78], [], none),
  (77, 1, .iconst 0, [], [.int 0], none),
  (78, 2, .istore 4, [4], [], some [0, 1, 2, 3]),
  (80, 2, .iload 4, [4], [], none),
  (82, 3, .ifCond .eq 14, [96], [], none),
  (85, 1, .aload_n 0, [0], [], none),
  (86, 1, .iload_n 3, [3], [], none),
  (87, 1, .iload_n 1, [1], [], none),
  (88, 3, .invokevirtual 120, [134, 0, 1, 3, 10], [], none),
  (91, 3, .ifCond .eq 5, [96], [], none),
  (94, 1, .iload_n 3, [3], [], none),
  (95, 1, .istore_n 2, [2], [], none),
  (96, 3, .iinc 3 1, [3], [.int 1], some [0, 1, 2, 3]),
  (99, 3, .goto (-55), [44], [], none),
  (102, 1, .iload_n 2, [2], [], none),
  (103, 1, .ireturn, [], [], none)]
def jx_M133 : jx_M := (⟨"FairByEar$Watch", "smallestGang", "()I"⟩, prog_12_method_11_code, 5, (some .int), false, 2, jx_C133)
def jx_C134 : List jx_El := [(0, 1, .iconst 0, [], [.int 0], none),
  (1, 1, .istore_n 3, [3], [], none),
  (2, 1, .iload_n 3, [3], [], some [0, 1, 2, 3]),
  (3, 1, .iload_n 2, [2], [], none),
  (4, 3, .if_icmp .ge 22, [26], [], none),
  (7, 1, .aload_n 0, [0], [], none),
  (8, 3, .getfield 52, [14, 10], [], none),
  (11, 1, .iload_n 3, [3], [], none),
  (12, 1, .iaload, [], [], none),
  (13, 1, .iload_n 1, [1], [], none),
  (14, 1, .iand, [], [], none),
  (15, 3, .ifCond .ne 5, [20], [], none),
  (18, 1, .iconst 0, [], [.int 0], none),
  (19, 1, .ireturn, [1], [], none),
  (20, 3, .iinc 3 1, [3], [.int 1], none),
  (23, 3, .goto (-21), [2], [], none),
  (26, 1, .iconst 1, [], [.int 1], none),
  (27, 1, .ireturn, [1], [], none)]
def jx_M134 : jx_M := (⟨"FairByEar$Watch", "meetsAll", "(II)Z"⟩, prog_12_method_12_code, 4, (some .boolean), false, 0, jx_C134)
def jx_C135 : List jx_El := [(0, 1, .aload_n 0, [0], [], none),
  (1, 3, .getfield 61, [0, 10], [], none),
  (4, 3, .invokevirtual 111, [18, 0, 1, 1, 5], [], none),
  (7, 1, .istore_n 2, [2], [], none),
  (8, 1, .iconst 1, [], [.int 1], none),
  (9, 1, .aload_n 0, [0], [], none),
  (10, 3, .getfield 49, [13, 10], [], none),
  (13, 1, .ishl, [], [], none),
  (14, 1, .iconst 1, [], [.int 1], none),
  (15, 1, .isub, [], [], none),
  (16, 1, .istore_n 3, [3], [], none),
  (17, 1, .aload_n 0, [0], [], none),
  (18, 3, .getfield 55, [15, 10], [], none),
  (21, 1, .iconst 0, [], [.int 0], none),
  (22, 1, .iconst 1, [], [.int 1], none),
  (23, 1, .iastore, [], [], none),
  (24, 1, .iconst 0, [], [.int 0], none),
  (25, 2, .istore 4, [4], [], none),
  (27, 2, .iload 4, [4], [], some [0, 1, 2, 3, 4]),
  (29, 1, .iload_n 2, [2], [], none),
  (30, 3, .if_icmp .ge 16, [46], [], none),
  (33, 1, .aload_n 0, [0], [], none),
  (34, 2, .iload 4, [4], [], none),
  (36, 1, .iload_n 3, [3], [], none),
  (37, 3, .invokevirtual 124, [136, 0, 0, 3, 10], [], none),
  (40, 3, .iinc 4 1, [4], [.int 1], none),
  (43, 3, .goto (-16), [27], [], none),
  (46, 1, .aload_n 0, [0], [], none),
  (47, 3, .getfield 58, [16, 10], [], none),
  (50, 1, .iconst 0, [], [.int 0], none),
  (51, 3, .invokestatic 128, [5, 0, 0, 2], [], none),
  (54, 1, .lconst 1, [], [.long 1], none),
  (55, 1, .iload_n 3, [3], [], none),
  (56, 1, .lshl, [], [], none),
  (57, 2, .lstore 4, [4], [], none),
  (59, 1, .iload_n 2, [2], [], none),
  (60, 1, .iconst 1, [], [.int 1], none),
  (61, 1, .isub, [], [], none),
  (62, 2, .istore 6, [6], [], none),
  (64, 2, .iload 6, [6], [], some [0, 1, 2, 3, 4, 6]),
  (66, 3, .ifCond .lt 20, [86], [], none),
  (69, 1, .aload_n 0, [0], [], none),
  (70, 2, .iload 6, [6], [], none),
  (72, 1, .iload_n 3, [3], [], none),
  (73, 2, .lload 4, [4], [], none),
  (75, 3, .invokevirtual 134, [137, 0, 2, 4, 10], [], none),
  (78, 2, .lstore 4, [4], [], none),
  (80, 3, .iinc 6 (-1), [6], [.int (-1)], none),
  (83, 3, .goto (-19), [64], [], none),
  (86, 1, .aload_n 1, [1], [], none),
  (87, 3, .invokevirtual 91, [6, 0, 0, 1, 7], [], none),
  (90, 1, .iconst 0, [], [.int 0], none),
  (91, 2, .istore 6, [6], [], none),
  (93, 2, .iload 6, [6], [], some [0, 1, 2, 3, 6]),
  (95, 1, .aload_n 0, [0], [], none),
  (96, 3, .getfield 49, [13, 10], [], none),
  (99, 3, .if_icmp .ge 21, [120], [], none),
  (102, 1, .aload_n 1, [1], [], none),
  (103, 1, .aload_n 0, [0], [], none),
  (104, 3, .getfield 58, [16, 10], [], none),
  (107, 2, .iload 6, [6], [], none),
  (109, 1, .iaload, [], [], none),
  (110, 1, .i2l, [], [], none),
  (111, 3, .invokevirtual 100, [7, 0, 0, 2, 7], [], none),
  (114, 3, .iinc 6 1, [6], [.int 1], none),
  (117, 3, .goto (-24), [93], [], none),
  (120, 1, .aload_n 0, [0], [], none),
  (121, 3, .getfield 55, [15, 10], [], none),
  (124, 1, .iload_n 2, [2], [], none),
  (125, 2, .bipush 64, [], [.int 64], none),
  (127, 1, .imul, [], [], none),
  (128, 1, .iload_n 3, [3], [], none),
  (129, 1, .iadd, [], [], none),
  (130, 1, .iaload, [], [], none),
  (131, 1, .ireturn, [], [], none)]
def jx_M135 : jx_M := (⟨"FairByEar$Watch", "tellHands", "(LFairByEar$Row;)I"⟩, prog_12_method_13_code, 7, (some .int), false, 4, jx_C135)
def jx_C136 : List jx_El := [(0, 1, .aload_n 0, [0], [], none),
  (1, 1, .iload_n 1, [1], [], none),
  (2, 1, .iload_n 2, [2], [], none),
  (3, 3, .invokevirtual 138, [139, 0, 2, 3, 10], [], none),
  (6, 1, .lstore_n 3, [3], [], none),
  (7, 1, .iconst 0, [], [.int 0], none),
  (8, 2, .istore 5, [5], [], none),
  (10, 2, .iload 5, [5], [], some [0, 1, 2, 3, 5]),
  (12, 1, .iload_n 2, [2], [], none),
  (13, 3, .if_icmp .gt 85, [98], [], none),
  (16, 1, .iconst 0, [], [.int 0], none),
  (17, 2, .istore 6, [6], [], none),
  (19, 1, .iconst 0, [], [.int 0], none),
  (20, 2, .istore 7, [7], [], none),
  (22, 2, .iload 7, [7], [], some [0, 1, 2, 3, 5, 6, 7]),
  (24, 2, .iload 5, [5], [], none),
  (26, 3, .if_icmp .gt 50, [76], [], none),
  (29, 2, .iload 7, [7], [], none),
  (31, 2, .iload 5, [5], [], none),
  (33, 1, .iand, [], [], none),
  (34, 2, .iload 7, [7], [], none),
  (36, 3, .if_icmp .ne 34, [70], [], none),
  (39, 1, .lload_n 3, [3], [], none),
  (40, 2, .iload 7, [7], [], none),
  (42, 1, .lushr, [], [], none),
  (43, 1, .lconst 1, [], [.long 1], none),
  (44, 1, .land, [], [], none),
  (45, 1, .lconst 0, [], [.long 0], none),
  (46, 1, .lcmp, [], [], none),
  (47, 3, .ifCond .eq 23, [70], [], none),
  (50, 2, .iload 6, [6], [], none),
  (52, 1, .aload_n 0, [0], [], none),
  (53, 3, .getfield 55, [15, 10], [], none),
  (56, 1, .iload_n 1, [1], [], none),
  (57, 2, .bipush 64, [], [.int 64], none),
  (59, 1, .imul, [], [], none),
  (60, 2, .iload 5, [5], [], none),
  (62, 2, .iload 7, [7], [], none),
  (64, 1, .ixor, [], [], none),
  (65, 1, .iadd, [], [], none),
  (66, 1, .iaload, [], [], none),
  (67, 1, .iadd, [], [], none),
  (68, 2, .istore 6, [6], [], none),
  (70, 3, .iinc 7 1, [7], [.int 1], some [0, 1, 2, 3, 5, 6, 7]),
  (73, 3, .goto (-51), [22], [], none),
  (76, 1, .aload_n 0, [0], [], none),
  (77, 3, .getfield 55, [15, 10], [], none),
  (80, 1, .iload_n 1, [1], [], none),
  (81, 1, .iconst 1, [], [.int 1], none),
  (82, 1, .iadd, [], [], none),
  (83, 2, .bipush 64, [], [.int 64], none),
  (85, 1, .imul, [], [], none),
  (86, 2, .iload 5, [5], [], none),
  (88, 1, .iadd, [], [], none),
  (89, 2, .iload 6, [6], [], none),
  (91, 1, .iastore, [], [], none),
  (92, 3, .iinc 5 1, [5], [.int 1], none),
  (95, 3, .goto (-85), [10], [], none),
  (98, 1, .return_, [], [], none)]
def jx_M136 : jx_M := (⟨"FairByEar$Watch", "giveTo", "(II)V"⟩, prog_12_method_14_code, 8, none, false, 3, jx_C136)
def jx_C137 : List jx_El := [(0, 1, .aload_n 0, [0], [], none),
  (1, 1, .iload_n 1, [1], [], none),
  (2, 1, .iload_n 2, [2], [], none),
  (3, 3, .invokevirtual 138, [139, 0, 2, 3, 10], [], none),
  (6, 2, .lstore 5, [5], [], none),
  (8, 1, .lconst 0, [], [.long 0], none),
  (9, 2, .lstore 7, [7], [], none),
  (11, 1, .iconst 0, [], [.int 0], none),
  (12, 2, .istore 9, [9], [], none),
  (14, 2, .iload 9, [9], [], some [0, 1, 2, 3, 5, 7, 9]),
  (16, 1, .iload_n 2, [2], [], none),
  (17, 3, .if_icmp .gt 107, [124], [], none),
  (20, 1, .iconst 0, [], [.int 0], none),
  (21, 2, .istore 10, [10], [], none),
  (23, 2, .iload 10, [10], [], some [0, 1, 2, 3, 5, 7, 9, 10]),
  (25, 2, .iload 9, [9], [], none),
  (27, 3, .if_icmp .gt 91, [118], [], none),
  (30, 1, .lload_n 3, [3], [], none),
  (31, 2, .iload 9, [9], [], none),
  (33, 1, .lushr, [], [], none),
  (34, 1, .lconst 1, [], [.long 1], none),
  (35, 1, .land, [], [], none),
  (36, 1, .lconst 0, [], [.long 0], none),
  (37, 1, .lcmp, [], [], none),
  (38, 3, .ifCond .eq 80, [118], [], none),
  (41, 2, .iload 10, [10], [], none),
  (43, 2, .iload 9, [9], [], none),
  (45, 1, .iand, [], [], none),
  (46, 2, .iload 10, [10], [], none),
  (48, 3, .if_icmp .ne 19, [67], [], none),
  (51, 2, .lload 5, [5], [], none),
  (53, 2, .iload 10, [10], [], none),
  (55, 1, .lushr, [], [], none),
  (56, 1, .lconst 1, [], [.long 1], none),
  (57, 1, .land, [], [], none),
  (58, 1, .lconst 0, [], [.long 0], none),
  (59, 1, .lcmp, [], [], none),
  (60, 3, .ifCond .eq 7, [67], [], none),
  (63, 1, .iconst 1, [], [.int 1], none),
  (64, 3, .goto 4, [68], [], none),
  (67, 1, .iconst 0, [], [.int 0], some [0, 1, 2, 3, 5, 7, 9, 10]),
  (68, 2, .istore 11, [11], [], some [0, 1, 2, 3, 5, 7, 9, 10]),
  (70, 2, .iload 11, [11], [], none),
  (72, 3, .ifCond .eq 40, [112], [], none),
  (75, 1, .aload_n 0, [0], [], none),
  (76, 3, .getfield 55, [15, 10], [], none),
  (79, 1, .iload_n 1, [1], [], none),
  (80, 2, .bipush 64, [], [.int 64], none),
  (82, 1, .imul, [], [], none),
  (83, 2, .iload 9, [9], [], none),
  (85, 2, .iload 10, [10], [], none),
  (87, 1, .ixor, [], [], none),
  (88, 1, .iadd, [], [], none),
  (89, 1, .iaload, [], [], none),
  (90, 3, .ifCond .le 22, [112], [], none),
  (93, 1, .aload_n 0, [0], [], none),
  (94, 2, .iload 10, [10], [], none),
  (96, 1, .iload_n 1, [1], [], none),
  (97, 3, .invokevirtual 142, [138, 0, 0, 3, 10], [], none),
  (100, 2, .lload 7, [7], [], none),
  (102, 1, .lconst 1, [], [.long 1], none),
  (103, 2, .iload 9, [9], [], none),
  (105, 2, .iload 10, [10], [], none),
  (107, 1, .ixor, [], [], none),
  (108, 1, .lshl, [], [], none),
  (109, 1, .lor, [], [], none),
  (110, 2, .lstore 7, [7], [], none),
  (112, 3, .iinc 10 1, [10], [.int 1], some [0, 1, 2, 3, 5, 7, 9, 10]),
  (115, 3, .goto (-92), [23], [], none),
  (118, 3, .iinc 9 1, [9], [.int 1], some [0, 1, 2, 3, 5, 7, 9]),
  (121, 3, .goto (-107), [14], [], none),
  (124, 2, .lload 7, [7], [], none),
  (126, 1, .lreturn, [], [], none)]
def jx_M137 : jx_M := (⟨"FairByEar$Watch", "traceBack", "(IIJ)J"⟩, prog_12_method_15_code, 12, (some .long), false, 3, jx_C137)
def jx_C138 : List jx_El := [(0, 1, .iconst 0, [], [.int 0], none),
  (1, 1, .istore_n 3, [3], [], none),
  (2, 1, .iload_n 3, [3], [], some [0, 1, 2, 3]),
  (3, 1, .aload_n 0, [0], [], none),
  (4, 3, .getfield 49, [13, 10], [], none),
  (7, 3, .if_icmp .ge 29, [36], [], none),
  (10, 1, .iload_n 1, [1], [], none),
  (11, 1, .iload_n 3, [3], [], none),
  (12, 3, .invokestatic 145, [216, 0, 1, 2], [], none),
  (15, 3, .ifCond .eq 15, [30], [], none),
  (18, 1, .aload_n 0, [0], [], none),
  (19, 3, .getfield 58, [16, 10], [], none),
  (22, 1, .iload_n 3, [3], [], none),
  (23, 1, .dup2, [], [], none),
  (24, 1, .iaload, [], [], none),
  (25, 1, .iconst 1, [], [.int 1], none),
  (26, 1, .iload_n 2, [2], [], none),
  (27, 1, .ishl, [], [], none),
  (28, 1, .ior, [], [], none),
  (29, 1, .iastore, [], [], none),
  (30, 3, .iinc 3 1, [3], [.int 1], some [0, 1, 2, 3]),
  (33, 3, .goto (-31), [2], [], none),
  (36, 1, .return_, [], [], none)]
def jx_M138 : jx_M := (⟨"FairByEar$Watch", "markHand", "(II)V"⟩, prog_12_method_16_code, 4, none, false, 1, jx_C138)
def jx_C139 : List jx_El := [(0, 1, .iconst 0, [], [.int 0], none),
  (1, 1, .istore_n 3, [3], [], none),
  (2, 1, .iconst 0, [], [.int 0], none),
  (3, 2, .istore 4, [4], [], none),
  (5, 2, .iload 4, [4], [], some [0, 1, 2, 3, 4]),
  (7, 1, .aload_n 0, [0], [], none),
  (8, 3, .getfield 49, [13, 10], [], none),
  (11, 3, .if_icmp .ge 47, [58], [], none),
  (14, 1, .aload_n 0, [0], [], none),
  (15, 3, .getfield 43, [11, 10], [], none),
  (18, 2, .iload 4, [4], [], none),
  (20, 1, .iaload, [], [], none),
  (21, 2, .istore 5, [5], [], none),
  (23, 1, .aload_n 0, [0], [], none),
  (24, 1, .aload_n 0, [0], [], none),
  (25, 3, .getfield 40, [10, 10], [], none),
  (28, 2, .iload 4, [4], [], none),
  (30, 1, .iaload, [], [], none),
  (31, 2, .iload 5, [5], [], none),
  (33, 2, .iload 5, [5], [], none),
  (35, 3, .invokevirtual 107, [132, 0, 1, 4, 10], [], none),
  (38, 1, .iload_n 1, [1], [], none),
  (39, 3, .invokestatic 145, [216, 0, 1, 2], [], none),
  (42, 3, .ifCond .eq 10, [52], [], none),
  (45, 1, .iload_n 3, [3], [], none),
  (46, 1, .iconst 1, [], [.int 1], none),
  (47, 2, .iload 4, [4], [], none),
  (49, 1, .ishl, [], [], none),
  (50, 1, .ior, [], [], none),
  (51, 1, .istore_n 3, [3], [], none),
  (52, 3, .iinc 4 1, [4], [.int 1], some [0, 1, 2, 3, 4]),
  (55, 3, .goto (-50), [5], [], none),
  (58, 1, .lconst 0, [], [.long 0], none),
  (59, 2, .lstore 4, [4], [], none),
  (61, 1, .iconst 0, [], [.int 0], none),
  (62, 2, .istore 6, [6], [], none),
  (64, 2, .iload 6, [6], [], some [0, 1, 2, 3, 4, 6]),
  (66, 1, .iload_n 2, [2], [], none),
  (67, 3, .if_icmp .gt 44, [111], [], none),
  (70, 2, .iload 6, [6], [], none),
  (72, 1, .iload_n 3, [3], [], none),
  (73, 1, .iand, [], [], none),
  (74, 2, .iload 6, [6], [], none),
  (76, 3, .if_icmp .ne 29, [105], [], none),
  (79, 1, .aload_n 0, [0], [], none),
  (80, 2, .iload 6, [6], [], none),
  (82, 3, .invokevirtual 148, [140, 0, 1, 2, 10], [], none),
  (85, 1, .aload_n 0, [0], [], none),
  (86, 3, .getfield 61, [0, 10], [], none),
  (89, 1, .iload_n 1, [1], [], none),
  (90, 3, .invokevirtual 151, [27, 0, 1, 2, 5], [], none),
  (93, 3, .if_icmp .gt 12, [105], [], none),
  (96, 2, .lload 4, [4], [], none),
  (98, 1, .lconst 1, [], [.long 1], none),
  (99, 2, .iload 6, [6], [], none),
  (101, 1, .lshl, [], [], none),
  (102, 1, .lor, [], [], none),
  (103, 2, .lstore 4, [4], [], none),
  (105, 3, .iinc 6 1, [6], [.int 1], some [0, 1, 2, 3, 4, 6]),
  (108, 3, .goto (-44), [64], [], none),
  (111, 2, .lload 4, [4], [], none),
  (113, 1, .lreturn, [], [], none)]
def jx_M139 : jx_M := (⟨"FairByEar$Watch", "canTake", "(II)J"⟩, prog_12_method_17_code, 7, (some .long), false, 2, jx_C139)
def jx_C140 : List jx_El := [(0, 1, .iconst 0, [], [.int 0], none),
  (1, 1, .istore_n 2, [2], [], none),
  (2, 1, .iconst 0, [], [.int 0], none),
  (3, 1, .istore_n 3, [3], [], none),
  (4, 1, .iload_n 3, [3], [], some [0, 1, 2, 3]),
  (5, 1, .aload_n 0, [0], [], none),
  (6, 3, .getfield 49, [13, 10], [], none),
  (9, 3, .if_icmp .ge 26, [35], [], none),
  (12, 1, .iload_n 1, [1], [], none),
  (13, 1, .iload_n 3, [3], [], none),
  (14, 3, .invokestatic 145, [216, 0, 1, 2], [], none),
  (17, 3, .ifCond .eq 12, [29], [], none),
  (20, 1, .iload_n 2, [2], [], none),
  (21, 1, .aload_n 0, [0], [], none),
  (22, 3, .getfield 46, [12, 10], [], none),
  (25, 1, .iload_n 3, [3], [], none),
  (26, 1, .iaload, [], [], none),
  (27, 1, .iadd, [], [], none),
  (28, 1, .istore_n 2, [2], [], none),
  (29, 3, .iinc 3 1, [3], [.int 1], some [0, 1, 2, 3]),
  (32, 3, .goto (-28), [4], [], none),
  (35, 1, .iload_n 2, [2], [], none),
  (36, 1, .ireturn, [], [], none)]
def jx_M140 : jx_M := (⟨"FairByEar$Watch", "sumOf", "(I)I"⟩, prog_12_method_18_code, 4, (some .int), false, 1, jx_C140)
def jx_C141 : List jx_El := [(0, 1, .aload_n 0, [0], [], none),
  (1, 3, .getfield 44, [0, 6], [], none),
  (4, 1, .iload_n 1, [1], [], none),
  (5, 1, .iload_n 2, [2], [], none),
  (6, 3, .invokevirtual 48, [20, 0, 1, 3, 5], [], none),
  (9, 1, .istore_n 3, [3], [], none),
  (10, 1, .iload_n 3, [3], [], none),
  (11, 3, .ifCond .lt 10, [21], [], none),
  (14, 1, .iload_n 3, [3], [], none),
  (15, 3, .sipush 999, [], [.int 999], none),
  (18, 3, .if_icmp .lt 7, [25], [], none),
  (21, 1, .iconst 0, [], [.int 0], some []),
  (22, 3, .goto 9, [31], [], none),
  (25, 2, .bipush 60, [], [.int 60], none),
  (27, 1, .iconst 1, [], [.int 1], none),
  (28, 1, .iload_n 3, [3], [], none),
  (29, 1, .iadd, [], [], none),
  (30, 1, .idiv, [], [], none),
  (31, 1, .ireturn, [], [], some [])]
def jx_M141 : jx_M := (⟨"FairByEar$Noise", "voice", "(II)I"⟩, prog_8_method_2_code, 4, (some .int), false, 2, jx_C141)
def jx_C142 : List jx_El := [(0, 1, .iconst 0, [], [.int 0], none),
  (1, 1, .istore_n 2, [2], [], none),
  (2, 1, .iconst 0, [], [.int 0], none),
  (3, 1, .istore_n 3, [3], [], none),
  (4, 1, .iload_n 3, [3], [], some [0, 1, 2, 3]),
  (5, 1, .aload_n 0, [0], [], none),
  (6, 3, .getfield 44, [0, 6], [], none),
  (9, 3, .invokevirtual 54, [18, 0, 1, 1, 5], [], none),
  (12, 3, .if_icmp .ge 25, [37], [], none),
  (15, 1, .iload_n 2, [2], [], none),
  (16, 1, .aload_n 0, [0], [], none),
  (17, 1, .aload_n 0, [0], [], none),
  (18, 3, .getfield 44, [0, 6], [], none),
  (21, 1, .iload_n 3, [3], [], none),
  (22, 3, .invokevirtual 58, [26, 0, 1, 2, 5], [], none),
  (25, 1, .iload_n 1, [1], [], none),
  (26, 3, .invokevirtual 62, [141, 0, 1, 3, 6], [], none),
  (29, 1, .iadd, [], [], none),
  (30, 1, .istore_n 2, [2], [], none),
  (31, 3, .iinc 3 1, [3], [.int 1], none),
  (34, 3, .goto (-30), [4], [], none),
  (37, 1, .iload_n 2, [2], [], none),
  (38, 1, .ireturn, [], [], none)]
def jx_M142 : jx_M := (⟨"FairByEar$Noise", "loudAt", "(I)I"⟩, prog_8_method_3_code, 4, (some .int), false, 3, jx_C142)
def jx_C143 : List jx_El := [(0, 1, .iconst 0, [], [.int 0], none),
  (1, 1, .istore_n 2, [2], [], none),
  (2, 1, .aload_n 0, [0], [], none),
  (3, 1, .iconst 0, [], [.int 0], none),
  (4, 3, .invokevirtual 65, [142, 0, 1, 2, 6], [], none),
  (7, 1, .istore_n 3, [3], [], none),
  (8, 1, .iconst 1, [], [.int 1], none),
  (9, 2, .istore 4, [4], [], none),
  (11, 1, .iconst 1, [], [.int 1], none),
  (12, 2, .istore 5, [5], [], none),
  (14, 2, .iload 5, [5], [], some [0, 1, 2, 3, 4, 5]),
  (16, 2, .bipush 10, [], [.int 10], none),
  (18, 3, .if_icmp .ge 44, [62], [], none),
  (21, 1, .aload_n 0, [0], [], none),
  (22, 2, .iload 5, [5], [], none),
  (24, 3, .invokevirtual 65, [142, 0, 1, 2, 6], [], none),
  (27, 2, .istore 6, [6], [], none),
  (29, 2, .iload 6, [6], [], none),
  (31, 1, .iload_n 3, [3], [], none),
  (32, 3, .if_icmp .le 15, [47], [], none),
  (35, 2, .iload 5, [5], [], none),
  (37, 1, .istore_n 2, [2], [], none),
  (38, 2, .iload 6, [6], [], none),
  (40, 1, .istore_n 3, [3], [], none),
  (41, 1, .iconst 1, [], [.int 1], none),
  (42, 2, .istore 4, [4], [], none),
  (44, 3, .goto 12, [56], [], none),
  (47, 2, .iload 6, [6], [], none),
  (49, 1, .iload_n 3, [3], [], none),
  (50, 3, .if_icmp .ne 6, [56], [], none),
  (53, 3, .iinc 4 1, [4], [.int 1], none),
  (56, 3, .iinc 5 1, [5], [.int 1], some [0, 1, 2, 3, 4, 5]),
  (59, 3, .goto (-45), [14], [], none),
  (62, 1, .aload_n 1, [1], [], none),
  (63, 1, .iload_n 3, [3], [], none),
  (64, 1, .i2l, [], [], none),
  (65, 2, .iload 4, [4], [], none),
  (67, 1, .i2l, [], [], none),
  (68, 3, .invokevirtual 68, [9, 0, 0, 3, 7], [], none),
  (71, 1, .iload_n 2, [2], [], none),
  (72, 1, .ireturn, [], [], none)]
def jx_M143 : jx_M := (⟨"FairByEar$Noise", "tellLoudest", "(LFairByEar$Row;)I"⟩, prog_8_method_4_code, 7, (some .int), false, 4, jx_C143)
def jx_C144 : List jx_El := [(0, 1, .aload_n 0, [0], [], none),
  (1, 3, .getfield 44, [0, 6], [], none),
  (4, 1, .iload_n 1, [1], [], none),
  (5, 3, .invokevirtual 74, [15, 0, 1, 2, 5], [], none),
  (8, 3, .ifCond .eq 23, [31], [], none),
  (11, 1, .iload_n 2, [2], [], none),
  (12, 1, .iconst 0, [], [.int 0], none),
  (13, 3, .sipush 999, [], [.int 999], none),
  (16, 3, .invokestatic 78, [215, 0, 1, 3], [], none),
  (19, 3, .ifCond .eq 12, [31], [], none),
  (22, 1, .aload_n 0, [0], [], none),
  (23, 3, .getfield 18, [3, 6], [], none),
  (26, 2, .bipush 6, [], [.int 6], none),
  (28, 3, .if_icmp .lt 5, [33], [], none),
  (31, 1, .iconst (-1), [], [.int (-1)], some []),
  (32, 1, .ireturn, [], [], none),
  (33, 1, .aload_n 0, [0], [], none),
  (34, 3, .getfield 11, [1, 6], [], none),
  (37, 1, .aload_n 0, [0], [], none),
  (38, 3, .getfield 18, [3, 6], [], none),
  (41, 1, .iload_n 1, [1], [], none),
  (42, 1, .iastore, [], [], none),
  (43, 1, .aload_n 0, [0], [], none),
  (44, 3, .getfield 15, [2, 6], [], none),
  (47, 1, .aload_n 0, [0], [], none),
  (48, 3, .getfield 18, [3, 6], [], none),
  (51, 1, .iload_n 2, [2], [], none),
  (52, 1, .iastore, [], [], none),
  (53, 1, .aload_n 0, [0], [], none),
  (54, 1, .dup, [], [], none),
  (55, 3, .getfield 18, [3, 6], [], none),
  (58, 1, .iconst 1, [], [.int 1], none),
  (59, 1, .iadd, [], [], none),
  (60, 3, .putfield 18, [3, 6, 0], [], none),
  (63, 1, .aload_n 0, [0], [], none),
  (64, 3, .getfield 18, [3, 6], [], none),
  (67, 1, .ireturn, [], [], none)]
def jx_M144 : jx_M := (⟨"FairByEar$Noise", "addHeard", "(II)I"⟩, prog_8_method_5_code, 3, (some .int), false, 1, jx_C144)
def jx_C145 : List jx_El := [(0, 1, .aload_n 0, [0], [], none),
  (1, 1, .iconst 0, [], [.int 0], none),
  (2, 2, .bipush 6, [], [.int 6], none),
  (4, 1, .iload_n 1, [1], [], none),
  (5, 3, .invokestatic 82, [2, 0, 1, 2], [], none),
  (8, 3, .invokestatic 87, [1, 0, 1, 2], [], none),
  (11, 3, .putfield 34, [8, 6, 0], [], none),
  (14, 1, .aload_n 0, [0], [], none),
  (15, 1, .iload_n 2, [2], [], none),
  (16, 3, .putfield 37, [9, 6, 0], [], none),
  (19, 1, .aload_n 0, [0], [], none),
  (20, 1, .iconst 0, [], [.int 0], none),
  (21, 3, .putfield 40, [10, 6, 1], [], none),
  (24, 1, .aload_n 0, [0], [], none),
  (25, 3, .getfield 28, [6, 6], [], none),
  (28, 1, .iconst 0, [], [.int 0], none),
  (29, 3, .invokestatic 90, [5, 0, 0, 2], [], none),
  (32, 1, .aload_n 0, [0], [], none),
  (33, 3, .invokevirtual 96, [146, 0, 0, 1, 6], [], none),
  (36, 1, .aload_n 0, [0], [], none),
  (37, 1, .iconst 0, [], [.int 0], none),
  (38, 3, .invokevirtual 99, [147, 1, 1, 2, 6], [], none),
  (41, 2, .istore 4, [4], [], none),
  (43, 1, .aload_n 3, [3], [], none),
  (44, 3, .invokevirtual 101, [6, 0, 0, 1, 7], [], none),
  (47, 1, .iconst 0, [], [.int 0], none),
  (48, 2, .istore 5, [5], [], none),
  (50, 2, .iload 5, [5], [], some [0, 3, 4, 5]),
  (52, 1, .aload_n 0, [0], [], none),
  (53, 3, .getfield 34, [8, 6], [], none),
  (56, 3, .if_icmp .ge 28, [84], [], none),
  (59, 1, .aload_n 0, [0], [], none),
  (60, 3, .getfield 40, [10, 6], [], none),
  (63, 3, .ifCond .eq 21, [84], [], none),
  (66, 1, .aload_n 3, [3], [], none),
  (67, 1, .aload_n 0, [0], [], none),
  (68, 3, .getfield 25, [5, 6], [], none),
  (71, 2, .iload 5, [5], [], none),
  (73, 1, .iaload, [], [], none),
  (74, 1, .i2l, [], [], none),
  (75, 3, .invokevirtual 104, [7, 0, 0, 2, 7], [], none),
  (78, 3, .iinc 5 1, [5], [.int 1], none),
  (81, 3, .goto (-31), [50], [], none),
  (84, 2, .iload 4, [4], [], some [4]),
  (86, 1, .ireturn, [], [], none)]
def jx_M145 : jx_M := (⟨"FairByEar$Noise", "tellCrowds", "(IILFairByEar$Row;)I"⟩, prog_8_method_6_code, 6, (some .int), false, 125, jx_C145)
def jx_C146 : List jx_El := [(0, 1, .aload_n 0, [0], [], none),
  (1, 3, .getfield 31, [7, 6], [], none),
  (4, 1, .iconst 0, [], [.int 0], none),
  (5, 3, .invokestatic 90, [5, 0, 0, 2], [], none),
  (8, 1, .aload_n 0, [0], [], none),
  (9, 3, .getfield 34, [8, 6], [], none),
  (12, 1, .iconst 1, [], [.int 1], none),
  (13, 1, .isub, [], [], none),
  (14, 1, .istore_n 1, [1], [], none),
  (15, 1, .iload_n 1, [1], [], some [0, 1]),
  (16, 3, .ifCond .lt 65, [81], [], none),
  (19, 1, .iconst 0, [], [.int 0], none),
  (20, 1, .istore_n 2, [2], [], none),
  (21, 1, .iload_n 2, [2], [], some [0, 1, 2]),
  (22, 1, .aload_n 0, [0], [], none),
  (23, 3, .getfield 18, [3, 6], [], none),
  (26, 3, .if_icmp .ge 49, [75], [], none),
  (29, 1, .aload_n 0, [0], [], none),
  (30, 3, .getfield 31, [7, 6], [], none),
  (33, 1, .iload_n 1, [1], [], none),
  (34, 1, .iconst 1, [], [.int 1], none),
  (35, 1, .iadd, [], [], none),
  (36, 2, .bipush 6, [], [.int 6], none),
  (38, 1, .imul, [], [], none),
  (39, 1, .iload_n 2, [2], [], none),
  (40, 1, .iadd, [], [], none),
  (41, 1, .iaload, [], [], none),
  (42, 1, .istore_n 3, [3], [], none),
  (43, 1, .aload_n 0, [0], [], none),
  (44, 3, .getfield 31, [7, 6], [], none),
  (47, 1, .iload_n 1, [1], [], none),
  (48, 2, .bipush 6, [], [.int 6], none),
  (50, 1, .imul, [], [], none),
  (51, 1, .iload_n 2, [2], [], none),
  (52, 1, .iadd, [], [], none),
  (53, 1, .iload_n 3, [3], [], none),
  (54, 1, .iconst 4, [], [.int 4], none),
  (55, 1, .aload_n 0, [0], [], none),
  (56, 1, .iload_n 1, [1], [], none),
  (57, 1, .aload_n 0, [0], [], none),
  (58, 3, .getfield 11, [1, 6], [], none),
  (61, 1, .iload_n 2, [2], [], none),
  (62, 1, .iaload, [], [], none),
  (63, 3, .invokevirtual 62, [141, 0, 1, 3, 6], [], none),
  (66, 1, .imul, [], [], none),
  (67, 1, .iadd, [], [], none),
  (68, 1, .iastore, [], [], none),
  (69, 3, .iinc 2 1, [2], [.int 1], none),
  (72, 3, .goto (-51), [21], [], none),
  (75, 3, .iinc 1 (-1), [1], [.int (-1)], none),
  (78, 3, .goto (-63), [15], [], none),
  (81, 1, .return_, [], [], none)]
def jx_M146 : jx_M := (⟨"FairByEar$Noise", "findRests", "()V"⟩, prog_8_method_7_code, 4, none, false, 3, jx_C146)
def jx_C147 : List jx_El := [(0, 1, .iload_n 1, [1], [], none),
  (1, 1, .aload_n 0, [0], [], none),
  (2, 3, .getfield 34, [8, 6], [], none),
  (5, 3, .if_icmp .gt 11, [16], [], none),
  (8, 1, .aload_n 0, [0], [], none),
  (9, 1, .iload_n 1, [1], [], none),
  (10, 3, .invokevirtual 108, [148, 0, 1, 2, 6], [], none),
  (13, 3, .ifCond .eq 5, [18], [], none),
  (16, 1, .iconst 0, [], [.int 0], some []),
  (17, 1, .ireturn, [], [], none),
  (18, 1, .iload_n 1, [1], [], none),
  (19, 1, .aload_n 0, [0], [], none),
  (20, 3, .getfield 34, [8, 6], [], none),
  (23, 3, .if_icmp .ne 9, [32], [], none),
  (26, 1, .aload_n 0, [0], [], none),
  (27, 3, .invokevirtual 111, [150, 0, 0, 1, 6], [], none),
  (30, 1, .iconst 1, [], [.int 1], none),
  (31, 1, .ireturn, [], [], none),
  (32, 1, .iconst 0, [], [.int 0], none),
  (33, 1, .istore_n 2, [2], [], none),
  (34, 1, .iconst 0, [], [.int 0], none),
  (35, 1, .istore_n 3, [3], [], none),
  (36, 1, .iload_n 3, [3], [], some [0, 1, 2, 3]),
  (37, 1, .iconst 4, [], [.int 4], none),
  (38, 3, .if_icmp .gt 39, [77], [], none),
  (41, 1, .aload_n 0, [0], [], none),
  (42, 3, .getfield 22, [4, 6], [], none),
  (45, 1, .iload_n 1, [1], [], none),
  (46, 1, .iload_n 3, [3], [], none),
  (47, 1, .iastore, [], [], none),
  (48, 1, .aload_n 0, [0], [], none),
  (49, 1, .iload_n 1, [1], [], none),
  (50, 1, .iload_n 3, [3], [], none),
  (51, 3, .invokevirtual 114, [149, 0, 0, 3, 6], [], none),
  (54, 1, .iload_n 2, [2], [], none),
  (55, 1, .aload_n 0, [0], [], none),
  (56, 1, .iload_n 1, [1], [], none),
  (57, 1, .iconst 1, [], [.int 1], none),
  (58, 1, .iadd, [], [], none),
  (59, 3, .invokevirtual 99, [147, 2, 1, 2, 6], [], none),
  (62, 1, .iadd, [], [], none),
  (63, 1, .istore_n 2, [2], [], none),
  (64, 1, .aload_n 0, [0], [], none),
  (65, 1, .iload_n 1, [1], [], none),
  (66, 1, .iload_n 3, [3], [], none),
  (67, 1, .ineg, [], [], none),
  (68, 3, .invokevirtual 114, [149, 0, 0, 3, 6], [], none),
  (71, 3, .iinc 3 1, [3], [.int 1], none),
  (74, 3, .goto (-38), [36], [], none),
  (77, 1, .iload_n 2, [2], [], none),
  (78, 1, .ireturn, [], [], none)]
def jx_M147 : jx_M := (⟨"FairByEar$Noise", "fill", "(I)I"⟩, prog_8_method_8_code, 4, (some .int), false, 4, jx_C147)
def jx_C148 : List jx_El := [(0, 1, .iconst 0, [], [.int 0], none),
  (1, 1, .istore_n 2, [2], [], none),
  (2, 1, .iload_n 2, [2], [], some [0, 1, 2]),
  (3, 1, .aload_n 0, [0], [], none),
  (4, 3, .getfield 18, [3, 6], [], none),
  (7, 3, .if_icmp .ge 65, [72], [], none),
  (10, 1, .aload_n 0, [0], [], none),
  (11, 3, .getfield 28, [6, 6], [], none),
  (14, 1, .iload_n 2, [2], [], none),
  (15, 1, .iaload, [], [], none),
  (16, 1, .aload_n 0, [0], [], none),
  (17, 3, .getfield 31, [7, 6], [], none),
  (20, 1, .iload_n 1, [1], [], none),
  (21, 2, .bipush 6, [], [.int 6], none),
  (23, 1, .imul, [], [], none),
  (24, 1, .iload_n 2, [2], [], none),
  (25, 1, .iadd, [], [], none),
  (26, 1, .iaload, [], [], none),
  (27, 1, .iadd, [], [], none),
  (28, 1, .istore_n 3, [3], [], none),
  (29, 1, .aload_n 0, [0], [], none),
  (30, 3, .getfield 28, [6, 6], [], none),
  (33, 1, .iload_n 2, [2], [], none),
  (34, 1, .iaload, [], [], none),
  (35, 1, .aload_n 0, [0], [], none),
  (36, 3, .getfield 15, [2, 6], [], none),
  (39, 1, .iload_n 2, [2], [], none),
  (40, 1, .iaload, [], [], none),
  (41, 1, .aload_n 0, [0], [], none),
  (42, 3, .getfield 37, [9, 6], [], none),
  (45, 1, .iadd, [], [], none),
  (46, 3, .if_icmp .gt 18, [64], [], none),
  (49, 1, .iload_n 3, [3], [], none),
  (50, 1, .aload_n 0, [0], [], none),
  (51, 3, .getfield 15, [2, 6], [], none),
  (54, 1, .iload_n 2, [2], [], none),
  (55, 1, .iaload, [], [], none),
  (56, 1, .aload_n 0, [0], [], none),
  (57, 3, .getfield 37, [9, 6], [], none),
  (60, 1, .isub, [], [], none),
  (61, 3, .if_icmp .ge 5, [66], [], none),
  (64, 1, .iconst 1, [], [.int 1], some []),
  (65, 1, .ireturn, [1], [], none),
  (66, 3, .iinc 2 1, [2], [.int 1], none),
  (69, 3, .goto (-67), [2], [], none),
  (72, 1, .iconst 0, [], [.int 0], none),
  (73, 1, .ireturn, [1], [], none)]
def jx_M148 : jx_M := (⟨"FairByEar$Noise", "isHopeless", "(I)Z"⟩, prog_8_method_9_code, 4, (some .boolean), false, 0, jx_C148)
def jx_C149 : List jx_El := [(0, 1, .iconst 0, [], [.int 0], none),
  (1, 1, .istore_n 3, [3], [], none),
  (2, 1, .iload_n 3, [3], [], some [0, 1, 2, 3]),
  (3, 1, .aload_n 0, [0], [], none),
  (4, 3, .getfield 18, [3, 6], [], none),
  (7, 3, .if_icmp .ge 31, [38], [], none),
  (10, 1, .aload_n 0, [0], [], none),
  (11, 3, .getfield 28, [6, 6], [], none),
  (14, 1, .iload_n 3, [3], [], none),
  (15, 1, .dup2, [], [], none),
  (16, 1, .iaload, [], [], none),
  (17, 1, .iload_n 2, [2], [], none),
  (18, 1, .aload_n 0, [0], [], none),
  (19, 1, .iload_n 1, [1], [], none),
  (20, 1, .aload_n 0, [0], [], none),
  (21, 3, .getfield 11, [1, 6], [], none),
  (24, 1, .iload_n 3, [3], [], none),
  (25, 1, .iaload, [], [], none),
  (26, 3, .invokevirtual 62, [141, 0, 1, 3, 6], [], none),
  (29, 1, .imul, [], [], none),
  (30, 1, .iadd, [], [], none),
  (31, 1, .iastore, [], [], none),
  (32, 3, .iinc 3 1, [3], [.int 1], none),
  (35, 3, .goto (-33), [2], [], none),
  (38, 1, .return_, [], [], none)]
def jx_M149 : jx_M := (⟨"FairByEar$Noise", "shout", "(II)V"⟩, prog_8_method_10_code, 4, none, false, 3, jx_C149)
def jx_C150 : List jx_El := [(0, 1, .aload_n 0, [0], [], none),
  (1, 3, .getfield 40, [10, 6], [], none),
  (4, 3, .ifCond .ne 25, [29], [], none),
  (7, 1, .aload_n 0, [0], [], none),
  (8, 1, .iconst 1, [], [.int 1], none),
  (9, 3, .putfield 40, [10, 6, 1], [], none),
  (12, 1, .aload_n 0, [0], [], none),
  (13, 3, .getfield 22, [4, 6], [], none),
  (16, 1, .iconst 0, [], [.int 0], none),
  (17, 1, .aload_n 0, [0], [], none),
  (18, 3, .getfield 25, [5, 6], [], none),
  (21, 1, .iconst 0, [], [.int 0], none),
  (22, 1, .aload_n 0, [0], [], none),
  (23, 3, .getfield 34, [8, 6], [], none),
  (26, 3, .invokestatic 118, [0], [], none),
  (29, 1, .return_, [], [], some [])]
def jx_M150 : jx_M := (⟨"FairByEar$Noise", "keepFirst", "()V"⟩, prog_8_method_11_code, 1, none, false, 0, jx_C150)
def jx_C151 : List jx_El := [(0, 1, .iconst (-1), [], [.int (-1)], none),
  (1, 1, .istore_n 3, [3], [], none),
  (2, 1, .iload_n 1, [1], [], none),
  (3, 3, .ifCond .ne 27, [30], [], none),
  (6, 1, .iload_n 2, [2], [], none),
  (7, 1, .iconst 0, [], [.int 0], none),
  (8, 3, .sipush 9999, [], [.int 9999], none),
  (11, 3, .invokestatic 28, [215, 0, 1, 3], [], none),
  (14, 3, .ifCond .eq 16, [30], [], none),
  (17, 1, .aload_n 0, [0], [], none),
  (18, 3, .getfield 9, [1, 0], [], none),
  (21, 1, .istore_n 3, [3], [], none),
  (22, 1, .aload_n 0, [0], [], none),
  (23, 1, .iload_n 2, [2], [], none),
  (24, 3, .putfield 9, [1, 0, 0], [], none),
  (27, 3, .goto 86, [113], [], none),
  (30, 1, .iload_n 1, [1], [], some [0, 1, 2, 3]),
  (31, 1, .iconst 1, [], [.int 1], none),
  (32, 3, .if_icmp .ne 26, [58], [], none),
  (35, 1, .iload_n 2, [2], [], none),
  (36, 1, .iconst 1, [], [.int 1], none),
  (37, 2, .bipush 99, [], [.int 99], none),
  (39, 3, .invokestatic 28, [215, 0, 1, 3], [], none),
  (42, 3, .ifCond .eq 16, [58], [], none),
  (45, 1, .aload_n 0, [0], [], none),
  (46, 3, .getfield 15, [2, 0], [], none),
  (49, 1, .istore_n 3, [3], [], none),
  (50, 1, .aload_n 0, [0], [], none),
  (51, 1, .iload_n 2, [2], [], none),
  (52, 3, .putfield 15, [2, 0, 0], [], none),
  (55, 3, .goto 58, [113], [], none),
  (58, 1, .iload_n 1, [1], [], some [0, 1, 2, 3]),
  (59, 1, .iconst 2, [], [.int 2], none),
  (60, 3, .if_icmp .ne 27, [87], [], none),
  (63, 1, .iload_n 2, [2], [], none),
  (64, 1, .iconst 1, [], [.int 1], none),
  (65, 3, .sipush 9999, [], [.int 9999], none),
  (68, 3, .invokestatic 28, [215, 0, 1, 3], [], none),
  (71, 3, .ifCond .eq 16, [87], [], none),
  (74, 1, .aload_n 0, [0], [], none),
  (75, 3, .getfield 18, [3, 0], [], none),
  (78, 1, .istore_n 3, [3], [], none),
  (79, 1, .aload_n 0, [0], [], none),
  (80, 1, .iload_n 2, [2], [], none),
  (81, 3, .putfield 18, [3, 0, 0], [], none),
  (84, 3, .goto 29, [113], [], none),
  (87, 1, .iload_n 1, [1], [], some [0, 1, 2, 3]),
  (88, 1, .iconst 3, [], [.int 3], none),
  (89, 3, .if_icmp .ne 24, [113], [], none),
  (92, 1, .iload_n 2, [2], [], none),
  (93, 1, .iconst 1, [], [.int 1], none),
  (94, 3, .sipush 9999, [], [.int 9999], none),
  (97, 3, .invokestatic 28, [215, 0, 1, 3], [], none),
  (100, 3, .ifCond .eq 13, [113], [], none),
  (103, 1, .aload_n 0, [0], [], none),
  (104, 3, .getfield 21, [4, 0], [], none),
  (107, 1, .istore_n 3, [3], [], none),
  (108, 1, .aload_n 0, [0], [], none),
  (109, 1, .iload_n 2, [2], [], none),
  (110, 3, .putfield 21, [4, 0, 0], [], none),
  (113, 1, .iload_n 3, [3], [], some [3]),
  (114, 1, .ireturn, [], [], none)]
def jx_M151 : jx_M := (⟨"FairByEar$Air", "set", "(II)I"⟩, prog_2_method_2_code, 4, (some .int), false, 1, jx_C151)
def jx_C152 : List jx_El := [(0, 1, .aload_n 0, [0], [], none),
  (1, 3, .getfield 9, [1, 0], [], none),
  (4, 1, .aload_n 0, [0], [], none),
  (5, 3, .getfield 21, [4, 0], [], none),
  (8, 3, .if_icmp .lt 7, [15], [], none),
  (11, 1, .iconst 1, [], [.int 1], none),
  (12, 3, .goto 4, [16], [], none),
  (15, 1, .iconst 0, [], [.int 0], none),
  (16, 1, .ireturn, [1], [], some [])]
def jx_M152 : jx_M := (⟨"FairByEar$Air", "burns", "()Z"⟩, prog_2_method_3_code, 1, (some .boolean), false, 0, jx_C152)
def jx_C153 : List jx_El := [(0, 1, .aload_n 0, [0], [], none),
  (1, 3, .getfield 24, [0, 0], [], none),
  (4, 3, .invokevirtual 32, [18, 0, 1, 1, 5], [], none),
  (7, 1, .istore_n 1, [1], [], none),
  (8, 1, .iload_n 1, [1], [], none),
  (9, 3, .ifCond .ne 7, [16], [], none),
  (12, 3, .sipush 9999, [], [.int 9999], none),
  (15, 1, .ireturn, [], [], none),
  (16, 1, .iconst 0, [], [.int 0], none),
  (17, 1, .istore_n 2, [2], [], none),
  (18, 1, .iconst 0, [], [.int 0], none),
  (19, 1, .istore_n 3, [3], [], none),
  (20, 1, .iload_n 3, [3], [], some [0, 1, 2, 3]),
  (21, 1, .iload_n 1, [1], [], none),
  (22, 3, .if_icmp .ge 37, [59], [], none),
  (25, 1, .aload_n 0, [0], [], none),
  (26, 3, .getfield 24, [0, 0], [], none),
  (29, 1, .iload_n 3, [3], [], none),
  (30, 3, .invokevirtual 38, [30, 0, 1, 2, 5], [], none),
  (33, 3, .sipush 999, [], [.int 999], none),
  (36, 3, .if_icmp .lt 6, [42], [], none),
  (39, 2, .bipush (-2), [], [.int (-2)], none),
  (41, 1, .ireturn, [], [], none),
  (42, 1, .iload_n 2, [2], [], none),
  (43, 1, .aload_n 0, [0], [], none),
  (44, 3, .getfield 24, [0, 0], [], none),
  (47, 1, .iload_n 3, [3], [], none),
  (48, 3, .invokevirtual 38, [30, 0, 1, 2, 5], [], none),
  (51, 1, .iadd, [], [], none),
  (52, 1, .istore_n 2, [2], [], none),
  (53, 3, .iinc 3 1, [3], [.int 1], none),
  (56, 3, .goto (-36), [20], [], none),
  (59, 1, .aload_n 0, [0], [], none),
  (60, 3, .getfield 9, [1, 0], [], none),
  (63, 1, .aload_n 0, [0], [], none),
  (64, 3, .getfield 15, [2, 0], [], none),
  (67, 1, .iload_n 2, [2], [], none),
  (68, 1, .imul, [], [], none),
  (69, 1, .iadd, [], [], none),
  (70, 1, .istore_n 3, [3], [], none),
  (71, 1, .aload_n 0, [0], [], none),
  (72, 3, .getfield 15, [2, 0], [], none),
  (75, 1, .iload_n 1, [1], [], none),
  (76, 1, .imul, [], [], none),
  (77, 2, .istore 4, [4], [], none),
  (79, 1, .iload_n 3, [3], [], none),
  (80, 1, .aload_n 0, [0], [], none),
  (81, 3, .getfield 18, [3, 0], [], none),
  (84, 3, .if_icmp .ge 9, [93], [], none),
  (87, 2, .iload 4, [4], [], none),
  (89, 1, .iconst 1, [], [.int 1], none),
  (90, 3, .if_icmp .ge 14, [104], [], none),
  (93, 1, .iload_n 2, [2], [], some [2]),
  (94, 3, .ifCond .ne 7, [101], [], none),
  (97, 1, .iconst 0, [], [.int 0], none),
  (98, 3, .goto 5, [103], [], none),
  (101, 2, .bipush (-2), [], [.int (-2)], none),
  (103, 1, .ireturn, [], [], some []),
  (104, 3, .sipush 9999, [], [.int 9999], none),
  (107, 1, .aload_n 0, [0], [], none),
  (108, 3, .getfield 18, [3, 0], [], none),
  (111, 1, .iconst 1, [], [.int 1], none),
  (112, 1, .isub, [], [], none),
  (113, 1, .iload_n 3, [3], [], none),
  (114, 1, .isub, [], [], none),
  (115, 2, .iload 4, [4], [], none),
  (117, 1, .idiv, [], [], none),
  (118, 3, .invokestatic 42, [2, 0, 1, 2], [], none),
  (121, 1, .ireturn, [], [], none)]
def jx_M153 : jx_M := (⟨"FairByEar$Air", "stay", "()I"⟩, prog_2_method_4_code, 5, (some .int), false, 3, jx_C153)
def jx_C154 : List jx_El := [(0, 1, .aload_n 0, [0], [], none),
  (1, 3, .getfield 24, [0, 0], [], none),
  (4, 3, .invokevirtual 32, [18, 0, 1, 1, 5], [], none),
  (7, 1, .istore_n 2, [2], [], none),
  (8, 1, .iconst 0, [], [.int 0], none),
  (9, 1, .istore_n 3, [3], [], none),
  (10, 1, .aload_n 0, [0], [], none),
  (11, 3, .getfield 9, [1, 0], [], none),
  (14, 2, .istore 4, [4], [], none),
  (16, 1, .aload_n 1, [1], [], none),
  (17, 3, .invokevirtual 48, [6, 0, 0, 1, 7], [], none),
  (20, 1, .iconst 0, [], [.int 0], none),
  (21, 2, .istore 5, [5], [], none),
  (23, 2, .iload 5, [5], [], some [0, 1, 2, 3, 4, 5]),
  (25, 1, .aload_n 0, [0], [], none),
  (26, 3, .getfield 24, [0, 0], [], none),
  (29, 3, .invokevirtual 32, [18, 0, 1, 1, 5], [], none),
  (32, 3, .if_icmp .ge 75, [107], [], none),
  (35, 1, .aload_n 0, [0], [], none),
  (36, 1, .iload_n 3, [3], [], none),
  (37, 3, .invokevirtual 53, [155, 0, 1, 2, 0], [], none),
  (40, 2, .istore 6, [6], [], none),
  (42, 2, .iload 6, [6], [], none),
  (44, 1, .iconst (-1), [], [.int (-1)], none),
  (45, 3, .if_icmp .ne 6, [51], [], none),
  (48, 3, .goto 59, [107], [], none),
  (51, 2, .iload 4, [4], [], none),
  (53, 1, .aload_n 0, [0], [], none),
  (54, 3, .getfield 15, [2, 0], [], none),
  (57, 1, .iload_n 2, [2], [], none),
  (58, 1, .imul, [], [], none),
  (59, 1, .aload_n 0, [0], [], none),
  (60, 3, .getfield 24, [0, 0], [], none),
  (63, 2, .iload 6, [6], [], none),
  (65, 3, .invokevirtual 38, [30, 0, 1, 2, 5], [], none),
  (68, 1, .imul, [], [], none),
  (69, 1, .iadd, [], [], none),
  (70, 2, .istore 4, [4], [], none),
  (72, 2, .iload 4, [4], [], none),
  (74, 1, .aload_n 0, [0], [], none),
  (75, 3, .getfield 18, [3, 0], [], none),
  (78, 3, .if_icmp .lt 6, [84], [], none),
  (81, 3, .goto 26, [107], [], none),
  (84, 1, .aload_n 1, [1], [], none),
  (85, 2, .iload 6, [6], [], none),
  (87, 1, .i2l, [], [], none),
  (88, 3, .invokevirtual 56, [7, 0, 0, 2, 7], [], none),
  (91, 1, .iload_n 3, [3], [], none),
  (92, 1, .iconst 1, [], [.int 1], none),
  (93, 2, .iload 6, [6], [], none),
  (95, 1, .ishl, [], [], none),
  (96, 1, .ior, [], [], none),
  (97, 1, .istore_n 3, [3], [], none),
  (98, 3, .iinc 2 (-1), [2], [.int (-1)], none),
  (101, 3, .iinc 5 1, [5], [.int 1], none),
  (104, 3, .goto (-81), [23], [], none),
  (107, 1, .aload_n 1, [1], [], some [1]),
  (108, 3, .invokevirtual 60, [11, 0, 1, 1, 7], [], none),
  (111, 1, .ireturn, [], [], none)]
def jx_M154 : jx_M := (⟨"FairByEar$Air", "tellLeaving", "(LFairByEar$Row;)I"⟩, prog_2_method_5_code, 7, (some .int), false, 4, jx_C154)
def jx_C155 : List jx_El := [(0, 1, .iconst (-1), [], [.int (-1)], none),
  (1, 1, .istore_n 2, [2], [], none),
  (2, 1, .iconst 0, [], [.int 0], none),
  (3, 1, .istore_n 3, [3], [], none),
  (4, 1, .iload_n 3, [3], [], some [0, 1, 2, 3]),
  (5, 1, .aload_n 0, [0], [], none),
  (6, 3, .getfield 24, [0, 0], [], none),
  (9, 3, .invokevirtual 32, [18, 0, 1, 1, 5], [], none),
  (12, 3, .if_icmp .ge 69, [81], [], none),
  (15, 1, .iload_n 1, [1], [], none),
  (16, 1, .iload_n 3, [3], [], none),
  (17, 3, .invokestatic 63, [216, 0, 1, 2], [], none),
  (20, 3, .ifCond .ne 21, [41], [], none),
  (23, 1, .aload_n 0, [0], [], none),
  (24, 3, .getfield 24, [0, 0], [], none),
  (27, 1, .iload_n 3, [3], [], none),
  (28, 3, .invokevirtual 38, [30, 0, 1, 2, 5], [], none),
  (31, 3, .sipush 999, [], [.int 999], none),
  (34, 3, .if_icmp .ge 7, [41], [], none),
  (37, 1, .iconst 1, [], [.int 1], none),
  (38, 3, .goto 4, [42], [], none),
  (41, 1, .iconst 0, [], [.int 0], some [0, 1, 2, 3]),
  (42, 2, .istore 4, [4], [], some [0, 1, 2, 3]),
  (44, 2, .iload 4, [4], [], none),
  (46, 3, .ifCond .eq 29, [75], [], none),
  (49, 1, .iload_n 2, [2], [], none),
  (50, 1, .iconst (-1), [], [.int (-1)], none),
  (51, 3, .if_icmp .eq 22, [73], [], none),
  (54, 1, .aload_n 0, [0], [], none),
  (55, 3, .getfield 24, [0, 0], [], none),
  (58, 1, .iload_n 3, [3], [], none),
  (59, 3, .invokevirtual 38, [30, 0, 1, 2, 5], [], none),
  (62, 1, .aload_n 0, [0], [], none),
  (63, 3, .getfield 24, [0, 0], [], none),
  (66, 1, .iload_n 2, [2], [], none),
  (67, 3, .invokevirtual 38, [30, 0, 1, 2, 5], [], none),
  (70, 3, .if_icmp .ge 5, [75], [], none),
  (73, 1, .iload_n 3, [3], [], some [0, 1, 3]),
  (74, 1, .istore_n 2, [2], [], none),
  (75, 3, .iinc 3 1, [3], [.int 1], some [0, 1, 2, 3]),
  (78, 3, .goto (-74), [4], [], none),
  (81, 1, .iload_n 2, [2], [], none),
  (82, 1, .ireturn, [], [], none)]
def jx_M155 : jx_M := (⟨"FairByEar$Air", "nearest", "(I)I"⟩, prog_2_method_6_code, 5, (some .int), false, 3, jx_C155)
def jx_C156 : List jx_El := [(0, 1, .iload_n 1, [1], [], none),
  (1, 1, .iconst 0, [], [.int 0], none),
  (2, 1, .iconst 3, [], [.int 3], none),
  (3, 3, .invokestatic 22, [215, 0, 1, 3], [], none),
  (6, 3, .ifCond .eq 13, [19], [], none),
  (9, 1, .iload_n 2, [2], [], none),
  (10, 1, .iconst 0, [], [.int 0], none),
  (11, 2, .bipush 9, [], [.int 9], none),
  (13, 3, .invokestatic 22, [215, 0, 1, 3], [], none),
  (16, 3, .ifCond .ne 5, [21], [], none),
  (19, 1, .iconst (-1), [], [.int (-1)], some []),
  (20, 1, .ireturn, [], [], none),
  (21, 1, .iconst 0, [], [.int 0], none),
  (22, 1, .istore_n 3, [3], [], none),
  (23, 1, .iconst 0, [], [.int 0], none),
  (24, 2, .istore 4, [4], [], none),
  (26, 2, .iload 4, [4], [], some [0, 1, 2, 3, 4]),
  (28, 1, .iconst 3, [], [.int 3], none),
  (29, 3, .if_icmp .gt 29, [58], [], none),
  (32, 1, .iload_n 3, [3], [], none),
  (33, 2, .iload 4, [4], [], none),
  (35, 1, .iload_n 1, [1], [], none),
  (36, 3, .if_icmp .ne 7, [43], [], none),
  (39, 1, .iconst 0, [], [.int 0], none),
  (40, 3, .goto 10, [50], [], none),
  (43, 1, .aload_n 0, [0], [], none),
  (44, 3, .getfield 11, [1, 2], [], none),
  (47, 2, .iload 4, [4], [], none),
  (49, 1, .iaload, [], [], none),
  (50, 1, .iadd, [], [], some [0, 1, 2, 4]),
  (51, 1, .istore_n 3, [3], [], none),
  (52, 3, .iinc 4 1, [4], [.int 1], none),
  (55, 3, .goto (-29), [26], [], none),
  (58, 1, .iload_n 3, [3], [], none),
  (59, 1, .iload_n 2, [2], [], none),
  (60, 1, .iadd, [], [], none),
  (61, 3, .ifCond .ne 5, [66], [], none),
  (64, 1, .iconst (-1), [], [.int (-1)], none),
  (65, 1, .ireturn, [], [], none),
  (66, 1, .aload_n 0, [0], [], none),
  (67, 3, .getfield 11, [1, 2], [], none),
  (70, 1, .iload_n 1, [1], [], none),
  (71, 1, .iaload, [], [], none),
  (72, 2, .istore 4, [4], [], none),
  (74, 1, .aload_n 0, [0], [], none),
  (75, 3, .getfield 11, [1, 2], [], none),
  (78, 1, .iload_n 1, [1], [], none),
  (79, 1, .iload_n 2, [2], [], none),
  (80, 1, .iastore, [], [], none),
  (81, 2, .iload 4, [4], [], none),
  (83, 1, .ireturn, [], [], none)]
def jx_M156 : jx_M := (⟨"FairByEar$Ears", "setChance", "(II)I"⟩, prog_4_method_2_code, 5, (some .int), false, 1, jx_C156)
def jx_C157 : List jx_El := [(0, 1, .iload_n 1, [1], [], none),
  (1, 1, .iconst 0, [], [.int 0], none),
  (2, 3, .sipush 999, [], [.int 999], none),
  (5, 3, .invokestatic 22, [215, 0, 1, 3], [], none),
  (8, 3, .ifCond .eq 18, [26], [], none),
  (11, 1, .iload_n 2, [2], [], none),
  (12, 1, .iconst 0, [], [.int 0], none),
  (13, 3, .sipush 999, [], [.int 999], none),
  (16, 3, .invokestatic 22, [215, 0, 1, 3], [], none),
  (19, 3, .ifCond .eq 7, [26], [], none),
  (22, 1, .iconst 1, [], [.int 1], none),
  (23, 3, .goto 4, [27], [], none),
  (26, 1, .iconst 0, [], [.int 0], some []),
  (27, 1, .ireturn, [1], [], some [])]
def jx_M157 : jx_M := (⟨"FairByEar$Ears", "canHear", "(II)Z"⟩, prog_4_method_3_code, 3, (some .boolean), false, 1, jx_C157)
def jx_C158 : List jx_El := [(0, 1, .aload_n 0, [0], [], none),
  (1, 3, .getfield 18, [0, 2], [], none),
  (4, 1, .iload_n 1, [1], [], none),
  (5, 3, .invokevirtual 26, [15, 0, 1, 2, 5], [], none),
  (8, 3, .ifCond .eq 14, [22], [], none),
  (11, 1, .aload_n 0, [0], [], none),
  (12, 3, .getfield 18, [0, 2], [], none),
  (15, 1, .iload_n 2, [2], [], none),
  (16, 3, .invokevirtual 26, [15, 0, 1, 2, 5], [], none),
  (19, 3, .ifCond .ne 5, [24], [], none),
  (22, 1, .iconst (-1), [], [.int (-1)], some []),
  (23, 1, .ireturn, [], [], none),
  (24, 1, .aload_n 0, [0], [], none),
  (25, 3, .getfield 18, [0, 2], [], none),
  (28, 1, .iload_n 1, [1], [], none),
  (29, 1, .iload_n 2, [2], [], none),
  (30, 3, .invokevirtual 32, [20, 0, 1, 3, 5], [], none),
  (33, 2, .istore 4, [4], [], none),
  (35, 2, .iload 4, [4], [], none),
  (37, 3, .sipush 999, [], [.int 999], none),
  (40, 3, .if_icmp .lt 6, [46], [], none),
  (43, 2, .bipush (-2), [], [.int (-2)], none),
  (45, 1, .ireturn, [], [], none),
  (46, 1, .iconst 0, [], [.int 0], none),
  (47, 2, .istore 5, [5], [], none),
  (49, 1, .iconst 0, [], [.int 0], none),
  (50, 2, .istore 6, [6], [], none),
  (52, 2, .iload 6, [6], [], some [0, 1, 2, 3, 4, 5, 6]),
  (54, 2, .bipush 10, [], [.int 10], none),
  (56, 3, .if_icmp .ge 53, [109], [], none),
  (59, 1, .aload_n 0, [0], [], none),
  (60, 3, .getfield 18, [0, 2], [], none),
  (63, 2, .iload 6, [6], [], none),
  (65, 1, .iload_n 2, [2], [], none),
  (66, 3, .invokevirtual 32, [20, 0, 1, 3, 5], [], none),
  (69, 2, .iload 4, [4], [], none),
  (71, 3, .if_icmp .ne 32, [103], [], none),
  (74, 1, .aload_n 0, [0], [], none),
  (75, 3, .getfield 18, [0, 2], [], none),
  (78, 2, .iload 6, [6], [], none),
  (80, 3, .invokevirtual 36, [23, 0, 1, 2, 5], [], none),
  (83, 1, .aload_n 0, [0], [], none),
  (84, 3, .getfield 18, [0, 2], [], none),
  (87, 1, .iload_n 1, [1], [], none),
  (88, 3, .invokevirtual 36, [23, 0, 1, 2, 5], [], none),
  (91, 3, .if_icmp .ne 12, [103], [], none),
  (94, 2, .iload 5, [5], [], none),
  (96, 1, .iconst 1, [], [.int 1], none),
  (97, 2, .iload 6, [6], [], none),
  (99, 1, .ishl, [], [], none),
  (100, 1, .ior, [], [], none),
  (101, 2, .istore 5, [5], [], none),
  (103, 3, .iinc 6 1, [6], [.int 1], some [0, 1, 2, 3, 4, 5, 6]),
  (106, 3, .goto (-54), [52], [], none),
  (109, 1, .aload_n 3, [3], [], none),
  (110, 2, .iload 4, [4], [], none),
  (112, 1, .i2l, [], [], none),
  (113, 1, .iconst 2, [], [.int 2], none),
  (114, 1, .aload_n 0, [0], [], none),
  (115, 3, .getfield 18, [0, 2], [], none),
  (118, 1, .iload_n 1, [1], [], none),
  (119, 3, .invokevirtual 36, [23, 0, 1, 2, 5], [], none),
  (122, 1, .imul, [], [], none),
  (123, 1, .i2l, [], [], none),
  (124, 3, .invokevirtual 40, [9, 0, 0, 3, 7], [], none),
  (127, 1, .aload_n 3, [3], [], none),
  (128, 2, .iload 5, [5], [], none),
  (130, 1, .i2l, [], [], none),
  (131, 3, .invokevirtual 46, [7, 0, 0, 2, 7], [], none),
  (134, 1, .iconst 0, [], [.int 0], none),
  (135, 1, .ireturn, [], [], none)]
def jx_M158 : jx_M := (⟨"FairByEar$Ears", "tellSound", "(IILFairByEar$Row;)I"⟩, prog_4_method_4_code, 7, (some .int), false, 2, jx_C158)
def jx_C159 : List jx_El := [(0, 1, .iload_n 1, [1], [], none),
  (1, 3, .invokestatic 50, [0, 0, 1, 1], [], none),
  (4, 1, .istore_n 2, [2], [], none),
  (5, 1, .iload_n 2, [2], [], none),
  (6, 1, .iconst 0, [], [.int 0], none),
  (7, 1, .iconst 3, [], [.int 3], none),
  (8, 3, .invokestatic 22, [215, 0, 1, 3], [], none),
  (11, 3, .ifCond .eq 12, [23], [], none),
  (14, 1, .aload_n 0, [0], [], none),
  (15, 3, .getfield 11, [1, 2], [], none),
  (18, 1, .iload_n 2, [2], [], none),
  (19, 1, .iaload, [], [], none),
  (20, 3, .goto 4, [24], [], none),
  (23, 1, .iconst 0, [], [.int 0], none),
  (24, 1, .ireturn, [], [], some [])]
def jx_M159 : jx_M := (⟨"FairByEar$Ears", "chanceOf", "(I)I"⟩, prog_4_method_5_code, 3, (some .int), false, 1, jx_C159)
def jx_C160 : List jx_El := [(0, 1, .aload_n 0, [0], [], none),
  (1, 3, .getfield 18, [0, 2], [], none),
  (4, 1, .iload_n 1, [1], [], none),
  (5, 1, .iload_n 2, [2], [], none),
  (6, 3, .invokevirtual 55, [21, 0, 1, 3, 5], [], none),
  (9, 3, .ifCond .ne 5, [14], [], none),
  (12, 1, .iconst 0, [], [.int 0], none),
  (13, 1, .ireturn, [], [], none),
  (14, 1, .aload_n 0, [0], [], none),
  (15, 1, .iload_n 3, [3], [], none),
  (16, 1, .aload_n 0, [0], [], none),
  (17, 3, .getfield 18, [0, 2], [], none),
  (20, 1, .iload_n 1, [1], [], none),
  (21, 1, .iload_n 2, [2], [], none),
  (22, 3, .invokevirtual 32, [20, 0, 1, 3, 5], [], none),
  (25, 1, .isub, [], [], none),
  (26, 3, .invokevirtual 59, [159, 0, 1, 2, 2], [], none),
  (29, 1, .aload_n 0, [0], [], none),
  (30, 2, .iload 4, [4], [], none),
  (32, 1, .iconst 2, [], [.int 2], none),
  (33, 1, .aload_n 0, [0], [], none),
  (34, 3, .getfield 18, [0, 2], [], none),
  (37, 1, .iload_n 1, [1], [], none),
  (38, 3, .invokevirtual 36, [23, 0, 1, 2, 5], [], none),
  (41, 1, .imul, [], [], none),
  (42, 1, .isub, [], [], none),
  (43, 3, .invokevirtual 59, [159, 0, 1, 2, 2], [], none),
  (46, 1, .imul, [], [], none),
  (47, 1, .ireturn, [], [], none)]
def jx_M160 : jx_M := (⟨"FairByEar$Ears", "weightOf", "(IIII)I"⟩, prog_4_method_6_code, 5, (some .int), false, 3, jx_C160)
def jx_C161 : List jx_El := [(0, 1, .iconst 0, [], [.int 0], none),
  (1, 2, .istore 5, [5], [], none),
  (3, 2, .iload 5, [5], [], some [0, 1, 2, 3, 4, 5]),
  (5, 2, .bipush 10, [], [.int 10], none),
  (7, 3, .if_icmp .ge 32, [39], [], none),
  (10, 1, .aload_n 0, [0], [], none),
  (11, 3, .getfield 15, [2, 2], [], none),
  (14, 2, .iload 5, [5], [], none),
  (16, 1, .aload_n 0, [0], [], none),
  (17, 2, .iload 5, [5], [], none),
  (19, 1, .aload_n 0, [0], [], none),
  (20, 3, .getfield 18, [0, 2], [], none),
  (23, 1, .iload_n 1, [1], [], none),
  (24, 3, .invokevirtual 62, [26, 0, 1, 2, 5], [], none),
  (27, 1, .iload_n 2, [2], [], none),
  (28, 1, .iload_n 3, [3], [], none),
  (29, 3, .invokevirtual 65, [160, 0, 1, 5, 2], [], none),
  (32, 1, .iastore, [], [], none),
  (33, 3, .iinc 5 1, [5], [.int 1], none),
  (36, 3, .goto (-33), [3], [], none),
  (39, 1, .aload_n 0, [0], [], none),
  (40, 2, .bipush 10, [], [.int 10], none),
  (42, 2, .aload 4, [4], [], none),
  (44, 3, .invokevirtual 69, [163, 0, 1, 3, 2], [], none),
  (47, 1, .ireturn, [], [], none)]
def jx_M161 : jx_M := (⟨"FairByEar$Ears", "tellPlace", "(IIILFairByEar$Row;)I"⟩, prog_4_method_7_code, 6, (some .int), false, 4, jx_C161)
def jx_C162 : List jx_El := [(0, 2, .bipush 10, [], [.int 10], none),
  (2, 1, .aload_n 0, [0], [], none),
  (3, 3, .getfield 18, [0, 2], [], none),
  (6, 3, .invokevirtual 73, [18, 0, 1, 1, 5], [], none),
  (9, 3, .invokestatic 77, [2, 0, 1, 2], [], none),
  (12, 2, .istore 5, [5], [], none),
  (14, 1, .iconst 0, [], [.int 0], none),
  (15, 2, .istore 6, [6], [], none),
  (17, 2, .iload 6, [6], [], some [0, 1, 2, 3, 4, 5, 6]),
  (19, 2, .iload 5, [5], [], none),
  (21, 3, .if_icmp .ge 53, [74], [], none),
  (24, 1, .aload_n 0, [0], [], none),
  (25, 1, .aload_n 0, [0], [], none),
  (26, 3, .getfield 18, [0, 2], [], none),
  (29, 2, .iload 6, [6], [], none),
  (31, 3, .invokevirtual 62, [26, 0, 1, 2, 5], [], none),
  (34, 1, .aload_n 0, [0], [], none),
  (35, 3, .getfield 18, [0, 2], [], none),
  (38, 1, .iload_n 1, [1], [], none),
  (39, 3, .invokevirtual 62, [26, 0, 1, 2, 5], [], none),
  (42, 1, .iload_n 2, [2], [], none),
  (43, 1, .iload_n 3, [3], [], none),
  (44, 3, .invokevirtual 65, [160, 0, 1, 5, 2], [], none),
  (47, 2, .istore 7, [7], [], none),
  (49, 1, .aload_n 0, [0], [], none),
  (50, 3, .getfield 15, [2, 2], [], none),
  (53, 2, .iload 6, [6], [], none),
  (55, 2, .iload 6, [6], [], none),
  (57, 1, .iload_n 1, [1], [], none),
  (58, 3, .if_icmp .ne 7, [65], [], none),
  (61, 1, .iconst 0, [], [.int 0], none),
  (62, 3, .goto 5, [67], [], none),
  (65, 2, .iload 7, [7], [], none),
  (67, 1, .iastore, [], [], some [0, 1, 2, 3, 4, 5, 6]),
  (68, 3, .iinc 6 1, [6], [.int 1], none),
  (71, 3, .goto (-54), [17], [], none),
  (74, 1, .aload_n 0, [0], [], none),
  (75, 2, .iload 5, [5], [], none),
  (77, 2, .aload 4, [4], [], none),
  (79, 3, .invokevirtual 69, [163, 0, 1, 3, 2], [], none),
  (82, 1, .ireturn, [], [], none)]
def jx_M162 : jx_M := (⟨"FairByEar$Ears", "tellClapper", "(IIILFairByEar$Row;)I"⟩, prog_4_method_8_code, 8, (some .int), false, 4, jx_C162)
def jx_C163 : List jx_El := [(0, 1, .iconst (-1), [], [.int (-1)], none),
  (1, 1, .istore_n 3, [3], [], none),
  (2, 1, .iconst 0, [], [.int 0], none),
  (3, 2, .istore 4, [4], [], none),
  (5, 1, .iconst 0, [], [.int 0], none),
  (6, 2, .istore 5, [5], [], none),
  (8, 1, .iconst 0, [], [.int 0], none),
  (9, 2, .istore 6, [6], [], none),
  (11, 2, .iload 6, [6], [], some [0, 1, 2, 3, 4, 5, 6]),
  (13, 1, .iload_n 1, [1], [], none),
  (14, 3, .if_icmp .ge 45, [59], [], none),
  (17, 2, .iload 5, [5], [], none),
  (19, 1, .aload_n 0, [0], [], none),
  (20, 3, .getfield 15, [2, 2], [], none),
  (23, 2, .iload 6, [6], [], none),
  (25, 1, .iaload, [], [], none),
  (26, 1, .iadd, [], [], none),
  (27, 2, .istore 5, [5], [], none),
  (29, 1, .aload_n 0, [0], [], none),
  (30, 3, .getfield 15, [2, 2], [], none),
  (33, 2, .iload 6, [6], [], none),
  (35, 1, .iaload, [], [], none),
  (36, 2, .iload 4, [4], [], none),
  (38, 3, .if_icmp .le 15, [53], [], none),
  (41, 2, .iload 6, [6], [], none),
  (43, 1, .istore_n 3, [3], [], none),
  (44, 1, .aload_n 0, [0], [], none),
  (45, 3, .getfield 15, [2, 2], [], none),
  (48, 2, .iload 6, [6], [], none),
  (50, 1, .iaload, [], [], none),
  (51, 2, .istore 4, [4], [], none),
  (53, 3, .iinc 6 1, [6], [.int 1], some [0, 1, 2, 3, 4, 5, 6]),
  (56, 3, .goto (-45), [11], [], none),
  (59, 1, .iload_n 3, [3], [], none),
  (60, 1, .iconst (-1), [], [.int (-1)], none),
  (61, 3, .if_icmp .ne 6, [67], [], none),
  (64, 2, .bipush (-2), [], [.int (-2)], none),
  (66, 1, .ireturn, [], [], none),
  (67, 1, .aload_n 2, [2], [], none),
  (68, 2, .iload 4, [4], [], none),
  (70, 2, .iload 5, [5], [], none),
  (72, 3, .invokevirtual 80, [10, 0, 0, 3, 7], [], none),
  (75, 1, .iload_n 3, [3], [], none),
  (76, 1, .ireturn, [], [], none)]
def jx_M163 : jx_M := (⟨"FairByEar$Ears", "likeliest", "(ILFairByEar$Row;)I"⟩, prog_4_method_9_code, 7, (some .int), false, 3, jx_C163)
def jx_C164 : List jx_El := [(0, 1, .aload_n 0, [0], [], none),
  (1, 3, .getfield 19, [1, 11], [], none),
  (4, 1, .iload_n 1, [1], [], none),
  (5, 1, .iload_n 2, [2], [], none),
  (6, 1, .iload_n 3, [3], [], none),
  (7, 3, .invokevirtual 92, [19, 0, 1, 4, 5], [], none),
  (10, 1, .ireturn, [], [], none)]
def jx_M164 : jx_M := (⟨"FairByEar", "tunnel", "(III)I"⟩, prog_1_method_2_code, 4, (some .int), false, 3, jx_C164)
def jx_C165 : List jx_El := [(0, 1, .aload_n 0, [0], [], none),
  (1, 3, .getfield 19, [1, 11], [], none),
  (4, 1, .iload_n 1, [1], [], none),
  (5, 1, .iload_n 2, [2], [], none),
  (6, 3, .invokevirtual 96, [22, 0, 1, 3, 5], [], none),
  (9, 1, .ireturn, [], [], none)]
def jx_M165 : jx_M := (⟨"FairByEar", "wall", "(II)I"⟩, prog_1_method_3_code, 3, (some .int), false, 2, jx_C165)
def jx_C166 : List jx_El := [(0, 1, .aload_n 0, [0], [], none),
  (1, 3, .getfield 19, [1, 11], [], none),
  (4, 1, .iload_n 1, [1], [], none),
  (5, 3, .invokevirtual 100, [15, 0, 1, 2, 5], [], none),
  (8, 3, .ifCond .eq 26, [34], [], none),
  (11, 1, .aload_n 0, [0], [], none),
  (12, 3, .getfield 19, [1, 11], [], none),
  (15, 1, .iload_n 2, [2], [], none),
  (16, 3, .invokevirtual 100, [15, 0, 1, 2, 5], [], none),
  (19, 3, .ifCond .eq 15, [34], [], none),
  (22, 1, .aload_n 0, [0], [], none),
  (23, 3, .getfield 19, [1, 11], [], none),
  (26, 1, .iload_n 1, [1], [], none),
  (27, 1, .iload_n 2, [2], [], none),
  (28, 3, .invokevirtual 104, [20, 0, 1, 3, 5], [], none),
  (31, 3, .goto 4, [35], [], none),
  (34, 1, .iconst (-1), [], [.int (-1)], some []),
  (35, 1, .ireturn, [], [], some [])]
def jx_M166 : jx_M := (⟨"FairByEar", "far", "(II)I"⟩, prog_1_method_4_code, 3, (some .int), false, 2, jx_C166)
def jx_C167 : List jx_El := [(0, 1, .aload_n 0, [0], [], none),
  (1, 3, .getfield 19, [1, 11], [], none),
  (4, 1, .iload_n 1, [1], [], none),
  (5, 1, .iload_n 2, [2], [], none),
  (6, 1, .iload_n 3, [3], [], none),
  (7, 3, .invokevirtual 107, [24, 0, 1, 4, 5], [], none),
  (10, 1, .ireturn, [], [], none)]
def jx_M167 : jx_M := (⟨"FairByEar", "person", "(III)I"⟩, prog_1_method_5_code, 4, (some .int), false, 2, jx_C167)
def jx_C168 : List jx_El := [(0, 1, .aload_n 0, [0], [], none),
  (1, 3, .getfield 19, [1, 11], [], none),
  (4, 1, .iload_n 1, [1], [], none),
  (5, 1, .iload_n 2, [2], [], none),
  (6, 3, .invokevirtual 110, [25, 0, 1, 3, 5], [], none),
  (9, 1, .ireturn, [], [], none)]
def jx_M168 : jx_M := (⟨"FairByEar", "walk", "(II)I"⟩, prog_1_method_6_code, 3, (some .int), false, 3, jx_C168)
def jx_C169 : List jx_El := [(0, 1, .aload_n 0, [0], [], none),
  (1, 3, .getfield 19, [1, 11], [], none),
  (4, 1, .iload_n 1, [1], [], none),
  (5, 3, .invokevirtual 113, [16, 0, 1, 2, 5], [], none),
  (8, 3, .ifCond .eq 12, [20], [], none),
  (11, 1, .iload_n 2, [2], [], none),
  (12, 1, .iconst 0, [], [.int 0], none),
  (13, 1, .iconst 2, [], [.int 2], none),
  (14, 3, .invokestatic 116, [215, 0, 1, 3], [], none),
  (17, 3, .ifCond .ne 11, [28], [], none),
  (20, 3, .new 120, [], [], some []),
  (23, 1, .dup, [], [], none),
  (24, 3, .invokespecial 122, [], [], none),
  (27, 1, .athrow, [], [], none),
  (28, 1, .iload_n 2, [2], [], none),
  (29, 3, .ifCond .ne 12, [41], [], none),
  (32, 1, .aload_n 0, [0], [], none),
  (33, 3, .getfield 19, [1, 11], [], none),
  (36, 1, .iload_n 1, [1], [], none),
  (37, 3, .invokevirtual 123, [26, 0, 1, 2, 5], [], none),
  (40, 1, .ireturn, [], [], none),
  (41, 1, .iload_n 2, [2], [], none),
  (42, 1, .iconst 1, [], [.int 1], none),
  (43, 3, .if_icmp .ne 14, [57], [], none),
  (46, 1, .aload_n 0, [0], [], none),
  (47, 3, .getfield 19, [1, 11], [], none),
  (50, 1, .iload_n 1, [1], [], none),
  (51, 3, .invokevirtual 127, [27, 0, 1, 2, 5], [], none),
  (54, 3, .goto 11, [65], [], none),
  (57, 1, .aload_n 0, [0], [], none),
  (58, 3, .getfield 19, [1, 11], [], none),
  (61, 1, .iload_n 1, [1], [], none),
  (62, 3, .invokevirtual 130, [29, 0, 1, 2, 5], [], none),
  (65, 1, .ireturn, [], [], some [])]
def jx_M169 : jx_M := (⟨"FairByEar", "of", "(II)I"⟩, prog_1_method_7_code, 3, (some .int), false, 2, jx_C169)
def jx_C170 : List jx_El := [(0, 1, .aload_n 0, [0], [], none),
  (1, 3, .getfield 26, [2, 11], [], none),
  (4, 1, .iload_n 1, [1], [], none),
  (5, 3, .invokevirtual 133, [41, 0, 1, 2, 3], [], none),
  (8, 1, .ireturn, [], [], none)]
def jx_M170 : jx_M := (⟨"FairByEar", "good", "(I)I"⟩, prog_1_method_8_code, 2, (some .int), false, 2, jx_C170)
def jx_C171 : List jx_El := [(0, 1, .aload_n 0, [0], [], none),
  (1, 3, .getfield 26, [2, 11], [], none),
  (4, 1, .iload_n 1, [1], [], none),
  (5, 3, .invokevirtual 136, [42, 0, 1, 2, 3], [], none),
  (8, 1, .ireturn, [], [], none)]
def jx_M171 : jx_M := (⟨"FairByEar", "test", "(I)I"⟩, prog_1_method_9_code, 2, (some .int), false, 2, jx_C171)
def jx_C172 : List jx_El := [(0, 1, .aload_n 0, [0], [], none),
  (1, 3, .getfield 26, [2, 11], [], none),
  (4, 1, .iload_n 1, [1], [], none),
  (5, 1, .iload_n 2, [2], [], none),
  (6, 1, .iload_n 3, [3], [], none),
  (7, 3, .invokevirtual 139, [45, 0, 1, 4, 3], [], none),
  (10, 1, .ireturn, [], [], none)]
def jx_M172 : jx_M := (⟨"FairByEar", "answer", "(III)I"⟩, prog_1_method_10_code, 4, (some .int), false, 2, jx_C172)
def jx_C173 : List jx_El := [(0, 1, .aload_n 0, [0], [], none),
  (1, 3, .getfield 26, [2, 11], [], none),
  (4, 1, .iload_n 1, [1], [], none),
  (5, 1, .iload_n 2, [2], [], none),
  (6, 1, .iload_n 3, [3], [], none),
  (7, 2, .iload 4, [4], [], none),
  (9, 2, .iload 5, [5], [], none),
  (11, 3, .invokevirtual 142, [46, 0, 1, 6, 3], [], none),
  (14, 1, .ireturn, [], [], none)]
def jx_M173 : jx_M := (⟨"FairByEar", "sheet", "(IIIII)I"⟩, prog_1_method_11_code, 6, (some .int), false, 3, jx_C173)
def jx_C174 : List jx_El := [(0, 1, .aload_n 0, [0], [], none),
  (1, 3, .getfield 26, [2, 11], [], none),
  (4, 1, .iload_n 1, [1], [], none),
  (5, 3, .invokevirtual 146, [37, 0, 1, 2, 3], [], none),
  (8, 3, .ifCond .eq 26, [34], [], none),
  (11, 1, .aload_n 0, [0], [], none),
  (12, 3, .getfield 26, [2, 11], [], none),
  (15, 1, .iload_n 2, [2], [], none),
  (16, 3, .invokevirtual 146, [37, 0, 1, 2, 3], [], none),
  (19, 3, .ifCond .eq 15, [34], [], none),
  (22, 1, .aload_n 0, [0], [], none),
  (23, 3, .getfield 26, [2, 11], [], none),
  (26, 1, .iload_n 1, [1], [], none),
  (27, 1, .iload_n 2, [2], [], none),
  (28, 3, .invokevirtual 149, [48, 0, 1, 3, 3], [], none),
  (31, 3, .goto 4, [35], [], none),
  (34, 1, .iconst (-1), [], [.int (-1)], some []),
  (35, 1, .ireturn, [], [], some [])]
def jx_M174 : jx_M := (⟨"FairByEar", "apart", "(II)I"⟩, prog_1_method_12_code, 3, (some .int), false, 3, jx_C174)
def jx_C175 : List jx_El := [(0, 1, .aload_n 0, [0], [], none),
  (1, 3, .getfield 26, [2, 11], [], none),
  (4, 1, .iload_n 1, [1], [], none),
  (5, 3, .invokevirtual 152, [39, 0, 1, 2, 3], [], none),
  (8, 3, .ifCond .eq 14, [22], [], none),
  (11, 1, .aload_n 0, [0], [], none),
  (12, 3, .getfield 26, [2, 11], [], none),
  (15, 1, .iload_n 2, [2], [], none),
  (16, 3, .invokevirtual 155, [40, 0, 1, 2, 3], [], none),
  (19, 3, .ifCond .ne 5, [24], [], none),
  (22, 1, .iconst (-1), [], [.int (-1)], some []),
  (23, 1, .ireturn, [], [], none),
  (24, 1, .aload_n 0, [0], [], none),
  (25, 3, .getfield 26, [2, 11], [], none),
  (28, 1, .iload_n 2, [2], [], none),
  (29, 1, .iload_n 1, [1], [], none),
  (30, 3, .invokevirtual 158, [53, 0, 1, 3, 3], [], none),
  (33, 1, .istore_n 3, [3], [], none),
  (34, 1, .aload_n 0, [0], [], none),
  (35, 3, .getfield 10, [0, 11], [], none),
  (38, 1, .iload_n 3, [3], [], none),
  (39, 1, .i2l, [], [], none),
  (40, 3, .invokevirtual 161, [8, 0, 0, 2, 7], [], none),
  (43, 1, .iload_n 3, [3], [], none),
  (44, 3, .invokestatic 165, [3, 0, 1, 1], [], none),
  (47, 1, .ireturn, [], [], none)]
def jx_M175 : jx_M := (⟨"FairByEar", "sure", "(II)I"⟩, prog_1_method_13_code, 4, (some .int), false, 4, jx_C175)
def jx_C176 : List jx_El := [(0, 1, .aload_n 0, [0], [], none),
  (1, 3, .getfield 26, [2, 11], [], none),
  (4, 1, .iload_n 1, [1], [], none),
  (5, 3, .invokevirtual 152, [39, 0, 1, 2, 3], [], none),
  (8, 3, .ifCond .ne 5, [13], [], none),
  (11, 1, .iconst (-1), [], [.int (-1)], none),
  (12, 1, .ireturn, [], [], none),
  (13, 1, .aload_n 0, [0], [], none),
  (14, 3, .getfield 26, [2, 11], [], none),
  (17, 1, .iload_n 1, [1], [], none),
  (18, 3, .invokevirtual 170, [54, 0, 1, 2, 3], [], none),
  (21, 1, .istore_n 2, [2], [], none),
  (22, 1, .iload_n 2, [2], [], none),
  (23, 3, .ifCond .ge 6, [29], [], none),
  (26, 2, .bipush (-2), [], [.int (-2)], none),
  (28, 1, .ireturn, [], [], none),
  (29, 1, .aload_n 0, [0], [], none),
  (30, 3, .getfield 10, [0, 11], [], none),
  (33, 1, .iload_n 2, [2], [], none),
  (34, 1, .i2l, [], [], none),
  (35, 3, .invokevirtual 161, [8, 0, 0, 2, 7], [], none),
  (38, 1, .iload_n 2, [2], [], none),
  (39, 3, .invokestatic 165, [3, 0, 1, 1], [], none),
  (42, 1, .ireturn, [], [], none)]
def jx_M176 : jx_M := (⟨"FairByEar", "keep", "(I)I"⟩, prog_1_method_14_code, 3, (some .int), false, 5, jx_C176)
def jx_C177 : List jx_El := [(0, 1, .aload_n 0, [0], [], none),
  (1, 3, .getfield 26, [2, 11], [], none),
  (4, 1, .iload_n 1, [1], [], none),
  (5, 3, .invokevirtual 152, [39, 0, 1, 2, 3], [], none),
  (8, 3, .ifCond .eq 14, [22], [], none),
  (11, 1, .aload_n 0, [0], [], none),
  (12, 3, .getfield 26, [2, 11], [], none),
  (15, 1, .iload_n 2, [2], [], none),
  (16, 3, .invokevirtual 155, [40, 0, 1, 2, 3], [], none),
  (19, 3, .ifCond .ne 5, [24], [], none),
  (22, 1, .iconst (-1), [], [.int (-1)], some []),
  (23, 1, .ireturn, [], [], none),
  (24, 1, .aload_n 0, [0], [], none),
  (25, 3, .getfield 26, [2, 11], [], none),
  (28, 1, .iload_n 2, [2], [], none),
  (29, 1, .iload_n 1, [1], [], none),
  (30, 3, .invokevirtual 173, [57, 0, 1, 3, 3], [], none),
  (33, 1, .istore_n 3, [3], [], none),
  (34, 1, .aload_n 0, [0], [], none),
  (35, 3, .getfield 10, [0, 11], [], none),
  (38, 1, .iload_n 3, [3], [], none),
  (39, 1, .i2l, [], [], none),
  (40, 3, .invokevirtual 161, [8, 0, 0, 2, 7], [], none),
  (43, 1, .iload_n 3, [3], [], none),
  (44, 3, .invokestatic 165, [3, 0, 1, 1], [], none),
  (47, 1, .ireturn, [], [], none)]
def jx_M177 : jx_M := (⟨"FairByEar", "ban", "(II)I"⟩, prog_1_method_15_code, 4, (some .int), false, 4, jx_C177)
def jx_C178 : List jx_El := [(0, 1, .aload_n 0, [0], [], none),
  (1, 3, .getfield 26, [2, 11], [], none),
  (4, 1, .iload_n 1, [1], [], none),
  (5, 3, .invokevirtual 152, [39, 0, 1, 2, 3], [], none),
  (8, 3, .ifCond .ne 5, [13], [], none),
  (11, 1, .iconst (-1), [], [.int (-1)], none),
  (12, 1, .ireturn, [], [], none),
  (13, 1, .aload_n 0, [0], [], none),
  (14, 3, .getfield 35, [3, 11], [], none),
  (17, 1, .iload_n 1, [1], [], none),
  (18, 3, .invokevirtual 176, [59, 0, 1, 2, 9], [], none),
  (21, 1, .istore_n 2, [2], [], none),
  (22, 1, .aload_n 0, [0], [], none),
  (23, 3, .getfield 10, [0, 11], [], none),
  (26, 1, .aload_n 0, [0], [], none),
  (27, 3, .getfield 35, [3, 11], [], none),
  (30, 1, .iload_n 1, [1], [], none),
  (31, 3, .invokevirtual 179, [63, 0, 1, 2, 9], [], none),
  (34, 1, .i2l, [], [], none),
  (35, 1, .aload_n 0, [0], [], none),
  (36, 3, .getfield 35, [3, 11], [], none),
  (39, 1, .iload_n 1, [1], [], none),
  (40, 3, .invokevirtual 182, [64, 0, 1, 2, 9], [], none),
  (43, 1, .i2l, [], [], none),
  (44, 3, .invokevirtual 185, [9, 0, 0, 3, 7], [], none),
  (47, 1, .iload_n 2, [2], [], none),
  (48, 1, .ireturn, [], [], none)]
def jx_M178 : jx_M := (⟨"FairByEar", "tree", "(I)I"⟩, prog_1_method_16_code, 3, (some .int), false, 125, jx_C178)
def jx_C179 : List jx_El := [(0, 1, .aload_n 0, [0], [], none),
  (1, 3, .getfield 26, [2, 11], [], none),
  (4, 1, .iload_n 1, [1], [], none),
  (5, 3, .invokevirtual 152, [39, 0, 1, 2, 3], [], none),
  (8, 3, .ifCond .eq 13, [21], [], none),
  (11, 1, .iload_n 2, [2], [], none),
  (12, 1, .iconst 0, [], [.int 0], none),
  (13, 2, .bipush 99, [], [.int 99], none),
  (15, 3, .invokestatic 116, [215, 0, 1, 3], [], none),
  (18, 3, .ifCond .ne 5, [23], [], none),
  (21, 1, .iconst (-1), [], [.int (-1)], some []),
  (22, 1, .ireturn, [], [], none),
  (23, 1, .aload_n 0, [0], [], none),
  (24, 3, .getfield 35, [3, 11], [], none),
  (27, 1, .iload_n 1, [1], [], none),
  (28, 1, .iload_n 2, [2], [], none),
  (29, 3, .invokevirtual 188, [67, 0, 1, 3, 9], [], none),
  (32, 1, .ireturn, [], [], none)]
def jx_M179 : jx_M := (⟨"FairByEar", "copper", "(II)I"⟩, prog_1_method_17_code, 3, (some .int), false, 125, jx_C179)
def jx_C180 : List jx_El := [(0, 1, .aload_n 0, [0], [], none),
  (1, 3, .getfield 26, [2, 11], [], none),
  (4, 1, .iload_n 1, [1], [], none),
  (5, 3, .invokevirtual 152, [39, 0, 1, 2, 3], [], none),
  (8, 3, .ifCond .eq 22, [30], [], none),
  (11, 1, .aload_n 0, [0], [], none),
  (12, 3, .getfield 26, [2, 11], [], none),
  (15, 1, .iload_n 2, [2], [], none),
  (16, 3, .invokevirtual 146, [37, 0, 1, 2, 3], [], none),
  (19, 3, .ifCond .eq 11, [30], [], none),
  (22, 1, .iload_n 1, [1], [], none),
  (23, 1, .iload_n 2, [2], [], none),
  (24, 3, .invokestatic 191, [216, 0, 1, 2], [], none),
  (27, 3, .ifCond .ne 5, [32], [], none),
  (30, 1, .iconst (-1), [], [.int (-1)], some []),
  (31, 1, .ireturn, [], [], none),
  (32, 1, .aload_n 0, [0], [], none),
  (33, 3, .getfield 35, [3, 11], [], none),
  (36, 1, .iload_n 1, [1], [], none),
  (37, 3, .invokevirtual 176, [59, 0, 1, 2, 9], [], none),
  (40, 1, .pop, [], [], none),
  (41, 1, .aload_n 0, [0], [], none),
  (42, 3, .getfield 35, [3, 11], [], none),
  (45, 1, .iload_n 1, [1], [], none),
  (46, 1, .iload_n 2, [2], [], none),
  (47, 1, .aload_n 0, [0], [], none),
  (48, 3, .getfield 10, [0, 11], [], none),
  (51, 3, .invokevirtual 195, [66, 0, 1, 4, 9], [], none),
  (54, 1, .ireturn, [], [], none)]
def jx_M180 : jx_M := (⟨"FairByEar", "asks", "(II)I"⟩, prog_1_method_18_code, 3, (some .int), false, 125, jx_C180)
def jx_C181 : List jx_El := [(0, 1, .aload_n 0, [0], [], none),
  (1, 3, .getfield 44, [4, 11], [], none),
  (4, 1, .iload_n 1, [1], [], none),
  (5, 3, .invokevirtual 199, [72, 0, 1, 2, 8], [], none),
  (8, 1, .ireturn, [], [], none)]
def jx_M181 : jx_M := (⟨"FairByEar", "sign", "(I)I"⟩, prog_1_method_19_code, 2, (some .int), false, 1, jx_C181)
def jx_C182 : List jx_El := [(0, 1, .aload_n 0, [0], [], none),
  (1, 3, .getfield 44, [4, 11], [], none),
  (4, 1, .iload_n 1, [1], [], none),
  (5, 3, .invokevirtual 202, [73, 0, 1, 2, 8], [], none),
  (8, 1, .ireturn, [1], [], none)]
def jx_M182 : jx_M := (⟨"FairByEar", "end", "(I)Z"⟩, prog_1_method_20_code, 2, (some .boolean), false, 1, jx_C182)
def jx_C183 : List jx_El := [(0, 1, .aload_n 0, [0], [], none),
  (1, 3, .getfield 44, [4, 11], [], none),
  (4, 3, .invokevirtual 205, [74, 0, 1, 1, 8], [], none),
  (7, 1, .ireturn, [], [], none)]
def jx_M183 : jx_M := (⟨"FairByEar", "rule", "()I"⟩, prog_1_method_21_code, 1, (some .int), false, 6, jx_C183)
def jx_C184 : List jx_El := [(0, 1, .aload_n 0, [0], [], none),
  (1, 3, .getfield 19, [1, 11], [], none),
  (4, 1, .iload_n 1, [1], [], none),
  (5, 3, .invokevirtual 113, [16, 0, 1, 2, 5], [], none),
  (8, 3, .ifCond .eq 19, [27], [], none),
  (11, 1, .aload_n 0, [0], [], none),
  (12, 3, .getfield 19, [1, 11], [], none),
  (15, 1, .iload_n 2, [2], [], none),
  (16, 3, .invokevirtual 113, [16, 0, 1, 2, 5], [], none),
  (19, 3, .ifCond .eq 8, [27], [], none),
  (22, 1, .iload_n 1, [1], [], none),
  (23, 1, .iload_n 2, [2], [], none),
  (24, 3, .if_icmp .ne 5, [29], [], none),
  (27, 1, .iconst (-1), [], [.int (-1)], some []),
  (28, 1, .ireturn, [], [], none),
  (29, 1, .aload_n 0, [0], [], none),
  (30, 3, .getfield 44, [4, 11], [], none),
  (33, 1, .iload_n 1, [1], [], none),
  (34, 3, .invokevirtual 209, [88, 0, 1, 2, 8], [], none),
  (37, 1, .istore_n 3, [3], [], none),
  (38, 1, .aload_n 0, [0], [], none),
  (39, 3, .getfield 44, [4, 11], [], none),
  (42, 1, .iload_n 2, [2], [], none),
  (43, 3, .invokevirtual 209, [88, 0, 1, 2, 8], [], none),
  (46, 2, .istore 4, [4], [], none),
  (48, 1, .aload_n 0, [0], [], none),
  (49, 3, .getfield 10, [0, 11], [], none),
  (52, 1, .iload_n 3, [3], [], none),
  (53, 1, .i2l, [], [], none),
  (54, 2, .iload 4, [4], [], none),
  (56, 1, .i2l, [], [], none),
  (57, 3, .invokevirtual 185, [9, 0, 0, 3, 7], [], none),
  (60, 1, .iload_n 3, [3], [], none),
  (61, 2, .iload 4, [4], [], none),
  (63, 3, .if_icmp .ne 9, [72], [], none),
  (66, 1, .iload_n 1, [1], [], none),
  (67, 1, .iload_n 2, [2], [], none),
  (68, 3, .invokestatic 212, [2, 0, 1, 2], [], none),
  (71, 1, .ireturn, [], [], none),
  (72, 1, .iload_n 3, [3], [], none),
  (73, 2, .iload 4, [4], [], none),
  (75, 3, .if_icmp .le 7, [82], [], none),
  (78, 1, .iload_n 1, [1], [], none),
  (79, 3, .goto 4, [83], [], none),
  (82, 1, .iload_n 2, [2], [], none),
  (83, 1, .ireturn, [], [], some [])]
def jx_M184 : jx_M := (⟨"FairByEar", "first", "(II)I"⟩, prog_1_method_22_code, 5, (some .int), false, 5, jx_C184)
def jx_C185 : List jx_El := [(0, 1, .aload_n 0, [0], [], none),
  (1, 3, .getfield 44, [4, 11], [], none),
  (4, 1, .aload_n 0, [0], [], none),
  (5, 3, .getfield 10, [0, 11], [], none),
  (8, 3, .invokevirtual 217, [93, 0, 1, 2, 8], [], none),
  (11, 1, .ireturn, [], [], none)]
def jx_M185 : jx_M := (⟨"FairByEar", "order", "()I"⟩, prog_1_method_23_code, 1, (some .int), false, 6, jx_C185)
def jx_C186 : List jx_El := [(0, 1, .aload_n 0, [0], [], none),
  (1, 3, .getfield 19, [1, 11], [], none),
  (4, 1, .iload_n 1, [1], [], none),
  (5, 3, .invokevirtual 113, [16, 0, 1, 2, 5], [], none),
  (8, 3, .ifCond .eq 24, [32], [], none),
  (11, 1, .aload_n 0, [0], [], none),
  (12, 3, .getfield 26, [2, 11], [], none),
  (15, 1, .iload_n 2, [2], [], none),
  (16, 3, .invokevirtual 146, [37, 0, 1, 2, 3], [], none),
  (19, 3, .ifCond .eq 13, [32], [], none),
  (22, 1, .iload_n 3, [3], [], none),
  (23, 1, .iconst 0, [], [.int 0], none),
  (24, 2, .bipush 99, [], [.int 99], none),
  (26, 3, .invokestatic 116, [215, 0, 1, 3], [], none),
  (29, 3, .ifCond .ne 5, [34], [], none),
  (32, 1, .iconst (-1), [], [.int (-1)], some []),
  (33, 1, .ireturn, [], [], none),
  (34, 1, .aload_n 0, [0], [], none),
  (35, 3, .getfield 60, [6, 11], [], none),
  (38, 1, .iload_n 1, [1], [], none),
  (39, 1, .iload_n 2, [2], [], none),
  (40, 1, .iload_n 3, [3], [], none),
  (41, 3, .invokevirtual 221, [108, 0, 1, 4, 1], [], none),
  (44, 1, .ireturn, [], [], none)]
def jx_M186 : jx_M := (⟨"FairByEar", "want", "(III)I"⟩, prog_1_method_24_code, 4, (some .int), false, 3, jx_C186)
def jx_C187 : List jx_El := [(0, 1, .aload_n 0, [0], [], none),
  (1, 3, .getfield 26, [2, 11], [], none),
  (4, 1, .iload_n 1, [1], [], none),
  (5, 3, .invokevirtual 146, [37, 0, 1, 2, 3], [], none),
  (8, 3, .ifCond .eq 24, [32], [], none),
  (11, 1, .aload_n 0, [0], [], none),
  (12, 3, .getfield 19, [1, 11], [], none),
  (15, 1, .iload_n 2, [2], [], none),
  (16, 3, .invokevirtual 113, [16, 0, 1, 2, 5], [], none),
  (19, 3, .ifCond .eq 13, [32], [], none),
  (22, 1, .iload_n 3, [3], [], none),
  (23, 1, .iconst 0, [], [.int 0], none),
  (24, 2, .bipush 99, [], [.int 99], none),
  (26, 3, .invokestatic 116, [215, 0, 1, 3], [], none),
  (29, 3, .ifCond .ne 5, [34], [], none),
  (32, 1, .iconst (-1), [], [.int (-1)], some []),
  (33, 1, .ireturn, [], [], none),
  (34, 1, .aload_n 0, [0], [], none),
  (35, 3, .getfield 51, [5, 11], [], none),
  (38, 1, .iload_n 1, [1], [], none),
  (39, 1, .iload_n 2, [2], [], none),
  (40, 3, .invokevirtual 224, [103, 0, 1, 3, 4], [], none),
  (43, 2, .istore 4, [4], [], none),
  (45, 2, .iload 4, [4], [], none),
  (47, 1, .iconst (-1), [], [.int (-1)], none),
  (48, 3, .if_icmp .eq 13, [61], [], none),
  (51, 1, .aload_n 0, [0], [], none),
  (52, 3, .getfield 60, [6, 11], [], none),
  (55, 2, .iload 4, [4], [], none),
  (57, 1, .iload_n 3, [3], [], none),
  (58, 3, .invokevirtual 227, [111, 0, 0, 3, 1], [], none),
  (61, 2, .iload 4, [4], [], some [4]),
  (63, 1, .ireturn, [], [], none)]
def jx_M187 : jx_M := (⟨"FairByEar", "item", "(III)I"⟩, prog_1_method_25_code, 5, (some .int), false, 2, jx_C187)
def jx_C188 : List jx_El := [(0, 1, .aload_n 0, [0], [], none),
  (1, 3, .getfield 51, [5, 11], [], none),
  (4, 1, .iload_n 1, [1], [], none),
  (5, 3, .invokevirtual 231, [99, 0, 1, 2, 4], [], none),
  (8, 3, .ifCond .eq 12, [20], [], none),
  (11, 1, .iload_n 2, [2], [], none),
  (12, 1, .iconst 0, [], [.int 0], none),
  (13, 1, .iconst 3, [], [.int 3], none),
  (14, 3, .invokestatic 116, [215, 0, 1, 3], [], none),
  (17, 3, .ifCond .ne 11, [28], [], none),
  (20, 3, .new 120, [], [], some []),
  (23, 1, .dup, [], [], none),
  (24, 3, .invokespecial 122, [], [], none),
  (27, 1, .athrow, [], [], none),
  (28, 1, .iload_n 2, [2], [], none),
  (29, 3, .ifCond .ne 12, [41], [], none),
  (32, 1, .aload_n 0, [0], [], none),
  (33, 3, .getfield 51, [5, 11], [], none),
  (36, 1, .iload_n 1, [1], [], none),
  (37, 3, .invokevirtual 234, [101, 0, 1, 2, 4], [], none),
  (40, 1, .ireturn, [], [], none),
  (41, 1, .iload_n 2, [2], [], none),
  (42, 1, .iconst 1, [], [.int 1], none),
  (43, 3, .if_icmp .ne 12, [55], [], none),
  (46, 1, .aload_n 0, [0], [], none),
  (47, 3, .getfield 51, [5, 11], [], none),
  (50, 1, .iload_n 1, [1], [], none),
  (51, 3, .invokevirtual 237, [102, 0, 1, 2, 4], [], none),
  (54, 1, .ireturn, [], [], none),
  (55, 1, .iload_n 2, [2], [], none),
  (56, 1, .iconst 2, [], [.int 2], none),
  (57, 3, .if_icmp .ne 12, [69], [], none),
  (60, 1, .aload_n 0, [0], [], none),
  (61, 3, .getfield 60, [6, 11], [], none),
  (64, 1, .iload_n 1, [1], [], none),
  (65, 3, .invokevirtual 240, [112, 0, 1, 2, 1], [], none),
  (68, 1, .ireturn, [], [], none),
  (69, 1, .aload_n 0, [0], [], none),
  (70, 3, .getfield 51, [5, 11], [], none),
  (73, 1, .iload_n 1, [1], [], none),
  (74, 3, .invokevirtual 243, [100, 0, 1, 2, 4], [], none),
  (77, 3, .ifCond .eq 7, [84], [], none),
  (80, 1, .iconst 1, [], [.int 1], none),
  (81, 3, .goto 4, [85], [], none),
  (84, 1, .iconst 0, [], [.int 0], none),
  (85, 1, .ireturn, [], [], some [])]
def jx_M188 : jx_M := (⟨"FairByEar", "thing", "(II)I"⟩, prog_1_method_26_code, 3, (some .int), false, 2, jx_C188)
def jx_C189 : List jx_El := [(0, 1, .aload_n 0, [0], [], none),
  (1, 3, .getfield 60, [6, 11], [], none),
  (4, 1, .iload_n 1, [1], [], none),
  (5, 3, .invokevirtual 246, [110, 0, 1, 2, 1], [], none),
  (8, 1, .ireturn, [], [], none)]
def jx_M189 : jx_M := (⟨"FairByEar", "wind", "(I)I"⟩, prog_1_method_27_code, 2, (some .int), false, 2, jx_C189)
def jx_C190 : List jx_El := [(0, 1, .iload_n 1, [1], [], none),
  (1, 1, .iconst 0, [], [.int 0], none),
  (2, 3, .sipush 200, [], [.int 200], none),
  (5, 3, .invokestatic 116, [215, 0, 1, 3], [], none),
  (8, 3, .ifCond .ne 5, [13], [], none),
  (11, 1, .iconst (-1), [], [.int (-1)], none),
  (12, 1, .ireturn, [], [], none),
  (13, 1, .aload_n 0, [0], [], none),
  (14, 3, .getfield 60, [6, 11], [], none),
  (17, 1, .iload_n 1, [1], [], none),
  (18, 3, .invokevirtual 249, [113, 0, 1, 2, 1], [], none),
  (21, 1, .istore_n 2, [2], [], none),
  (22, 1, .aload_n 0, [0], [], none),
  (23, 3, .getfield 60, [6, 11], [], none),
  (26, 1, .aload_n 0, [0], [], none),
  (27, 3, .getfield 10, [0, 11], [], none),
  (30, 3, .invokevirtual 252, [114, 0, 0, 2, 1], [], none),
  (33, 1, .iload_n 2, [2], [], none),
  (34, 1, .ireturn, [], [], none)]
def jx_M190 : jx_M := (⟨"FairByEar", "rounds", "(I)I"⟩, prog_1_method_28_code, 3, (some .int), false, 5, jx_C190)
def jx_C191 : List jx_El := [(0, 1, .aload_n 0, [0], [], none),
  (1, 3, .getfield 60, [6, 11], [], none),
  (4, 3, .invokevirtual 256, [115, 0, 1, 1, 1], [], none),
  (7, 1, .ireturn, [], [], none)]
def jx_M191 : jx_M := (⟨"FairByEar", "settles", "()I"⟩, prog_1_method_29_code, 1, (some .int), false, 5, jx_C191)
def jx_C192 : List jx_El := [(0, 1, .aload_n 0, [0], [], none),
  (1, 3, .getfield 51, [5, 11], [], none),
  (4, 1, .iload_n 2, [2], [], none),
  (5, 1, .iload_n 1, [1], [], none),
  (6, 1, .aload_n 0, [0], [], none),
  (7, 3, .getfield 60, [6, 11], [], none),
  (10, 1, .iload_n 2, [2], [], none),
  (11, 3, .invokevirtual 240, [112, 0, 1, 2, 1], [], none),
  (14, 3, .invokevirtual 259, [105, 0, 1, 4, 4], [], none),
  (17, 1, .ireturn, [], [], none)]
def jx_M192 : jx_M := (⟨"FairByEar", "buy", "(II)I"⟩, prog_1_method_30_code, 3, (some .int), false, 4, jx_C192)
def jx_C193 : List jx_El := [(0, 1, .aload_n 0, [0], [], none),
  (1, 3, .getfield 51, [5, 11], [], none),
  (4, 3, .invokevirtual 262, [107, 0, 1, 1, 4], [], none),
  (7, 1, .ireturn, [], [], none)]
def jx_M193 : jx_M := (⟨"FairByEar", "undo", "()I"⟩, prog_1_method_31_code, 1, (some .int), false, 3, jx_C193)
def jx_C194 : List jx_El := [(0, 1, .aload_n 0, [0], [], none),
  (1, 3, .getfield 67, [7, 11], [], none),
  (4, 1, .iload_n 1, [1], [], none),
  (5, 1, .iload_n 2, [2], [], none),
  (6, 1, .iload_n 3, [3], [], none),
  (7, 3, .invokevirtual 265, [124, 0, 1, 4, 10], [], none),
  (10, 1, .ireturn, [], [], none)]
def jx_M194 : jx_M := (⟨"FairByEar", "counted", "(III)I"⟩, prog_1_method_32_code, 4, (some .int), false, 2, jx_C194)
def jx_C195 : List jx_El := [(0, 1, .aload_n 0, [0], [], none),
  (1, 3, .getfield 67, [7, 11], [], none),
  (4, 1, .iload_n 1, [1], [], none),
  (5, 1, .iload_n 2, [2], [], none),
  (6, 1, .iload_n 3, [3], [], none),
  (7, 2, .iload 4, [4], [], none),
  (9, 3, .invokevirtual 268, [125, 0, 1, 5, 10], [], none),
  (12, 1, .ireturn, [], [], none)]
def jx_M195 : jx_M := (⟨"FairByEar", "been", "(IIII)I"⟩, prog_1_method_33_code, 5, (some .int), false, 2, jx_C195)
def jx_C196 : List jx_El := [(0, 1, .aload_n 0, [0], [], none),
  (1, 3, .getfield 19, [1, 11], [], none),
  (4, 1, .iload_n 1, [1], [], none),
  (5, 3, .invokevirtual 100, [15, 0, 1, 2, 5], [], none),
  (8, 3, .ifCond .eq 18, [26], [], none),
  (11, 1, .aload_n 0, [0], [], none),
  (12, 3, .getfield 67, [7, 11], [], none),
  (15, 1, .iload_n 1, [1], [], none),
  (16, 1, .aload_n 0, [0], [], none),
  (17, 3, .getfield 10, [0, 11], [], none),
  (20, 3, .invokevirtual 272, [129, 0, 1, 3, 10], [], none),
  (23, 3, .goto 4, [27], [], none),
  (26, 1, .iconst (-1), [], [.int (-1)], none),
  (27, 1, .ireturn, [], [], some [])]
def jx_M196 : jx_M := (⟨"FairByEar", "missing", "(I)I"⟩, prog_1_method_34_code, 2, (some .int), false, 3, jx_C196)
def jx_C197 : List jx_El := [(0, 1, .aload_n 0, [0], [], none),
  (1, 3, .getfield 19, [1, 11], [], none),
  (4, 1, .iload_n 1, [1], [], none),
  (5, 3, .invokevirtual 100, [15, 0, 1, 2, 5], [], none),
  (8, 3, .ifCond .eq 19, [27], [], none),
  (11, 1, .iload_n 2, [2], [], none),
  (12, 3, .ifCond .lt 15, [27], [], none),
  (15, 1, .aload_n 0, [0], [], none),
  (16, 3, .getfield 67, [7, 11], [], none),
  (19, 1, .iload_n 1, [1], [], none),
  (20, 1, .iload_n 2, [2], [], none),
  (21, 3, .invokevirtual 276, [130, 0, 1, 3, 10], [], none),
  (24, 3, .goto 4, [28], [], none),
  (27, 1, .iconst (-1), [], [.int (-1)], some []),
  (28, 1, .ireturn, [], [], some [])]
def jx_M197 : jx_M := (⟨"FairByEar", "suspects", "(II)I"⟩, prog_1_method_35_code, 3, (some .int), false, 3, jx_C197)
def jx_C198 : List jx_El := [(0, 1, .aload_n 0, [0], [], none),
  (1, 3, .getfield 67, [7, 11], [], none),
  (4, 3, .invokevirtual 279, [133, 0, 1, 1, 10], [], none),
  (7, 1, .istore_n 1, [1], [], none),
  (8, 1, .iload_n 1, [1], [], none),
  (9, 3, .ifCond .ge 6, [15], [], none),
  (12, 2, .bipush (-2), [], [.int (-2)], none),
  (14, 1, .ireturn, [], [], none),
  (15, 1, .aload_n 0, [0], [], none),
  (16, 3, .getfield 10, [0, 11], [], none),
  (19, 1, .iload_n 1, [1], [], none),
  (20, 1, .i2l, [], [], none),
  (21, 3, .invokevirtual 161, [8, 0, 0, 2, 7], [], none),
  (24, 1, .iload_n 1, [1], [], none),
  (25, 3, .invokestatic 165, [3, 0, 1, 1], [], none),
  (28, 1, .ireturn, [], [], none)]
def jx_M198 : jx_M := (⟨"FairByEar", "gang", "()I"⟩, prog_1_method_36_code, 2, (some .int), false, 3, jx_C198)
def jx_C199 : List jx_El := [(0, 1, .aload_n 0, [0], [], none),
  (1, 3, .getfield 67, [7, 11], [], none),
  (4, 1, .iload_n 1, [1], [], none),
  (5, 1, .iload_n 2, [2], [], none),
  (6, 1, .iload_n 3, [3], [], none),
  (7, 3, .invokevirtual 282, [126, 0, 1, 4, 10], [], none),
  (10, 1, .ireturn, [], [], none)]
def jx_M199 : jx_M := (⟨"FairByEar", "clink", "(III)I"⟩, prog_1_method_37_code, 4, (some .int), false, 2, jx_C199)
def jx_C200 : List jx_El := [(0, 1, .aload_n 0, [0], [], none),
  (1, 3, .getfield 67, [7, 11], [], none),
  (4, 1, .aload_n 0, [0], [], none),
  (5, 3, .getfield 10, [0, 11], [], none),
  (8, 3, .invokevirtual 285, [135, 0, 1, 2, 10], [], none),
  (11, 1, .ireturn, [], [], none)]
def jx_M200 : jx_M := (⟨"FairByEar", "hands", "()I"⟩, prog_1_method_38_code, 1, (some .int), false, 5, jx_C200)
def jx_C201 : List jx_El := [(0, 1, .aload_n 0, [0], [], none),
  (1, 3, .getfield 19, [1, 11], [], none),
  (4, 1, .iload_n 1, [1], [], none),
  (5, 3, .invokevirtual 100, [15, 0, 1, 2, 5], [], none),
  (8, 3, .ifCond .eq 14, [22], [], none),
  (11, 1, .aload_n 0, [0], [], none),
  (12, 3, .getfield 74, [8, 11], [], none),
  (15, 1, .iload_n 1, [1], [], none),
  (16, 3, .invokevirtual 288, [142, 0, 1, 2, 6], [], none),
  (19, 3, .goto 4, [23], [], none),
  (22, 1, .iconst (-1), [], [.int (-1)], none),
  (23, 1, .ireturn, [], [], some [])]
def jx_M201 : jx_M := (⟨"FairByEar", "loud", "(I)I"⟩, prog_1_method_39_code, 2, (some .int), false, 4, jx_C201)
def jx_C202 : List jx_El := [(0, 1, .aload_n 0, [0], [], none),
  (1, 3, .getfield 74, [8, 11], [], none),
  (4, 1, .aload_n 0, [0], [], none),
  (5, 3, .getfield 10, [0, 11], [], none),
  (8, 3, .invokevirtual 291, [143, 0, 1, 2, 6], [], none),
  (11, 1, .ireturn, [], [], none)]
def jx_M202 : jx_M := (⟨"FairByEar", "loudest", "()I"⟩, prog_1_method_40_code, 1, (some .int), false, 5, jx_C202)
def jx_C203 : List jx_El := [(0, 1, .aload_n 0, [0], [], none),
  (1, 3, .getfield 74, [8, 11], [], none),
  (4, 1, .iload_n 1, [1], [], none),
  (5, 1, .iload_n 2, [2], [], none),
  (6, 3, .invokevirtual 294, [144, 0, 1, 3, 6], [], none),
  (9, 1, .ireturn, [], [], none)]
def jx_M203 : jx_M := (⟨"FairByEar", "heard", "(II)I"⟩, prog_1_method_41_code, 3, (some .int), false, 2, jx_C203)
def jx_C204 : List jx_El := [(0, 1, .iload_n 1, [1], [], none),
  (1, 1, .iconst 1, [], [.int 1], none),
  (2, 2, .bipush 6, [], [.int 6], none),
  (4, 3, .invokestatic 116, [215, 0, 1, 3], [], none),
  (7, 3, .ifCond .eq 13, [20], [], none),
  (10, 1, .iload_n 2, [2], [], none),
  (11, 1, .iconst 0, [], [.int 0], none),
  (12, 2, .bipush 99, [], [.int 99], none),
  (14, 3, .invokestatic 116, [215, 0, 1, 3], [], none),
  (17, 3, .ifCond .ne 5, [22], [], none),
  (20, 1, .iconst (-1), [], [.int (-1)], some []),
  (21, 1, .ireturn, [], [], none),
  (22, 1, .aload_n 0, [0], [], none),
  (23, 3, .getfield 74, [8, 11], [], none),
  (26, 1, .iload_n 1, [1], [], none),
  (27, 1, .iload_n 2, [2], [], none),
  (28, 1, .aload_n 0, [0], [], none),
  (29, 3, .getfield 10, [0, 11], [], none),
  (32, 3, .invokevirtual 297, [145, 0, 1, 4, 6], [], none),
  (35, 1, .ireturn, [], [], none)]
def jx_M204 : jx_M := (⟨"FairByEar", "crowds", "(II)I"⟩, prog_1_method_42_code, 3, (some .int), false, 126, jx_C204)
def jx_C205 : List jx_El := [(0, 1, .aload_n 0, [0], [], none),
  (1, 3, .getfield 81, [9, 11], [], none),
  (4, 1, .iload_n 1, [1], [], none),
  (5, 1, .iload_n 2, [2], [], none),
  (6, 3, .invokevirtual 300, [151, 0, 1, 3, 0], [], none),
  (9, 1, .ireturn, [], [], none)]
def jx_M205 : jx_M := (⟨"FairByEar", "gas", "(II)I"⟩, prog_1_method_43_code, 3, (some .int), false, 2, jx_C205)
def jx_C206 : List jx_El := [(0, 1, .aload_n 0, [0], [], none),
  (1, 3, .getfield 81, [9, 11], [], none),
  (4, 3, .invokevirtual 303, [153, 0, 1, 1, 0], [], none),
  (7, 1, .ireturn, [], [], none)]
def jx_M206 : jx_M := (⟨"FairByEar", "lasts", "()I"⟩, prog_1_method_44_code, 1, (some .int), false, 4, jx_C206)
def jx_C207 : List jx_El := [(0, 1, .aload_n 0, [0], [], none),
  (1, 3, .getfield 81, [9, 11], [], none),
  (4, 1, .aload_n 0, [0], [], none),
  (5, 3, .getfield 10, [0, 11], [], none),
  (8, 3, .invokevirtual 306, [154, 0, 1, 2, 0], [], none),
  (11, 1, .ireturn, [], [], none)]
def jx_M207 : jx_M := (⟨"FairByEar", "leave", "()I"⟩, prog_1_method_45_code, 1, (some .int), false, 5, jx_C207)
def jx_C208 : List jx_El := [(0, 1, .aload_n 0, [0], [], none),
  (1, 3, .getfield 88, [10, 11], [], none),
  (4, 1, .iload_n 1, [1], [], none),
  (5, 1, .iload_n 2, [2], [], none),
  (6, 3, .invokevirtual 309, [156, 0, 1, 3, 2], [], none),
  (9, 1, .ireturn, [], [], none)]
def jx_M208 : jx_M := (⟨"FairByEar", "ear", "(II)I"⟩, prog_1_method_46_code, 3, (some .int), false, 2, jx_C208)
def jx_C209 : List jx_El := [(0, 1, .aload_n 0, [0], [], none),
  (1, 3, .getfield 88, [10, 11], [], none),
  (4, 1, .iload_n 1, [1], [], none),
  (5, 1, .iload_n 2, [2], [], none),
  (6, 1, .aload_n 0, [0], [], none),
  (7, 3, .getfield 10, [0, 11], [], none),
  (10, 3, .invokevirtual 312, [158, 0, 1, 4, 2], [], none),
  (13, 1, .ireturn, [], [], none)]
def jx_M209 : jx_M := (⟨"FairByEar", "sound", "(II)I"⟩, prog_1_method_47_code, 3, (some .int), false, 3, jx_C209)
def jx_C210 : List jx_El := [(0, 1, .aload_n 0, [0], [], none),
  (1, 3, .getfield 19, [1, 11], [], none),
  (4, 1, .iload_n 1, [1], [], none),
  (5, 3, .invokevirtual 113, [16, 0, 1, 2, 5], [], none),
  (8, 3, .ifCond .eq 15, [23], [], none),
  (11, 1, .aload_n 0, [0], [], none),
  (12, 3, .getfield 88, [10, 11], [], none),
  (15, 1, .iload_n 2, [2], [], none),
  (16, 1, .iload_n 3, [3], [], none),
  (17, 3, .invokevirtual 315, [157, 0, 1, 3, 2], [], none),
  (20, 3, .ifCond .ne 5, [25], [], none),
  (23, 1, .iconst (-1), [], [.int (-1)], some []),
  (24, 1, .ireturn, [], [], none),
  (25, 1, .aload_n 0, [0], [], none),
  (26, 3, .getfield 88, [10, 11], [], none),
  (29, 1, .iload_n 1, [1], [], none),
  (30, 1, .iload_n 2, [2], [], none),
  (31, 1, .iload_n 3, [3], [], none),
  (32, 1, .aload_n 0, [0], [], none),
  (33, 3, .getfield 10, [0, 11], [], none),
  (36, 3, .invokevirtual 318, [161, 0, 1, 5, 2], [], none),
  (39, 1, .ireturn, [], [], none)]
def jx_M210 : jx_M := (⟨"FairByEar", "judge", "(III)I"⟩, prog_1_method_48_code, 4, (some .int), false, 5, jx_C210)
def jx_C211 : List jx_El := [(0, 1, .aload_n 0, [0], [], none),
  (1, 3, .getfield 19, [1, 11], [], none),
  (4, 1, .iload_n 1, [1], [], none),
  (5, 3, .invokevirtual 113, [16, 0, 1, 2, 5], [], none),
  (8, 3, .ifCond .eq 15, [23], [], none),
  (11, 1, .aload_n 0, [0], [], none),
  (12, 3, .getfield 88, [10, 11], [], none),
  (15, 1, .iload_n 2, [2], [], none),
  (16, 1, .iload_n 3, [3], [], none),
  (17, 3, .invokevirtual 315, [157, 0, 1, 3, 2], [], none),
  (20, 3, .ifCond .ne 5, [25], [], none),
  (23, 1, .iconst (-1), [], [.int (-1)], some []),
  (24, 1, .ireturn, [], [], none),
  (25, 1, .aload_n 0, [0], [], none),
  (26, 3, .getfield 88, [10, 11], [], none),
  (29, 1, .iload_n 1, [1], [], none),
  (30, 1, .iload_n 2, [2], [], none),
  (31, 1, .iload_n 3, [3], [], none),
  (32, 1, .aload_n 0, [0], [], none),
  (33, 3, .getfield 10, [0, 11], [], none),
  (36, 3, .invokevirtual 322, [162, 0, 1, 5, 2], [], none),
  (39, 1, .ireturn, [], [], none)]
def jx_M211 : jx_M := (⟨"FairByEar", "who", "(III)I"⟩, prog_1_method_49_code, 4, (some .int), false, 5, jx_C211)
def jx_C212 : List jx_El := [(0, 1, .aload_n 0, [0], [], none),
  (1, 3, .getfield 19, [1, 11], [], none),
  (4, 1, .iload_n 1, [1], [], none),
  (5, 3, .invokevirtual 100, [15, 0, 1, 2, 5], [], none),
  (8, 3, .ifCond .ne 5, [13], [], none),
  (11, 1, .iconst (-1), [], [.int (-1)], none),
  (12, 1, .ireturn, [], [], none),
  (13, 1, .aload_n 0, [0], [], none),
  (14, 3, .getfield 81, [9, 11], [], none),
  (17, 3, .invokevirtual 325, [152, 0, 1, 1, 0], [], none),
  (20, 3, .ifCond .eq 13, [33], [], none),
  (23, 1, .aload_n 0, [0], [], none),
  (24, 3, .getfield 19, [1, 11], [], none),
  (27, 3, .invokevirtual 329, [33, 0, 0, 1, 5], [], none),
  (30, 2, .bipush (-2), [], [.int (-2)], none),
  (32, 1, .ireturn, [], [], none),
  (33, 1, .aload_n 0, [0], [], none),
  (34, 3, .getfield 19, [1, 11], [], none),
  (37, 1, .iload_n 1, [1], [], none),
  (38, 2, .bipush 10, [], [.int 10], none),
  (40, 3, .invokevirtual 332, [32, 0, 1, 3, 5], [], none),
  (43, 1, .istore_n 2, [2], [], none),
  (44, 1, .aload_n 0, [0], [], none),
  (45, 3, .getfield 51, [5, 11], [], none),
  (48, 1, .iload_n 2, [2], [], none),
  (49, 3, .invokevirtual 335, [104, 0, 1, 2, 4], [], none),
  (52, 1, .istore_n 3, [3], [], none),
  (53, 1, .aload_n 0, [0], [], none),
  (54, 3, .getfield 10, [0, 11], [], none),
  (57, 1, .iload_n 3, [3], [], none),
  (58, 1, .i2l, [], [], none),
  (59, 1, .aload_n 0, [0], [], none),
  (60, 3, .getfield 60, [6, 11], [], none),
  (63, 1, .iload_n 3, [3], [], none),
  (64, 1, .iload_n 2, [2], [], none),
  (65, 3, .invokevirtual 338, [122, 0, 1, 3, 1], [], none),
  (68, 1, .i2l, [], [], none),
  (69, 3, .invokevirtual 185, [9, 0, 0, 3, 7], [], none),
  (72, 1, .iload_n 2, [2], [], none),
  (73, 1, .ireturn, [], [], none)]
def jx_M212 : jx_M := (⟨"FairByEar", "lamp", "(I)I"⟩, prog_1_method_50_code, 4, (some .int), false, 4, jx_C212)
def jx_C213 : List jx_El := [(0, 1, .iload_n 1, [1], [], none),
  (1, 55, .tableswitch 135 0 9 #[55, 63, 71, 79, 87, 95, 103, 111, 119, 127], [136, 56, 64, 72, 80, 88, 96, 104, 112, 120, 128], [.int 0, .int 1, .int 2, .int 3, .int 4, .int 5, .int 6, .int 7, .int 8, .int 9], none),
  (56, 1, .aload_n 0, [0], [], none),
  (57, 3, .getfield 19, [1, 11], [], none),
  (60, 3, .invokevirtual 341, [17, 0, 1, 1, 5], [], none),
  (63, 1, .ireturn, [], [], none),
  (64, 1, .aload_n 0, [0], [], none),
  (65, 3, .getfield 19, [1, 11], [], none),
  (68, 3, .invokevirtual 344, [18, 0, 1, 1, 5], [], none),
  (71, 1, .ireturn, [], [], none),
  (72, 1, .aload_n 0, [0], [], none),
  (73, 3, .getfield 26, [2, 11], [], none),
  (76, 3, .invokevirtual 347, [35, 0, 1, 1, 3], [], none),
  (79, 1, .ireturn, [], [], none),
  (80, 1, .aload_n 0, [0], [], none),
  (81, 3, .getfield 26, [2, 11], [], none),
  (84, 3, .invokevirtual 350, [36, 0, 1, 1, 3], [], none),
  (87, 1, .ireturn, [], [], none),
  (88, 1, .aload_n 0, [0], [], none),
  (89, 3, .getfield 51, [5, 11], [], none),
  (92, 3, .invokevirtual 353, [96, 0, 1, 1, 4], [], none),
  (95, 1, .ireturn, [], [], none),
  (96, 1, .aload_n 0, [0], [], none),
  (97, 3, .getfield 51, [5, 11], [], none),
  (100, 3, .invokevirtual 356, [98, 0, 1, 1, 4], [], none),
  (103, 1, .ireturn, [], [], none),
  (104, 1, .aload_n 0, [0], [], none),
  (105, 3, .getfield 51, [5, 11], [], none),
  (108, 3, .invokevirtual 359, [97, 0, 1, 1, 4], [], none),
  (111, 1, .ireturn, [], [], none),
  (112, 1, .aload_n 0, [0], [], none),
  (113, 3, .getfield 19, [1, 11], [], none),
  (116, 3, .invokevirtual 362, [34, 0, 1, 1, 5], [], none),
  (119, 1, .ireturn, [], [], none),
  (120, 1, .aload_n 0, [0], [], none),
  (121, 3, .getfield 10, [0, 11], [], none),
  (124, 3, .invokevirtual 365, [11, 0, 1, 1, 7], [], none),
  (127, 1, .ireturn, [], [], none),
  (128, 1, .aload_n 0, [0], [], none),
  (129, 3, .getfield 44, [4, 11], [], none),
  (132, 3, .invokevirtual 366, [71, 0, 1, 1, 8], [], none),
  (135, 1, .ireturn, [], [], none),
  (136, 1, .iconst (-1), [], [.int (-1)], none),
  (137, 1, .ireturn, [], [], none)]
def jx_M213 : jx_M := (⟨"FairByEar", "count", "(I)I"⟩, prog_1_method_51_code, 2, (some .int), false, 1, jx_C213)
def jx_C214 : List jx_El := [(0, 1, .aload_n 0, [0], [], none),
  (1, 3, .getfield 10, [0, 11], [], none),
  (4, 1, .iload_n 1, [1], [], none),
  (5, 3, .invokevirtual 369, [12, 0, 1, 2, 7], [], none),
  (8, 3, .ifCond .ne 11, [19], [], none),
  (11, 3, .new 120, [], [], none),
  (14, 1, .dup, [], [], none),
  (15, 3, .invokespecial 122, [], [], none),
  (18, 1, .athrow, [], [], none),
  (19, 1, .aload_n 0, [0], [], none),
  (20, 3, .getfield 10, [0, 11], [], none),
  (23, 1, .iload_n 1, [1], [], none),
  (24, 3, .invokevirtual 372, [13, 0, 2, 2, 7], [], none),
  (27, 1, .lreturn, [], [], none)]
def jx_M214 : jx_M := (⟨"FairByEar", "row", "(I)J"⟩, prog_1_method_52_code, 2, (some .long), false, 2, jx_C214)
def jx_C215 : List jx_El := [(0, 1, .iload_n 0, [0], [], none),
  (1, 1, .iload_n 1, [1], [], none),
  (2, 3, .if_icmp .lt 12, [14], [], none),
  (5, 1, .iload_n 0, [0], [], none),
  (6, 1, .iload_n 2, [2], [], none),
  (7, 3, .if_icmp .gt 7, [14], [], none),
  (10, 1, .iconst 1, [], [.int 1], none),
  (11, 3, .goto 4, [15], [], none),
  (14, 1, .iconst 0, [], [.int 0], some []),
  (15, 1, .ireturn, [1], [], some [])]
def jx_M215 : jx_M := (⟨"FairByEar", "within", "(III)Z"⟩, prog_1_method_53_code, 3, (some .boolean), true, 0, jx_C215)
def jx_C216 : List jx_El := [(0, 1, .iload_n 0, [0], [], none),
  (1, 1, .iload_n 1, [1], [], none),
  (2, 1, .iushr, [], [], none),
  (3, 1, .iconst 1, [], [.int 1], none),
  (4, 1, .iand, [], [], none),
  (5, 3, .ifCond .eq 7, [12], [], none),
  (8, 1, .iconst 1, [], [.int 1], none),
  (9, 3, .goto 4, [13], [], none),
  (12, 1, .iconst 0, [], [.int 0], none),
  (13, 1, .ireturn, [1], [], some [])]
def jx_M216 : jx_M := (⟨"FairByEar", "has", "(II)Z"⟩, prog_1_method_54_code, 2, (some .boolean), true, 0, jx_C216)
def jx_C217 : List jx_El := [(0, 1, .aload_n 0, [0], [], none),
  (1, 3, .getfield 3, [0, 12], [], none),
  (4, 1, .ireturn, [], [], none)]
def jx_M217 : jx_M := (⟨"FairByEarModel", "thrown", "()I"⟩, prog_14_method_1_code, 1, (some .int), false, 0, jx_C217)
def jx_C218 : List jx_El := [(0, 1, .aload_n 0, [0], [], none),
  (1, 1, .iconst 1, [], [.int 1], none),
  (2, 3, .putfield 3, [0, 12, 0], [], none),
  (5, 1, .iconst 0, [], [.int 0], none),
  (6, 1, .ireturn, [], [], none)]
def jx_M218 : jx_M := (⟨"FairByEarModel", "refuse", "()I"⟩, prog_14_method_2_code, 1, (some .int), false, 0, jx_C218)
def jx_C219 : List jx_El := [(0, 1, .lload_n 0, [0], [], none),
  (1, 1, .lload_n 2, [2], [], none),
  (2, 1, .lcmp, [], [], none),
  (3, 3, .ifCond .lt 14, [17], [], none),
  (6, 1, .lload_n 0, [0], [], none),
  (7, 2, .lload 4, [4], [], none),
  (9, 1, .lcmp, [], [], none),
  (10, 3, .ifCond .gt 7, [17], [], none),
  (13, 1, .iconst 1, [], [.int 1], none),
  (14, 3, .goto 4, [18], [], none),
  (17, 1, .iconst 0, [], [.int 0], some []),
  (18, 1, .ireturn, [1], [], some [])]
def jx_M219 : jx_M := (⟨"FairByEarModel", "in", "(JJJ)Z"⟩, prog_14_method_3_code, 6, (some .boolean), true, 0, jx_C219)
def jx_C220 : List jx_El := [(0, 1, .iload_n 0, [0], [], none),
  (1, 1, .iload_n 1, [1], [], none),
  (2, 1, .ishr, [], [], none),
  (3, 1, .iconst 1, [], [.int 1], none),
  (4, 1, .iand, [], [], none),
  (5, 1, .iconst 1, [], [.int 1], none),
  (6, 3, .if_icmp .ne 7, [13], [], none),
  (9, 1, .iconst 1, [], [.int 1], none),
  (10, 3, .goto 4, [14], [], none),
  (13, 1, .iconst 0, [], [.int 0], none),
  (14, 1, .ireturn, [1], [], some [])]
def jx_M220 : jx_M := (⟨"FairByEarModel", "has", "(II)Z"⟩, prog_14_method_4_code, 2, (some .boolean), true, 0, jx_C220)
def jx_C221 : List jx_El := [(0, 1, .iload_n 0, [0], [], none),
  (1, 3, .ifCond .eq 7, [8], [], none),
  (4, 1, .iconst 1, [], [.int 1], none),
  (5, 3, .goto 4, [9], [], none),
  (8, 1, .iconst 0, [], [.int 0], none),
  (9, 1, .ireturn, [], [], some [])]
def jx_M221 : jx_M := (⟨"FairByEarModel", "flag", "(Z)I"⟩, prog_14_method_5_code, 1, (some .int), true, 0, jx_C221)
def jx_C222 : List jx_El := [(0, 1, .aload_n 0, [0], [], none),
  (1, 3, .getfield 7, [2, 12], [], none),
  (4, 1, .aload_n 0, [0], [], none),
  (5, 3, .getfield 11, [1, 12], [], none),
  (8, 1, .lload_n 1, [1], [], none),
  (9, 1, .lastore, [], [], none),
  (10, 1, .aload_n 0, [0], [], none),
  (11, 1, .dup, [], [], none),
  (12, 3, .getfield 11, [1, 12], [], none),
  (15, 1, .iconst 1, [], [.int 1], none),
  (16, 1, .iadd, [], [], none),
  (17, 3, .putfield 11, [1, 12, 0], [], none),
  (20, 1, .return_, [], [], none)]
def jx_M222 : jx_M := (⟨"FairByEarModel", "enters", "(J)V"⟩, prog_14_method_6_code, 3, none, false, 0, jx_C222)
def jx_C223 : List jx_El := [(0, 1, .lload_n 0, [0], [], none),
  (1, 2, .lstore 4, [4], [], none),
  (3, 1, .lload_n 2, [2], [], none),
  (4, 2, .lstore 6, [6], [], none),
  (6, 2, .lload 6, [6], [], some [4, 6]),
  (8, 1, .lconst 0, [], [.long 0], none),
  (9, 1, .lcmp, [], [], none),
  (10, 3, .ifCond .eq 21, [31], [], none),
  (13, 2, .lload 4, [4], [], none),
  (15, 2, .lload 6, [6], [], none),
  (17, 1, .lrem, [], [], none),
  (18, 2, .lstore 8, [8], [], none),
  (20, 2, .lload 6, [6], [], none),
  (22, 2, .lstore 4, [4], [], none),
  (24, 2, .lload 8, [8], [], none),
  (26, 2, .lstore 6, [6], [], none),
  (28, 3, .goto (-22), [6], [], none),
  (31, 2, .lload 4, [4], [], none),
  (33, 1, .lreturn, [], [], none)]
def jx_M223 : jx_M := (⟨"FairByEarModel", "common", "(JJ)J"⟩, prog_14_method_7_code, 10, (some .long), true, 0, jx_C223)
def jx_C224 : List jx_El := [(0, 1, .lload_n 1, [1], [], none),
  (1, 1, .lload_n 3, [3], [], none),
  (2, 3, .invokestatic 14, [223, 0, 2, 2], [], none),
  (5, 2, .lstore 5, [5], [], none),
  (7, 1, .aload_n 0, [0], [], none),
  (8, 1, .lload_n 1, [1], [], none),
  (9, 2, .lload 5, [5], [], none),
  (11, 1, .ldiv, [], [], none),
  (12, 3, .invokevirtual 18, [222, 0, 0, 2, 12], [], none),
  (15, 1, .aload_n 0, [0], [], none),
  (16, 1, .lload_n 3, [3], [], none),
  (17, 2, .lload 5, [5], [], none),
  (19, 1, .ldiv, [], [], none),
  (20, 3, .invokevirtual 18, [222, 0, 0, 2, 12], [], none),
  (23, 1, .return_, [], [], none)]
def jx_M224 : jx_M := (⟨"FairByEarModel", "entersFraction", "(JJ)V"⟩, prog_14_method_8_code, 7, none, false, 1, jx_C224)
def jx_C225 : List jx_El := [(0, 1, .iload_n 0, [0], [], none),
  (1, 1, .i2l, [], [], none),
  (2, 1, .lconst 0, [], [.long 0], none),
  (3, 3, .ldc2_w 22, [], [.long 9], none),
  (6, 3, .invokestatic 24, [219, 0, 1, 3], [], none),
  (9, 1, .ireturn, [1], [], none)]
def jx_M225 : jx_M := (⟨"FairByEarModel", "isPlace", "(I)Z"⟩, prog_14_method_9_code, 1, (some .boolean), true, 1, jx_C225)
def jx_C226 : List jx_El := [(0, 1, .iload_n 1, [1], [], none),
  (1, 1, .i2l, [], [], none),
  (2, 1, .lconst 0, [], [.long 0], none),
  (3, 1, .aload_n 0, [0], [], none),
  (4, 3, .getfield 28, [6, 12], [], none),
  (7, 1, .iconst 1, [], [.int 1], none),
  (8, 1, .isub, [], [], none),
  (9, 1, .i2l, [], [], none),
  (10, 3, .invokestatic 24, [219, 0, 1, 3], [], none),
  (13, 1, .ireturn, [1], [], none)]
def jx_M226 : jx_M := (⟨"FairByEarModel", "isPerson", "(I)Z"⟩, prog_14_method_10_code, 2, (some .boolean), false, 1, jx_C226)
def jx_C227 : List jx_El := [(0, 1, .iload_n 1, [1], [], none),
  (1, 1, .iload_n 2, [2], [], none),
  (2, 3, .if_icmp .ne 7, [9], [], none),
  (5, 1, .iconst 0, [], [.int 0], none),
  (6, 3, .goto 34, [40], [], none),
  (9, 1, .aload_n 0, [0], [], none),
  (10, 3, .getfield 31, [4, 12], [], none),
  (13, 2, .bipush 10, [], [.int 10], none),
  (15, 1, .iload_n 1, [1], [], none),
  (16, 1, .imul, [], [], none),
  (17, 1, .iload_n 2, [2], [], none),
  (18, 1, .iadd, [], [], none),
  (19, 1, .iaload, [], [], none),
  (20, 3, .ifCond .ne 9, [29], [], none),
  (23, 3, .sipush 999, [], [.int 999], none),
  (26, 3, .goto 14, [40], [], none),
  (29, 1, .aload_n 0, [0], [], none),
  (30, 3, .getfield 31, [4, 12], [], none),
  (33, 2, .bipush 10, [], [.int 10], none),
  (35, 1, .iload_n 1, [1], [], none),
  (36, 1, .imul, [], [], none),
  (37, 1, .iload_n 2, [2], [], none),
  (38, 1, .iadd, [], [], none),
  (39, 1, .iaload, [], [], none),
  (40, 1, .ireturn, [], [], some [])]
def jx_M227 : jx_M := (⟨"FairByEarModel", "farOf", "(II)I"⟩, prog_14_method_11_code, 3, (some .int), false, 0, jx_C227)
def jx_C228 : List jx_El := [(0, 1, .iload_n 1, [1], [], none),
  (1, 1, .iload_n 2, [2], [], none),
  (2, 3, .if_icmp .eq 37, [39], [], none),
  (5, 1, .iload_n 3, [3], [], none),
  (6, 1, .aload_n 0, [0], [], none),
  (7, 1, .iload_n 1, [1], [], none),
  (8, 1, .iload_n 2, [2], [], none),
  (9, 3, .invokevirtual 35, [227, 0, 1, 3, 12], [], none),
  (12, 3, .if_icmp .ge 27, [39], [], none),
  (15, 1, .aload_n 0, [0], [], none),
  (16, 3, .getfield 31, [4, 12], [], none),
  (19, 2, .bipush 10, [], [.int 10], none),
  (21, 1, .iload_n 1, [1], [], none),
  (22, 1, .imul, [], [], none),
  (23, 1, .iload_n 2, [2], [], none),
  (24, 1, .iadd, [], [], none),
  (25, 1, .iload_n 3, [3], [], none),
  (26, 1, .iastore, [], [], none),
  (27, 1, .aload_n 0, [0], [], none),
  (28, 3, .getfield 31, [4, 12], [], none),
  (31, 2, .bipush 10, [], [.int 10], none),
  (33, 1, .iload_n 2, [2], [], none),
  (34, 1, .imul, [], [], none),
  (35, 1, .iload_n 1, [1], [], none),
  (36, 1, .iadd, [], [], none),
  (37, 1, .iload_n 3, [3], [], none),
  (38, 1, .iastore, [], [], none),
  (39, 1, .return_, [], [], some [])]
def jx_M228 : jx_M := (⟨"FairByEarModel", "shortens", "(III)V"⟩, prog_14_method_12_code, 4, none, false, 1, jx_C228)
def jx_C229 : List jx_El := [(0, 1, .aload_n 0, [0], [], none),
  (1, 1, .iconst 0, [], [.int 0], none),
  (2, 3, .putfield 3, [0, 12, 0], [], none),
  (5, 1, .iload_n 1, [1], [], none),
  (6, 3, .invokestatic 39, [225, 0, 1, 1], [], none),
  (9, 3, .ifCond .eq 36, [45], [], none),
  (12, 1, .iload_n 2, [2], [], none),
  (13, 3, .invokestatic 39, [225, 0, 1, 1], [], none),
  (16, 3, .ifCond .eq 29, [45], [], none),
  (19, 1, .iload_n 1, [1], [], none),
  (20, 1, .iload_n 2, [2], [], none),
  (21, 3, .if_icmp .eq 24, [45], [], none),
  (24, 1, .iload_n 3, [3], [], none),
  (25, 1, .i2l, [], [], none),
  (26, 1, .lconst 1, [], [.long 1], none),
  (27, 3, .ldc2_w 43, [], [.long 20], none),
  (30, 3, .invokestatic 24, [219, 0, 1, 3], [], none),
  (33, 3, .ifCond .eq 12, [45], [], none),
  (36, 1, .aload_n 0, [0], [], none),
  (37, 3, .getfield 45, [3, 12], [], none),
  (40, 2, .bipush 16, [], [.int 16], none),
  (42, 3, .if_icmp .ne 5, [47], [], none),
  (45, 1, .iconst (-1), [], [.int (-1)], some []),
  (46, 1, .ireturn, [], [], none),
  (47, 1, .aload_n 0, [0], [], none),
  (48, 1, .iload_n 1, [1], [], none),
  (49, 1, .iload_n 2, [2], [], none),
  (50, 1, .iload_n 3, [3], [], none),
  (51, 3, .invokevirtual 48, [228, 0, 0, 4, 12], [], none),
  (54, 1, .iconst 0, [], [.int 0], none),
  (55, 2, .istore 4, [4], [], none),
  (57, 2, .iload 4, [4], [], some [0, 4]),
  (59, 2, .bipush 10, [], [.int 10], none),
  (61, 3, .if_icmp .ge 66, [127], [], none),
  (64, 1, .iconst 0, [], [.int 0], none),
  (65, 2, .istore 5, [5], [], none),
  (67, 2, .iload 5, [5], [], some [0, 4, 5]),
  (69, 2, .bipush 10, [], [.int 10], none),
  (71, 3, .if_icmp .ge 50, [121], [], none),
  (74, 1, .iconst 0, [], [.int 0], none),
  (75, 2, .istore 6, [6], [], none),
  (77, 2, .iload 6, [6], [], some [0, 4, 5, 6]),
  (79, 2, .bipush 10, [], [.int 10], none),
  (81, 3, .if_icmp .ge 34, [115], [], none),
  (84, 1, .aload_n 0, [0], [], none),
  (85, 2, .iload 5, [5], [], none),
  (87, 2, .iload 6, [6], [], none),
  (89, 1, .aload_n 0, [0], [], none),
  (90, 2, .iload 5, [5], [], none),
  (92, 2, .iload 4, [4], [], none),
  (94, 3, .invokevirtual 35, [227, 0, 1, 3, 12], [], none),
  (97, 1, .aload_n 0, [0], [], none),
  (98, 2, .iload 4, [4], [], none),
  (100, 2, .iload 6, [6], [], none),
  (102, 3, .invokevirtual 35, [227, 0, 1, 3, 12], [], none),
  (105, 1, .iadd, [], [], none),
  (106, 3, .invokevirtual 48, [228, 0, 0, 4, 12], [], none),
  (109, 3, .iinc 6 1, [6], [.int 1], none),
  (112, 3, .goto (-35), [77], [], none),
  (115, 3, .iinc 5 1, [5], [.int 1], none),
  (118, 3, .goto (-51), [67], [], none),
  (121, 3, .iinc 4 1, [4], [.int 1], none),
  (124, 3, .goto (-67), [57], [], none),
  (127, 1, .aload_n 0, [0], [], none),
  (128, 1, .dup, [], [], none),
  (129, 3, .getfield 45, [3, 12], [], none),
  (132, 1, .iconst 1, [], [.int 1], none),
  (133, 1, .iadd, [], [], none),
  (134, 3, .putfield 45, [3, 12, 0], [], none),
  (137, 1, .aload_n 0, [0], [], none),
  (138, 3, .getfield 45, [3, 12], [], none),
  (141, 1, .iconst 1, [], [.int 1], none),
  (142, 1, .isub, [], [], none),
  (143, 1, .ireturn, [], [], none)]
def jx_M229 : jx_M := (⟨"FairByEarModel", "tunnel", "(III)I"⟩, prog_14_method_13_code, 7, (some .int), false, 2, jx_C229)
def jx_C230 : List jx_El := [(0, 1, .aload_n 0, [0], [], none),
  (1, 1, .iconst 0, [], [.int 0], none),
  (2, 3, .putfield 3, [0, 12, 0], [], none),
  (5, 1, .iload_n 1, [1], [], none),
  (6, 3, .invokestatic 39, [225, 0, 1, 1], [], none),
  (9, 3, .ifCond .eq 15, [24], [], none),
  (12, 1, .iload_n 2, [2], [], none),
  (13, 1, .i2l, [], [], none),
  (14, 1, .lconst 0, [], [.long 0], none),
  (15, 3, .ldc2_w 43, [], [.long 20], none),
  (18, 3, .invokestatic 24, [219, 0, 1, 3], [], none),
  (21, 3, .ifCond .ne 5, [26], [], none),
  (24, 1, .iconst (-1), [], [.int (-1)], some []),
  (25, 1, .ireturn, [], [], none),
  (26, 1, .aload_n 0, [0], [], none),
  (27, 3, .getfield 52, [5, 12], [], none),
  (30, 1, .iload_n 1, [1], [], none),
  (31, 1, .iaload, [], [], none),
  (32, 1, .istore_n 3, [3], [], none),
  (33, 1, .aload_n 0, [0], [], none),
  (34, 3, .getfield 52, [5, 12], [], none),
  (37, 1, .iload_n 1, [1], [], none),
  (38, 1, .iload_n 2, [2], [], none),
  (39, 1, .iastore, [], [], none),
  (40, 1, .iload_n 3, [3], [], none),
  (41, 1, .ireturn, [], [], none)]
def jx_M230 : jx_M := (⟨"FairByEarModel", "wall", "(II)I"⟩, prog_14_method_14_code, 4, (some .int), false, 2, jx_C230)
def jx_C231 : List jx_El := [(0, 1, .aload_n 0, [0], [], none),
  (1, 1, .iconst 0, [], [.int 0], none),
  (2, 3, .putfield 3, [0, 12, 0], [], none),
  (5, 1, .iload_n 1, [1], [], none),
  (6, 3, .invokestatic 39, [225, 0, 1, 1], [], none),
  (9, 3, .ifCond .eq 19, [28], [], none),
  (12, 1, .iload_n 2, [2], [], none),
  (13, 3, .invokestatic 39, [225, 0, 1, 1], [], none),
  (16, 3, .ifCond .eq 12, [28], [], none),
  (19, 1, .aload_n 0, [0], [], none),
  (20, 1, .iload_n 1, [1], [], none),
  (21, 1, .iload_n 2, [2], [], none),
  (22, 3, .invokevirtual 35, [227, 0, 1, 3, 12], [], none),
  (25, 3, .goto 4, [29], [], none),
  (28, 1, .iconst (-1), [], [.int (-1)], some []),
  (29, 1, .ireturn, [], [], some [])]
def jx_M231 : jx_M := (⟨"FairByEarModel", "far", "(II)I"⟩, prog_14_method_15_code, 3, (some .int), false, 2, jx_C231)
def jx_C232 : List jx_El := [(0, 1, .aload_n 0, [0], [], none),
  (1, 1, .iconst 0, [], [.int 0], none),
  (2, 3, .putfield 3, [0, 12, 0], [], none),
  (5, 1, .iload_n 1, [1], [], none),
  (6, 3, .invokestatic 39, [225, 0, 1, 1], [], none),
  (9, 3, .ifCond .eq 36, [45], [], none),
  (12, 1, .iload_n 2, [2], [], none),
  (13, 1, .i2l, [], [], none),
  (14, 1, .lconst 0, [], [.long 0], none),
  (15, 3, .ldc2_w 55, [], [.long 999], none),
  (18, 3, .invokestatic 24, [219, 0, 1, 3], [], none),
  (21, 3, .ifCond .eq 24, [45], [], none),
  (24, 1, .iload_n 3, [3], [], none),
  (25, 1, .i2l, [], [], none),
  (26, 1, .lconst 0, [], [.long 0], none),
  (27, 3, .ldc2_w 22, [], [.long 9], none),
  (30, 3, .invokestatic 24, [219, 0, 1, 3], [], none),
  (33, 3, .ifCond .eq 12, [45], [], none),
  (36, 1, .aload_n 0, [0], [], none),
  (37, 3, .getfield 28, [6, 12], [], none),
  (40, 2, .bipush 8, [], [.int 8], none),
  (42, 3, .if_icmp .ne 5, [47], [], none),
  (45, 1, .iconst (-1), [], [.int (-1)], some []),
  (46, 1, .ireturn, [], [], none),
  (47, 1, .aload_n 0, [0], [], none),
  (48, 3, .getfield 57, [7, 12], [], none),
  (51, 1, .aload_n 0, [0], [], none),
  (52, 3, .getfield 28, [6, 12], [], none),
  (55, 1, .iload_n 1, [1], [], none),
  (56, 1, .iastore, [], [], none),
  (57, 1, .aload_n 0, [0], [], none),
  (58, 3, .getfield 60, [8, 12], [], none),
  (61, 1, .aload_n 0, [0], [], none),
  (62, 3, .getfield 28, [6, 12], [], none),
  (65, 1, .iload_n 2, [2], [], none),
  (66, 1, .iastore, [], [], none),
  (67, 1, .aload_n 0, [0], [], none),
  (68, 3, .getfield 63, [9, 12], [], none),
  (71, 1, .aload_n 0, [0], [], none),
  (72, 3, .getfield 28, [6, 12], [], none),
  (75, 1, .iload_n 3, [3], [], none),
  (76, 1, .iastore, [], [], none),
  (77, 1, .aload_n 0, [0], [], none),
  (78, 1, .dup, [], [], none),
  (79, 3, .getfield 28, [6, 12], [], none),
  (82, 1, .iconst 1, [], [.int 1], none),
  (83, 1, .iadd, [], [], none),
  (84, 3, .putfield 28, [6, 12, 0], [], none),
  (87, 1, .aload_n 0, [0], [], none),
  (88, 3, .getfield 28, [6, 12], [], none),
  (91, 1, .iconst 1, [], [.int 1], none),
  (92, 1, .isub, [], [], none),
  (93, 1, .ireturn, [], [], none)]
def jx_M232 : jx_M := (⟨"FairByEarModel", "person", "(III)I"⟩, prog_14_method_16_code, 4, (some .int), false, 2, jx_C232)
def jx_C233 : List jx_El := [(0, 1, .aload_n 0, [0], [], none),
  (1, 1, .iconst 0, [], [.int 0], none),
  (2, 3, .putfield 3, [0, 12, 0], [], none),
  (5, 1, .aload_n 0, [0], [], none),
  (6, 1, .iload_n 1, [1], [], none),
  (7, 3, .invokevirtual 66, [226, 0, 1, 2, 12], [], none),
  (10, 3, .ifCond .eq 10, [20], [], none),
  (13, 1, .iload_n 2, [2], [], none),
  (14, 3, .invokestatic 39, [225, 0, 1, 1], [], none),
  (17, 3, .ifCond .ne 5, [22], [], none),
  (20, 1, .iconst (-1), [], [.int (-1)], some []),
  (21, 1, .ireturn, [], [], none),
  (22, 1, .aload_n 0, [0], [], none),
  (23, 1, .aload_n 0, [0], [], none),
  (24, 3, .getfield 57, [7, 12], [], none),
  (27, 1, .iload_n 1, [1], [], none),
  (28, 1, .iaload, [], [], none),
  (29, 1, .iload_n 2, [2], [], none),
  (30, 3, .invokevirtual 35, [227, 0, 1, 3, 12], [], none),
  (33, 1, .istore_n 3, [3], [], none),
  (34, 1, .iload_n 3, [3], [], none),
  (35, 3, .sipush 999, [], [.int 999], none),
  (38, 3, .if_icmp .ne 6, [44], [], none),
  (41, 2, .bipush (-2), [], [.int (-2)], none),
  (43, 1, .ireturn, [], [], none),
  (44, 1, .aload_n 0, [0], [], none),
  (45, 3, .getfield 57, [7, 12], [], none),
  (48, 1, .iload_n 1, [1], [], none),
  (49, 1, .iload_n 2, [2], [], none),
  (50, 1, .iastore, [], [], none),
  (51, 1, .iload_n 3, [3], [], none),
  (52, 1, .ireturn, [], [], none)]
def jx_M233 : jx_M := (⟨"FairByEarModel", "walk", "(II)I"⟩, prog_14_method_17_code, 4, (some .int), false, 2, jx_C233)
def jx_C234 : List jx_El := [(0, 1, .aload_n 0, [0], [], none),
  (1, 1, .iconst 0, [], [.int 0], none),
  (2, 3, .putfield 3, [0, 12, 0], [], none),
  (5, 1, .aload_n 0, [0], [], none),
  (6, 1, .iload_n 1, [1], [], none),
  (7, 3, .invokevirtual 66, [226, 0, 1, 2, 12], [], none),
  (10, 3, .ifCond .eq 15, [25], [], none),
  (13, 1, .iload_n 2, [2], [], none),
  (14, 1, .i2l, [], [], none),
  (15, 1, .lconst 0, [], [.long 0], none),
  (16, 3, .ldc2_w 69, [], [.long 2], none),
  (19, 3, .invokestatic 24, [219, 0, 1, 3], [], none),
  (22, 3, .ifCond .ne 8, [30], [], none),
  (25, 1, .aload_n 0, [0], [], some [0]),
  (26, 3, .invokevirtual 71, [218, 0, 1, 1, 12], [], none),
  (29, 1, .ireturn, [], [], none),
  (30, 1, .iload_n 2, [2], [], none),
  (31, 3, .ifCond .ne 12, [43], [], none),
  (34, 1, .aload_n 0, [0], [], none),
  (35, 3, .getfield 57, [7, 12], [], none),
  (38, 1, .iload_n 1, [1], [], none),
  (39, 1, .iaload, [], [], none),
  (40, 3, .goto 23, [63], [], none),
  (43, 1, .iload_n 2, [2], [], none),
  (44, 1, .iconst 1, [], [.int 1], none),
  (45, 3, .if_icmp .ne 12, [57], [], none),
  (48, 1, .aload_n 0, [0], [], none),
  (49, 3, .getfield 60, [8, 12], [], none),
  (52, 1, .iload_n 1, [1], [], none),
  (53, 1, .iaload, [], [], none),
  (54, 3, .goto 9, [63], [], none),
  (57, 1, .aload_n 0, [0], [], none),
  (58, 3, .getfield 63, [9, 12], [], none),
  (61, 1, .iload_n 1, [1], [], none),
  (62, 1, .iaload, [], [], none),
  (63, 1, .ireturn, [], [], some [])]
def jx_M234 : jx_M := (⟨"FairByEarModel", "of", "(II)I"⟩, prog_14_method_18_code, 3, (some .int), false, 2, jx_C234)
def jx_C235 : List jx_El := [(0, 1, .iload_n 1, [1], [], none),
  (1, 1, .i2l, [], [], none),
  (2, 1, .lconst 0, [], [.long 0], none),
  (3, 1, .aload_n 0, [0], [], none),
  (4, 3, .getfield 75, [10, 12], [], none),
  (7, 1, .iconst 1, [], [.int 1], none),
  (8, 1, .isub, [], [], none),
  (9, 1, .i2l, [], [], none),
  (10, 3, .invokestatic 24, [219, 0, 1, 3], [], none),
  (13, 1, .ireturn, [1], [], none)]
def jx_M235 : jx_M := (⟨"FairByEarModel", "isGood", "(I)Z"⟩, prog_14_method_19_code, 2, (some .boolean), false, 1, jx_C235)
def jx_C236 : List jx_El := [(0, 1, .iload_n 1, [1], [], none),
  (1, 1, .i2l, [], [], none),
  (2, 1, .lconst 0, [], [.long 0], none),
  (3, 1, .aload_n 0, [0], [], none),
  (4, 3, .getfield 78, [12, 12], [], none),
  (7, 1, .iconst 1, [], [.int 1], none),
  (8, 1, .isub, [], [], none),
  (9, 1, .i2l, [], [], none),
  (10, 3, .invokestatic 24, [219, 0, 1, 3], [], none),
  (13, 1, .ireturn, [1], [], none)]
def jx_M236 : jx_M := (⟨"FairByEarModel", "isTest", "(I)Z"⟩, prog_14_method_20_code, 2, (some .boolean), false, 1, jx_C236)
def jx_C237 : List jx_El := [(0, 1, .iload_n 1, [1], [], none),
  (1, 1, .i2l, [], [], none),
  (2, 1, .lconst 1, [], [.long 1], none),
  (3, 1, .iconst 1, [], [.int 1], none),
  (4, 1, .aload_n 0, [0], [], none),
  (5, 3, .getfield 75, [10, 12], [], none),
  (8, 1, .ishl, [], [], none),
  (9, 1, .iconst 1, [], [.int 1], none),
  (10, 1, .isub, [], [], none),
  (11, 1, .i2l, [], [], none),
  (12, 3, .invokestatic 24, [219, 0, 1, 3], [], none),
  (15, 1, .ireturn, [1], [], none)]
def jx_M237 : jx_M := (⟨"FairByEarModel", "areGoods", "(I)Z"⟩, prog_14_method_21_code, 2, (some .boolean), false, 1, jx_C237)
def jx_C238 : List jx_El := [(0, 1, .iload_n 1, [1], [], none),
  (1, 1, .i2l, [], [], none),
  (2, 1, .lconst 0, [], [.long 0], none),
  (3, 1, .iconst 1, [], [.int 1], none),
  (4, 1, .aload_n 0, [0], [], none),
  (5, 3, .getfield 78, [12, 12], [], none),
  (8, 1, .ishl, [], [], none),
  (9, 1, .iconst 1, [], [.int 1], none),
  (10, 1, .isub, [], [], none),
  (11, 1, .i2l, [], [], none),
  (12, 3, .invokestatic 24, [219, 0, 1, 3], [], none),
  (15, 1, .ireturn, [1], [], none)]
def jx_M238 : jx_M := (⟨"FairByEarModel", "areTests", "(I)Z"⟩, prog_14_method_22_code, 2, (some .boolean), false, 1, jx_C238)
def jx_C239 : List jx_El := [(0, 1, .aload_n 0, [0], [], none),
  (1, 1, .iconst 0, [], [.int 0], none),
  (2, 3, .putfield 3, [0, 12, 0], [], none),
  (5, 1, .iload_n 1, [1], [], none),
  (6, 1, .i2l, [], [], none),
  (7, 1, .lconst 1, [], [.long 1], none),
  (8, 3, .ldc2_w 22, [], [.long 9], none),
  (11, 3, .invokestatic 24, [219, 0, 1, 3], [], none),
  (14, 3, .ifCond .eq 12, [26], [], none),
  (17, 1, .aload_n 0, [0], [], none),
  (18, 3, .getfield 75, [10, 12], [], none),
  (21, 2, .bipush 10, [], [.int 10], none),
  (23, 3, .if_icmp .ne 5, [28], [], none),
  (26, 1, .iconst (-1), [], [.int (-1)], some []),
  (27, 1, .ireturn, [], [], none),
  (28, 1, .aload_n 0, [0], [], none),
  (29, 3, .getfield 81, [11, 12], [], none),
  (32, 1, .aload_n 0, [0], [], none),
  (33, 3, .getfield 75, [10, 12], [], none),
  (36, 1, .iload_n 1, [1], [], none),
  (37, 1, .iastore, [], [], none),
  (38, 1, .aload_n 0, [0], [], none),
  (39, 1, .dup, [], [], none),
  (40, 3, .getfield 75, [10, 12], [], none),
  (43, 1, .iconst 1, [], [.int 1], none),
  (44, 1, .iadd, [], [], none),
  (45, 3, .putfield 75, [10, 12, 0], [], none),
  (48, 1, .aload_n 0, [0], [], none),
  (49, 3, .getfield 75, [10, 12], [], none),
  (52, 1, .iconst 1, [], [.int 1], none),
  (53, 1, .isub, [], [], none),
  (54, 1, .ireturn, [], [], none)]
def jx_M239 : jx_M := (⟨"FairByEarModel", "good", "(I)I"⟩, prog_14_method_23_code, 2, (some .int), false, 1, jx_C239)
def jx_C240 : List jx_El := [(0, 1, .aload_n 0, [0], [], none),
  (1, 1, .iconst 0, [], [.int 0], none),
  (2, 3, .putfield 3, [0, 12, 0], [], none),
  (5, 1, .iload_n 1, [1], [], none),
  (6, 1, .i2l, [], [], none),
  (7, 1, .lconst 1, [], [.long 1], none),
  (8, 3, .ldc2_w 22, [], [.long 9], none),
  (11, 3, .invokestatic 24, [219, 0, 1, 3], [], none),
  (14, 3, .ifCond .eq 12, [26], [], none),
  (17, 1, .aload_n 0, [0], [], none),
  (18, 3, .getfield 78, [12, 12], [], none),
  (21, 2, .bipush 6, [], [.int 6], none),
  (23, 3, .if_icmp .ne 5, [28], [], none),
  (26, 1, .iconst (-1), [], [.int (-1)], some []),
  (27, 1, .ireturn, [], [], none),
  (28, 1, .aload_n 0, [0], [], none),
  (29, 3, .getfield 84, [13, 12], [], none),
  (32, 1, .aload_n 0, [0], [], none),
  (33, 3, .getfield 78, [12, 12], [], none),
  (36, 1, .iload_n 1, [1], [], none),
  (37, 1, .iastore, [], [], none),
  (38, 1, .aload_n 0, [0], [], none),
  (39, 1, .dup, [], [], none),
  (40, 3, .getfield 78, [12, 12], [], none),
  (43, 1, .iconst 1, [], [.int 1], none),
  (44, 1, .iadd, [], [], none),
  (45, 3, .putfield 78, [12, 12, 0], [], none),
  (48, 1, .aload_n 0, [0], [], none),
  (49, 3, .getfield 78, [12, 12], [], none),
  (52, 1, .iconst 1, [], [.int 1], none),
  (53, 1, .isub, [], [], none),
  (54, 1, .ireturn, [], [], none)]
def jx_M240 : jx_M := (⟨"FairByEarModel", "test", "(I)I"⟩, prog_14_method_24_code, 2, (some .int), false, 1, jx_C240)
def jx_C241 : List jx_El := [(0, 1, .aload_n 0, [0], [], none),
  (1, 3, .getfield 87, [14, 12], [], none),
  (4, 2, .bipush 6, [], [.int 6], none),
  (6, 1, .iload_n 1, [1], [], none),
  (7, 1, .imul, [], [], none),
  (8, 1, .iload_n 2, [2], [], none),
  (9, 1, .iadd, [], [], none),
  (10, 1, .iaload, [], [], none),
  (11, 1, .ireturn, [], [], none)]
def jx_M241 : jx_M := (⟨"FairByEarModel", "answerOf", "(II)I"⟩, prog_14_method_25_code, 3, (some .int), false, 0, jx_C241)
def jx_C242 : List jx_El := [(0, 1, .aload_n 0, [0], [], none),
  (1, 1, .iconst 0, [], [.int 0], none),
  (2, 3, .putfield 3, [0, 12, 0], [], none),
  (5, 1, .aload_n 0, [0], [], none),
  (6, 1, .iload_n 1, [1], [], none),
  (7, 3, .invokevirtual 90, [235, 0, 1, 2, 12], [], none),
  (10, 3, .ifCond .eq 23, [33], [], none),
  (13, 1, .aload_n 0, [0], [], none),
  (14, 1, .iload_n 2, [2], [], none),
  (15, 3, .invokevirtual 93, [236, 0, 1, 2, 12], [], none),
  (18, 3, .ifCond .eq 15, [33], [], none),
  (21, 1, .iload_n 3, [3], [], none),
  (22, 1, .i2l, [], [], none),
  (23, 1, .lconst 0, [], [.long 0], none),
  (24, 3, .ldc2_w 22, [], [.long 9], none),
  (27, 3, .invokestatic 24, [219, 0, 1, 3], [], none),
  (30, 3, .ifCond .ne 5, [35], [], none),
  (33, 1, .iconst (-1), [], [.int (-1)], some []),
  (34, 1, .ireturn, [], [], none),
  (35, 1, .aload_n 0, [0], [], none),
  (36, 1, .iload_n 1, [1], [], none),
  (37, 1, .iload_n 2, [2], [], none),
  (38, 3, .invokevirtual 96, [241, 0, 1, 3, 12], [], none),
  (41, 2, .istore 4, [4], [], none),
  (43, 1, .aload_n 0, [0], [], none),
  (44, 3, .getfield 87, [14, 12], [], none),
  (47, 2, .bipush 6, [], [.int 6], none),
  (49, 1, .iload_n 1, [1], [], none),
  (50, 1, .imul, [], [], none),
  (51, 1, .iload_n 2, [2], [], none),
  (52, 1, .iadd, [], [], none),
  (53, 1, .iload_n 3, [3], [], none),
  (54, 1, .iastore, [], [], none),
  (55, 2, .iload 4, [4], [], none),
  (57, 1, .ireturn, [], [], none)]
def jx_M242 : jx_M := (⟨"FairByEarModel", "answer", "(III)I"⟩, prog_14_method_26_code, 5, (some .int), false, 2, jx_C242)
def jx_C243 : List jx_El := [(0, 1, .aload_n 0, [0], [], none),
  (1, 1, .iconst 0, [], [.int 0], none),
  (2, 3, .putfield 3, [0, 12, 0], [], none),
  (5, 1, .aload_n 0, [0], [], none),
  (6, 1, .iload_n 1, [1], [], none),
  (7, 3, .invokevirtual 93, [236, 0, 1, 2, 12], [], none),
  (10, 3, .ifCond .eq 21, [31], [], none),
  (13, 1, .iload_n 2, [2], [], none),
  (14, 1, .i2l, [], [], none),
  (15, 1, .lconst 0, [], [.long 0], none),
  (16, 3, .ldc2_w 99, [], [.long 3], none),
  (19, 3, .invokestatic 24, [219, 0, 1, 3], [], none),
  (22, 3, .ifCond .eq 9, [31], [], none),
  (25, 1, .iload_n 3, [3], [], none),
  (26, 2, .bipush 10, [], [.int 10], none),
  (28, 3, .if_icmp .le 5, [33], [], none),
  (31, 1, .iconst (-1), [], [.int (-1)], some []),
  (32, 1, .ireturn, [], [], none),
  (33, 1, .iload_n 2, [2], [], none),
  (34, 1, .iconst 3, [], [.int 3], none),
  (35, 3, .if_icmp .eq 10, [45], [], none),
  (38, 1, .iload_n 3, [3], [], none),
  (39, 3, .ifCond .ge 6, [45], [], none),
  (42, 2, .bipush (-2), [], [.int (-2)], none),
  (44, 1, .ireturn, [], [], none),
  (45, 1, .iconst 0, [], [.int 0], some [0, 1, 2, 3, 4, 5]),
  (46, 2, .istore 6, [6], [], none),
  (48, 2, .iload 4, [4], [], none),
  (50, 2, .istore 7, [7], [], none),
  (52, 1, .iconst 0, [], [.int 0], none),
  (53, 2, .istore 8, [8], [], none),
  (55, 2, .iload 8, [8], [], some [0, 1, 2, 3, 5, 6, 7, 8]),
  (57, 1, .aload_n 0, [0], [], none),
  (58, 3, .getfield 75, [10, 12], [], none),
  (61, 3, .if_icmp .ge 91, [152], [], none),
  (64, 1, .iload_n 2, [2], [], none),
  (65, 3, .ifCond .ne 9, [74], [], none),
  (68, 2, .iload 7, [7], [], none),
  (70, 1, .i2b, [], [], none),
  (71, 3, .goto 16, [87], [], none),
  (74, 1, .iload_n 2, [2], [], none),
  (75, 1, .iconst 1, [], [.int 1], none),
  (76, 3, .if_icmp .ne 9, [85], [], none),
  (79, 2, .iload 7, [7], [], none),
  (81, 1, .i2s, [], [], none),
  (82, 3, .goto 5, [87], [], none),
  (85, 2, .iload 7, [7], [], none),
  (87, 2, .istore 9, [9], [], some [0, 1, 2, 3, 5, 6, 7, 8]),
  (89, 1, .aload_n 0, [0], [], none),
  (90, 3, .getfield 87, [14, 12], [], none),
  (93, 2, .bipush 6, [], [.int 6], none),
  (95, 2, .iload 8, [8], [], none),
  (97, 1, .imul, [], [], none),
  (98, 1, .iload_n 1, [1], [], none),
  (99, 1, .iadd, [], [], none),
  (100, 1, .iload_n 2, [2], [], none),
  (101, 1, .iconst 3, [], [.int 3], none),
  (102, 3, .if_icmp .eq 9, [111], [], none),
  (105, 2, .iload 8, [8], [], none),
  (107, 1, .iload_n 3, [3], [], none),
  (108, 3, .if_icmp .lt 7, [115], [], none),
  (111, 1, .iconst 0, [], [.int 0], some [0, 1, 2, 3, 5, 6, 7, 8]),
  (112, 3, .goto 14, [126], [], none),
  (115, 1, .iconst 0, [], [.int 0], none),
  (116, 2, .bipush 9, [], [.int 9], none),
  (118, 2, .iload 9, [9], [], none),
  (120, 3, .invokestatic 101, [2, 0, 1, 2], [], none),
  (123, 3, .invokestatic 106, [1, 0, 1, 2], [], none),
  (126, 1, .iastore, [], [], some [0, 1, 2, 3, 5, 6, 7, 8]),
  (127, 2, .iload 6, [6], [], none),
  (129, 1, .aload_n 0, [0], [], none),
  (130, 2, .iload 8, [8], [], none),
  (132, 1, .iload_n 1, [1], [], none),
  (133, 3, .invokevirtual 96, [241, 0, 1, 3, 12], [], none),
  (136, 1, .iadd, [], [], none),
  (137, 2, .istore 6, [6], [], none),
  (139, 2, .iload 7, [7], [], none),
  (141, 2, .iload 5, [5], [], none),
  (143, 1, .iadd, [], [], none),
  (144, 2, .istore 7, [7], [], none),
  (146, 3, .iinc 8 1, [8], [.int 1], none),
  (149, 3, .goto (-94), [55], [], none),
  (152, 1, .iload_n 2, [2], [], none),
  (153, 1, .iconst 3, [], [.int 3], none),
  (154, 3, .if_icmp .ne 8, [162], [], none),
  (157, 2, .bipush (-3), [], [.int (-3)], none),
  (159, 3, .goto 5, [164], [], none),
  (162, 2, .iload 6, [6], [], none),
  (164, 1, .ireturn, [], [], some [])]
def jx_M243 : jx_M := (⟨"FairByEarModel", "sheet", "(IIIII)I"⟩, prog_14_method_27_code, 10, (some .int), false, 2, jx_C243)
def jx_C244 : List jx_El := [(0, 1, .iconst 0, [], [.int 0], none),
  (1, 1, .istore_n 3, [3], [], none),
  (2, 1, .iconst 0, [], [.int 0], none),
  (3, 2, .istore 4, [4], [], none),
  (5, 2, .iload 4, [4], [], some [0, 1, 2, 3, 4]),
  (7, 1, .aload_n 0, [0], [], none),
  (8, 3, .getfield 78, [12, 12], [], none),
  (11, 3, .if_icmp .ge 37, [48], [], none),
  (14, 1, .iload_n 3, [3], [], none),
  (15, 1, .aload_n 0, [0], [], none),
  (16, 1, .iload_n 1, [1], [], none),
  (17, 2, .iload 4, [4], [], none),
  (19, 3, .invokevirtual 96, [241, 0, 1, 3, 12], [], none),
  (22, 1, .aload_n 0, [0], [], none),
  (23, 1, .iload_n 2, [2], [], none),
  (24, 2, .iload 4, [4], [], none),
  (26, 3, .invokevirtual 96, [241, 0, 1, 3, 12], [], none),
  (29, 3, .if_icmp .eq 10, [39], [], none),
  (32, 1, .iconst 1, [], [.int 1], none),
  (33, 2, .iload 4, [4], [], none),
  (35, 1, .ishl, [], [], none),
  (36, 3, .goto 4, [40], [], none),
  (39, 1, .iconst 0, [], [.int 0], none),
  (40, 1, .ior, [], [], some [0, 1, 2, 4]),
  (41, 1, .istore_n 3, [3], [], none),
  (42, 3, .iinc 4 1, [4], [.int 1], none),
  (45, 3, .goto (-40), [5], [], none),
  (48, 1, .iload_n 3, [3], [], none),
  (49, 1, .ireturn, [], [], none)]
def jx_M244 : jx_M := (⟨"FairByEarModel", "partedBy", "(II)I"⟩, prog_14_method_28_code, 5, (some .int), false, 1, jx_C244)
def jx_C245 : List jx_El := [(0, 1, .aload_n 0, [0], [], none),
  (1, 1, .iconst 0, [], [.int 0], none),
  (2, 3, .putfield 3, [0, 12, 0], [], none),
  (5, 1, .aload_n 0, [0], [], none),
  (6, 1, .iload_n 1, [1], [], none),
  (7, 3, .invokevirtual 90, [235, 0, 1, 2, 12], [], none),
  (10, 3, .ifCond .eq 20, [30], [], none),
  (13, 1, .aload_n 0, [0], [], none),
  (14, 1, .iload_n 2, [2], [], none),
  (15, 3, .invokevirtual 90, [235, 0, 1, 2, 12], [], none),
  (18, 3, .ifCond .eq 12, [30], [], none),
  (21, 1, .aload_n 0, [0], [], none),
  (22, 1, .iload_n 1, [1], [], none),
  (23, 1, .iload_n 2, [2], [], none),
  (24, 3, .invokevirtual 109, [244, 0, 1, 3, 12], [], none),
  (27, 3, .goto 4, [31], [], none),
  (30, 1, .iconst (-1), [], [.int (-1)], some []),
  (31, 1, .ireturn, [], [], some [])]
def jx_M245 : jx_M := (⟨"FairByEarModel", "apart", "(II)I"⟩, prog_14_method_29_code, 3, (some .int), false, 2, jx_C245)
def jx_C246 : List jx_El := [(0, 1, .iconst 0, [], [.int 0], none),
  (1, 2, .istore 4, [4], [], none),
  (3, 1, .iconst 0, [], [.int 0], none),
  (4, 2, .istore 5, [5], [], none),
  (6, 2, .iload 5, [5], [], some [0, 1, 2, 3, 4, 5]),
  (8, 1, .aload_n 0, [0], [], none),
  (9, 3, .getfield 75, [10, 12], [], none),
  (12, 3, .if_icmp .ge 48, [60], [], none),
  (15, 2, .iload 4, [4], [], none),
  (17, 3, .ifCond .ne 30, [47], [], none),
  (20, 2, .iload 5, [5], [], none),
  (22, 1, .iload_n 1, [1], [], none),
  (23, 3, .if_icmp .eq 28, [51], [], none),
  (26, 1, .iload_n 2, [2], [], none),
  (27, 2, .iload 5, [5], [], none),
  (29, 3, .invokestatic 112, [220, 0, 1, 2], [], none),
  (32, 3, .ifCond .eq 19, [51], [], none),
  (35, 1, .aload_n 0, [0], [], none),
  (36, 1, .iload_n 1, [1], [], none),
  (37, 2, .iload 5, [5], [], none),
  (39, 3, .invokevirtual 109, [244, 0, 1, 3, 12], [], none),
  (42, 1, .iload_n 3, [3], [], none),
  (43, 1, .iand, [], [], none),
  (44, 3, .ifCond .ne 7, [51], [], none),
  (47, 1, .iconst 1, [], [.int 1], some [0, 1, 2, 3, 5]),
  (48, 3, .goto 4, [52], [], none),
  (51, 1, .iconst 0, [], [.int 0], some [0, 1, 2, 3, 5]),
  (52, 2, .istore 4, [4], [], some [0, 1, 2, 3, 5]),
  (54, 3, .iinc 5 1, [5], [.int 1], none),
  (57, 3, .goto (-51), [6], [], none),
  (60, 2, .iload 4, [4], [], none),
  (62, 1, .ireturn, [1], [], none)]
def jx_M246 : jx_M := (⟨"FairByEarModel", "isMixed", "(III)Z"⟩, prog_14_method_30_code, 6, (some .boolean), false, 2, jx_C246)
def jx_C247 : List jx_El := [(0, 1, .iconst 0, [], [.int 0], none),
  (1, 1, .istore_n 3, [3], [], none),
  (2, 1, .iconst 0, [], [.int 0], none),
  (3, 2, .istore 4, [4], [], none),
  (5, 2, .iload 4, [4], [], some [0, 1, 2, 3, 4]),
  (7, 1, .aload_n 0, [0], [], none),
  (8, 3, .getfield 75, [10, 12], [], none),
  (11, 3, .if_icmp .ge 40, [51], [], none),
  (14, 1, .iload_n 3, [3], [], none),
  (15, 1, .iload_n 1, [1], [], none),
  (16, 2, .iload 4, [4], [], none),
  (18, 3, .invokestatic 112, [220, 0, 1, 2], [], none),
  (21, 3, .ifCond .eq 21, [42], [], none),
  (24, 1, .aload_n 0, [0], [], none),
  (25, 2, .iload 4, [4], [], none),
  (27, 1, .iload_n 1, [1], [], none),
  (28, 1, .iload_n 2, [2], [], none),
  (29, 3, .invokevirtual 116, [246, 0, 1, 4, 12], [], none),
  (32, 3, .ifCond .eq 10, [42], [], none),
  (35, 1, .iconst 1, [], [.int 1], none),
  (36, 2, .iload 4, [4], [], none),
  (38, 1, .ishl, [], [], none),
  (39, 3, .goto 4, [43], [], none),
  (42, 1, .iconst 0, [], [.int 0], some [0, 1, 2, 4]),
  (43, 1, .ior, [], [], some [0, 1, 2, 4]),
  (44, 1, .istore_n 3, [3], [], none),
  (45, 3, .iinc 4 1, [4], [.int 1], none),
  (48, 3, .goto (-43), [5], [], none),
  (51, 1, .iload_n 3, [3], [], none),
  (52, 1, .ireturn, [], [], none)]
def jx_M247 : jx_M := (⟨"FairByEarModel", "mixed", "(II)I"⟩, prog_14_method_31_code, 5, (some .int), false, 3, jx_C247)
def jx_C248 : List jx_El := [(0, 1, .aload_n 0, [0], [], none),
  (1, 1, .iconst 0, [], [.int 0], none),
  (2, 3, .putfield 3, [0, 12, 0], [], none),
  (5, 1, .aload_n 0, [0], [], none),
  (6, 1, .iload_n 1, [1], [], none),
  (7, 3, .invokevirtual 120, [237, 0, 1, 2, 12], [], none),
  (10, 3, .ifCond .eq 11, [21], [], none),
  (13, 1, .aload_n 0, [0], [], none),
  (14, 1, .iload_n 2, [2], [], none),
  (15, 3, .invokevirtual 123, [238, 0, 1, 2, 12], [], none),
  (18, 3, .ifCond .ne 5, [23], [], none),
  (21, 1, .iconst (-1), [], [.int (-1)], some []),
  (22, 1, .ireturn, [], [], none),
  (23, 1, .iload_n 1, [1], [], none),
  (24, 1, .aload_n 0, [0], [], none),
  (25, 1, .iload_n 1, [1], [], none),
  (26, 1, .iload_n 2, [2], [], none),
  (27, 3, .invokevirtual 126, [247, 0, 1, 3, 12], [], none),
  (30, 1, .iconst (-1), [], [.int (-1)], none),
  (31, 1, .ixor, [], [], none),
  (32, 1, .iand, [], [], none),
  (33, 1, .istore_n 3, [3], [], none),
  (34, 1, .aload_n 0, [0], [], none),
  (35, 1, .iconst 0, [], [.int 0], none),
  (36, 3, .putfield 11, [1, 12, 0], [], none),
  (39, 1, .aload_n 0, [0], [], none),
  (40, 1, .iload_n 3, [3], [], none),
  (41, 1, .i2l, [], [], none),
  (42, 3, .invokevirtual 18, [222, 0, 0, 2, 12], [], none),
  (45, 1, .iload_n 3, [3], [], none),
  (46, 3, .invokestatic 129, [3, 0, 1, 1], [], none),
  (49, 1, .ireturn, [], [], none)]
def jx_M248 : jx_M := (⟨"FairByEarModel", "sure", "(II)I"⟩, prog_14_method_32_code, 4, (some .int), false, 4, jx_C248)
def jx_C249 : List jx_El := [(0, 1, .iconst 0, [], [.int 0], none),
  (1, 1, .istore_n 3, [3], [], none),
  (2, 1, .iconst 0, [], [.int 0], none),
  (3, 2, .istore 4, [4], [], none),
  (5, 2, .iload 4, [4], [], some [1, 2, 3, 4]),
  (7, 1, .aload_n 2, [2], [], none),
  (8, 1, .arraylength, [], [], none),
  (9, 3, .if_icmp .ge 29, [38], [], none),
  (12, 1, .iload_n 3, [3], [], none),
  (13, 1, .iload_n 1, [1], [], none),
  (14, 2, .iload 4, [4], [], none),
  (16, 3, .invokestatic 112, [220, 0, 1, 2], [], none),
  (19, 3, .ifCond .eq 10, [29], [], none),
  (22, 1, .aload_n 2, [2], [], none),
  (23, 2, .iload 4, [4], [], none),
  (25, 1, .iaload, [], [], none),
  (26, 3, .goto 4, [30], [], none),
  (29, 1, .iconst 0, [], [.int 0], none),
  (30, 1, .iadd, [], [], some [1, 2, 4]),
  (31, 1, .istore_n 3, [3], [], none),
  (32, 3, .iinc 4 1, [4], [.int 1], none),
  (35, 3, .goto (-30), [5], [], none),
  (38, 1, .iload_n 3, [3], [], none),
  (39, 1, .ireturn, [], [], none)]
def jx_M249 : jx_M := (⟨"FairByEarModel", "sumOf", "(I[I)I"⟩, prog_14_method_33_code, 5, (some .int), false, 1, jx_C249)
def jx_C250 : List jx_El := [(0, 1, .iload_n 1, [1], [], none),
  (1, 3, .invokestatic 129, [3, 0, 1, 1], [], none),
  (4, 1, .iload_n 2, [2], [], none),
  (5, 3, .invokestatic 129, [3, 0, 1, 1], [], none),
  (8, 1, .isub, [], [], none),
  (9, 2, .istore 4, [4], [], none),
  (11, 1, .iload_n 2, [2], [], none),
  (12, 3, .ifCond .lt 28, [40], [], none),
  (15, 2, .iload 4, [4], [], none),
  (17, 3, .ifCond .lt 23, [40], [], none),
  (20, 2, .iload 4, [4], [], none),
  (22, 3, .ifCond .ne 22, [44], [], none),
  (25, 1, .aload_n 0, [0], [], none),
  (26, 1, .iload_n 1, [1], [], none),
  (27, 1, .aload_n 3, [3], [], none),
  (28, 3, .invokevirtual 135, [249, 0, 1, 3, 12], [], none),
  (31, 1, .aload_n 0, [0], [], none),
  (32, 1, .iload_n 2, [2], [], none),
  (33, 1, .aload_n 3, [3], [], none),
  (34, 3, .invokevirtual 135, [249, 0, 1, 3, 12], [], none),
  (37, 3, .if_icmp .ge 7, [44], [], none),
  (40, 1, .iconst 1, [], [.int 1], some []),
  (41, 3, .goto 4, [45], [], none),
  (44, 1, .iconst 0, [], [.int 0], some []),
  (45, 1, .ireturn, [1], [], some [])]
def jx_M250 : jx_M := (⟨"FairByEarModel", "isBetter", "(II[I)Z"⟩, prog_14_method_34_code, 5, (some .boolean), false, 2, jx_C250)
def jx_C251 : List jx_El := [(0, 1, .aload_n 0, [0], [], none),
  (1, 1, .iconst 0, [], [.int 0], none),
  (2, 3, .putfield 3, [0, 12, 0], [], none),
  (5, 1, .aload_n 0, [0], [], none),
  (6, 1, .iload_n 1, [1], [], none),
  (7, 3, .invokevirtual 120, [237, 0, 1, 2, 12], [], none),
  (10, 3, .ifCond .ne 5, [15], [], none),
  (13, 1, .iconst (-1), [], [.int (-1)], none),
  (14, 1, .ireturn, [], [], none),
  (15, 1, .iconst (-1), [], [.int (-1)], none),
  (16, 1, .istore_n 2, [2], [], none),
  (17, 1, .iconst 0, [], [.int 0], none),
  (18, 1, .istore_n 3, [3], [], none),
  (19, 1, .iload_n 3, [3], [], some [0, 1, 2, 3]),
  (20, 1, .iconst 1, [], [.int 1], none),
  (21, 1, .aload_n 0, [0], [], none),
  (22, 3, .getfield 78, [12, 12], [], none),
  (25, 1, .ishl, [], [], none),
  (26, 3, .if_icmp .ge 37, [63], [], none),
  (29, 1, .aload_n 0, [0], [], none),
  (30, 1, .iload_n 1, [1], [], none),
  (31, 1, .iload_n 3, [3], [], none),
  (32, 3, .invokevirtual 126, [247, 0, 1, 3, 12], [], none),
  (35, 3, .ifCond .ne 20, [55], [], none),
  (38, 1, .aload_n 0, [0], [], none),
  (39, 1, .iload_n 3, [3], [], none),
  (40, 1, .iload_n 2, [2], [], none),
  (41, 1, .aload_n 0, [0], [], none),
  (42, 3, .getfield 84, [13, 12], [], none),
  (45, 3, .invokevirtual 139, [250, 0, 1, 4, 12], [], none),
  (48, 3, .ifCond .eq 7, [55], [], none),
  (51, 1, .iload_n 3, [3], [], none),
  (52, 3, .goto 4, [56], [], none),
  (55, 1, .iload_n 2, [2], [], some [0, 1, 2, 3]),
  (56, 1, .istore_n 2, [2], [], some [0, 1, 3]),
  (57, 3, .iinc 3 1, [3], [.int 1], none),
  (60, 3, .goto (-41), [19], [], none),
  (63, 1, .iload_n 2, [2], [], none),
  (64, 3, .ifCond .ge 6, [70], [], none),
  (67, 2, .bipush (-2), [], [.int (-2)], none),
  (69, 1, .ireturn, [], [], none),
  (70, 1, .aload_n 0, [0], [], none),
  (71, 1, .iconst 0, [], [.int 0], none),
  (72, 3, .putfield 11, [1, 12, 0], [], none),
  (75, 1, .aload_n 0, [0], [], none),
  (76, 1, .iload_n 2, [2], [], none),
  (77, 1, .i2l, [], [], none),
  (78, 3, .invokevirtual 18, [222, 0, 0, 2, 12], [], none),
  (81, 1, .iload_n 2, [2], [], none),
  (82, 3, .invokestatic 129, [3, 0, 1, 1], [], none),
  (85, 1, .ireturn, [], [], none)]
def jx_M251 : jx_M := (⟨"FairByEarModel", "keep", "(I)I"⟩, prog_14_method_35_code, 4, (some .int), false, 4, jx_C251)
def jx_C252 : List jx_El := [(0, 1, .aload_n 0, [0], [], none),
  (1, 1, .iconst 0, [], [.int 0], none),
  (2, 3, .putfield 3, [0, 12, 0], [], none),
  (5, 1, .aload_n 0, [0], [], none),
  (6, 1, .iload_n 1, [1], [], none),
  (7, 3, .invokevirtual 120, [237, 0, 1, 2, 12], [], none),
  (10, 3, .ifCond .eq 11, [21], [], none),
  (13, 1, .aload_n 0, [0], [], none),
  (14, 1, .iload_n 2, [2], [], none),
  (15, 3, .invokevirtual 123, [238, 0, 1, 2, 12], [], none),
  (18, 3, .ifCond .ne 5, [23], [], none),
  (21, 1, .iconst (-1), [], [.int (-1)], some []),
  (22, 1, .ireturn, [], [], none),
  (23, 1, .iconst (-1), [], [.int (-1)], none),
  (24, 1, .istore_n 3, [3], [], none),
  (25, 1, .iconst 0, [], [.int 0], none),
  (26, 2, .istore 4, [4], [], none),
  (28, 2, .iload 4, [4], [], some [0, 1, 2, 3, 4]),
  (30, 1, .iload_n 1, [1], [], none),
  (31, 3, .if_icmp .gt 65, [96], [], none),
  (34, 2, .iload 4, [4], [], none),
  (36, 1, .iload_n 1, [1], [], none),
  (37, 1, .iconst (-1), [], [.int (-1)], none),
  (38, 1, .ixor, [], [], none),
  (39, 1, .iand, [], [], none),
  (40, 3, .ifCond .ne 21, [61], [], none),
  (43, 1, .aload_n 0, [0], [], none),
  (44, 1, .iload_n 1, [1], [], none),
  (45, 2, .iload 4, [4], [], none),
  (47, 1, .iconst (-1), [], [.int (-1)], none),
  (48, 1, .ixor, [], [], none),
  (49, 1, .iand, [], [], none),
  (50, 1, .iload_n 2, [2], [], none),
  (51, 3, .invokevirtual 126, [247, 0, 1, 3, 12], [], none),
  (54, 3, .ifCond .ne 7, [61], [], none),
  (57, 1, .iconst 1, [], [.int 1], none),
  (58, 3, .goto 4, [62], [], none),
  (61, 1, .iconst 0, [], [.int 0], some [0, 1, 2, 3, 4]),
  (62, 2, .istore 5, [5], [], some [0, 1, 2, 3, 4]),
  (64, 2, .iload 5, [5], [], none),
  (66, 3, .ifCond .eq 22, [88], [], none),
  (69, 1, .aload_n 0, [0], [], none),
  (70, 2, .iload 4, [4], [], none),
  (72, 1, .iload_n 3, [3], [], none),
  (73, 1, .aload_n 0, [0], [], none),
  (74, 3, .getfield 81, [11, 12], [], none),
  (77, 3, .invokevirtual 139, [250, 0, 1, 4, 12], [], none),
  (80, 3, .ifCond .eq 8, [88], [], none),
  (83, 2, .iload 4, [4], [], none),
  (85, 3, .goto 4, [89], [], none),
  (88, 1, .iload_n 3, [3], [], some [0, 1, 2, 3, 4]),
  (89, 1, .istore_n 3, [3], [], some [0, 1, 2, 4]),
  (90, 3, .iinc 4 1, [4], [.int 1], none),
  (93, 3, .goto (-65), [28], [], none),
  (96, 1, .aload_n 0, [0], [], none),
  (97, 1, .iconst 0, [], [.int 0], none),
  (98, 3, .putfield 11, [1, 12, 0], [], none),
  (101, 1, .aload_n 0, [0], [], none),
  (102, 1, .iload_n 3, [3], [], none),
  (103, 1, .i2l, [], [], none),
  (104, 3, .invokevirtual 18, [222, 0, 0, 2, 12], [], none),
  (107, 1, .iload_n 3, [3], [], none),
  (108, 3, .invokestatic 129, [3, 0, 1, 1], [], none),
  (111, 1, .ireturn, [], [], none)]
def jx_M252 : jx_M := (⟨"FairByEarModel", "ban", "(II)I"⟩, prog_14_method_36_code, 6, (some .int), false, 4, jx_C252)
def jx_C253 : List jx_El := [(0, 1, .iconst 0, [], [.int 0], none),
  (1, 2, .istore 4, [4], [], none),
  (3, 1, .iconst 0, [], [.int 0], none),
  (4, 2, .istore 5, [5], [], none),
  (6, 2, .iload 5, [5], [], some [0, 1, 2, 3, 4, 5]),
  (8, 1, .aload_n 0, [0], [], none),
  (9, 3, .getfield 75, [10, 12], [], none),
  (12, 3, .if_icmp .ge 42, [54], [], none),
  (15, 2, .iload 4, [4], [], none),
  (17, 1, .iload_n 1, [1], [], none),
  (18, 2, .iload 5, [5], [], none),
  (20, 3, .invokestatic 112, [220, 0, 1, 2], [], none),
  (23, 3, .ifCond .eq 21, [44], [], none),
  (26, 1, .aload_n 0, [0], [], none),
  (27, 2, .iload 5, [5], [], none),
  (29, 1, .iload_n 2, [2], [], none),
  (30, 3, .invokevirtual 96, [241, 0, 1, 3, 12], [], none),
  (33, 1, .iload_n 3, [3], [], none),
  (34, 3, .if_icmp .ne 10, [44], [], none),
  (37, 1, .iconst 1, [], [.int 1], none),
  (38, 2, .iload 5, [5], [], none),
  (40, 1, .ishl, [], [], none),
  (41, 3, .goto 4, [45], [], none),
  (44, 1, .iconst 0, [], [.int 0], some [0, 1, 2, 3, 5]),
  (45, 1, .ior, [], [], some [0, 1, 2, 3, 5]),
  (46, 2, .istore 4, [4], [], none),
  (48, 3, .iinc 5 1, [5], [.int 1], none),
  (51, 3, .goto (-45), [6], [], none),
  (54, 2, .iload 4, [4], [], none),
  (56, 1, .ireturn, [], [], none)]
def jx_M253 : jx_M := (⟨"FairByEarModel", "partOf", "(III)I"⟩, prog_14_method_37_code, 6, (some .int), false, 1, jx_C253)
def jx_C254 : List jx_El := [(0, 1, .aload_n 0, [0], [], none),
  (1, 1, .iload_n 1, [1], [], none),
  (2, 3, .invokestatic 143, [4, 0, 1, 1], [], none),
  (5, 1, .iload_n 2, [2], [], none),
  (6, 3, .invokevirtual 96, [241, 0, 1, 3, 12], [], none),
  (9, 1, .istore_n 3, [3], [], none),
  (10, 1, .aload_n 0, [0], [], none),
  (11, 1, .iload_n 1, [1], [], none),
  (12, 1, .iload_n 2, [2], [], none),
  (13, 1, .iload_n 3, [3], [], none),
  (14, 3, .invokevirtual 146, [253, 0, 1, 4, 12], [], none),
  (17, 1, .iload_n 1, [1], [], none),
  (18, 3, .if_icmp .eq 7, [25], [], none),
  (21, 1, .iconst 1, [], [.int 1], none),
  (22, 3, .goto 4, [26], [], none),
  (25, 1, .iconst 0, [], [.int 0], none),
  (26, 1, .ireturn, [1], [], some [])]
def jx_M254 : jx_M := (⟨"FairByEarModel", "parts", "(II)Z"⟩, prog_14_method_38_code, 4, (some .boolean), false, 2, jx_C254)
def jx_C255 : List jx_El := [(0, 1, .iconst 1, [], [.int 1], none),
  (1, 1, .istore_n 2, [2], [], none),
  (2, 1, .iload_n 2, [2], [], some [0, 1, 2]),
  (3, 1, .iload_n 1, [1], [], none),
  (4, 3, .if_icmp .gt 211, [215], [], none),
  (7, 1, .iload_n 2, [2], [], none),
  (8, 1, .iload_n 1, [1], [], none),
  (9, 1, .iconst (-1), [], [.int (-1)], none),
  (10, 1, .ixor, [], [], none),
  (11, 1, .iand, [], [], none),
  (12, 3, .ifCond .eq 6, [18], [], none),
  (15, 3, .goto 194, [209], [], none),
  (18, 1, .aload_n 0, [0], [], none),
  (19, 3, .getfield 150, [15, 12], [], none),
  (22, 1, .iload_n 2, [2], [], none),
  (23, 1, .iconst 0, [], [.int 0], none),
  (24, 1, .iastore, [], [], none),
  (25, 1, .aload_n 0, [0], [], none),
  (26, 3, .getfield 153, [17, 12], [], none),
  (29, 1, .iload_n 2, [2], [], none),
  (30, 1, .iconst 0, [], [.int 0], none),
  (31, 1, .iastore, [], [], none),
  (32, 1, .aload_n 0, [0], [], none),
  (33, 3, .getfield 156, [16, 12], [], none),
  (36, 1, .iload_n 2, [2], [], none),
  (37, 1, .iconst (-1), [], [.int (-1)], none),
  (38, 1, .iastore, [], [], none),
  (39, 1, .iconst 0, [], [.int 0], none),
  (40, 1, .istore_n 3, [3], [], none),
  (41, 1, .iload_n 3, [3], [], some [0, 1, 2, 3]),
  (42, 1, .aload_n 0, [0], [], none),
  (43, 3, .getfield 78, [12, 12], [], none),
  (46, 3, .if_icmp .ge 163, [209], [], none),
  (49, 1, .aload_n 0, [0], [], none),
  (50, 1, .iload_n 2, [2], [], none),
  (51, 1, .iload_n 3, [3], [], none),
  (52, 3, .invokevirtual 159, [254, 0, 1, 3, 12], [], none),
  (55, 3, .ifCond .ne 6, [61], [], none),
  (58, 3, .goto 145, [203], [], none),
  (61, 1, .aload_n 0, [0], [], none),
  (62, 3, .getfield 84, [13, 12], [], none),
  (65, 1, .iload_n 3, [3], [], none),
  (66, 1, .iaload, [], [], none),
  (67, 1, .aload_n 0, [0], [], none),
  (68, 1, .iload_n 2, [2], [], none),
  (69, 1, .aload_n 0, [0], [], none),
  (70, 3, .getfield 81, [11, 12], [], none),
  (73, 3, .invokevirtual 135, [249, 0, 1, 3, 12], [], none),
  (76, 1, .imul, [], [], none),
  (77, 2, .istore 4, [4], [], none),
  (79, 1, .iconst 0, [], [.int 0], none),
  (80, 2, .istore 5, [5], [], none),
  (82, 1, .iconst 0, [], [.int 0], none),
  (83, 2, .istore 6, [6], [], none),
  (85, 2, .iload 6, [6], [], some [0, 1, 2, 3, 4, 5, 6]),
  (87, 2, .bipush 10, [], [.int 10], none),
  (89, 3, .if_icmp .ge 64, [153], [], none),
  (92, 1, .aload_n 0, [0], [], none),
  (93, 1, .iload_n 2, [2], [], none),
  (94, 1, .iload_n 3, [3], [], none),
  (95, 2, .iload 6, [6], [], none),
  (97, 3, .invokevirtual 146, [253, 0, 1, 4, 12], [], none),
  (100, 2, .istore 7, [7], [], none),
  (102, 2, .iload 4, [4], [], none),
  (104, 2, .iload 7, [7], [], none),
  (106, 3, .ifCond .ne 7, [113], [], none),
  (109, 1, .iconst 0, [], [.int 0], none),
  (110, 3, .goto 10, [120], [], none),
  (113, 1, .aload_n 0, [0], [], none),
  (114, 3, .getfield 150, [15, 12], [], none),
  (117, 2, .iload 7, [7], [], none),
  (119, 1, .iaload, [], [], none),
  (120, 1, .iadd, [], [], some [0, 1, 2, 3, 5, 6, 7]),
  (121, 2, .istore 4, [4], [], none),
  (123, 2, .iload 7, [7], [], none),
  (125, 3, .ifCond .ne 8, [133], [], none),
  (128, 2, .iload 5, [5], [], none),
  (130, 3, .goto 15, [145], [], none),
  (133, 2, .iload 5, [5], [], none),
  (135, 1, .aload_n 0, [0], [], none),
  (136, 3, .getfield 153, [17, 12], [], none),
  (139, 2, .iload 7, [7], [], none),
  (141, 1, .iaload, [], [], none),
  (142, 3, .invokestatic 106, [1, 0, 1, 2], [], none),
  (145, 2, .istore 5, [5], [], some [0, 1, 2, 3, 4, 6]),
  (147, 3, .iinc 6 1, [6], [.int 1], none),
  (150, 3, .goto (-65), [85], [], none),
  (153, 1, .aload_n 0, [0], [], none),
  (154, 3, .getfield 156, [16, 12], [], none),
  (157, 1, .iload_n 2, [2], [], none),
  (158, 1, .iaload, [], [], none),
  (159, 3, .ifCond .lt 14, [173], [], none),
  (162, 2, .iload 4, [4], [], none),
  (164, 1, .aload_n 0, [0], [], none),
  (165, 3, .getfield 150, [15, 12], [], none),
  (168, 1, .iload_n 2, [2], [], none),
  (169, 1, .iaload, [], [], none),
  (170, 3, .if_icmp .ge 33, [203], [], none),
  (173, 1, .aload_n 0, [0], [], some [0, 1, 2, 3, 4, 5]),
  (174, 3, .getfield 156, [16, 12], [], none),
  (177, 1, .iload_n 2, [2], [], none),
  (178, 1, .iload_n 3, [3], [], none),
  (179, 1, .iastore, [], [], none),
  (180, 1, .aload_n 0, [0], [], none),
  (181, 3, .getfield 150, [15, 12], [], none),
  (184, 1, .iload_n 2, [2], [], none),
  (185, 2, .iload 4, [4], [], none),
  (187, 1, .iastore, [], [], none),
  (188, 1, .aload_n 0, [0], [], none),
  (189, 3, .getfield 153, [17, 12], [], none),
  (192, 1, .iload_n 2, [2], [], none),
  (193, 1, .aload_n 0, [0], [], none),
  (194, 3, .getfield 84, [13, 12], [], none),
  (197, 1, .iload_n 3, [3], [], none),
  (198, 1, .iaload, [], [], none),
  (199, 2, .iload 5, [5], [], none),
  (201, 1, .iadd, [], [], none),
  (202, 1, .iastore, [], [], none),
  (203, 3, .iinc 3 1, [3], [.int 1], some [0, 1, 2, 3]),
  (206, 3, .goto (-165), [41], [], none),
  (209, 3, .iinc 2 1, [2], [.int 1], some [0, 1, 2]),
  (212, 3, .goto (-210), [2], [], none),
  (215, 1, .return_, [], [], none)]
def jx_M255 : jx_M := (⟨"FairByEarModel", "trees", "(I)V"⟩, prog_14_method_39_code, 8, none, false, 3, jx_C255)
def jx_C256 : List jx_El := [(0, 1, .aload_n 0, [0], [], none),
  (1, 1, .iconst 0, [], [.int 0], none),
  (2, 3, .putfield 3, [0, 12, 0], [], none),
  (5, 1, .aload_n 0, [0], [], none),
  (6, 1, .iload_n 1, [1], [], none),
  (7, 3, .invokevirtual 120, [237, 0, 1, 2, 12], [], none),
  (10, 3, .ifCond .ne 5, [15], [], none),
  (13, 1, .iconst (-1), [], [.int (-1)], none),
  (14, 1, .ireturn, [], [], none),
  (15, 1, .aload_n 0, [0], [], none),
  (16, 1, .iload_n 1, [1], [], none),
  (17, 3, .invokevirtual 162, [255, 0, 0, 2, 12], [], none),
  (20, 1, .aload_n 0, [0], [], none),
  (21, 1, .iconst 0, [], [.int 0], none),
  (22, 3, .putfield 11, [1, 12, 0], [], none),
  (25, 1, .aload_n 0, [0], [], none),
  (26, 1, .aload_n 0, [0], [], none),
  (27, 3, .getfield 156, [16, 12], [], none),
  (30, 1, .iload_n 1, [1], [], none),
  (31, 1, .iaload, [], [], none),
  (32, 1, .i2l, [], [], none),
  (33, 3, .invokevirtual 18, [222, 0, 0, 2, 12], [], none),
  (36, 1, .aload_n 0, [0], [], none),
  (37, 1, .aload_n 0, [0], [], none),
  (38, 3, .getfield 153, [17, 12], [], none),
  (41, 1, .iload_n 1, [1], [], none),
  (42, 1, .iaload, [], [], none),
  (43, 1, .i2l, [], [], none),
  (44, 3, .invokevirtual 18, [222, 0, 0, 2, 12], [], none),
  (47, 1, .aload_n 0, [0], [], none),
  (48, 3, .getfield 150, [15, 12], [], none),
  (51, 1, .iload_n 1, [1], [], none),
  (52, 1, .iaload, [], [], none),
  (53, 1, .ireturn, [], [], none)]
def jx_M256 : jx_M := (⟨"FairByEarModel", "tree", "(I)I"⟩, prog_14_method_40_code, 2, (some .int), false, 4, jx_C256)
def jx_C257 : List jx_El := [(0, 1, .iload_n 1, [1], [], none),
  (1, 3, .invokestatic 129, [3, 0, 1, 1], [], none),
  (4, 1, .iconst 1, [], [.int 1], none),
  (5, 3, .if_icmp .ne 15, [20], [], none),
  (8, 1, .aload_n 0, [0], [], none),
  (9, 1, .iload_n 1, [1], [], none),
  (10, 1, .aload_n 0, [0], [], none),
  (11, 3, .getfield 81, [11, 12], [], none),
  (14, 3, .invokevirtual 135, [249, 0, 1, 3, 12], [], none),
  (17, 3, .goto 4, [21], [], none),
  (20, 1, .iconst 0, [], [.int 0], none),
  (21, 1, .istore_n 3, [3], [], some [0, 1, 2]),
  (22, 1, .iconst 0, [], [.int 0], none),
  (23, 2, .istore 4, [4], [], none),
  (25, 2, .iload 4, [4], [], some [0, 1, 2, 3, 4]),
  (27, 1, .aload_n 0, [0], [], none),
  (28, 3, .getfield 78, [12, 12], [], none),
  (31, 3, .if_icmp .ge 104, [135], [], none),
  (34, 1, .aload_n 0, [0], [], none),
  (35, 3, .getfield 84, [13, 12], [], none),
  (38, 2, .iload 4, [4], [], none),
  (40, 1, .iaload, [], [], none),
  (41, 1, .iload_n 2, [2], [], none),
  (42, 3, .if_icmp .gt 87, [129], [], none),
  (45, 1, .aload_n 0, [0], [], none),
  (46, 1, .iload_n 1, [1], [], none),
  (47, 2, .iload 4, [4], [], none),
  (49, 3, .invokevirtual 159, [254, 0, 1, 3, 12], [], none),
  (52, 3, .ifCond .ne 6, [58], [], none),
  (55, 3, .goto 74, [129], [], none),
  (58, 1, .iconst 0, [], [.int 0], none),
  (59, 2, .istore 5, [5], [], none),
  (61, 1, .iconst 0, [], [.int 0], none),
  (62, 2, .istore 6, [6], [], none),
  (64, 2, .iload 6, [6], [], some [0, 1, 2, 3, 4, 5, 6]),
  (66, 2, .bipush 10, [], [.int 10], none),
  (68, 3, .if_icmp .ge 54, [122], [], none),
  (71, 1, .aload_n 0, [0], [], none),
  (72, 1, .iload_n 1, [1], [], none),
  (73, 2, .iload 4, [4], [], none),
  (75, 2, .iload 6, [6], [], none),
  (77, 3, .invokevirtual 146, [253, 0, 1, 4, 12], [], none),
  (80, 2, .istore 7, [7], [], none),
  (82, 2, .iload 5, [5], [], none),
  (84, 2, .iload 7, [7], [], none),
  (86, 3, .ifCond .ne 7, [93], [], none),
  (89, 1, .iconst 0, [], [.int 0], none),
  (90, 3, .goto 23, [113], [], none),
  (93, 1, .aload_n 0, [0], [], none),
  (94, 3, .getfield 166, [18, 12], [], none),
  (97, 2, .bipush 55, [], [.int 55], none),
  (99, 2, .iload 7, [7], [], none),
  (101, 1, .imul, [], [], none),
  (102, 1, .iload_n 2, [2], [], none),
  (103, 1, .iadd, [], [], none),
  (104, 1, .aload_n 0, [0], [], none),
  (105, 3, .getfield 84, [13, 12], [], none),
  (108, 2, .iload 4, [4], [], none),
  (110, 1, .iaload, [], [], none),
  (111, 1, .isub, [], [], none),
  (112, 1, .iaload, [], [], none),
  (113, 1, .iadd, [], [], some [0, 1, 2, 3, 4, 6]),
  (114, 2, .istore 5, [5], [], none),
  (116, 3, .iinc 6 1, [6], [.int 1], none),
  (119, 3, .goto (-55), [64], [], none),
  (122, 1, .iload_n 3, [3], [], none),
  (123, 2, .iload 5, [5], [], none),
  (125, 3, .invokestatic 106, [1, 0, 1, 2], [], none),
  (128, 1, .istore_n 3, [3], [], none),
  (129, 3, .iinc 4 1, [4], [.int 1], some [0, 1, 2, 3, 4]),
  (132, 3, .goto (-107), [25], [], none),
  (135, 1, .aload_n 0, [0], [], none),
  (136, 3, .getfield 166, [18, 12], [], none),
  (139, 2, .bipush 55, [], [.int 55], none),
  (141, 1, .iload_n 1, [1], [], none),
  (142, 1, .imul, [], [], none),
  (143, 1, .iload_n 2, [2], [], none),
  (144, 1, .iadd, [], [], none),
  (145, 1, .iload_n 3, [3], [], none),
  (146, 1, .iastore, [], [], none),
  (147, 1, .return_, [], [], none)]
def jx_M257 : jx_M := (⟨"FairByEarModel", "tells", "(II)V"⟩, prog_14_method_41_code, 8, none, false, 3, jx_C257)
def jx_C258 : List jx_El := [(0, 1, .aload_n 0, [0], [], none),
  (1, 1, .iconst 0, [], [.int 0], none),
  (2, 3, .putfield 3, [0, 12, 0], [], none),
  (5, 1, .aload_n 0, [0], [], none),
  (6, 1, .iload_n 1, [1], [], none),
  (7, 3, .invokevirtual 120, [237, 0, 1, 2, 12], [], none),
  (10, 3, .ifCond .eq 15, [25], [], none),
  (13, 1, .iload_n 2, [2], [], none),
  (14, 1, .i2l, [], [], none),
  (15, 1, .lconst 0, [], [.long 0], none),
  (16, 3, .ldc2_w 169, [], [.long 99], none),
  (19, 3, .invokestatic 24, [219, 0, 1, 3], [], none),
  (22, 3, .ifCond .ne 5, [27], [], none),
  (25, 1, .iconst (-1), [], [.int (-1)], some []),
  (26, 1, .ireturn, [], [], none),
  (27, 1, .iload_n 2, [2], [], none),
  (28, 2, .bipush 54, [], [.int 54], none),
  (30, 3, .invokestatic 101, [2, 0, 1, 2], [], none),
  (33, 1, .istore_n 3, [3], [], none),
  (34, 1, .iconst 1, [], [.int 1], none),
  (35, 2, .istore 4, [4], [], none),
  (37, 2, .iload 4, [4], [], some [0, 1, 3, 4]),
  (39, 1, .iload_n 1, [1], [], none),
  (40, 3, .if_icmp .gt 41, [81], [], none),
  (43, 1, .iconst 0, [], [.int 0], none),
  (44, 2, .istore 5, [5], [], none),
  (46, 2, .iload 5, [5], [], some [0, 1, 3, 4, 5]),
  (48, 1, .iload_n 3, [3], [], none),
  (49, 3, .if_icmp .gt 26, [75], [], none),
  (52, 2, .iload 4, [4], [], none),
  (54, 1, .iload_n 1, [1], [], none),
  (55, 1, .iconst (-1), [], [.int (-1)], none),
  (56, 1, .ixor, [], [], none),
  (57, 1, .iand, [], [], none),
  (58, 3, .ifCond .ne 17, [75], [], none),
  (61, 1, .aload_n 0, [0], [], none),
  (62, 2, .iload 4, [4], [], none),
  (64, 2, .iload 5, [5], [], none),
  (66, 3, .invokevirtual 171, [257, 0, 0, 3, 12], [], none),
  (69, 3, .iinc 5 1, [5], [.int 1], none),
  (72, 3, .goto (-26), [46], [], none),
  (75, 3, .iinc 4 1, [4], [.int 1], some [0, 1, 3, 4]),
  (78, 3, .goto (-41), [37], [], none),
  (81, 1, .aload_n 0, [0], [], none),
  (82, 3, .getfield 166, [18, 12], [], none),
  (85, 2, .bipush 55, [], [.int 55], none),
  (87, 1, .iload_n 1, [1], [], none),
  (88, 1, .imul, [], [], none),
  (89, 1, .iload_n 3, [3], [], none),
  (90, 1, .iadd, [], [], none),
  (91, 1, .iaload, [], [], none),
  (92, 1, .ireturn, [], [], none)]
def jx_M258 : jx_M := (⟨"FairByEarModel", "copper", "(II)I"⟩, prog_14_method_42_code, 6, (some .int), false, 4, jx_C258)
def jx_C259 : List jx_El := [(0, 1, .aload_n 0, [0], [], none),
  (1, 1, .iconst 0, [], [.int 0], none),
  (2, 3, .putfield 3, [0, 12, 0], [], none),
  (5, 1, .aload_n 0, [0], [], none),
  (6, 1, .iload_n 1, [1], [], none),
  (7, 3, .invokevirtual 120, [237, 0, 1, 2, 12], [], none),
  (10, 3, .ifCond .eq 19, [29], [], none),
  (13, 1, .aload_n 0, [0], [], none),
  (14, 1, .iload_n 2, [2], [], none),
  (15, 3, .invokevirtual 90, [235, 0, 1, 2, 12], [], none),
  (18, 3, .ifCond .eq 11, [29], [], none),
  (21, 1, .iload_n 1, [1], [], none),
  (22, 1, .iload_n 2, [2], [], none),
  (23, 3, .invokestatic 112, [220, 0, 1, 2], [], none),
  (26, 3, .ifCond .ne 5, [31], [], none),
  (29, 1, .iconst (-1), [], [.int (-1)], some []),
  (30, 1, .ireturn, [], [], none),
  (31, 1, .aload_n 0, [0], [], none),
  (32, 1, .iload_n 1, [1], [], none),
  (33, 3, .invokevirtual 162, [255, 0, 0, 2, 12], [], none),
  (36, 1, .aload_n 0, [0], [], none),
  (37, 1, .iconst 0, [], [.int 0], none),
  (38, 3, .putfield 11, [1, 12, 0], [], none),
  (41, 1, .iload_n 1, [1], [], none),
  (42, 1, .istore_n 3, [3], [], none),
  (43, 1, .iconst 0, [], [.int 0], none),
  (44, 2, .istore 4, [4], [], none),
  (46, 1, .aload_n 0, [0], [], some [0, 2, 3, 4]),
  (47, 3, .getfield 156, [16, 12], [], none),
  (50, 1, .iload_n 3, [3], [], none),
  (51, 1, .iaload, [], [], none),
  (52, 3, .ifCond .lt 39, [91], [], none),
  (55, 1, .aload_n 0, [0], [], none),
  (56, 3, .getfield 156, [16, 12], [], none),
  (59, 1, .iload_n 3, [3], [], none),
  (60, 1, .iaload, [], [], none),
  (61, 2, .istore 5, [5], [], none),
  (63, 1, .aload_n 0, [0], [], none),
  (64, 2, .iload 5, [5], [], none),
  (66, 1, .i2l, [], [], none),
  (67, 3, .invokevirtual 18, [222, 0, 0, 2, 12], [], none),
  (70, 1, .aload_n 0, [0], [], none),
  (71, 1, .iload_n 3, [3], [], none),
  (72, 2, .iload 5, [5], [], none),
  (74, 1, .aload_n 0, [0], [], none),
  (75, 1, .iload_n 2, [2], [], none),
  (76, 2, .iload 5, [5], [], none),
  (78, 3, .invokevirtual 96, [241, 0, 1, 3, 12], [], none),
  (81, 3, .invokevirtual 146, [253, 0, 1, 4, 12], [], none),
  (84, 1, .istore_n 3, [3], [], none),
  (85, 3, .iinc 4 1, [4], [.int 1], none),
  (88, 3, .goto (-42), [46], [], none),
  (91, 1, .aload_n 0, [0], [], none),
  (92, 1, .iload_n 3, [3], [], none),
  (93, 1, .i2l, [], [], none),
  (94, 3, .invokevirtual 18, [222, 0, 0, 2, 12], [], none),
  (97, 2, .iload 4, [4], [], none),
  (99, 1, .ireturn, [], [], none)]
def jx_M259 : jx_M := (⟨"FairByEarModel", "asks", "(II)I"⟩, prog_14_method_43_code, 6, (some .int), false, 4, jx_C259)
def jx_C260 : List jx_El := [(0, 1, .aload_n 0, [0], [], none),
  (1, 1, .iconst 0, [], [.int 0], none),
  (2, 3, .putfield 3, [0, 12, 0], [], none),
  (5, 1, .aload_n 0, [0], [], none),
  (6, 3, .getfield 175, [23, 12], [], none),
  (9, 2, .bipush 56, [], [.int 56], none),
  (11, 3, .if_icmp .le 5, [16], [], none),
  (14, 1, .iconst (-1), [], [.int (-1)], none),
  (15, 1, .ireturn, [], [], none),
  (16, 1, .iconst 0, [], [.int 0], none),
  (17, 1, .istore_n 2, [2], [], none),
  (18, 1, .iload_n 2, [2], [], some [0, 1, 2]),
  (19, 1, .iconst 4, [], [.int 4], none),
  (20, 3, .if_icmp .ge 33, [53], [], none),
  (23, 1, .aload_n 0, [0], [], none),
  (24, 3, .getfield 178, [22, 12], [], none),
  (27, 1, .aload_n 0, [0], [], none),
  (28, 3, .getfield 175, [23, 12], [], none),
  (31, 1, .iload_n 2, [2], [], none),
  (32, 1, .iadd, [], [], none),
  (33, 1, .iload_n 1, [1], [], none),
  (34, 2, .bipush 24, [], [.int 24], none),
  (36, 2, .bipush 8, [], [.int 8], none),
  (38, 1, .iload_n 2, [2], [], none),
  (39, 1, .imul, [], [], none),
  (40, 1, .isub, [], [], none),
  (41, 1, .ishr, [], [], none),
  (42, 3, .sipush 255, [], [.int 255], none),
  (45, 1, .iand, [], [], none),
  (46, 1, .iastore, [], [], none),
  (47, 3, .iinc 2 1, [2], [.int 1], none),
  (50, 3, .goto (-32), [18], [], none),
  (53, 1, .aload_n 0, [0], [], none),
  (54, 1, .dup, [], [], none),
  (55, 3, .getfield 175, [23, 12], [], none),
  (58, 1, .iconst 4, [], [.int 4], none),
  (59, 1, .iadd, [], [], none),
  (60, 3, .putfield 175, [23, 12, 0], [], none),
  (63, 1, .aload_n 0, [0], [], none),
  (64, 3, .getfield 175, [23, 12], [], none),
  (67, 1, .ireturn, [], [], none)]
def jx_M260 : jx_M := (⟨"FairByEarModel", "sign", "(I)I"⟩, prog_14_method_44_code, 3, (some .int), false, 0, jx_C260)
def jx_C261 : List jx_El := [(0, 1, .aload_n 0, [0], [], none),
  (1, 1, .iconst 0, [], [.int 0], none),
  (2, 3, .putfield 3, [0, 12, 0], [], none),
  (5, 1, .iload_n 1, [1], [], none),
  (6, 1, .i2l, [], [], none),
  (7, 1, .lconst 0, [], [.long 0], none),
  (8, 1, .aload_n 0, [0], [], none),
  (9, 3, .getfield 175, [23, 12], [], none),
  (12, 1, .i2l, [], [], none),
  (13, 3, .invokestatic 24, [219, 0, 1, 3], [], none),
  (16, 3, .ifCond .ne 5, [21], [], none),
  (19, 1, .iconst 0, [], [.int 0], none),
  (20, 1, .ireturn, [1], [], none),
  (21, 1, .aload_n 0, [0], [], none),
  (22, 1, .iload_n 1, [1], [], none),
  (23, 3, .putfield 175, [23, 12, 0], [], none),
  (26, 1, .iconst 1, [], [.int 1], none),
  (27, 1, .ireturn, [1], [], none)]
def jx_M261 : jx_M := (⟨"FairByEarModel", "end", "(I)Z"⟩, prog_14_method_45_code, 2, (some .boolean), false, 1, jx_C261)
def jx_C262 : List jx_El := [(0, 1, .aload_n 0, [0], [], none),
  (1, 3, .getfield 181, [24, 12], [], none),
  (4, 1, .aload_n 0, [0], [], none),
  (5, 3, .getfield 184, [25, 12], [], none),
  (8, 3, .if_icmp .ge 29, [37], [], none),
  (11, 1, .aload_n 0, [0], [], none),
  (12, 3, .getfield 178, [22, 12], [], none),
  (15, 1, .aload_n 0, [0], [], none),
  (16, 3, .getfield 181, [24, 12], [], none),
  (19, 1, .iaload, [], [], none),
  (20, 1, .i2l, [], [], none),
  (21, 3, .ldc2_w 187, [], [.long 48], none),
  (24, 3, .ldc2_w 189, [], [.long 57], none),
  (27, 3, .invokestatic 24, [219, 0, 1, 3], [], none),
  (30, 3, .ifCond .eq 7, [37], [], none),
  (33, 1, .iconst 1, [], [.int 1], none),
  (34, 3, .goto 4, [38], [], none),
  (37, 1, .iconst 0, [], [.int 0], some []),
  (38, 1, .ireturn, [1], [], some [])]
def jx_M262 : jx_M := (⟨"FairByEarModel", "isDigit", "()Z"⟩, prog_14_method_46_code, 1, (some .boolean), false, 1, jx_C262)
def jx_C263 : List jx_El := [(0, 1, .iconst 0, [], [.int 0], none),
  (1, 1, .istore_n 2, [2], [], none),
  (2, 1, .iload_n 2, [2], [], some [0, 1, 2]),
  (3, 1, .aload_n 1, [1], [], none),
  (4, 3, .invokevirtual 191, [1], [], none),
  (7, 3, .if_icmp .ge 39, [46], [], none),
  (10, 1, .aload_n 0, [0], [], none),
  (11, 3, .getfield 181, [24, 12], [], none),
  (14, 1, .aload_n 0, [0], [], none),
  (15, 3, .getfield 184, [25, 12], [], none),
  (18, 3, .if_icmp .ge 28, [46], [], none),
  (21, 1, .aload_n 1, [1], [], none),
  (22, 1, .iload_n 2, [2], [], none),
  (23, 3, .invokevirtual 196, [2], [], none),
  (26, 1, .aload_n 0, [0], [], none),
  (27, 3, .getfield 178, [22, 12], [], none),
  (30, 1, .aload_n 0, [0], [], none),
  (31, 3, .getfield 181, [24, 12], [], none),
  (34, 1, .iaload, [], [], none),
  (35, 3, .if_icmp .ne 5, [40], [], none),
  (38, 1, .iload_n 2, [2], [], none),
  (39, 1, .ireturn, [], [], none),
  (40, 3, .iinc 2 1, [2], [.int 1], none),
  (43, 3, .goto (-41), [2], [], none),
  (46, 1, .iconst (-1), [], [.int (-1)], some []),
  (47, 1, .ireturn, [], [], none)]
def jx_M263 : jx_M := (⟨"FairByEarModel", "among", "(Ljava/lang/String;)I"⟩, prog_14_method_47_code, 3, (some .int), false, 0, jx_C263)
def jx_C264 : List jx_El := [(0, 1, .aload_n 0, [0], [], none),
  (1, 3, .getfield 200, [19, 12], [], none),
  (4, 2, .bipush 48, [], [.int 48], none),
  (6, 1, .aload_n 0, [0], [], none),
  (7, 3, .getfield 203, [20, 12], [], none),
  (10, 1, .iconst 1, [], [.int 1], none),
  (11, 1, .iaload, [], [], none),
  (12, 1, .iadd, [], [], none),
  (13, 1, .iload_n 1, [1], [], none),
  (14, 1, .iastore, [], [], none),
  (15, 1, .aload_n 0, [0], [], none),
  (16, 3, .getfield 203, [20, 12], [], none),
  (19, 1, .iconst 1, [], [.int 1], none),
  (20, 1, .dup2, [], [], none),
  (21, 1, .iaload, [], [], none),
  (22, 1, .iconst 1, [], [.int 1], none),
  (23, 1, .iadd, [], [], none),
  (24, 1, .iastore, [], [], none),
  (25, 1, .return_, [], [], none)]
def jx_M264 : jx_M := (⟨"FairByEarModel", "marks", "(I)V"⟩, prog_14_method_48_code, 2, none, false, 0, jx_C264)
def jx_C265 : List jx_El := [(0, 1, .aload_n 0, [0], [], none),
  (1, 3, .invokevirtual 206, [262, 0, 1, 1, 12], [], none),
  (4, 3, .ifCond .eq 60, [64], [], none),
  (7, 1, .iconst 0, [], [.int 0], none),
  (8, 1, .istore_n 1, [1], [], none),
  (9, 1, .iconst 0, [], [.int 0], none),
  (10, 1, .istore_n 2, [2], [], none),
  (11, 1, .iload_n 2, [2], [], some [0, 1, 2]),
  (12, 1, .iconst 3, [], [.int 3], none),
  (13, 3, .if_icmp .ge 44, [57], [], none),
  (16, 1, .aload_n 0, [0], [], none),
  (17, 3, .invokevirtual 206, [262, 0, 1, 1, 12], [], none),
  (20, 3, .ifCond .eq 37, [57], [], none),
  (23, 2, .bipush 10, [], [.int 10], none),
  (25, 1, .iload_n 1, [1], [], none),
  (26, 1, .imul, [], [], none),
  (27, 1, .aload_n 0, [0], [], none),
  (28, 3, .getfield 178, [22, 12], [], none),
  (31, 1, .aload_n 0, [0], [], none),
  (32, 3, .getfield 181, [24, 12], [], none),
  (35, 1, .iaload, [], [], none),
  (36, 1, .iadd, [], [], none),
  (37, 2, .bipush 48, [], [.int 48], none),
  (39, 1, .isub, [], [], none),
  (40, 1, .istore_n 1, [1], [], none),
  (41, 1, .aload_n 0, [0], [], none),
  (42, 1, .dup, [], [], none),
  (43, 3, .getfield 181, [24, 12], [], none),
  (46, 1, .iconst 1, [], [.int 1], none),
  (47, 1, .iadd, [], [], none),
  (48, 3, .putfield 181, [24, 12, 0], [], none),
  (51, 3, .iinc 2 1, [2], [.int 1], none),
  (54, 3, .goto (-43), [11], [], none),
  (57, 1, .aload_n 0, [0], [], some [0, 1]),
  (58, 1, .iload_n 1, [1], [], none),
  (59, 3, .invokevirtual 210, [264, 0, 0, 2, 12], [], none),
  (62, 1, .iconst 1, [], [.int 1], none),
  (63, 1, .ireturn, [1], [], none),
  (64, 1, .aload_n 0, [0], [], none),
  (65, 2, .ldc 213, [], [.ref 900], none),
  (67, 3, .invokevirtual 215, [263, 0, 1, 2, 12], [], none),
  (70, 1, .istore_n 1, [1], [], none),
  (71, 1, .iload_n 1, [1], [], none),
  (72, 3, .ifCond .lt 24, [96], [], none),
  (75, 1, .aload_n 0, [0], [], none),
  (76, 3, .sipush 1000, [], [.int 1000], none),
  (79, 1, .iload_n 1, [1], [], none),
  (80, 1, .iadd, [], [], none),
  (81, 3, .invokevirtual 210, [264, 0, 0, 2, 12], [], none),
  (84, 1, .aload_n 0, [0], [], none),
  (85, 1, .dup, [], [], none),
  (86, 3, .getfield 181, [24, 12], [], none),
  (89, 1, .iconst 1, [], [.int 1], none),
  (90, 1, .iadd, [], [], none),
  (91, 3, .putfield 181, [24, 12, 0], [], none),
  (94, 1, .iconst 1, [], [.int 1], none),
  (95, 1, .ireturn, [1], [], none),
  (96, 1, .aload_n 0, [0], [], none),
  (97, 2, .ldc 219, [], [.ref 901], none),
  (99, 3, .invokevirtual 215, [263, 0, 1, 2, 12], [], none),
  (102, 3, .ifCond .lt 11, [113], [], none),
  (105, 1, .aload_n 0, [0], [], none),
  (106, 3, .getfield 221, [26, 12], [], none),
  (109, 1, .iconst 5, [], [.int 5], none),
  (110, 3, .if_icmp .ne 5, [115], [], none),
  (113, 1, .iconst 0, [], [.int 0], some []),
  (114, 1, .ireturn, [1], [], none),
  (115, 1, .aload_n 0, [0], [], none),
  (116, 1, .dup, [], [], none),
  (117, 3, .getfield 181, [24, 12], [], none),
  (120, 1, .iconst 1, [], [.int 1], none),
  (121, 1, .iadd, [], [], none),
  (122, 3, .putfield 181, [24, 12, 0], [], none),
  (125, 1, .aload_n 0, [0], [], none),
  (126, 1, .dup, [], [], none),
  (127, 3, .getfield 221, [26, 12], [], none),
  (130, 1, .iconst 1, [], [.int 1], none),
  (131, 1, .iadd, [], [], none),
  (132, 3, .putfield 221, [26, 12, 0], [], none),
  (135, 1, .aload_n 0, [0], [], none),
  (136, 1, .iconst 0, [], [.int 0], none),
  (137, 3, .invokevirtual 224, [267, 2, 1, 2, 12], [], none),
  (140, 3, .ifCond .eq 12, [152], [], none),
  (143, 1, .aload_n 0, [0], [], none),
  (144, 2, .ldc 227, [], [.ref 902], none),
  (146, 3, .invokevirtual 215, [263, 0, 1, 2, 12], [], none),
  (149, 3, .ifCond .ge 5, [154], [], none),
  (152, 1, .iconst 0, [], [.int 0], some []),
  (153, 1, .ireturn, [1], [], none),
  (154, 1, .aload_n 0, [0], [], none),
  (155, 1, .dup, [], [], none),
  (156, 3, .getfield 181, [24, 12], [], none),
  (159, 1, .iconst 1, [], [.int 1], none),
  (160, 1, .iadd, [], [], none),
  (161, 3, .putfield 181, [24, 12, 0], [], none),
  (164, 1, .aload_n 0, [0], [], none),
  (165, 1, .dup, [], [], none),
  (166, 3, .getfield 221, [26, 12], [], none),
  (169, 1, .iconst 1, [], [.int 1], none),
  (170, 1, .isub, [], [], none),
  (171, 3, .putfield 221, [26, 12, 0], [], none),
  (174, 1, .iconst 1, [], [.int 1], none),
  (175, 1, .ireturn, [1], [], none)]
def jx_M265 : jx_M := (⟨"FairByEarModel", "thing", "()Z"⟩, prog_14_method_49_code, 3, (some .boolean), false, 2, jx_C265)
def jx_C266 : List jx_El := [(0, 1, .aload_n 0, [0], [], none),
  (1, 2, .ldc 229, [], [.ref 903], none),
  (3, 3, .invokevirtual 215, [263, 0, 1, 2, 12], [], none),
  (6, 1, .istore_n 1, [1], [], none),
  (7, 1, .iload_n 1, [1], [], none),
  (8, 3, .ifCond .ge 8, [16], [], none),
  (11, 1, .aload_n 0, [0], [], none),
  (12, 3, .invokevirtual 231, [265, 2, 1, 1, 12], [], none),
  (15, 1, .ireturn, [1], [], none),
  (16, 1, .aload_n 0, [0], [], none),
  (17, 1, .dup, [], [], none),
  (18, 3, .getfield 181, [24, 12], [], none),
  (21, 1, .iconst 1, [], [.int 1], none),
  (22, 1, .iadd, [], [], none),
  (23, 3, .putfield 181, [24, 12, 0], [], none),
  (26, 1, .aload_n 0, [0], [], none),
  (27, 3, .invokevirtual 234, [266, 2, 1, 1, 12], [], none),
  (30, 1, .istore_n 2, [2], [], none),
  (31, 1, .iload_n 2, [2], [], none),
  (32, 3, .ifCond .eq 22, [54], [], none),
  (35, 1, .aload_n 0, [0], [], none),
  (36, 3, .sipush 2000, [], [.int 2000], none),
  (39, 1, .iload_n 1, [1], [], none),
  (40, 3, .ifCond .ne 8, [48], [], none),
  (43, 2, .bipush 33, [], [.int 33], none),
  (45, 3, .goto 5, [50], [], none),
  (48, 2, .bipush 126, [], [.int 126], none),
  (50, 1, .iadd, [], [], some [2]),
  (51, 3, .invokevirtual 210, [264, 0, 0, 2, 12], [], none),
  (54, 1, .iload_n 2, [2], [], some [2]),
  (55, 1, .ireturn, [1], [], none)]
def jx_M266 : jx_M := (⟨"FairByEarModel", "ahead", "()Z"⟩, prog_14_method_50_code, 3, (some .boolean), false, 2, jx_C266)
def jx_C267 : List jx_El := [(0, 1, .iload_n 1, [1], [], none),
  (1, 1, .iconst 5, [], [.int 5], none),
  (2, 3, .if_icmp .ne 8, [10], [], none),
  (5, 1, .aload_n 0, [0], [], none),
  (6, 3, .invokevirtual 234, [266, 2, 1, 1, 12], [], none),
  (9, 1, .ireturn, [1], [], none),
  (10, 1, .iload_n 1, [1], [], none),
  (11, 3, .ifCond .ne 8, [19], [], none),
  (14, 2, .ldc 237, [], [.ref 904], none),
  (16, 3, .goto 35, [51], [], none),
  (19, 1, .iload_n 1, [1], [], none),
  (20, 1, .iconst 1, [], [.int 1], none),
  (21, 3, .if_icmp .ne 8, [29], [], none),
  (24, 2, .ldc 239, [], [.ref 905], none),
  (26, 3, .goto 25, [51], [], none),
  (29, 1, .iload_n 1, [1], [], none),
  (30, 1, .iconst 2, [], [.int 2], none),
  (31, 3, .if_icmp .ne 8, [39], [], none),
  (34, 2, .ldc 241, [], [.ref 906], none),
  (36, 3, .goto 15, [51], [], none),
  (39, 1, .iload_n 1, [1], [], none),
  (40, 1, .iconst 3, [], [.int 3], none),
  (41, 3, .if_icmp .ne 8, [49], [], none),
  (44, 2, .ldc 243, [], [.ref 907], none),
  (46, 3, .goto 5, [51], [], none),
  (49, 2, .ldc 245, [], [.ref 908], none),
  (51, 1, .astore_n 2, [2], [], some [0, 1]),
  (52, 1, .aload_n 0, [0], [], none),
  (53, 1, .iload_n 1, [1], [], none),
  (54, 1, .iconst 1, [], [.int 1], none),
  (55, 1, .iadd, [], [], none),
  (56, 3, .invokevirtual 224, [267, 2, 1, 2, 12], [], none),
  (59, 1, .istore_n 3, [3], [], none),
  (60, 1, .iconst 1, [], [.int 1], none),
  (61, 2, .istore 4, [4], [], none),
  (63, 1, .iload_n 3, [3], [], some [0, 1, 2, 3, 4]),
  (64, 3, .ifCond .eq 74, [138], [], none),
  (67, 2, .iload 4, [4], [], none),
  (69, 3, .ifCond .eq 69, [138], [], none),
  (72, 1, .aload_n 0, [0], [], none),
  (73, 1, .aload_n 2, [2], [], none),
  (74, 3, .invokevirtual 215, [263, 0, 1, 2, 12], [], none),
  (77, 3, .ifCond .lt 61, [138], [], none),
  (80, 1, .aload_n 0, [0], [], none),
  (81, 3, .getfield 178, [22, 12], [], none),
  (84, 1, .aload_n 0, [0], [], none),
  (85, 3, .getfield 181, [24, 12], [], none),
  (88, 1, .iaload, [], [], none),
  (89, 2, .istore 5, [5], [], none),
  (91, 1, .aload_n 0, [0], [], none),
  (92, 1, .dup, [], [], none),
  (93, 3, .getfield 181, [24, 12], [], none),
  (96, 1, .iconst 1, [], [.int 1], none),
  (97, 1, .iadd, [], [], none),
  (98, 3, .putfield 181, [24, 12, 0], [], none),
  (101, 1, .aload_n 0, [0], [], none),
  (102, 1, .iload_n 1, [1], [], none),
  (103, 1, .iconst 1, [], [.int 1], none),
  (104, 1, .iadd, [], [], none),
  (105, 3, .invokevirtual 224, [267, 2, 1, 2, 12], [], none),
  (108, 1, .istore_n 3, [3], [], none),
  (109, 1, .iload_n 3, [3], [], none),
  (110, 3, .ifCond .eq 13, [123], [], none),
  (113, 1, .aload_n 0, [0], [], none),
  (114, 3, .sipush 2000, [], [.int 2000], none),
  (117, 2, .iload 5, [5], [], none),
  (119, 1, .iadd, [], [], none),
  (120, 3, .invokevirtual 210, [264, 0, 0, 2, 12], [], none),
  (123, 1, .iload_n 1, [1], [], some [0, 1, 2, 3]),
  (124, 1, .iconst 2, [], [.int 2], none),
  (125, 3, .if_icmp .eq 7, [132], [], none),
  (128, 1, .iconst 1, [], [.int 1], none),
  (129, 3, .goto 4, [133], [], none),
  (132, 1, .iconst 0, [], [.int 0], none),
  (133, 2, .istore 4, [4], [], some [0, 1, 2, 3]),
  (135, 3, .goto (-72), [63], [], none),
  (138, 1, .iload_n 3, [3], [], some [3]),
  (139, 1, .ireturn, [1], [], none)]
def jx_M267 : jx_M := (⟨"FairByEarModel", "ranked", "(I)Z"⟩, prog_14_method_51_code, 6, (some .boolean), false, 2, jx_C267)
def jx_C268 : List jx_El := [(0, 1, .aload_n 0, [0], [], none),
  (1, 1, .iconst 0, [], [.int 0], none),
  (2, 3, .putfield 3, [0, 12, 0], [], none),
  (5, 1, .aload_n 0, [0], [], none),
  (6, 3, .getfield 175, [23, 12], [], none),
  (9, 1, .istore_n 1, [1], [], none),
  (10, 1, .aload_n 0, [0], [], none),
  (11, 1, .iconst 0, [], [.int 0], none),
  (12, 3, .putfield 175, [23, 12, 0], [], none),
  (15, 1, .aload_n 0, [0], [], none),
  (16, 1, .iconst 0, [], [.int 0], none),
  (17, 3, .putfield 181, [24, 12, 0], [], none),
  (20, 1, .aload_n 0, [0], [], none),
  (21, 1, .iconst 0, [], [.int 0], none),
  (22, 3, .putfield 221, [26, 12, 0], [], none),
  (25, 1, .aload_n 0, [0], [], none),
  (26, 1, .iload_n 1, [1], [], none),
  (27, 2, .bipush 40, [], [.int 40], none),
  (29, 3, .invokestatic 101, [2, 0, 1, 2], [], none),
  (32, 3, .putfield 184, [25, 12, 0], [], none),
  (35, 1, .aload_n 0, [0], [], none),
  (36, 3, .getfield 203, [20, 12], [], none),
  (39, 1, .iconst 1, [], [.int 1], none),
  (40, 1, .iconst 0, [], [.int 0], none),
  (41, 1, .iastore, [], [], none),
  (42, 1, .iload_n 1, [1], [], none),
  (43, 3, .ifCond .eq 11, [54], [], none),
  (46, 1, .aload_n 0, [0], [], none),
  (47, 1, .iconst 0, [], [.int 0], none),
  (48, 3, .invokevirtual 224, [267, 1, 1, 2, 12], [], none),
  (51, 3, .ifCond .eq 7, [58], [], none),
  (54, 1, .iconst 1, [], [.int 1], some [0, 1]),
  (55, 3, .goto 4, [59], [], none),
  (58, 1, .iconst 0, [], [.int 0], none),
  (59, 1, .istore_n 2, [2], [], some [0, 1]),
  (60, 1, .iload_n 2, [2], [], none),
  (61, 3, .ifCond .eq 18, [79], [], none),
  (64, 1, .aload_n 0, [0], [], none),
  (65, 3, .getfield 181, [24, 12], [], none),
  (68, 1, .aload_n 0, [0], [], none),
  (69, 3, .getfield 184, [25, 12], [], none),
  (72, 3, .if_icmp .ne 7, [79], [], none),
  (75, 1, .iconst 1, [], [.int 1], none),
  (76, 3, .goto 4, [80], [], none),
  (79, 1, .iconst 0, [], [.int 0], some [0, 1]),
  (80, 1, .istore_n 3, [3], [], some [0, 1]),
  (81, 1, .iload_n 1, [1], [], none),
  (82, 2, .bipush 40, [], [.int 40], none),
  (84, 3, .if_icmp .le 19, [103], [], none),
  (87, 1, .iload_n 3, [3], [], none),
  (88, 3, .ifCond .ne 12, [100], [], none),
  (91, 1, .aload_n 0, [0], [], none),
  (92, 3, .getfield 181, [24, 12], [], none),
  (95, 2, .bipush 40, [], [.int 40], none),
  (97, 3, .if_icmp .lt 6, [103], [], none),
  (100, 2, .bipush (-41), [], [.int (-41)], some []),
  (102, 1, .ireturn, [], [], none),
  (103, 1, .iload_n 3, [3], [], some [0, 3]),
  (104, 3, .ifCond .ne 10, [114], [], none),
  (107, 1, .iconst (-1), [], [.int (-1)], none),
  (108, 1, .aload_n 0, [0], [], none),
  (109, 3, .getfield 181, [24, 12], [], none),
  (112, 1, .isub, [], [], none),
  (113, 1, .ireturn, [], [], none),
  (114, 1, .aload_n 0, [0], [], none),
  (115, 3, .getfield 203, [20, 12], [], none),
  (118, 1, .iconst 0, [], [.int 0], none),
  (119, 1, .aload_n 0, [0], [], none),
  (120, 3, .getfield 203, [20, 12], [], none),
  (123, 1, .iconst 1, [], [.int 1], none),
  (124, 1, .iaload, [], [], none),
  (125, 1, .iastore, [], [], none),
  (126, 1, .iconst 0, [], [.int 0], none),
  (127, 2, .istore 4, [4], [], none),
  (129, 2, .iload 4, [4], [], some [0, 4]),
  (131, 2, .bipush 48, [], [.int 48], none),
  (133, 3, .if_icmp .ge 26, [159], [], none),
  (136, 1, .aload_n 0, [0], [], none),
  (137, 3, .getfield 200, [19, 12], [], none),
  (140, 2, .iload 4, [4], [], none),
  (142, 1, .aload_n 0, [0], [], none),
  (143, 3, .getfield 200, [19, 12], [], none),
  (146, 2, .bipush 48, [], [.int 48], none),
  (148, 2, .iload 4, [4], [], none),
  (150, 1, .iadd, [], [], none),
  (151, 1, .iaload, [], [], none),
  (152, 1, .iastore, [], [], none),
  (153, 3, .iinc 4 1, [4], [.int 1], none),
  (156, 3, .goto (-27), [129], [], none),
  (159, 1, .iconst 0, [], [.int 0], none),
  (160, 1, .ireturn, [], [], none)]
def jx_M268 : jx_M := (⟨"FairByEarModel", "rule", "()I"⟩, prog_14_method_52_code, 5, (some .int), false, 123, jx_C268)
def jx_C269 : List jx_El := [(0, 1, .iload_n 1, [1], [], none),
  (1, 35, .tableswitch 75 0 4 #[35, 42, 49, 51, 63], [76, 36, 43, 50, 52, 64], [.int 0, .int 1, .int 2, .int 3, .int 4], none),
  (36, 1, .aload_n 0, [0], [], none),
  (37, 3, .getfield 63, [9, 12], [], none),
  (40, 1, .iload_n 2, [2], [], none),
  (41, 1, .iaload, [], [], none),
  (42, 1, .ireturn, [], [], none),
  (43, 1, .aload_n 0, [0], [], none),
  (44, 3, .getfield 60, [8, 12], [], none),
  (47, 1, .iload_n 2, [2], [], none),
  (48, 1, .iaload, [], [], none),
  (49, 1, .ireturn, [], [], none),
  (50, 1, .iload_n 2, [2], [], none),
  (51, 1, .ireturn, [], [], none),
  (52, 1, .aload_n 0, [0], [], none),
  (53, 1, .aload_n 0, [0], [], none),
  (54, 3, .getfield 57, [7, 12], [], none),
  (57, 1, .iload_n 2, [2], [], none),
  (58, 1, .iaload, [], [], none),
  (59, 1, .iconst 0, [], [.int 0], none),
  (60, 3, .invokevirtual 35, [227, 0, 1, 3, 12], [], none),
  (63, 1, .ireturn, [], [], none),
  (64, 1, .aload_n 0, [0], [], none),
  (65, 3, .getfield 52, [5, 12], [], none),
  (68, 1, .aload_n 0, [0], [], none),
  (69, 3, .getfield 57, [7, 12], [], none),
  (72, 1, .iload_n 2, [2], [], none),
  (73, 1, .iaload, [], [], none),
  (74, 1, .iaload, [], [], none),
  (75, 1, .ireturn, [], [], none),
  (76, 1, .aload_n 0, [0], [], none),
  (77, 1, .aload_n 0, [0], [], none),
  (78, 3, .getfield 57, [7, 12], [], none),
  (81, 1, .iload_n 2, [2], [], none),
  (82, 1, .iaload, [], [], none),
  (83, 3, .invokevirtual 247, [270, 0, 1, 2, 12], [], none),
  (86, 1, .ireturn, [], [], none)]
def jx_M269 : jx_M := (⟨"FairByEarModel", "valueOf", "(II)I"⟩, prog_14_method_53_code, 3, (some .int), false, 2, jx_C269)
def jx_C270 : List jx_El := [(0, 1, .iconst 0, [], [.int 0], none),
  (1, 1, .istore_n 2, [2], [], none),
  (2, 1, .iconst 0, [], [.int 0], none),
  (3, 1, .istore_n 3, [3], [], none),
  (4, 1, .iload_n 3, [3], [], some [0, 1, 2, 3]),
  (5, 1, .aload_n 0, [0], [], none),
  (6, 3, .getfield 28, [6, 12], [], none),
  (9, 3, .if_icmp .ge 30, [39], [], none),
  (12, 1, .iload_n 2, [2], [], none),
  (13, 1, .aload_n 0, [0], [], none),
  (14, 3, .getfield 57, [7, 12], [], none),
  (17, 1, .iload_n 3, [3], [], none),
  (18, 1, .iaload, [], [], none),
  (19, 1, .iload_n 1, [1], [], none),
  (20, 3, .if_icmp .ne 7, [27], [], none),
  (23, 1, .iconst 1, [], [.int 1], none),
  (24, 3, .goto 4, [28], [], none),
  (27, 1, .iconst 0, [], [.int 0], none),
  (28, 3, .invokestatic 250, [221, 0, 1, 1], [], some [0, 1, 3]),
  (31, 1, .iadd, [], [], none),
  (32, 1, .istore_n 2, [2], [], none),
  (33, 3, .iinc 3 1, [3], [.int 1], none),
  (36, 3, .goto (-32), [4], [], none),
  (39, 1, .iload_n 2, [2], [], none),
  (40, 1, .ireturn, [], [], none)]
def jx_M270 : jx_M := (⟨"FairByEarModel", "peopleAt", "(I)I"⟩, prog_14_method_54_code, 4, (some .int), false, 1, jx_C270)
def jx_C271 : List jx_El := [(0, 1, .iload_n 0, [0], [], none),
  (1, 115, .tableswitch 186 38 62 #[169, 186, 186, 186, 123, 115, 186, 119, 186, 186, 186, 186, 186, 186, 186, 186, 186, 186, 186, 186, 186, 186, 127, 155, 141], [187, 170, 187, 187, 187, 124, 116, 187, 120, 187, 187, 187, 187, 187, 187, 187, 187, 187, 187, 187, 187, 187, 187, 128, 156, 142], [.int 38, .int 39, .int 40, .int 41, .int 42, .int 43, .int 44, .int 45, .int 46, .int 47, .int 48, .int 49, .int 50, .int 51, .int 52, .int 53, .int 54, .int 55, .int 56, .int 57, .int 58, .int 59, .int 60, .int 61, .int 62], none),
  (116, 1, .iload_n 1, [1], [], none),
  (117, 1, .iload_n 2, [2], [], none),
  (118, 1, .iadd, [], [], none),
  (119, 1, .ireturn, [], [], none),
  (120, 1, .iload_n 1, [1], [], none),
  (121, 1, .iload_n 2, [2], [], none),
  (122, 1, .isub, [], [], none),
  (123, 1, .ireturn, [], [], none),
  (124, 1, .iload_n 1, [1], [], none),
  (125, 1, .iload_n 2, [2], [], none),
  (126, 1, .imul, [], [], none),
  (127, 1, .ireturn, [], [], none),
  (128, 1, .iload_n 1, [1], [], none),
  (129, 1, .iload_n 2, [2], [], none),
  (130, 3, .if_icmp .ge 7, [137], [], none),
  (133, 1, .iconst 1, [], [.int 1], none),
  (134, 3, .goto 4, [138], [], none),
  (137, 1, .iconst 0, [], [.int 0], none),
  (138, 3, .invokestatic 250, [221, 0, 1, 1], [], some []),
  (141, 1, .ireturn, [], [], none),
  (142, 1, .iload_n 1, [1], [], none),
  (143, 1, .iload_n 2, [2], [], none),
  (144, 3, .if_icmp .le 7, [151], [], none),
  (147, 1, .iconst 1, [], [.int 1], none),
  (148, 3, .goto 4, [152], [], none),
  (151, 1, .iconst 0, [], [.int 0], none),
  (152, 3, .invokestatic 250, [221, 0, 1, 1], [], some []),
  (155, 1, .ireturn, [], [], none),
  (156, 1, .iload_n 1, [1], [], none),
  (157, 1, .iload_n 2, [2], [], none),
  (158, 3, .if_icmp .ne 7, [165], [], none),
  (161, 1, .iconst 1, [], [.int 1], none),
  (162, 3, .goto 4, [166], [], none),
  (165, 1, .iconst 0, [], [.int 0], none),
  (166, 3, .invokestatic 250, [221, 0, 1, 1], [], some []),
  (169, 1, .ireturn, [], [], none),
  (170, 1, .iload_n 1, [1], [], none),
  (171, 3, .ifCond .eq 11, [182], [], none),
  (174, 1, .iload_n 2, [2], [], none),
  (175, 3, .ifCond .eq 7, [182], [], none),
  (178, 1, .iconst 1, [], [.int 1], none),
  (179, 3, .goto 4, [183], [], none),
  (182, 1, .iconst 0, [], [.int 0], some []),
  (183, 3, .invokestatic 250, [221, 0, 1, 1], [], some []),
  (186, 1, .ireturn, [], [], none),
  (187, 1, .iload_n 1, [1], [], none),
  (188, 3, .ifCond .ne 7, [195], [], none),
  (191, 1, .iload_n 2, [2], [], none),
  (192, 3, .ifCond .eq 7, [199], [], none),
  (195, 1, .iconst 1, [], [.int 1], some []),
  (196, 3, .goto 4, [200], [], none),
  (199, 1, .iconst 0, [], [.int 0], none),
  (200, 3, .invokestatic 250, [221, 0, 1, 1], [], some []),
  (203, 1, .ireturn, [], [], none)]
def jx_M271 : jx_M := (⟨"FairByEarModel", "acted", "(III)I"⟩, prog_14_method_55_code, 3, (some .int), true, 1, jx_C271)
def jx_C272 : List jx_El := [(0, 1, .aload_n 0, [0], [], none),
  (1, 3, .getfield 203, [20, 12], [], none),
  (4, 1, .iconst 0, [], [.int 0], none),
  (5, 1, .iaload, [], [], none),
  (6, 3, .ifCond .ne 5, [11], [], none),
  (9, 1, .iconst 0, [], [.int 0], none),
  (10, 1, .ireturn, [], [], none),
  (11, 1, .iconst 0, [], [.int 0], none),
  (12, 1, .istore_n 2, [2], [], none),
  (13, 1, .iconst 0, [], [.int 0], none),
  (14, 1, .istore_n 3, [3], [], none),
  (15, 1, .iload_n 3, [3], [], some [0, 1, 2, 3]),
  (16, 1, .aload_n 0, [0], [], none),
  (17, 3, .getfield 203, [20, 12], [], none),
  (20, 1, .iconst 0, [], [.int 0], none),
  (21, 1, .iaload, [], [], none),
  (22, 3, .if_icmp .ge 161, [183], [], none),
  (25, 1, .aload_n 0, [0], [], none),
  (26, 3, .getfield 200, [19, 12], [], none),
  (29, 1, .iload_n 3, [3], [], none),
  (30, 1, .iaload, [], [], none),
  (31, 2, .istore 4, [4], [], none),
  (33, 2, .iload 4, [4], [], none),
  (35, 3, .sipush 2000, [], [.int 2000], none),
  (38, 3, .if_icmp .ge 39, [77], [], none),
  (41, 1, .aload_n 0, [0], [], none),
  (42, 3, .getfield 254, [21, 12], [], none),
  (45, 1, .iload_n 2, [2], [], none),
  (46, 2, .iload 4, [4], [], none),
  (48, 3, .sipush 1000, [], [.int 1000], none),
  (51, 3, .if_icmp .ge 8, [59], [], none),
  (54, 2, .iload 4, [4], [], none),
  (56, 3, .goto 14, [70], [], none),
  (59, 1, .aload_n 0, [0], [], none),
  (60, 2, .iload 4, [4], [], none),
  (62, 3, .sipush 1000, [], [.int 1000], none),
  (65, 1, .isub, [], [], none),
  (66, 1, .iload_n 1, [1], [], none),
  (67, 3, .invokevirtual 257, [269, 0, 1, 3, 12], [], none),
  (70, 1, .iastore, [], [], some [0, 1, 2, 3]),
  (71, 3, .iinc 2 1, [2], [.int 1], none),
  (74, 3, .goto 103, [177], [], none),
  (77, 2, .iload 4, [4], [], none),
  (79, 3, .sipush 2033, [], [.int 2033], none),
  (82, 3, .if_icmp .ne 33, [115], [], none),
  (85, 1, .aload_n 0, [0], [], none),
  (86, 3, .getfield 254, [21, 12], [], none),
  (89, 1, .iload_n 2, [2], [], none),
  (90, 1, .iconst 1, [], [.int 1], none),
  (91, 1, .isub, [], [], none),
  (92, 1, .aload_n 0, [0], [], none),
  (93, 3, .getfield 254, [21, 12], [], none),
  (96, 1, .iload_n 2, [2], [], none),
  (97, 1, .iconst 1, [], [.int 1], none),
  (98, 1, .isub, [], [], none),
  (99, 1, .iaload, [], [], none),
  (100, 3, .ifCond .ne 7, [107], [], none),
  (103, 1, .iconst 1, [], [.int 1], none),
  (104, 3, .goto 4, [108], [], none),
  (107, 1, .iconst 0, [], [.int 0], none),
  (108, 3, .invokestatic 250, [221, 0, 1, 1], [], some [0, 1, 2, 3]),
  (111, 1, .iastore, [], [], none),
  (112, 3, .goto 65, [177], [], none),
  (115, 2, .iload 4, [4], [], none),
  (117, 3, .sipush 2126, [], [.int 2126], none),
  (120, 3, .if_icmp .ne 23, [143], [], none),
  (123, 1, .aload_n 0, [0], [], none),
  (124, 3, .getfield 254, [21, 12], [], none),
  (127, 1, .iload_n 2, [2], [], none),
  (128, 1, .iconst 1, [], [.int 1], none),
  (129, 1, .isub, [], [], none),
  (130, 1, .aload_n 0, [0], [], none),
  (131, 3, .getfield 254, [21, 12], [], none),
  (134, 1, .iload_n 2, [2], [], none),
  (135, 1, .iconst 1, [], [.int 1], none),
  (136, 1, .isub, [], [], none),
  (137, 1, .iaload, [], [], none),
  (138, 1, .ineg, [], [], none),
  (139, 1, .iastore, [], [], none),
  (140, 3, .goto 37, [177], [], none),
  (143, 3, .iinc 2 (-1), [2], [.int (-1)], none),
  (146, 1, .aload_n 0, [0], [], none),
  (147, 3, .getfield 254, [21, 12], [], none),
  (150, 1, .iload_n 2, [2], [], none),
  (151, 1, .iconst 1, [], [.int 1], none),
  (152, 1, .isub, [], [], none),
  (153, 2, .iload 4, [4], [], none),
  (155, 3, .sipush 2000, [], [.int 2000], none),
  (158, 1, .isub, [], [], none),
  (159, 1, .aload_n 0, [0], [], none),
  (160, 3, .getfield 254, [21, 12], [], none),
  (163, 1, .iload_n 2, [2], [], none),
  (164, 1, .iconst 1, [], [.int 1], none),
  (165, 1, .isub, [], [], none),
  (166, 1, .iaload, [], [], none),
  (167, 1, .aload_n 0, [0], [], none),
  (168, 3, .getfield 254, [21, 12], [], none),
  (171, 1, .iload_n 2, [2], [], none),
  (172, 1, .iaload, [], [], none),
  (173, 3, .invokestatic 260, [271, 0, 1, 3], [], none),
  (176, 1, .iastore, [], [], none),
  (177, 3, .iinc 3 1, [3], [.int 1], some [0, 1, 2, 3]),
  (180, 3, .goto (-165), [15], [], none),
  (183, 1, .aload_n 0, [0], [], none),
  (184, 3, .getfield 254, [21, 12], [], none),
  (187, 1, .iconst 0, [], [.int 0], none),
  (188, 1, .iaload, [], [], none),
  (189, 1, .ireturn, [], [], none)]
def jx_M272 : jx_M := (⟨"FairByEarModel", "right", "(I)I"⟩, prog_14_method_56_code, 5, (some .int), false, 3, jx_C272)
def jx_C273 : List jx_El := [(0, 1, .aload_n 0, [0], [], none),
  (1, 1, .iconst 0, [], [.int 0], none),
  (2, 3, .putfield 3, [0, 12, 0], [], none),
  (5, 1, .aload_n 0, [0], [], none),
  (6, 1, .iload_n 1, [1], [], none),
  (7, 3, .invokevirtual 66, [226, 0, 1, 2, 12], [], none),
  (10, 3, .ifCond .eq 16, [26], [], none),
  (13, 1, .aload_n 0, [0], [], none),
  (14, 1, .iload_n 2, [2], [], none),
  (15, 3, .invokevirtual 66, [226, 0, 1, 2, 12], [], none),
  (18, 3, .ifCond .eq 8, [26], [], none),
  (21, 1, .iload_n 1, [1], [], none),
  (22, 1, .iload_n 2, [2], [], none),
  (23, 3, .if_icmp .ne 5, [28], [], none),
  (26, 1, .iconst (-1), [], [.int (-1)], some []),
  (27, 1, .ireturn, [], [], none),
  (28, 1, .aload_n 0, [0], [], none),
  (29, 1, .iload_n 1, [1], [], none),
  (30, 3, .invokevirtual 263, [272, 0, 1, 2, 12], [], none),
  (33, 1, .istore_n 3, [3], [], none),
  (34, 1, .aload_n 0, [0], [], none),
  (35, 1, .iload_n 2, [2], [], none),
  (36, 3, .invokevirtual 263, [272, 0, 1, 2, 12], [], none),
  (39, 2, .istore 4, [4], [], none),
  (41, 1, .aload_n 0, [0], [], none),
  (42, 1, .iconst 0, [], [.int 0], none),
  (43, 3, .putfield 11, [1, 12, 0], [], none),
  (46, 1, .aload_n 0, [0], [], none),
  (47, 1, .iload_n 3, [3], [], none),
  (48, 1, .i2l, [], [], none),
  (49, 3, .invokevirtual 18, [222, 0, 0, 2, 12], [], none),
  (52, 1, .aload_n 0, [0], [], none),
  (53, 2, .iload 4, [4], [], none),
  (55, 1, .i2l, [], [], none),
  (56, 3, .invokevirtual 18, [222, 0, 0, 2, 12], [], none),
  (59, 1, .iload_n 3, [3], [], none),
  (60, 2, .iload 4, [4], [], none),
  (62, 3, .if_icmp .le 7, [69], [], none),
  (65, 1, .iload_n 1, [1], [], none),
  (66, 3, .goto 18, [84], [], none),
  (69, 2, .iload 4, [4], [], none),
  (71, 1, .iload_n 3, [3], [], none),
  (72, 3, .if_icmp .le 7, [79], [], none),
  (75, 1, .iload_n 2, [2], [], none),
  (76, 3, .goto 8, [84], [], none),
  (79, 1, .iload_n 1, [1], [], none),
  (80, 1, .iload_n 2, [2], [], none),
  (81, 3, .invokestatic 101, [2, 0, 1, 2], [], none),
  (84, 1, .ireturn, [], [], some [])]
def jx_M273 : jx_M := (⟨"FairByEarModel", "first", "(II)I"⟩, prog_14_method_57_code, 5, (some .int), false, 4, jx_C273)
def jx_C274 : List jx_El := [(0, 1, .aload_n 0, [0], [], none),
  (1, 1, .iconst 0, [], [.int 0], none),
  (2, 3, .putfield 3, [0, 12, 0], [], none),
  (5, 1, .aload_n 0, [0], [], none),
  (6, 1, .iconst 0, [], [.int 0], none),
  (7, 3, .putfield 11, [1, 12, 0], [], none),
  (10, 1, .iconst 0, [], [.int 0], none),
  (11, 1, .istore_n 1, [1], [], none),
  (12, 1, .iconst 0, [], [.int 0], none),
  (13, 1, .istore_n 2, [2], [], none),
  (14, 1, .iconst 0, [], [.int 0], none),
  (15, 1, .istore_n 3, [3], [], none),
  (16, 1, .iload_n 3, [3], [], some [0, 1, 2, 3]),
  (17, 1, .aload_n 0, [0], [], none),
  (18, 3, .getfield 28, [6, 12], [], none),
  (21, 3, .if_icmp .ge 122, [143], [], none),
  (24, 1, .iconst (-1), [], [.int (-1)], none),
  (25, 2, .istore 4, [4], [], none),
  (27, 1, .iconst 0, [], [.int 0], none),
  (28, 2, .istore 5, [5], [], none),
  (30, 2, .iload 5, [5], [], some [0, 1, 2, 3, 4, 5]),
  (32, 1, .aload_n 0, [0], [], none),
  (33, 3, .getfield 28, [6, 12], [], none),
  (36, 3, .if_icmp .ge 47, [83], [], none),
  (39, 1, .iload_n 1, [1], [], none),
  (40, 2, .iload 5, [5], [], none),
  (42, 3, .invokestatic 112, [220, 0, 1, 2], [], none),
  (45, 3, .ifCond .ne 28, [73], [], none),
  (48, 2, .iload 4, [4], [], none),
  (50, 3, .ifCond .lt 18, [68], [], none),
  (53, 1, .aload_n 0, [0], [], none),
  (54, 2, .iload 5, [5], [], none),
  (56, 3, .invokevirtual 263, [272, 0, 1, 2, 12], [], none),
  (59, 1, .aload_n 0, [0], [], none),
  (60, 2, .iload 4, [4], [], none),
  (62, 3, .invokevirtual 263, [272, 0, 1, 2, 12], [], none),
  (65, 3, .if_icmp .le 8, [73], [], none),
  (68, 2, .iload 5, [5], [], some [0, 1, 2, 3, 5]),
  (70, 3, .goto 5, [75], [], none),
  (73, 2, .iload 4, [4], [], some [0, 1, 2, 3, 4, 5]),
  (75, 2, .istore 4, [4], [], some [0, 1, 2, 3, 5]),
  (77, 3, .iinc 5 1, [5], [.int 1], none),
  (80, 3, .goto (-50), [30], [], none),
  (83, 1, .iload_n 1, [1], [], none),
  (84, 1, .iconst 1, [], [.int 1], none),
  (85, 2, .iload 4, [4], [], none),
  (87, 1, .ishl, [], [], none),
  (88, 1, .ior, [], [], none),
  (89, 1, .istore_n 1, [1], [], none),
  (90, 1, .aload_n 0, [0], [], none),
  (91, 2, .iload 4, [4], [], none),
  (93, 1, .i2l, [], [], none),
  (94, 3, .invokevirtual 18, [222, 0, 0, 2, 12], [], none),
  (97, 1, .iconst 0, [], [.int 0], none),
  (98, 2, .istore 5, [5], [], none),
  (100, 2, .iload 5, [5], [], some [0, 1, 2, 3, 5]),
  (102, 1, .iload_n 3, [3], [], none),
  (103, 3, .if_icmp .ge 34, [137], [], none),
  (106, 1, .iload_n 2, [2], [], none),
  (107, 1, .aload_n 0, [0], [], none),
  (108, 2, .iload 5, [5], [], none),
  (110, 3, .invokevirtual 263, [272, 0, 1, 2, 12], [], none),
  (113, 1, .aload_n 0, [0], [], none),
  (114, 1, .iload_n 3, [3], [], none),
  (115, 3, .invokevirtual 263, [272, 0, 1, 2, 12], [], none),
  (118, 3, .if_icmp .ne 7, [125], [], none),
  (121, 1, .iconst 1, [], [.int 1], none),
  (122, 3, .goto 4, [126], [], none),
  (125, 1, .iconst 0, [], [.int 0], none),
  (126, 3, .invokestatic 250, [221, 0, 1, 1], [], some [0, 1, 3, 5]),
  (129, 1, .iadd, [], [], none),
  (130, 1, .istore_n 2, [2], [], none),
  (131, 3, .iinc 5 1, [5], [.int 1], none),
  (134, 3, .goto (-34), [100], [], none),
  (137, 3, .iinc 3 1, [3], [.int 1], none),
  (140, 3, .goto (-124), [16], [], none),
  (143, 1, .iload_n 2, [2], [], none),
  (144, 1, .ireturn, [], [], none)]
def jx_M274 : jx_M := (⟨"FairByEarModel", "order", "()I"⟩, prog_14_method_58_code, 6, (some .int), false, 4, jx_C274)
def jx_C275 : List jx_El := [(0, 1, .iload_n 1, [1], [], none),
  (1, 1, .i2l, [], [], none),
  (2, 1, .lconst 0, [], [.long 0], none),
  (3, 1, .aload_n 0, [0], [], none),
  (4, 3, .getfield 266, [28, 12], [], none),
  (7, 1, .iconst 1, [], [.int 1], none),
  (8, 1, .isub, [], [], none),
  (9, 1, .i2l, [], [], none),
  (10, 3, .invokestatic 24, [219, 0, 1, 3], [], none),
  (13, 1, .ireturn, [1], [], none)]
def jx_M275 : jx_M := (⟨"FairByEarModel", "isItem", "(I)Z"⟩, prog_14_method_59_code, 2, (some .boolean), false, 1, jx_C275)
def jx_C276 : List jx_El := [(0, 1, .aload_n 0, [0], [], none),
  (1, 1, .iconst 0, [], [.int 0], none),
  (2, 3, .putfield 3, [0, 12, 0], [], none),
  (5, 1, .aload_n 0, [0], [], none),
  (6, 1, .iload_n 1, [1], [], none),
  (7, 3, .invokevirtual 66, [226, 0, 1, 2, 12], [], none),
  (10, 3, .ifCond .eq 23, [33], [], none),
  (13, 1, .aload_n 0, [0], [], none),
  (14, 1, .iload_n 2, [2], [], none),
  (15, 3, .invokevirtual 90, [235, 0, 1, 2, 12], [], none),
  (18, 3, .ifCond .eq 15, [33], [], none),
  (21, 1, .iload_n 3, [3], [], none),
  (22, 1, .i2l, [], [], none),
  (23, 1, .lconst 0, [], [.long 0], none),
  (24, 3, .ldc2_w 169, [], [.long 99], none),
  (27, 3, .invokestatic 24, [219, 0, 1, 3], [], none),
  (30, 3, .ifCond .ne 5, [35], [], none),
  (33, 1, .iconst (-1), [], [.int (-1)], some []),
  (34, 1, .ireturn, [], [], none),
  (35, 1, .aload_n 0, [0], [], none),
  (36, 3, .getfield 269, [27, 12], [], none),
  (39, 2, .bipush 10, [], [.int 10], none),
  (41, 1, .iload_n 1, [1], [], none),
  (42, 1, .imul, [], [], none),
  (43, 1, .iload_n 2, [2], [], none),
  (44, 1, .iadd, [], [], none),
  (45, 1, .iaload, [], [], none),
  (46, 2, .istore 4, [4], [], none),
  (48, 1, .aload_n 0, [0], [], none),
  (49, 3, .getfield 269, [27, 12], [], none),
  (52, 2, .bipush 10, [], [.int 10], none),
  (54, 1, .iload_n 1, [1], [], none),
  (55, 1, .imul, [], [], none),
  (56, 1, .iload_n 2, [2], [], none),
  (57, 1, .iadd, [], [], none),
  (58, 1, .iload_n 3, [3], [], none),
  (59, 1, .iastore, [], [], none),
  (60, 2, .iload 4, [4], [], none),
  (62, 1, .ireturn, [], [], none)]
def jx_M276 : jx_M := (⟨"FairByEarModel", "want", "(III)I"⟩, prog_14_method_60_code, 5, (some .int), false, 2, jx_C276)
def jx_C277 : List jx_El := [(0, 1, .aload_n 0, [0], [], none),
  (1, 1, .iconst 0, [], [.int 0], none),
  (2, 3, .putfield 3, [0, 12, 0], [], none),
  (5, 1, .aload_n 0, [0], [], none),
  (6, 1, .iload_n 1, [1], [], none),
  (7, 3, .invokevirtual 90, [235, 0, 1, 2, 12], [], none),
  (10, 3, .ifCond .eq 32, [42], [], none),
  (13, 1, .aload_n 0, [0], [], none),
  (14, 1, .iload_n 2, [2], [], none),
  (15, 3, .invokevirtual 66, [226, 0, 1, 2, 12], [], none),
  (18, 3, .ifCond .eq 24, [42], [], none),
  (21, 1, .iload_n 3, [3], [], none),
  (22, 1, .i2l, [], [], none),
  (23, 1, .lconst 0, [], [.long 0], none),
  (24, 3, .ldc2_w 169, [], [.long 99], none),
  (27, 3, .invokestatic 24, [219, 0, 1, 3], [], none),
  (30, 3, .ifCond .eq 12, [42], [], none),
  (33, 1, .aload_n 0, [0], [], none),
  (34, 3, .getfield 266, [28, 12], [], none),
  (37, 2, .bipush 12, [], [.int 12], none),
  (39, 3, .if_icmp .ne 5, [44], [], none),
  (42, 1, .iconst (-1), [], [.int (-1)], some []),
  (43, 1, .ireturn, [], [], none),
  (44, 1, .aload_n 0, [0], [], none),
  (45, 3, .getfield 272, [29, 12], [], none),
  (48, 1, .aload_n 0, [0], [], none),
  (49, 3, .getfield 266, [28, 12], [], none),
  (52, 1, .iload_n 1, [1], [], none),
  (53, 1, .iastore, [], [], none),
  (54, 1, .aload_n 0, [0], [], none),
  (55, 3, .getfield 275, [30, 12], [], none),
  (58, 1, .aload_n 0, [0], [], none),
  (59, 3, .getfield 266, [28, 12], [], none),
  (62, 1, .iload_n 2, [2], [], none),
  (63, 1, .iastore, [], [], none),
  (64, 1, .aload_n 0, [0], [], none),
  (65, 3, .getfield 278, [31, 12], [], none),
  (68, 1, .aload_n 0, [0], [], none),
  (69, 3, .getfield 266, [28, 12], [], none),
  (72, 1, .iconst 0, [], [.int 0], none),
  (73, 1, .bastore, [], [], none),
  (74, 1, .iconst 0, [], [.int 0], none),
  (75, 2, .istore 4, [4], [], none),
  (77, 2, .iload 4, [4], [], some [0, 3, 4]),
  (79, 2, .bipush 10, [], [.int 10], none),
  (81, 3, .if_icmp .ge 25, [106], [], none),
  (84, 1, .aload_n 0, [0], [], none),
  (85, 3, .getfield 282, [32, 12], [], none),
  (88, 2, .bipush 12, [], [.int 12], none),
  (90, 2, .iload 4, [4], [], none),
  (92, 1, .imul, [], [], none),
  (93, 1, .aload_n 0, [0], [], none),
  (94, 3, .getfield 266, [28, 12], [], none),
  (97, 1, .iadd, [], [], none),
  (98, 1, .iload_n 3, [3], [], none),
  (99, 1, .iastore, [], [], none),
  (100, 3, .iinc 4 1, [4], [.int 1], none),
  (103, 3, .goto (-26), [77], [], none),
  (106, 1, .aload_n 0, [0], [], none),
  (107, 1, .dup, [], [], none),
  (108, 3, .getfield 266, [28, 12], [], none),
  (111, 1, .iconst 1, [], [.int 1], none),
  (112, 1, .iadd, [], [], none),
  (113, 3, .putfield 266, [28, 12, 0], [], none),
  (116, 1, .aload_n 0, [0], [], none),
  (117, 3, .getfield 266, [28, 12], [], none),
  (120, 1, .iconst 1, [], [.int 1], none),
  (121, 1, .isub, [], [], none),
  (122, 1, .ireturn, [], [], none)]
def jx_M277 : jx_M := (⟨"FairByEarModel", "item", "(III)I"⟩, prog_14_method_61_code, 5, (some .int), false, 2, jx_C277)
def jx_C278 : List jx_El := [(0, 1, .aload_n 0, [0], [], none),
  (1, 1, .iconst 0, [], [.int 0], none),
  (2, 3, .putfield 3, [0, 12, 0], [], none),
  (5, 1, .aload_n 0, [0], [], none),
  (6, 1, .iload_n 1, [1], [], none),
  (7, 3, .invokevirtual 285, [275, 0, 1, 2, 12], [], none),
  (10, 3, .ifCond .eq 15, [25], [], none),
  (13, 1, .iload_n 2, [2], [], none),
  (14, 1, .i2l, [], [], none),
  (15, 1, .lconst 0, [], [.long 0], none),
  (16, 3, .ldc2_w 99, [], [.long 3], none),
  (19, 3, .invokestatic 24, [219, 0, 1, 3], [], none),
  (22, 3, .ifCond .ne 8, [30], [], none),
  (25, 1, .aload_n 0, [0], [], some [0]),
  (26, 3, .invokevirtual 71, [218, 0, 1, 1, 12], [], none),
  (29, 1, .ireturn, [], [], none),
  (30, 1, .iload_n 2, [2], [], none),
  (31, 3, .ifCond .ne 12, [43], [], none),
  (34, 1, .aload_n 0, [0], [], none),
  (35, 3, .getfield 272, [29, 12], [], none),
  (38, 1, .iload_n 1, [1], [], none),
  (39, 1, .iaload, [], [], none),
  (40, 3, .goto 40, [80], [], none),
  (43, 1, .iload_n 2, [2], [], none),
  (44, 1, .iconst 1, [], [.int 1], none),
  (45, 3, .if_icmp .ne 12, [57], [], none),
  (48, 1, .aload_n 0, [0], [], none),
  (49, 3, .getfield 275, [30, 12], [], none),
  (52, 1, .iload_n 1, [1], [], none),
  (53, 1, .iaload, [], [], none),
  (54, 3, .goto 26, [80], [], none),
  (57, 1, .iload_n 2, [2], [], none),
  (58, 1, .iconst 2, [], [.int 2], none),
  (59, 3, .if_icmp .ne 12, [71], [], none),
  (62, 1, .aload_n 0, [0], [], none),
  (63, 3, .getfield 282, [32, 12], [], none),
  (66, 1, .iload_n 1, [1], [], none),
  (67, 1, .iaload, [], [], none),
  (68, 3, .goto 12, [80], [], none),
  (71, 1, .aload_n 0, [0], [], none),
  (72, 3, .getfield 278, [31, 12], [], none),
  (75, 1, .iload_n 1, [1], [], none),
  (76, 1, .baload, [], [], none),
  (77, 3, .invokestatic 250, [221, 0, 1, 1], [], none),
  (80, 1, .ireturn, [], [], some [])]
def jx_M278 : jx_M := (⟨"FairByEarModel", "thing", "(II)I"⟩, prog_14_method_62_code, 3, (some .int), false, 2, jx_C278)
def jx_C279 : List jx_El := [(0, 1, .aload_n 0, [0], [], none),
  (1, 1, .iconst 0, [], [.int 0], none),
  (2, 3, .putfield 3, [0, 12, 0], [], none),
  (5, 1, .iload_n 1, [1], [], none),
  (6, 1, .i2l, [], [], none),
  (7, 1, .lconst 1, [], [.long 1], none),
  (8, 3, .ldc2_w 43, [], [.long 20], none),
  (11, 3, .invokestatic 24, [219, 0, 1, 3], [], none),
  (14, 3, .ifCond .ne 5, [19], [], none),
  (17, 1, .iconst (-1), [], [.int (-1)], none),
  (18, 1, .ireturn, [], [], none),
  (19, 1, .aload_n 0, [0], [], none),
  (20, 3, .getfield 288, [34, 12], [], none),
  (23, 1, .istore_n 2, [2], [], none),
  (24, 1, .aload_n 0, [0], [], none),
  (25, 1, .iload_n 1, [1], [], none),
  (26, 3, .putfield 288, [34, 12, 0], [], none),
  (29, 1, .iload_n 2, [2], [], none),
  (30, 1, .ireturn, [], [], none)]
def jx_M279 : jx_M := (⟨"FairByEarModel", "wind", "(I)I"⟩, prog_14_method_63_code, 3, (some .int), false, 1, jx_C279)
def jx_C280 : List jx_El := [(0, 1, .aload_n 0, [0], [], none),
  (1, 1, .aload_n 0, [0], [], none),
  (2, 3, .getfield 57, [7, 12], [], none),
  (5, 1, .aload_n 0, [0], [], none),
  (6, 3, .getfield 275, [30, 12], [], none),
  (9, 1, .iload_n 2, [2], [], none),
  (10, 1, .iaload, [], [], none),
  (11, 1, .iaload, [], [], none),
  (12, 1, .aload_n 0, [0], [], none),
  (13, 3, .getfield 57, [7, 12], [], none),
  (16, 1, .iload_n 1, [1], [], none),
  (17, 1, .iaload, [], [], none),
  (18, 3, .invokevirtual 35, [227, 0, 1, 3, 12], [], none),
  (21, 1, .istore_n 3, [3], [], none),
  (22, 1, .iload_n 3, [3], [], none),
  (23, 3, .sipush 999, [], [.int 999], none),
  (26, 3, .if_icmp .ne 7, [33], [], none),
  (29, 1, .iconst (-1), [], [.int (-1)], none),
  (30, 3, .goto 24, [54], [], none),
  (33, 1, .aload_n 0, [0], [], none),
  (34, 3, .getfield 282, [32, 12], [], none),
  (37, 2, .bipush 12, [], [.int 12], none),
  (39, 2, .bipush 9, [], [.int 9], none),
  (41, 1, .iload_n 3, [3], [], none),
  (42, 1, .aload_n 0, [0], [], none),
  (43, 3, .getfield 288, [34, 12], [], none),
  (46, 1, .idiv, [], [], none),
  (47, 3, .invokestatic 101, [2, 0, 1, 2], [], none),
  (50, 1, .imul, [], [], none),
  (51, 1, .iload_n 2, [2], [], none),
  (52, 1, .iadd, [], [], none),
  (53, 1, .iaload, [], [], none),
  (54, 1, .ireturn, [], [], some [])]
def jx_M280 : jx_M := (⟨"FairByEarModel", "heardBy", "(II)I"⟩, prog_14_method_64_code, 4, (some .int), false, 1, jx_C280)
def jx_C281 : List jx_El := [(0, 1, .iconst (-1), [], [.int (-1)], none),
  (1, 1, .istore_n 2, [2], [], none),
  (2, 1, .iconst 0, [], [.int 0], none),
  (3, 1, .istore_n 3, [3], [], none),
  (4, 1, .iconst 0, [], [.int 0], none),
  (5, 2, .istore 4, [4], [], none),
  (7, 2, .iload 4, [4], [], some [0, 1, 2, 3, 4]),
  (9, 1, .aload_n 0, [0], [], none),
  (10, 3, .getfield 266, [28, 12], [], none),
  (13, 3, .if_icmp .ge 102, [115], [], none),
  (16, 1, .aload_n 0, [0], [], none),
  (17, 3, .getfield 278, [31, 12], [], none),
  (20, 2, .iload 4, [4], [], none),
  (22, 1, .baload, [], [], none),
  (23, 3, .ifCond .ne 14, [37], [], none),
  (26, 1, .aload_n 0, [0], [], none),
  (27, 3, .getfield 275, [30, 12], [], none),
  (30, 2, .iload 4, [4], [], none),
  (32, 1, .iaload, [], [], none),
  (33, 1, .iload_n 1, [1], [], none),
  (34, 3, .if_icmp .ne 7, [41], [], none),
  (37, 1, .iconst (-1), [], [.int (-1)], some [0, 1, 2, 3, 4]),
  (38, 3, .goto 10, [48], [], none),
  (41, 1, .aload_n 0, [0], [], none),
  (42, 1, .iload_n 1, [1], [], none),
  (43, 2, .iload 4, [4], [], none),
  (45, 3, .invokevirtual 291, [280, 0, 1, 3, 12], [], none),
  (48, 2, .istore 5, [5], [], some [0, 1, 2, 3, 4]),
  (50, 1, .aload_n 0, [0], [], none),
  (51, 3, .getfield 269, [27, 12], [], none),
  (54, 2, .bipush 10, [], [.int 10], none),
  (56, 1, .iload_n 1, [1], [], none),
  (57, 1, .imul, [], [], none),
  (58, 1, .aload_n 0, [0], [], none),
  (59, 3, .getfield 272, [29, 12], [], none),
  (62, 2, .iload 4, [4], [], none),
  (64, 1, .iaload, [], [], none),
  (65, 1, .iadd, [], [], none),
  (66, 1, .iaload, [], [], none),
  (67, 2, .iload 5, [5], [], none),
  (69, 1, .isub, [], [], none),
  (70, 2, .istore 6, [6], [], none),
  (72, 2, .iload 5, [5], [], none),
  (74, 3, .ifCond .lt 35, [109], [], none),
  (77, 2, .iload 5, [5], [], none),
  (79, 1, .aload_n 0, [0], [], none),
  (80, 3, .getfield 60, [8, 12], [], none),
  (83, 1, .iload_n 1, [1], [], none),
  (84, 1, .iaload, [], [], none),
  (85, 3, .if_icmp .gt 24, [109], [], none),
  (88, 2, .iload 6, [6], [], none),
  (90, 3, .ifCond .lt 19, [109], [], none),
  (93, 1, .iload_n 2, [2], [], none),
  (94, 3, .ifCond .lt 9, [103], [], none),
  (97, 2, .iload 6, [6], [], none),
  (99, 1, .iload_n 3, [3], [], none),
  (100, 3, .if_icmp .le 9, [109], [], none),
  (103, 2, .iload 4, [4], [], some [0, 1, 4, 6]),
  (105, 1, .istore_n 2, [2], [], none),
  (106, 2, .iload 6, [6], [], none),
  (108, 1, .istore_n 3, [3], [], none),
  (109, 3, .iinc 4 1, [4], [.int 1], some [0, 1, 2, 3, 4]),
  (112, 3, .goto (-105), [7], [], none),
  (115, 1, .iload_n 2, [2], [], none),
  (116, 1, .ireturn, [], [], none)]
def jx_M281 : jx_M := (⟨"FairByEarModel", "asksFor", "(I)I"⟩, prog_14_method_65_code, 7, (some .int), false, 2, jx_C281)
def jx_C282 : List jx_El := [(0, 1, .iconst 0, [], [.int 0], none),
  (1, 1, .istore_n 1, [1], [], none),
  (2, 1, .iload_n 1, [1], [], some [0, 1]),
  (3, 1, .aload_n 0, [0], [], none),
  (4, 3, .getfield 266, [28, 12], [], none),
  (7, 3, .if_icmp .ge 16, [23], [], none),
  (10, 1, .aload_n 0, [0], [], none),
  (11, 3, .getfield 294, [33, 12], [], none),
  (14, 1, .iload_n 1, [1], [], none),
  (15, 1, .iconst 0, [], [.int 0], none),
  (16, 1, .iastore, [], [], none),
  (17, 3, .iinc 1 1, [1], [.int 1], none),
  (20, 3, .goto (-18), [2], [], none),
  (23, 1, .iconst 0, [], [.int 0], none),
  (24, 1, .istore_n 1, [1], [], none),
  (25, 1, .iload_n 1, [1], [], some [0, 1]),
  (26, 1, .aload_n 0, [0], [], none),
  (27, 3, .getfield 28, [6, 12], [], none),
  (30, 3, .if_icmp .ge 31, [61], [], none),
  (33, 1, .aload_n 0, [0], [], none),
  (34, 1, .iload_n 1, [1], [], none),
  (35, 3, .invokevirtual 297, [281, 0, 1, 2, 12], [], none),
  (38, 1, .istore_n 2, [2], [], none),
  (39, 1, .iload_n 2, [2], [], none),
  (40, 3, .ifCond .lt 15, [55], [], none),
  (43, 1, .aload_n 0, [0], [], none),
  (44, 3, .getfield 294, [33, 12], [], none),
  (47, 1, .iload_n 2, [2], [], none),
  (48, 1, .dup2, [], [], none),
  (49, 1, .iaload, [], [], none),
  (50, 1, .iconst 1, [], [.int 1], none),
  (51, 1, .iload_n 1, [1], [], none),
  (52, 1, .ishl, [], [], none),
  (53, 1, .ior, [], [], none),
  (54, 1, .iastore, [], [], none),
  (55, 3, .iinc 1 1, [1], [.int 1], some [0, 1]),
  (58, 3, .goto (-33), [25], [], none),
  (61, 2, .bipush 9, [], [.int 9], none),
  (63, 1, .istore_n 1, [1], [], none),
  (64, 1, .iload_n 1, [1], [], some [0, 1]),
  (65, 3, .ifCond .le 49, [114], [], none),
  (68, 1, .iconst 0, [], [.int 0], none),
  (69, 1, .istore_n 2, [2], [], none),
  (70, 1, .iload_n 2, [2], [], some [0, 1, 2]),
  (71, 1, .aload_n 0, [0], [], none),
  (72, 3, .getfield 266, [28, 12], [], none),
  (75, 3, .if_icmp .ge 33, [108], [], none),
  (78, 1, .aload_n 0, [0], [], none),
  (79, 3, .getfield 282, [32, 12], [], none),
  (82, 2, .bipush 12, [], [.int 12], none),
  (84, 1, .iload_n 1, [1], [], none),
  (85, 1, .imul, [], [], none),
  (86, 1, .iload_n 2, [2], [], none),
  (87, 1, .iadd, [], [], none),
  (88, 1, .aload_n 0, [0], [], none),
  (89, 3, .getfield 282, [32, 12], [], none),
  (92, 2, .bipush 12, [], [.int 12], none),
  (94, 1, .iload_n 1, [1], [], none),
  (95, 1, .iconst 1, [], [.int 1], none),
  (96, 1, .isub, [], [], none),
  (97, 1, .imul, [], [], none),
  (98, 1, .iload_n 2, [2], [], none),
  (99, 1, .iadd, [], [], none),
  (100, 1, .iaload, [], [], none),
  (101, 1, .iastore, [], [], none),
  (102, 3, .iinc 2 1, [2], [.int 1], none),
  (105, 3, .goto (-35), [70], [], none),
  (108, 3, .iinc 1 (-1), [1], [.int (-1)], none),
  (111, 3, .goto (-47), [64], [], none),
  (114, 1, .iconst 0, [], [.int 0], none),
  (115, 1, .istore_n 1, [1], [], none),
  (116, 1, .iconst 0, [], [.int 0], none),
  (117, 1, .istore_n 2, [2], [], none),
  (118, 1, .iload_n 2, [2], [], some [0, 1, 2]),
  (119, 1, .aload_n 0, [0], [], none),
  (120, 3, .getfield 266, [28, 12], [], none),
  (123, 3, .if_icmp .ge 96, [219], [], none),
  (126, 1, .aload_n 0, [0], [], none),
  (127, 3, .getfield 282, [32, 12], [], none),
  (130, 1, .iload_n 2, [2], [], none),
  (131, 1, .iaload, [], [], none),
  (132, 1, .istore_n 3, [3], [], none),
  (133, 1, .aload_n 0, [0], [], none),
  (134, 3, .getfield 294, [33, 12], [], none),
  (137, 1, .iload_n 2, [2], [], none),
  (138, 1, .iaload, [], [], none),
  (139, 3, .invokestatic 129, [3, 0, 1, 1], [], none),
  (142, 2, .istore 4, [4], [], none),
  (144, 1, .aload_n 0, [0], [], none),
  (145, 3, .getfield 278, [31, 12], [], none),
  (148, 1, .iload_n 2, [2], [], none),
  (149, 1, .baload, [], [], none),
  (150, 3, .ifCond .ne 9, [159], [], none),
  (153, 2, .iload 4, [4], [], none),
  (155, 1, .iconst 1, [], [.int 1], none),
  (156, 3, .if_icmp .ne 7, [163], [], none),
  (159, 1, .iload_n 3, [3], [], some [0, 1, 2, 3]),
  (160, 3, .goto 26, [186], [], none),
  (163, 2, .iload 4, [4], [], none),
  (165, 3, .ifCond .ne 13, [178], [], none),
  (168, 1, .iconst 0, [], [.int 0], none),
  (169, 1, .iload_n 3, [3], [], none),
  (170, 1, .iconst 1, [], [.int 1], none),
  (171, 1, .isub, [], [], none),
  (172, 3, .invokestatic 106, [1, 0, 1, 2], [], none),
  (175, 3, .goto 11, [186], [], none),
  (178, 2, .bipush 99, [], [.int 99], none),
  (180, 1, .iload_n 3, [3], [], none),
  (181, 1, .iconst 1, [], [.int 1], none),
  (182, 1, .iadd, [], [], none),
  (183, 3, .invokestatic 101, [2, 0, 1, 2], [], none),
  (186, 2, .istore 5, [5], [], some [0, 1, 2, 3]),
  (188, 1, .aload_n 0, [0], [], none),
  (189, 3, .getfield 282, [32, 12], [], none),
  (192, 1, .iload_n 2, [2], [], none),
  (193, 2, .iload 5, [5], [], none),
  (195, 1, .iastore, [], [], none),
  (196, 1, .iload_n 1, [1], [], none),
  (197, 2, .iload 5, [5], [], none),
  (199, 1, .iload_n 3, [3], [], none),
  (200, 3, .if_icmp .eq 7, [207], [], none),
  (203, 1, .iconst 1, [], [.int 1], none),
  (204, 3, .goto 4, [208], [], none),
  (207, 1, .iconst 0, [], [.int 0], none),
  (208, 3, .invokestatic 250, [221, 0, 1, 1], [], some [0, 2]),
  (211, 1, .iadd, [], [], none),
  (212, 1, .istore_n 1, [1], [], none),
  (213, 3, .iinc 2 1, [2], [.int 1], none),
  (216, 3, .goto (-98), [118], [], none),
  (219, 1, .iload_n 1, [1], [], none),
  (220, 1, .ireturn, [], [], none)]
def jx_M282 : jx_M := (⟨"FairByEarModel", "goesRound", "()I"⟩, prog_14_method_66_code, 6, (some .int), false, 3, jx_C282)
def jx_C283 : List jx_El := [(0, 1, .aload_n 0, [0], [], none),
  (1, 1, .iconst 0, [], [.int 0], none),
  (2, 3, .putfield 3, [0, 12, 0], [], none),
  (5, 1, .iload_n 1, [1], [], none),
  (6, 1, .i2l, [], [], none),
  (7, 1, .lconst 0, [], [.long 0], none),
  (8, 3, .ldc2_w 300, [], [.long 200], none),
  (11, 3, .invokestatic 24, [219, 0, 1, 3], [], none),
  (14, 3, .ifCond .ne 5, [19], [], none),
  (17, 1, .iconst (-1), [], [.int (-1)], none),
  (18, 1, .ireturn, [], [], none),
  (19, 1, .iconst 0, [], [.int 0], none),
  (20, 1, .istore_n 2, [2], [], none),
  (21, 1, .iconst 0, [], [.int 0], none),
  (22, 1, .istore_n 3, [3], [], none),
  (23, 1, .iload_n 3, [3], [], some [0, 1, 2, 3]),
  (24, 1, .aload_n 0, [0], [], none),
  (25, 3, .getfield 266, [28, 12], [], none),
  (28, 3, .if_icmp .ge 16, [44], [], none),
  (31, 1, .aload_n 0, [0], [], none),
  (32, 3, .getfield 294, [33, 12], [], none),
  (35, 1, .iload_n 3, [3], [], none),
  (36, 1, .iconst 0, [], [.int 0], none),
  (37, 1, .iastore, [], [], none),
  (38, 3, .iinc 3 1, [3], [.int 1], none),
  (41, 3, .goto (-18), [23], [], none),
  (44, 1, .iconst 0, [], [.int 0], none),
  (45, 1, .istore_n 3, [3], [], none),
  (46, 1, .iload_n 3, [3], [], some [0, 1, 2, 3]),
  (47, 1, .iload_n 1, [1], [], none),
  (48, 3, .if_icmp .ge 14, [62], [], none),
  (51, 1, .aload_n 0, [0], [], none),
  (52, 3, .invokevirtual 302, [282, 0, 1, 1, 12], [], none),
  (55, 1, .istore_n 2, [2], [], none),
  (56, 3, .iinc 3 1, [3], [.int 1], none),
  (59, 3, .goto (-13), [46], [], none),
  (62, 1, .aload_n 0, [0], [], none),
  (63, 1, .iconst 0, [], [.int 0], none),
  (64, 3, .putfield 11, [1, 12, 0], [], none),
  (67, 1, .iconst 0, [], [.int 0], none),
  (68, 1, .istore_n 3, [3], [], none),
  (69, 1, .iload_n 3, [3], [], some [0, 2, 3]),
  (70, 1, .aload_n 0, [0], [], none),
  (71, 3, .getfield 266, [28, 12], [], none),
  (74, 3, .if_icmp .ge 20, [94], [], none),
  (77, 1, .aload_n 0, [0], [], none),
  (78, 1, .aload_n 0, [0], [], none),
  (79, 3, .getfield 294, [33, 12], [], none),
  (82, 1, .iload_n 3, [3], [], none),
  (83, 1, .iaload, [], [], none),
  (84, 1, .i2l, [], [], none),
  (85, 3, .invokevirtual 18, [222, 0, 0, 2, 12], [], none),
  (88, 3, .iinc 3 1, [3], [.int 1], none),
  (91, 3, .goto (-22), [69], [], none),
  (94, 1, .iload_n 2, [2], [], none),
  (95, 1, .ireturn, [], [], none)]
def jx_M283 : jx_M := (⟨"FairByEarModel", "rounds", "(I)I"⟩, prog_14_method_67_code, 4, (some .int), false, 4, jx_C283)
def jx_C284 : List jx_El := [(0, 1, .iconst 0, [], [.int 0], none),
  (1, 1, .istore_n 2, [2], [], none),
  (2, 1, .iload_n 2, [2], [], some [0, 1, 2]),
  (3, 2, .bipush 120, [], [.int 120], none),
  (5, 3, .if_icmp .ge 26, [31], [], none),
  (8, 1, .aload_n 0, [0], [], none),
  (9, 3, .getfield 305, [35, 12], [], none),
  (12, 2, .bipush 120, [], [.int 120], none),
  (14, 1, .iload_n 1, [1], [], none),
  (15, 1, .imul, [], [], none),
  (16, 1, .iload_n 2, [2], [], none),
  (17, 1, .iadd, [], [], none),
  (18, 1, .aload_n 0, [0], [], none),
  (19, 3, .getfield 282, [32, 12], [], none),
  (22, 1, .iload_n 2, [2], [], none),
  (23, 1, .iaload, [], [], none),
  (24, 1, .iastore, [], [], none),
  (25, 3, .iinc 2 1, [2], [.int 1], none),
  (28, 3, .goto (-26), [2], [], none),
  (31, 1, .return_, [], [], none)]
def jx_M284 : jx_M := (⟨"FairByEarModel", "lays", "(I)V"⟩, prog_14_method_68_code, 3, none, false, 0, jx_C284)
def jx_C285 : List jx_El := [(0, 1, .iconst 0, [], [.int 0], none),
  (1, 1, .istore_n 2, [2], [], none),
  (2, 1, .iload_n 2, [2], [], some [0, 1, 2]),
  (3, 2, .bipush 120, [], [.int 120], none),
  (5, 3, .if_icmp .ge 42, [47], [], none),
  (8, 1, .iload_n 2, [2], [], none),
  (9, 2, .bipush 12, [], [.int 12], none),
  (11, 1, .irem, [], [], none),
  (12, 1, .aload_n 0, [0], [], none),
  (13, 3, .getfield 266, [28, 12], [], none),
  (16, 3, .if_icmp .ge 25, [41], [], none),
  (19, 1, .aload_n 0, [0], [], none),
  (20, 3, .getfield 305, [35, 12], [], none),
  (23, 2, .bipush 120, [], [.int 120], none),
  (25, 1, .iload_n 1, [1], [], none),
  (26, 1, .imul, [], [], none),
  (27, 1, .iload_n 2, [2], [], none),
  (28, 1, .iadd, [], [], none),
  (29, 1, .iaload, [], [], none),
  (30, 1, .aload_n 0, [0], [], none),
  (31, 3, .getfield 282, [32, 12], [], none),
  (34, 1, .iload_n 2, [2], [], none),
  (35, 1, .iaload, [], [], none),
  (36, 3, .if_icmp .eq 5, [41], [], none),
  (39, 1, .iconst 0, [], [.int 0], none),
  (40, 1, .ireturn, [1], [], none),
  (41, 3, .iinc 2 1, [2], [.int 1], some [0, 1, 2]),
  (44, 3, .goto (-42), [2], [], none),
  (47, 1, .iconst 1, [], [.int 1], none),
  (48, 1, .ireturn, [1], [], none)]
def jx_M285 : jx_M := (⟨"FairByEarModel", "isAs", "(I)Z"⟩, prog_14_method_69_code, 3, (some .boolean), false, 0, jx_C285)
def jx_C286 : List jx_El := [(0, 1, .aload_n 0, [0], [], none),
  (1, 1, .iconst 0, [], [.int 0], none),
  (2, 3, .invokevirtual 308, [284, 0, 0, 2, 12], [], none),
  (5, 1, .iconst 1, [], [.int 1], none),
  (6, 1, .istore_n 1, [1], [], none),
  (7, 1, .iload_n 1, [1], [], some [0, 1]),
  (8, 3, .sipush 200, [], [.int 200], none),
  (11, 3, .if_icmp .gt 58, [69], [], none),
  (14, 1, .aload_n 0, [0], [], none),
  (15, 3, .invokevirtual 302, [282, 0, 1, 1, 12], [], none),
  (18, 1, .pop, [], [], none),
  (19, 1, .iload_n 1, [1], [], none),
  (20, 1, .iconst 1, [], [.int 1], none),
  (21, 1, .isub, [], [], none),
  (22, 1, .istore_n 2, [2], [], none),
  (23, 1, .iload_n 2, [2], [], some [0, 1, 2]),
  (24, 3, .ifCond .lt 34, [58], [], none),
  (27, 1, .aload_n 0, [0], [], none),
  (28, 1, .iload_n 2, [2], [], none),
  (29, 3, .invokevirtual 311, [285, 0, 1, 2, 12], [], none),
  (32, 3, .ifCond .eq 20, [52], [], none),
  (35, 1, .iload_n 2, [2], [], none),
  (36, 1, .iload_n 1, [1], [], none),
  (37, 1, .iconst 1, [], [.int 1], none),
  (38, 1, .isub, [], [], none),
  (39, 3, .if_icmp .ne 7, [46], [], none),
  (42, 1, .iload_n 2, [2], [], none),
  (43, 3, .goto 8, [51], [], none),
  (46, 1, .iconst (-1), [], [.int (-1)], none),
  (47, 1, .iload_n 1, [1], [], none),
  (48, 1, .iload_n 2, [2], [], none),
  (49, 1, .isub, [], [], none),
  (50, 1, .isub, [], [], none),
  (51, 1, .ireturn, [], [], some []),
  (52, 3, .iinc 2 (-1), [2], [.int (-1)], none),
  (55, 3, .goto (-32), [23], [], none),
  (58, 1, .aload_n 0, [0], [], none),
  (59, 1, .iload_n 1, [1], [], none),
  (60, 3, .invokevirtual 308, [284, 0, 0, 2, 12], [], none),
  (63, 3, .iinc 1 1, [1], [.int 1], none),
  (66, 3, .goto (-59), [7], [], none),
  (69, 3, .sipush (-999), [], [.int (-999)], none),
  (72, 1, .ireturn, [], [], none)]
def jx_M286 : jx_M := (⟨"FairByEarModel", "settling", "()I"⟩, prog_14_method_70_code, 3, (some .int), false, 4, jx_C286)
def jx_C287 : List jx_El := [(0, 1, .aload_n 0, [0], [], none),
  (1, 1, .iconst 0, [], [.int 0], none),
  (2, 3, .putfield 3, [0, 12, 0], [], none),
  (5, 1, .aload_n 0, [0], [], none),
  (6, 3, .invokevirtual 314, [286, 0, 1, 1, 12], [], none),
  (9, 1, .istore_n 1, [1], [], none),
  (10, 1, .iconst 0, [], [.int 0], none),
  (11, 1, .istore_n 2, [2], [], none),
  (12, 1, .iload_n 2, [2], [], some [0, 1, 2]),
  (13, 2, .bipush 120, [], [.int 120], none),
  (15, 3, .if_icmp .ge 21, [36], [], none),
  (18, 1, .aload_n 0, [0], [], none),
  (19, 3, .getfield 282, [32, 12], [], none),
  (22, 1, .iload_n 2, [2], [], none),
  (23, 1, .aload_n 0, [0], [], none),
  (24, 3, .getfield 305, [35, 12], [], none),
  (27, 1, .iload_n 2, [2], [], none),
  (28, 1, .iaload, [], [], none),
  (29, 1, .iastore, [], [], none),
  (30, 3, .iinc 2 1, [2], [.int 1], none),
  (33, 3, .goto (-21), [12], [], none),
  (36, 1, .iload_n 1, [1], [], none),
  (37, 1, .ireturn, [], [], none)]
def jx_M287 : jx_M := (⟨"FairByEarModel", "settles", "()I"⟩, prog_14_method_71_code, 3, (some .int), false, 5, jx_C287)
def jx_C288 : List jx_El := [(0, 1, .aload_n 0, [0], [], none),
  (1, 1, .iconst 0, [], [.int 0], none),
  (2, 3, .putfield 3, [0, 12, 0], [], none),
  (5, 1, .aload_n 0, [0], [], none),
  (6, 1, .iload_n 1, [1], [], none),
  (7, 3, .invokevirtual 66, [226, 0, 1, 2, 12], [], none),
  (10, 3, .ifCond .eq 11, [21], [], none),
  (13, 1, .aload_n 0, [0], [], none),
  (14, 1, .iload_n 2, [2], [], none),
  (15, 3, .invokevirtual 285, [275, 0, 1, 2, 12], [], none),
  (18, 3, .ifCond .ne 5, [23], [], none),
  (21, 1, .iconst (-1), [], [.int (-1)], some []),
  (22, 1, .ireturn, [], [], none),
  (23, 1, .aload_n 0, [0], [], none),
  (24, 3, .getfield 278, [31, 12], [], none),
  (27, 1, .iload_n 2, [2], [], none),
  (28, 1, .baload, [], [], none),
  (29, 3, .ifCond .eq 6, [35], [], none),
  (32, 2, .bipush (-2), [], [.int (-2)], none),
  (34, 1, .ireturn, [], [], none),
  (35, 1, .aload_n 0, [0], [], none),
  (36, 3, .getfield 275, [30, 12], [], none),
  (39, 1, .iload_n 2, [2], [], none),
  (40, 1, .iaload, [], [], none),
  (41, 1, .istore_n 3, [3], [], none),
  (42, 1, .iload_n 3, [3], [], none),
  (43, 1, .iload_n 1, [1], [], none),
  (44, 3, .if_icmp .eq 18, [62], [], none),
  (47, 1, .aload_n 0, [0], [], none),
  (48, 3, .getfield 282, [32, 12], [], none),
  (51, 1, .iload_n 2, [2], [], none),
  (52, 1, .iaload, [], [], none),
  (53, 1, .aload_n 0, [0], [], none),
  (54, 3, .getfield 60, [8, 12], [], none),
  (57, 1, .iload_n 1, [1], [], none),
  (58, 1, .iaload, [], [], none),
  (59, 3, .if_icmp .le 6, [65], [], none),
  (62, 2, .bipush (-3), [], [.int (-3)], some []),
  (64, 1, .ireturn, [], [], none),
  (65, 1, .aload_n 0, [0], [], none),
  (66, 1, .aload_n 0, [0], [], none),
  (67, 3, .getfield 57, [7, 12], [], none),
  (70, 1, .iload_n 1, [1], [], none),
  (71, 1, .iaload, [], [], none),
  (72, 1, .aload_n 0, [0], [], none),
  (73, 3, .getfield 57, [7, 12], [], none),
  (76, 1, .iload_n 3, [3], [], none),
  (77, 1, .iaload, [], [], none),
  (78, 3, .invokevirtual 35, [227, 0, 1, 3, 12], [], none),
  (81, 3, .sipush 999, [], [.int 999], none),
  (84, 3, .if_icmp .ne 6, [90], [], none),
  (87, 2, .bipush (-4), [], [.int (-4)], none),
  (89, 1, .ireturn, [], [], none),
  (90, 1, .iconst 5, [], [.int 5], none),
  (91, 1, .aload_n 0, [0], [], none),
  (92, 3, .getfield 317, [36, 12], [], none),
  (95, 1, .imul, [], [], none),
  (96, 2, .istore 4, [4], [], none),
  (98, 1, .aload_n 0, [0], [], none),
  (99, 3, .getfield 320, [37, 12], [], none),
  (102, 2, .iload 4, [4], [], none),
  (104, 1, .iload_n 2, [2], [], none),
  (105, 1, .iastore, [], [], none),
  (106, 1, .aload_n 0, [0], [], none),
  (107, 3, .getfield 320, [37, 12], [], none),
  (110, 2, .iload 4, [4], [], none),
  (112, 1, .iconst 1, [], [.int 1], none),
  (113, 1, .iadd, [], [], none),
  (114, 1, .iload_n 3, [3], [], none),
  (115, 1, .iastore, [], [], none),
  (116, 1, .aload_n 0, [0], [], none),
  (117, 3, .getfield 320, [37, 12], [], none),
  (120, 2, .iload 4, [4], [], none),
  (122, 1, .iconst 2, [], [.int 2], none),
  (123, 1, .iadd, [], [], none),
  (124, 1, .iload_n 1, [1], [], none),
  (125, 1, .iastore, [], [], none),
  (126, 1, .aload_n 0, [0], [], none),
  (127, 3, .getfield 320, [37, 12], [], none),
  (130, 2, .iload 4, [4], [], none),
  (132, 1, .iconst 3, [], [.int 3], none),
  (133, 1, .iadd, [], [], none),
  (134, 1, .aload_n 0, [0], [], none),
  (135, 3, .getfield 60, [8, 12], [], none),
  (138, 1, .iload_n 3, [3], [], none),
  (139, 1, .iaload, [], [], none),
  (140, 1, .iastore, [], [], none),
  (141, 1, .aload_n 0, [0], [], none),
  (142, 3, .getfield 320, [37, 12], [], none),
  (145, 2, .iload 4, [4], [], none),
  (147, 1, .iconst 4, [], [.int 4], none),
  (148, 1, .iadd, [], [], none),
  (149, 1, .aload_n 0, [0], [], none),
  (150, 3, .getfield 60, [8, 12], [], none),
  (153, 1, .iload_n 1, [1], [], none),
  (154, 1, .iaload, [], [], none),
  (155, 1, .iastore, [], [], none),
  (156, 1, .aload_n 0, [0], [], none),
  (157, 1, .dup, [], [], none),
  (158, 3, .getfield 317, [36, 12], [], none),
  (161, 1, .iconst 1, [], [.int 1], none),
  (162, 1, .iadd, [], [], none),
  (163, 3, .putfield 317, [36, 12, 0], [], none),
  (166, 1, .aload_n 0, [0], [], none),
  (167, 3, .getfield 278, [31, 12], [], none),
  (170, 1, .iload_n 2, [2], [], none),
  (171, 1, .iconst 1, [], [.int 1], none),
  (172, 1, .bastore, [], [], none),
  (173, 1, .aload_n 0, [0], [], none),
  (174, 3, .getfield 275, [30, 12], [], none),
  (177, 1, .iload_n 2, [2], [], none),
  (178, 1, .iload_n 1, [1], [], none),
  (179, 1, .iastore, [], [], none),
  (180, 1, .aload_n 0, [0], [], none),
  (181, 3, .getfield 60, [8, 12], [], none),
  (184, 1, .iload_n 1, [1], [], none),
  (185, 1, .dup2, [], [], none),
  (186, 1, .iaload, [], [], none),
  (187, 1, .aload_n 0, [0], [], none),
  (188, 3, .getfield 282, [32, 12], [], none),
  (191, 1, .iload_n 2, [2], [], none),
  (192, 1, .iaload, [], [], none),
  (193, 1, .isub, [], [], none),
  (194, 1, .iastore, [], [], none),
  (195, 1, .aload_n 0, [0], [], none),
  (196, 3, .getfield 60, [8, 12], [], none),
  (199, 1, .iload_n 3, [3], [], none),
  (200, 3, .sipush 999, [], [.int 999], none),
  (203, 1, .aload_n 0, [0], [], none),
  (204, 3, .getfield 60, [8, 12], [], none),
  (207, 1, .iload_n 3, [3], [], none),
  (208, 1, .iaload, [], [], none),
  (209, 1, .aload_n 0, [0], [], none),
  (210, 3, .getfield 282, [32, 12], [], none),
  (213, 1, .iload_n 2, [2], [], none),
  (214, 1, .iaload, [], [], none),
  (215, 1, .iadd, [], [], none),
  (216, 3, .invokestatic 101, [2, 0, 1, 2], [], none),
  (219, 1, .iastore, [], [], none),
  (220, 1, .aload_n 0, [0], [], none),
  (221, 3, .getfield 60, [8, 12], [], none),
  (224, 1, .iload_n 1, [1], [], none),
  (225, 1, .iaload, [], [], none),
  (226, 1, .ireturn, [], [], none)]
def jx_M288 : jx_M := (⟨"FairByEarModel", "buy", "(II)I"⟩, prog_14_method_72_code, 5, (some .int), false, 2, jx_C288)
def jx_C289 : List jx_El := [(0, 1, .aload_n 0, [0], [], none),
  (1, 1, .iconst 0, [], [.int 0], none),
  (2, 3, .putfield 3, [0, 12, 0], [], none),
  (5, 1, .aload_n 0, [0], [], none),
  (6, 3, .getfield 317, [36, 12], [], none),
  (9, 3, .ifCond .ne 6, [15], [], none),
  (12, 2, .bipush (-2), [], [.int (-2)], none),
  (14, 1, .ireturn, [], [], none),
  (15, 1, .aload_n 0, [0], [], none),
  (16, 1, .dup, [], [], none),
  (17, 3, .getfield 317, [36, 12], [], none),
  (20, 1, .iconst 1, [], [.int 1], none),
  (21, 1, .isub, [], [], none),
  (22, 3, .putfield 317, [36, 12, 0], [], none),
  (25, 1, .iconst 5, [], [.int 5], none),
  (26, 1, .aload_n 0, [0], [], none),
  (27, 3, .getfield 317, [36, 12], [], none),
  (30, 1, .imul, [], [], none),
  (31, 1, .istore_n 1, [1], [], none),
  (32, 1, .aload_n 0, [0], [], none),
  (33, 3, .getfield 278, [31, 12], [], none),
  (36, 1, .aload_n 0, [0], [], none),
  (37, 3, .getfield 320, [37, 12], [], none),
  (40, 1, .iload_n 1, [1], [], none),
  (41, 1, .iaload, [], [], none),
  (42, 1, .iconst 0, [], [.int 0], none),
  (43, 1, .bastore, [], [], none),
  (44, 1, .aload_n 0, [0], [], none),
  (45, 3, .getfield 275, [30, 12], [], none),
  (48, 1, .aload_n 0, [0], [], none),
  (49, 3, .getfield 320, [37, 12], [], none),
  (52, 1, .iload_n 1, [1], [], none),
  (53, 1, .iaload, [], [], none),
  (54, 1, .aload_n 0, [0], [], none),
  (55, 3, .getfield 320, [37, 12], [], none),
  (58, 1, .iload_n 1, [1], [], none),
  (59, 1, .iconst 1, [], [.int 1], none),
  (60, 1, .iadd, [], [], none),
  (61, 1, .iaload, [], [], none),
  (62, 1, .iastore, [], [], none),
  (63, 1, .aload_n 0, [0], [], none),
  (64, 3, .getfield 60, [8, 12], [], none),
  (67, 1, .aload_n 0, [0], [], none),
  (68, 3, .getfield 320, [37, 12], [], none),
  (71, 1, .iload_n 1, [1], [], none),
  (72, 1, .iconst 1, [], [.int 1], none),
  (73, 1, .iadd, [], [], none),
  (74, 1, .iaload, [], [], none),
  (75, 1, .aload_n 0, [0], [], none),
  (76, 3, .getfield 320, [37, 12], [], none),
  (79, 1, .iload_n 1, [1], [], none),
  (80, 1, .iconst 3, [], [.int 3], none),
  (81, 1, .iadd, [], [], none),
  (82, 1, .iaload, [], [], none),
  (83, 1, .iastore, [], [], none),
  (84, 1, .aload_n 0, [0], [], none),
  (85, 3, .getfield 60, [8, 12], [], none),
  (88, 1, .aload_n 0, [0], [], none),
  (89, 3, .getfield 320, [37, 12], [], none),
  (92, 1, .iload_n 1, [1], [], none),
  (93, 1, .iconst 2, [], [.int 2], none),
  (94, 1, .iadd, [], [], none),
  (95, 1, .iaload, [], [], none),
  (96, 1, .aload_n 0, [0], [], none),
  (97, 3, .getfield 320, [37, 12], [], none),
  (100, 1, .iload_n 1, [1], [], none),
  (101, 1, .iconst 4, [], [.int 4], none),
  (102, 1, .iadd, [], [], none),
  (103, 1, .iaload, [], [], none),
  (104, 1, .iastore, [], [], none),
  (105, 1, .aload_n 0, [0], [], none),
  (106, 3, .getfield 320, [37, 12], [], none),
  (109, 1, .iload_n 1, [1], [], none),
  (110, 1, .iaload, [], [], none),
  (111, 1, .ireturn, [], [], none)]
def jx_M289 : jx_M := (⟨"FairByEarModel", "undo", "()I"⟩, prog_14_method_73_code, 2, (some .int), false, 0, jx_C289)
def jx_C290 : List jx_El := [(0, 1, .iload_n 0, [0], [], none),
  (1, 1, .i2l, [], [], none),
  (2, 1, .lconst 0, [], [.long 0], none),
  (3, 3, .ldc2_w 55, [], [.long 999], none),
  (6, 3, .invokestatic 24, [219, 0, 1, 3], [], none),
  (9, 1, .ireturn, [1], [], none)]
def jx_M290 : jx_M := (⟨"FairByEarModel", "isMinute", "(I)Z"⟩, prog_14_method_74_code, 1, (some .boolean), true, 1, jx_C290)
def jx_C291 : List jx_El := [(0, 1, .aload_n 0, [0], [], none),
  (1, 1, .iconst 0, [], [.int 0], none),
  (2, 3, .putfield 3, [0, 12, 0], [], none),
  (5, 1, .iload_n 1, [1], [], none),
  (6, 3, .invokestatic 39, [225, 0, 1, 1], [], none),
  (9, 3, .ifCond .eq 31, [40], [], none),
  (12, 1, .iload_n 2, [2], [], none),
  (13, 3, .invokestatic 323, [290, 0, 1, 1], [], none),
  (16, 3, .ifCond .eq 24, [40], [], none),
  (19, 1, .iload_n 3, [3], [], none),
  (20, 1, .i2l, [], [], none),
  (21, 1, .lconst 0, [], [.long 0], none),
  (22, 3, .ldc2_w 169, [], [.long 99], none),
  (25, 3, .invokestatic 24, [219, 0, 1, 3], [], none),
  (28, 3, .ifCond .eq 12, [40], [], none),
  (31, 1, .aload_n 0, [0], [], none),
  (32, 3, .getfield 326, [38, 12], [], none),
  (35, 2, .bipush 16, [], [.int 16], none),
  (37, 3, .if_icmp .ne 5, [42], [], none),
  (40, 1, .iconst (-1), [], [.int (-1)], some []),
  (41, 1, .ireturn, [], [], none),
  (42, 1, .aload_n 0, [0], [], none),
  (43, 3, .getfield 329, [39, 12], [], none),
  (46, 1, .aload_n 0, [0], [], none),
  (47, 3, .getfield 326, [38, 12], [], none),
  (50, 1, .iload_n 1, [1], [], none),
  (51, 1, .iastore, [], [], none),
  (52, 1, .aload_n 0, [0], [], none),
  (53, 3, .getfield 332, [40, 12], [], none),
  (56, 1, .aload_n 0, [0], [], none),
  (57, 3, .getfield 326, [38, 12], [], none),
  (60, 1, .iload_n 2, [2], [], none),
  (61, 1, .iastore, [], [], none),
  (62, 1, .aload_n 0, [0], [], none),
  (63, 3, .getfield 335, [41, 12], [], none),
  (66, 1, .aload_n 0, [0], [], none),
  (67, 3, .getfield 326, [38, 12], [], none),
  (70, 1, .iload_n 3, [3], [], none),
  (71, 1, .iastore, [], [], none),
  (72, 1, .aload_n 0, [0], [], none),
  (73, 1, .dup, [], [], none),
  (74, 3, .getfield 326, [38, 12], [], none),
  (77, 1, .iconst 1, [], [.int 1], none),
  (78, 1, .iadd, [], [], none),
  (79, 3, .putfield 326, [38, 12, 0], [], none),
  (82, 1, .aload_n 0, [0], [], none),
  (83, 3, .getfield 326, [38, 12], [], none),
  (86, 1, .ireturn, [], [], none)]
def jx_M291 : jx_M := (⟨"FairByEarModel", "counted", "(III)I"⟩, prog_14_method_75_code, 4, (some .int), false, 2, jx_C291)
def jx_C292 : List jx_El := [(0, 1, .aload_n 0, [0], [], none),
  (1, 1, .iconst 0, [], [.int 0], none),
  (2, 3, .putfield 3, [0, 12, 0], [], none),
  (5, 1, .aload_n 0, [0], [], none),
  (6, 1, .iload_n 1, [1], [], none),
  (7, 3, .invokevirtual 66, [226, 0, 1, 2, 12], [], none),
  (10, 3, .ifCond .eq 40, [50], [], none),
  (13, 1, .iload_n 2, [2], [], none),
  (14, 3, .invokestatic 39, [225, 0, 1, 1], [], none),
  (17, 3, .ifCond .eq 33, [50], [], none),
  (20, 1, .iload_n 3, [3], [], none),
  (21, 3, .invokestatic 323, [290, 0, 1, 1], [], none),
  (24, 3, .ifCond .eq 26, [50], [], none),
  (27, 2, .iload 4, [4], [], none),
  (29, 1, .i2l, [], [], none),
  (30, 1, .iload_n 3, [3], [], none),
  (31, 1, .i2l, [], [], none),
  (32, 3, .ldc2_w 55, [], [.long 999], none),
  (35, 3, .invokestatic 24, [219, 0, 1, 3], [], none),
  (38, 3, .ifCond .eq 12, [50], [], none),
  (41, 1, .aload_n 0, [0], [], none),
  (42, 3, .getfield 338, [42, 12], [], none),
  (45, 2, .bipush 20, [], [.int 20], none),
  (47, 3, .if_icmp .ne 5, [52], [], none),
  (50, 1, .iconst (-1), [], [.int (-1)], some []),
  (51, 1, .ireturn, [], [], none),
  (52, 1, .aload_n 0, [0], [], none),
  (53, 3, .getfield 341, [43, 12], [], none),
  (56, 1, .aload_n 0, [0], [], none),
  (57, 3, .getfield 338, [42, 12], [], none),
  (60, 1, .iload_n 1, [1], [], none),
  (61, 1, .iastore, [], [], none),
  (62, 1, .aload_n 0, [0], [], none),
  (63, 3, .getfield 344, [44, 12], [], none),
  (66, 1, .aload_n 0, [0], [], none),
  (67, 3, .getfield 338, [42, 12], [], none),
  (70, 1, .iload_n 2, [2], [], none),
  (71, 1, .iastore, [], [], none),
  (72, 1, .aload_n 0, [0], [], none),
  (73, 3, .getfield 347, [45, 12], [], none),
  (76, 1, .aload_n 0, [0], [], none),
  (77, 3, .getfield 338, [42, 12], [], none),
  (80, 1, .iload_n 3, [3], [], none),
  (81, 1, .iastore, [], [], none),
  (82, 1, .aload_n 0, [0], [], none),
  (83, 3, .getfield 350, [46, 12], [], none),
  (86, 1, .aload_n 0, [0], [], none),
  (87, 3, .getfield 338, [42, 12], [], none),
  (90, 2, .iload 4, [4], [], none),
  (92, 1, .iastore, [], [], none),
  (93, 1, .aload_n 0, [0], [], none),
  (94, 1, .dup, [], [], none),
  (95, 3, .getfield 338, [42, 12], [], none),
  (98, 1, .iconst 1, [], [.int 1], none),
  (99, 1, .iadd, [], [], none),
  (100, 3, .putfield 338, [42, 12, 0], [], none),
  (103, 1, .aload_n 0, [0], [], none),
  (104, 3, .getfield 338, [42, 12], [], none),
  (107, 1, .ireturn, [], [], none)]
def jx_M292 : jx_M := (⟨"FairByEarModel", "been", "(IIII)I"⟩, prog_14_method_76_code, 5, (some .int), false, 2, jx_C292)
def jx_C293 : List jx_El := [(0, 1, .iconst 0, [], [.int 0], none),
  (1, 1, .istore_n 2, [2], [], none),
  (2, 1, .iconst 0, [], [.int 0], none),
  (3, 1, .istore_n 3, [3], [], none),
  (4, 1, .iload_n 3, [3], [], some [0, 1, 2, 3]),
  (5, 1, .aload_n 0, [0], [], none),
  (6, 3, .getfield 326, [38, 12], [], none),
  (9, 3, .if_icmp .ge 86, [95], [], none),
  (12, 1, .aload_n 0, [0], [], none),
  (13, 3, .getfield 329, [39, 12], [], none),
  (16, 1, .iload_n 3, [3], [], none),
  (17, 1, .iaload, [], [], none),
  (18, 1, .iload_n 1, [1], [], none),
  (19, 3, .if_icmp .eq 6, [25], [], none),
  (22, 3, .goto 67, [89], [], none),
  (25, 1, .iload_n 2, [2], [], none),
  (26, 2, .istore 4, [4], [], none),
  (28, 2, .iload 4, [4], [], some [0, 1, 2, 3, 4]),
  (30, 3, .ifCond .le 48, [78], [], none),
  (33, 1, .aload_n 0, [0], [], none),
  (34, 3, .getfield 332, [40, 12], [], none),
  (37, 1, .aload_n 0, [0], [], none),
  (38, 3, .getfield 353, [47, 12], [], none),
  (41, 2, .iload 4, [4], [], none),
  (43, 1, .iconst 1, [], [.int 1], none),
  (44, 1, .isub, [], [], none),
  (45, 1, .iaload, [], [], none),
  (46, 1, .iaload, [], [], none),
  (47, 1, .aload_n 0, [0], [], none),
  (48, 3, .getfield 332, [40, 12], [], none),
  (51, 1, .iload_n 3, [3], [], none),
  (52, 1, .iaload, [], [], none),
  (53, 3, .if_icmp .le 25, [78], [], none),
  (56, 1, .aload_n 0, [0], [], none),
  (57, 3, .getfield 353, [47, 12], [], none),
  (60, 2, .iload 4, [4], [], none),
  (62, 1, .aload_n 0, [0], [], none),
  (63, 3, .getfield 353, [47, 12], [], none),
  (66, 2, .iload 4, [4], [], none),
  (68, 1, .iconst 1, [], [.int 1], none),
  (69, 1, .isub, [], [], none),
  (70, 1, .iaload, [], [], none),
  (71, 1, .iastore, [], [], none),
  (72, 3, .iinc 4 (-1), [4], [.int (-1)], none),
  (75, 3, .goto (-47), [28], [], none),
  (78, 1, .aload_n 0, [0], [], some [0, 1, 2, 3, 4]),
  (79, 3, .getfield 353, [47, 12], [], none),
  (82, 2, .iload 4, [4], [], none),
  (84, 1, .iload_n 3, [3], [], none),
  (85, 1, .iastore, [], [], none),
  (86, 3, .iinc 2 1, [2], [.int 1], none),
  (89, 3, .iinc 3 1, [3], [.int 1], some [0, 1, 2, 3]),
  (92, 3, .goto (-88), [4], [], none),
  (95, 1, .aload_n 0, [0], [], none),
  (96, 1, .iconst 0, [], [.int 0], none),
  (97, 3, .putfield 356, [50, 12, 0], [], none),
  (100, 1, .aload_n 0, [0], [], none),
  (101, 1, .iconst 0, [], [.int 0], none),
  (102, 3, .putfield 359, [51, 12, 0], [], none),
  (105, 1, .iconst 1, [], [.int 1], none),
  (106, 1, .istore_n 3, [3], [], none),
  (107, 1, .iload_n 3, [3], [], some [0, 2, 3]),
  (108, 1, .iload_n 2, [2], [], none),
  (109, 3, .if_icmp .ge 104, [213], [], none),
  (112, 1, .aload_n 0, [0], [], none),
  (113, 3, .getfield 335, [41, 12], [], none),
  (116, 1, .aload_n 0, [0], [], none),
  (117, 3, .getfield 353, [47, 12], [], none),
  (120, 1, .iload_n 3, [3], [], none),
  (121, 1, .iconst 1, [], [.int 1], none),
  (122, 1, .isub, [], [], none),
  (123, 1, .iaload, [], [], none),
  (124, 1, .iaload, [], [], none),
  (125, 1, .aload_n 0, [0], [], none),
  (126, 3, .getfield 335, [41, 12], [], none),
  (129, 1, .aload_n 0, [0], [], none),
  (130, 3, .getfield 353, [47, 12], [], none),
  (133, 1, .iload_n 3, [3], [], none),
  (134, 1, .iaload, [], [], none),
  (135, 1, .iaload, [], [], none),
  (136, 1, .isub, [], [], none),
  (137, 2, .istore 4, [4], [], none),
  (139, 2, .iload 4, [4], [], none),
  (141, 3, .ifCond .le 66, [207], [], none),
  (144, 1, .aload_n 0, [0], [], none),
  (145, 3, .getfield 362, [48, 12], [], none),
  (148, 1, .aload_n 0, [0], [], none),
  (149, 3, .getfield 356, [50, 12], [], none),
  (152, 1, .aload_n 0, [0], [], none),
  (153, 3, .getfield 332, [40, 12], [], none),
  (156, 1, .aload_n 0, [0], [], none),
  (157, 3, .getfield 353, [47, 12], [], none),
  (160, 1, .iload_n 3, [3], [], none),
  (161, 1, .iconst 1, [], [.int 1], none),
  (162, 1, .isub, [], [], none),
  (163, 1, .iaload, [], [], none),
  (164, 1, .iaload, [], [], none),
  (165, 1, .iastore, [], [], none),
  (166, 1, .aload_n 0, [0], [], none),
  (167, 3, .getfield 365, [49, 12], [], none),
  (170, 1, .aload_n 0, [0], [], none),
  (171, 3, .getfield 356, [50, 12], [], none),
  (174, 1, .aload_n 0, [0], [], none),
  (175, 3, .getfield 332, [40, 12], [], none),
  (178, 1, .aload_n 0, [0], [], none),
  (179, 3, .getfield 353, [47, 12], [], none),
  (182, 1, .iload_n 3, [3], [], none),
  (183, 1, .iaload, [], [], none),
  (184, 1, .iaload, [], [], none),
  (185, 1, .iastore, [], [], none),
  (186, 1, .aload_n 0, [0], [], none),
  (187, 1, .dup, [], [], none),
  (188, 3, .getfield 356, [50, 12], [], none),
  (191, 1, .iconst 1, [], [.int 1], none),
  (192, 1, .iadd, [], [], none),
  (193, 3, .putfield 356, [50, 12, 0], [], none),
  (196, 1, .aload_n 0, [0], [], none),
  (197, 1, .dup, [], [], none),
  (198, 3, .getfield 359, [51, 12], [], none),
  (201, 2, .iload 4, [4], [], none),
  (203, 1, .iadd, [], [], none),
  (204, 3, .putfield 359, [51, 12, 0], [], none),
  (207, 3, .iinc 3 1, [3], [.int 1], some [0, 2, 3]),
  (210, 3, .goto (-103), [107], [], none),
  (213, 1, .return_, [], [], none)]
def jx_M293 : jx_M := (⟨"FairByEarModel", "findsThefts", "(I)V"⟩, prog_14_method_77_code, 5, none, false, 0, jx_C293)
def jx_C294 : List jx_El := [(0, 1, .aload_n 0, [0], [], none),
  (1, 1, .iconst 0, [], [.int 0], none),
  (2, 3, .putfield 3, [0, 12, 0], [], none),
  (5, 1, .iload_n 1, [1], [], none),
  (6, 3, .invokestatic 39, [225, 0, 1, 1], [], none),
  (9, 3, .ifCond .ne 5, [14], [], none),
  (12, 1, .iconst (-1), [], [.int (-1)], none),
  (13, 1, .ireturn, [], [], none),
  (14, 1, .aload_n 0, [0], [], none),
  (15, 1, .iload_n 1, [1], [], none),
  (16, 3, .invokevirtual 368, [293, 0, 0, 2, 12], [], none),
  (19, 1, .aload_n 0, [0], [], none),
  (20, 1, .iconst 0, [], [.int 0], none),
  (21, 3, .putfield 11, [1, 12, 0], [], none),
  (24, 1, .aload_n 0, [0], [], none),
  (25, 3, .getfield 356, [50, 12], [], none),
  (28, 3, .ifCond .le 34, [62], [], none),
  (31, 1, .aload_n 0, [0], [], none),
  (32, 1, .aload_n 0, [0], [], none),
  (33, 3, .getfield 362, [48, 12], [], none),
  (36, 1, .iconst 0, [], [.int 0], none),
  (37, 1, .iaload, [], [], none),
  (38, 1, .i2l, [], [], none),
  (39, 3, .invokevirtual 18, [222, 0, 0, 2, 12], [], none),
  (42, 1, .aload_n 0, [0], [], none),
  (43, 1, .aload_n 0, [0], [], none),
  (44, 3, .getfield 365, [49, 12], [], none),
  (47, 1, .iconst 0, [], [.int 0], none),
  (48, 1, .iaload, [], [], none),
  (49, 1, .i2l, [], [], none),
  (50, 3, .invokevirtual 18, [222, 0, 0, 2, 12], [], none),
  (53, 1, .aload_n 0, [0], [], none),
  (54, 1, .aload_n 0, [0], [], none),
  (55, 3, .getfield 359, [51, 12], [], none),
  (58, 1, .i2l, [], [], none),
  (59, 3, .invokevirtual 18, [222, 0, 0, 2, 12], [], none),
  (62, 1, .aload_n 0, [0], [], some [0]),
  (63, 3, .getfield 356, [50, 12], [], none),
  (66, 1, .ireturn, [], [], none)]
def jx_M294 : jx_M := (⟨"FairByEarModel", "missing", "(I)I"⟩, prog_14_method_78_code, 2, (some .int), false, 2, jx_C294)
def jx_C295 : List jx_El := [(0, 1, .iconst 0, [], [.int 0], none),
  (1, 2, .istore 4, [4], [], none),
  (3, 1, .iconst 0, [], [.int 0], none),
  (4, 2, .istore 5, [5], [], none),
  (6, 2, .iload 5, [5], [], some [0, 1, 2, 3, 4, 5]),
  (8, 1, .aload_n 0, [0], [], none),
  (9, 3, .getfield 338, [42, 12], [], none),
  (12, 3, .if_icmp .ge 60, [72], [], none),
  (15, 2, .iload 4, [4], [], none),
  (17, 1, .aload_n 0, [0], [], none),
  (18, 3, .getfield 344, [44, 12], [], none),
  (21, 2, .iload 5, [5], [], none),
  (23, 1, .iaload, [], [], none),
  (24, 1, .iload_n 1, [1], [], none),
  (25, 3, .if_icmp .ne 37, [62], [], none),
  (28, 1, .aload_n 0, [0], [], none),
  (29, 3, .getfield 347, [45, 12], [], none),
  (32, 2, .iload 5, [5], [], none),
  (34, 1, .iaload, [], [], none),
  (35, 1, .iload_n 3, [3], [], none),
  (36, 3, .if_icmp .gt 26, [62], [], none),
  (39, 1, .aload_n 0, [0], [], none),
  (40, 3, .getfield 350, [46, 12], [], none),
  (43, 2, .iload 5, [5], [], none),
  (45, 1, .iaload, [], [], none),
  (46, 1, .iload_n 2, [2], [], none),
  (47, 3, .if_icmp .lt 15, [62], [], none),
  (50, 1, .iconst 1, [], [.int 1], none),
  (51, 1, .aload_n 0, [0], [], none),
  (52, 3, .getfield 341, [43, 12], [], none),
  (55, 2, .iload 5, [5], [], none),
  (57, 1, .iaload, [], [], none),
  (58, 1, .ishl, [], [], none),
  (59, 3, .goto 4, [63], [], none),
  (62, 1, .iconst 0, [], [.int 0], some [0, 1, 2, 3, 5]),
  (63, 1, .ior, [], [], some [0, 1, 2, 3, 5]),
  (64, 2, .istore 4, [4], [], none),
  (66, 3, .iinc 5 1, [5], [.int 1], none),
  (69, 3, .goto (-63), [6], [], none),
  (72, 2, .iload 4, [4], [], none),
  (74, 1, .ireturn, [], [], none)]
def jx_M295 : jx_M := (⟨"FairByEarModel", "there", "(III)I"⟩, prog_14_method_79_code, 6, (some .int), false, 0, jx_C295)
def jx_C296 : List jx_El := [(0, 1, .aload_n 0, [0], [], none),
  (1, 1, .iconst 0, [], [.int 0], none),
  (2, 3, .putfield 3, [0, 12, 0], [], none),
  (5, 1, .iload_n 1, [1], [], none),
  (6, 3, .invokestatic 39, [225, 0, 1, 1], [], none),
  (9, 3, .ifCond .eq 7, [16], [], none),
  (12, 1, .iload_n 2, [2], [], none),
  (13, 3, .ifCond .ge 5, [18], [], none),
  (16, 1, .iconst (-1), [], [.int (-1)], some []),
  (17, 1, .ireturn, [], [], none),
  (18, 1, .aload_n 0, [0], [], none),
  (19, 1, .iload_n 1, [1], [], none),
  (20, 3, .invokevirtual 368, [293, 0, 0, 2, 12], [], none),
  (23, 1, .iload_n 2, [2], [], none),
  (24, 1, .aload_n 0, [0], [], none),
  (25, 3, .getfield 356, [50, 12], [], none),
  (28, 3, .if_icmp .ge 23, [51], [], none),
  (31, 1, .aload_n 0, [0], [], none),
  (32, 1, .iload_n 1, [1], [], none),
  (33, 1, .aload_n 0, [0], [], none),
  (34, 3, .getfield 362, [48, 12], [], none),
  (37, 1, .iload_n 2, [2], [], none),
  (38, 1, .iaload, [], [], none),
  (39, 1, .aload_n 0, [0], [], none),
  (40, 3, .getfield 365, [49, 12], [], none),
  (43, 1, .iload_n 2, [2], [], none),
  (44, 1, .iaload, [], [], none),
  (45, 3, .invokevirtual 371, [295, 0, 1, 4, 12], [], none),
  (48, 3, .goto 5, [53], [], none),
  (51, 2, .bipush (-2), [], [.int (-2)], none),
  (53, 1, .ireturn, [], [], some [])]
def jx_M296 : jx_M := (⟨"FairByEarModel", "suspects", "(II)I"⟩, prog_14_method_80_code, 3, (some .int), false, 2, jx_C296)
def jx_C297 : List jx_El := [(0, 1, .iconst 0, [], [.int 0], none),
  (1, 1, .istore_n 2, [2], [], none),
  (2, 1, .iload_n 2, [2], [], some [0, 1, 2]),
  (3, 2, .bipush 10, [], [.int 10], none),
  (5, 3, .if_icmp .ge 54, [59], [], none),
  (8, 1, .aload_n 0, [0], [], none),
  (9, 1, .iload_n 2, [2], [], none),
  (10, 3, .invokevirtual 368, [293, 0, 0, 2, 12], [], none),
  (13, 1, .iconst 0, [], [.int 0], none),
  (14, 1, .istore_n 3, [3], [], none),
  (15, 1, .iload_n 3, [3], [], some [0, 1, 2, 3]),
  (16, 1, .aload_n 0, [0], [], none),
  (17, 3, .getfield 356, [50, 12], [], none),
  (20, 3, .if_icmp .ge 33, [53], [], none),
  (23, 1, .aload_n 0, [0], [], none),
  (24, 1, .iload_n 2, [2], [], none),
  (25, 1, .aload_n 0, [0], [], none),
  (26, 3, .getfield 362, [48, 12], [], none),
  (29, 1, .iload_n 3, [3], [], none),
  (30, 1, .iaload, [], [], none),
  (31, 1, .aload_n 0, [0], [], none),
  (32, 3, .getfield 365, [49, 12], [], none),
  (35, 1, .iload_n 3, [3], [], none),
  (36, 1, .iaload, [], [], none),
  (37, 3, .invokevirtual 371, [295, 0, 1, 4, 12], [], none),
  (40, 1, .iload_n 1, [1], [], none),
  (41, 1, .iand, [], [], none),
  (42, 3, .ifCond .ne 5, [47], [], none),
  (45, 1, .iconst 0, [], [.int 0], none),
  (46, 1, .ireturn, [1], [], none),
  (47, 3, .iinc 3 1, [3], [.int 1], none),
  (50, 3, .goto (-35), [15], [], none),
  (53, 3, .iinc 2 1, [2], [.int 1], none),
  (56, 3, .goto (-54), [2], [], none),
  (59, 1, .iconst 1, [], [.int 1], none),
  (60, 1, .ireturn, [1], [], none)]
def jx_M297 : jx_M := (⟨"FairByEarModel", "isGang", "(I)Z"⟩, prog_14_method_81_code, 4, (some .boolean), false, 1, jx_C297)
def jx_C298 : List jx_El := [(0, 1, .aload_n 0, [0], [], none),
  (1, 1, .iconst 0, [], [.int 0], none),
  (2, 3, .putfield 3, [0, 12, 0], [], none),
  (5, 1, .iconst (-1), [], [.int (-1)], none),
  (6, 1, .istore_n 1, [1], [], none),
  (7, 1, .iconst 0, [], [.int 0], none),
  (8, 1, .istore_n 2, [2], [], none),
  (9, 1, .iload_n 2, [2], [], some [0, 1, 2]),
  (10, 1, .iconst 1, [], [.int 1], none),
  (11, 1, .aload_n 0, [0], [], none),
  (12, 3, .getfield 28, [6, 12], [], none),
  (15, 1, .ishl, [], [], none),
  (16, 3, .if_icmp .ge 34, [50], [], none),
  (19, 1, .iload_n 1, [1], [], none),
  (20, 3, .ifCond .lt 14, [34], [], none),
  (23, 1, .iload_n 2, [2], [], none),
  (24, 3, .invokestatic 129, [3, 0, 1, 1], [], none),
  (27, 1, .iload_n 1, [1], [], none),
  (28, 3, .invokestatic 129, [3, 0, 1, 1], [], none),
  (31, 3, .if_icmp .ge 13, [44], [], none),
  (34, 1, .aload_n 0, [0], [], some [0, 1, 2]),
  (35, 1, .iload_n 2, [2], [], none),
  (36, 3, .invokevirtual 374, [297, 0, 1, 2, 12], [], none),
  (39, 3, .ifCond .eq 5, [44], [], none),
  (42, 1, .iload_n 2, [2], [], none),
  (43, 1, .istore_n 1, [1], [], none),
  (44, 3, .iinc 2 1, [2], [.int 1], some [0, 1, 2]),
  (47, 3, .goto (-38), [9], [], none),
  (50, 1, .iload_n 1, [1], [], none),
  (51, 3, .ifCond .ge 6, [57], [], none),
  (54, 2, .bipush (-2), [], [.int (-2)], none),
  (56, 1, .ireturn, [], [], none),
  (57, 1, .aload_n 0, [0], [], none),
  (58, 1, .iconst 0, [], [.int 0], none),
  (59, 3, .putfield 11, [1, 12, 0], [], none),
  (62, 1, .aload_n 0, [0], [], none),
  (63, 1, .iload_n 1, [1], [], none),
  (64, 1, .i2l, [], [], none),
  (65, 3, .invokevirtual 18, [222, 0, 0, 2, 12], [], none),
  (68, 1, .iload_n 1, [1], [], none),
  (69, 3, .invokestatic 129, [3, 0, 1, 1], [], none),
  (72, 1, .ireturn, [], [], none)]
def jx_M298 : jx_M := (⟨"FairByEarModel", "gang", "()I"⟩, prog_14_method_82_code, 3, (some .int), false, 2, jx_C298)
def jx_C299 : List jx_El := [(0, 1, .aload_n 0, [0], [], none),
  (1, 1, .iconst 0, [], [.int 0], none),
  (2, 3, .putfield 3, [0, 12, 0], [], none),
  (5, 1, .iload_n 1, [1], [], none),
  (6, 3, .invokestatic 39, [225, 0, 1, 1], [], none),
  (9, 3, .ifCond .eq 31, [40], [], none),
  (12, 1, .iload_n 2, [2], [], none),
  (13, 3, .invokestatic 323, [290, 0, 1, 1], [], none),
  (16, 3, .ifCond .eq 24, [40], [], none),
  (19, 1, .iload_n 3, [3], [], none),
  (20, 1, .i2l, [], [], none),
  (21, 1, .lconst 1, [], [.long 1], none),
  (22, 3, .ldc2_w 169, [], [.long 99], none),
  (25, 3, .invokestatic 24, [219, 0, 1, 3], [], none),
  (28, 3, .ifCond .eq 12, [40], [], none),
  (31, 1, .aload_n 0, [0], [], none),
  (32, 3, .getfield 377, [52, 12], [], none),
  (35, 2, .bipush 6, [], [.int 6], none),
  (37, 3, .if_icmp .ne 5, [42], [], none),
  (40, 1, .iconst (-1), [], [.int (-1)], some []),
  (41, 1, .ireturn, [], [], none),
  (42, 1, .aload_n 0, [0], [], none),
  (43, 3, .getfield 380, [53, 12], [], none),
  (46, 1, .aload_n 0, [0], [], none),
  (47, 3, .getfield 377, [52, 12], [], none),
  (50, 1, .iload_n 1, [1], [], none),
  (51, 1, .iastore, [], [], none),
  (52, 1, .aload_n 0, [0], [], none),
  (53, 3, .getfield 383, [54, 12], [], none),
  (56, 1, .aload_n 0, [0], [], none),
  (57, 3, .getfield 377, [52, 12], [], none),
  (60, 1, .iload_n 2, [2], [], none),
  (61, 1, .iastore, [], [], none),
  (62, 1, .aload_n 0, [0], [], none),
  (63, 3, .getfield 386, [55, 12], [], none),
  (66, 1, .aload_n 0, [0], [], none),
  (67, 3, .getfield 377, [52, 12], [], none),
  (70, 1, .iload_n 3, [3], [], none),
  (71, 1, .iastore, [], [], none),
  (72, 1, .aload_n 0, [0], [], none),
  (73, 1, .dup, [], [], none),
  (74, 3, .getfield 377, [52, 12], [], none),
  (77, 1, .iconst 1, [], [.int 1], none),
  (78, 1, .iadd, [], [], none),
  (79, 3, .putfield 377, [52, 12, 0], [], none),
  (82, 1, .aload_n 0, [0], [], none),
  (83, 3, .getfield 377, [52, 12], [], none),
  (86, 1, .ireturn, [], [], none)]
def jx_M299 : jx_M := (⟨"FairByEarModel", "clink", "(III)I"⟩, prog_14_method_83_code, 4, (some .int), false, 2, jx_C299)
def jx_C300 : List jx_El := [(0, 1, .iload_n 1, [1], [], none),
  (1, 1, .aload_n 0, [0], [], none),
  (2, 3, .getfield 377, [52, 12], [], none),
  (5, 3, .if_icmp .ne 38, [43], [], none),
  (8, 1, .iconst 0, [], [.int 0], none),
  (9, 1, .istore_n 2, [2], [], none),
  (10, 1, .iload_n 2, [2], [], some [0, 2]),
  (11, 1, .aload_n 0, [0], [], none),
  (12, 3, .getfield 377, [52, 12], [], none),
  (15, 3, .if_icmp .ge 26, [41], [], none),
  (18, 1, .aload_n 0, [0], [], none),
  (19, 3, .getfield 389, [57, 12], [], none),
  (22, 1, .iload_n 2, [2], [], none),
  (23, 1, .dup2, [], [], none),
  (24, 1, .iaload, [], [], none),
  (25, 1, .iconst 1, [], [.int 1], none),
  (26, 1, .aload_n 0, [0], [], none),
  (27, 3, .getfield 392, [56, 12], [], none),
  (30, 1, .iload_n 2, [2], [], none),
  (31, 1, .iaload, [], [], none),
  (32, 1, .ishl, [], [], none),
  (33, 1, .ior, [], [], none),
  (34, 1, .iastore, [], [], none),
  (35, 3, .iinc 2 1, [2], [.int 1], none),
  (38, 3, .goto (-28), [10], [], none),
  (41, 1, .iconst 1, [], [.int 1], none),
  (42, 1, .ireturn, [], [], none),
  (43, 1, .iconst 0, [], [.int 0], none),
  (44, 1, .istore_n 2, [2], [], none),
  (45, 1, .aload_n 0, [0], [], none),
  (46, 1, .aload_n 0, [0], [], none),
  (47, 3, .getfield 380, [53, 12], [], none),
  (50, 1, .iload_n 1, [1], [], none),
  (51, 1, .iaload, [], [], none),
  (52, 1, .aload_n 0, [0], [], none),
  (53, 3, .getfield 383, [54, 12], [], none),
  (56, 1, .iload_n 1, [1], [], none),
  (57, 1, .iaload, [], [], none),
  (58, 1, .aload_n 0, [0], [], none),
  (59, 3, .getfield 383, [54, 12], [], none),
  (62, 1, .iload_n 1, [1], [], none),
  (63, 1, .iaload, [], [], none),
  (64, 3, .invokevirtual 371, [295, 0, 1, 4, 12], [], none),
  (67, 1, .istore_n 3, [3], [], none),
  (68, 1, .iconst 0, [], [.int 0], none),
  (69, 2, .istore 4, [4], [], none),
  (71, 2, .iload 4, [4], [], some [0, 1, 2, 3, 4]),
  (73, 1, .aload_n 0, [0], [], none),
  (74, 3, .getfield 28, [6, 12], [], none),
  (77, 3, .if_icmp .ge 92, [169], [], none),
  (80, 1, .iload_n 3, [3], [], none),
  (81, 2, .iload 4, [4], [], none),
  (83, 3, .invokestatic 112, [220, 0, 1, 2], [], none),
  (86, 3, .ifCond .eq 77, [163], [], none),
  (89, 1, .aload_n 0, [0], [], none),
  (90, 3, .getfield 395, [58, 12], [], none),
  (93, 2, .iload 4, [4], [], none),
  (95, 1, .iaload, [], [], none),
  (96, 1, .aload_n 0, [0], [], none),
  (97, 3, .getfield 386, [55, 12], [], none),
  (100, 1, .iload_n 1, [1], [], none),
  (101, 1, .iaload, [], [], none),
  (102, 1, .iadd, [], [], none),
  (103, 1, .aload_n 0, [0], [], none),
  (104, 3, .getfield 60, [8, 12], [], none),
  (107, 2, .iload 4, [4], [], none),
  (109, 1, .iaload, [], [], none),
  (110, 3, .if_icmp .gt 53, [163], [], none),
  (113, 1, .aload_n 0, [0], [], none),
  (114, 3, .getfield 395, [58, 12], [], none),
  (117, 2, .iload 4, [4], [], none),
  (119, 1, .dup2, [], [], none),
  (120, 1, .iaload, [], [], none),
  (121, 1, .aload_n 0, [0], [], none),
  (122, 3, .getfield 386, [55, 12], [], none),
  (125, 1, .iload_n 1, [1], [], none),
  (126, 1, .iaload, [], [], none),
  (127, 1, .iadd, [], [], none),
  (128, 1, .iastore, [], [], none),
  (129, 1, .aload_n 0, [0], [], none),
  (130, 3, .getfield 392, [56, 12], [], none),
  (133, 1, .iload_n 1, [1], [], none),
  (134, 2, .iload 4, [4], [], none),
  (136, 1, .iastore, [], [], none),
  (137, 1, .iload_n 2, [2], [], none),
  (138, 1, .aload_n 0, [0], [], none),
  (139, 1, .iload_n 1, [1], [], none),
  (140, 1, .iconst 1, [], [.int 1], none),
  (141, 1, .iadd, [], [], none),
  (142, 3, .invokevirtual 398, [300, 2, 1, 2, 12], [], none),
  (145, 1, .iadd, [], [], none),
  (146, 1, .istore_n 2, [2], [], none),
  (147, 1, .aload_n 0, [0], [], none),
  (148, 3, .getfield 395, [58, 12], [], none),
  (151, 2, .iload 4, [4], [], none),
  (153, 1, .dup2, [], [], none),
  (154, 1, .iaload, [], [], none),
  (155, 1, .aload_n 0, [0], [], none),
  (156, 3, .getfield 386, [55, 12], [], none),
  (159, 1, .iload_n 1, [1], [], none),
  (160, 1, .iaload, [], [], none),
  (161, 1, .isub, [], [], none),
  (162, 1, .iastore, [], [], none),
  (163, 3, .iinc 4 1, [4], [.int 1], some [0, 1, 2, 3, 4]),
  (166, 3, .goto (-95), [71], [], none),
  (169, 1, .iload_n 2, [2], [], none),
  (170, 1, .ireturn, [], [], none)]
def jx_M300 : jx_M := (⟨"FairByEarModel", "gives", "(I)I"⟩, prog_14_method_84_code, 5, (some .int), false, 1, jx_C300)
def jx_C301 : List jx_El := [(0, 1, .aload_n 0, [0], [], none),
  (1, 1, .iconst 0, [], [.int 0], none),
  (2, 3, .putfield 3, [0, 12, 0], [], none),
  (5, 1, .iconst 0, [], [.int 0], none),
  (6, 1, .istore_n 1, [1], [], none),
  (7, 1, .iload_n 1, [1], [], some [0, 1]),
  (8, 1, .aload_n 0, [0], [], none),
  (9, 3, .getfield 377, [52, 12], [], none),
  (12, 3, .if_icmp .ge 16, [28], [], none),
  (15, 1, .aload_n 0, [0], [], none),
  (16, 3, .getfield 389, [57, 12], [], none),
  (19, 1, .iload_n 1, [1], [], none),
  (20, 1, .iconst 0, [], [.int 0], none),
  (21, 1, .iastore, [], [], none),
  (22, 3, .iinc 1 1, [1], [.int 1], none),
  (25, 3, .goto (-18), [7], [], none),
  (28, 1, .aload_n 0, [0], [], none),
  (29, 1, .iconst 0, [], [.int 0], none),
  (30, 3, .invokevirtual 398, [300, 1, 1, 2, 12], [], none),
  (33, 1, .istore_n 1, [1], [], none),
  (34, 1, .aload_n 0, [0], [], none),
  (35, 1, .iconst 0, [], [.int 0], none),
  (36, 3, .putfield 11, [1, 12, 0], [], none),
  (39, 1, .iconst 0, [], [.int 0], none),
  (40, 1, .istore_n 2, [2], [], none),
  (41, 1, .iload_n 2, [2], [], some [0, 1, 2]),
  (42, 1, .aload_n 0, [0], [], none),
  (43, 3, .getfield 377, [52, 12], [], none),
  (46, 3, .if_icmp .ge 20, [66], [], none),
  (49, 1, .aload_n 0, [0], [], none),
  (50, 1, .aload_n 0, [0], [], none),
  (51, 3, .getfield 389, [57, 12], [], none),
  (54, 1, .iload_n 2, [2], [], none),
  (55, 1, .iaload, [], [], none),
  (56, 1, .i2l, [], [], none),
  (57, 3, .invokevirtual 18, [222, 0, 0, 2, 12], [], none),
  (60, 3, .iinc 2 1, [2], [.int 1], none),
  (63, 3, .goto (-22), [41], [], none),
  (66, 1, .iload_n 1, [1], [], none),
  (67, 1, .ireturn, [], [], none)]
def jx_M301 : jx_M := (⟨"FairByEarModel", "hands", "()I"⟩, prog_14_method_85_code, 3, (some .int), false, 122, jx_C301)
def jx_C302 : List jx_El := [(0, 1, .iload_n 0, [0], [], none),
  (1, 3, .sipush 999, [], [.int 999], none),
  (4, 3, .if_icmp .ne 7, [11], [], none),
  (7, 1, .iconst 0, [], [.int 0], none),
  (8, 3, .goto 9, [17], [], none),
  (11, 2, .bipush 60, [], [.int 60], none),
  (13, 1, .iconst 1, [], [.int 1], none),
  (14, 1, .iload_n 0, [0], [], none),
  (15, 1, .iadd, [], [], none),
  (16, 1, .idiv, [], [], none),
  (17, 1, .ireturn, [], [], some [])]
def jx_M302 : jx_M := (⟨"FairByEarModel", "sounds", "(I)I"⟩, prog_14_method_86_code, 1, (some .int), true, 0, jx_C302)
def jx_C303 : List jx_El := [(0, 1, .iconst 0, [], [.int 0], none),
  (1, 1, .istore_n 2, [2], [], none),
  (2, 1, .iconst 0, [], [.int 0], none),
  (3, 1, .istore_n 3, [3], [], none),
  (4, 1, .iload_n 3, [3], [], some [0, 1, 2, 3]),
  (5, 1, .aload_n 0, [0], [], none),
  (6, 3, .getfield 28, [6, 12], [], none),
  (9, 3, .if_icmp .ge 26, [35], [], none),
  (12, 1, .iload_n 2, [2], [], none),
  (13, 1, .aload_n 0, [0], [], none),
  (14, 1, .aload_n 0, [0], [], none),
  (15, 3, .getfield 57, [7, 12], [], none),
  (18, 1, .iload_n 3, [3], [], none),
  (19, 1, .iaload, [], [], none),
  (20, 1, .iload_n 1, [1], [], none),
  (21, 3, .invokevirtual 35, [227, 0, 1, 3, 12], [], none),
  (24, 3, .invokestatic 401, [302, 0, 1, 1], [], none),
  (27, 1, .iadd, [], [], none),
  (28, 1, .istore_n 2, [2], [], none),
  (29, 3, .iinc 3 1, [3], [.int 1], none),
  (32, 3, .goto (-28), [4], [], none),
  (35, 1, .iload_n 2, [2], [], none),
  (36, 1, .ireturn, [], [], none)]
def jx_M303 : jx_M := (⟨"FairByEarModel", "loudAt", "(I)I"⟩, prog_14_method_87_code, 4, (some .int), false, 1, jx_C303)
def jx_C304 : List jx_El := [(0, 1, .aload_n 0, [0], [], none),
  (1, 1, .iconst 0, [], [.int 0], none),
  (2, 3, .putfield 3, [0, 12, 0], [], none),
  (5, 1, .iload_n 1, [1], [], none),
  (6, 3, .invokestatic 39, [225, 0, 1, 1], [], none),
  (9, 3, .ifCond .eq 11, [20], [], none),
  (12, 1, .aload_n 0, [0], [], none),
  (13, 1, .iload_n 1, [1], [], none),
  (14, 3, .invokevirtual 404, [303, 0, 1, 2, 12], [], none),
  (17, 3, .goto 4, [21], [], none),
  (20, 1, .iconst (-1), [], [.int (-1)], none),
  (21, 1, .ireturn, [], [], some [])]
def jx_M304 : jx_M := (⟨"FairByEarModel", "loud", "(I)I"⟩, prog_14_method_88_code, 2, (some .int), false, 2, jx_C304)
def jx_C305 : List jx_El := [(0, 1, .aload_n 0, [0], [], none),
  (1, 1, .iconst 0, [], [.int 0], none),
  (2, 3, .putfield 3, [0, 12, 0], [], none),
  (5, 1, .iconst 0, [], [.int 0], none),
  (6, 1, .istore_n 1, [1], [], none),
  (7, 1, .iconst 0, [], [.int 0], none),
  (8, 1, .istore_n 2, [2], [], none),
  (9, 1, .iconst 0, [], [.int 0], none),
  (10, 1, .istore_n 3, [3], [], none),
  (11, 1, .iload_n 3, [3], [], some [0, 1, 2, 3]),
  (12, 2, .bipush 10, [], [.int 10], none),
  (14, 3, .if_icmp .ge 68, [82], [], none),
  (17, 1, .aload_n 0, [0], [], none),
  (18, 1, .iload_n 3, [3], [], none),
  (19, 3, .invokevirtual 404, [303, 0, 1, 2, 12], [], none),
  (22, 2, .istore 4, [4], [], none),
  (24, 1, .iload_n 3, [3], [], none),
  (25, 3, .ifCond .eq 13, [38], [], none),
  (28, 2, .iload 4, [4], [], none),
  (30, 1, .aload_n 0, [0], [], none),
  (31, 1, .iload_n 1, [1], [], none),
  (32, 3, .invokevirtual 404, [303, 0, 1, 2, 12], [], none),
  (35, 3, .if_icmp .le 7, [42], [], none),
  (38, 1, .iconst 1, [], [.int 1], some [0, 1, 3, 4]),
  (39, 3, .goto 20, [59], [], none),
  (42, 2, .iload 4, [4], [], none),
  (44, 1, .aload_n 0, [0], [], none),
  (45, 1, .iload_n 1, [1], [], none),
  (46, 3, .invokevirtual 404, [303, 0, 1, 2, 12], [], none),
  (49, 3, .if_icmp .ne 9, [58], [], none),
  (52, 1, .iload_n 2, [2], [], none),
  (53, 1, .iconst 1, [], [.int 1], none),
  (54, 1, .iadd, [], [], none),
  (55, 3, .goto 4, [59], [], none),
  (58, 1, .iload_n 2, [2], [], none),
  (59, 1, .istore_n 2, [2], [], some [0, 1, 3, 4]),
  (60, 2, .iload 4, [4], [], none),
  (62, 1, .aload_n 0, [0], [], none),
  (63, 1, .iload_n 1, [1], [], none),
  (64, 3, .invokevirtual 404, [303, 0, 1, 2, 12], [], none),
  (67, 3, .if_icmp .le 7, [74], [], none),
  (70, 1, .iload_n 3, [3], [], none),
  (71, 3, .goto 4, [75], [], none),
  (74, 1, .iload_n 1, [1], [], none),
  (75, 1, .istore_n 1, [1], [], some [0, 2, 3]),
  (76, 3, .iinc 3 1, [3], [.int 1], none),
  (79, 3, .goto (-68), [11], [], none),
  (82, 1, .aload_n 0, [0], [], none),
  (83, 1, .iconst 0, [], [.int 0], none),
  (84, 3, .putfield 11, [1, 12, 0], [], none),
  (87, 1, .aload_n 0, [0], [], none),
  (88, 1, .aload_n 0, [0], [], none),
  (89, 1, .iload_n 1, [1], [], none),
  (90, 3, .invokevirtual 404, [303, 0, 1, 2, 12], [], none),
  (93, 1, .i2l, [], [], none),
  (94, 3, .invokevirtual 18, [222, 0, 0, 2, 12], [], none),
  (97, 1, .aload_n 0, [0], [], none),
  (98, 1, .iload_n 2, [2], [], none),
  (99, 1, .i2l, [], [], none),
  (100, 3, .invokevirtual 18, [222, 0, 0, 2, 12], [], none),
  (103, 1, .iload_n 1, [1], [], none),
  (104, 1, .ireturn, [], [], none)]
def jx_M305 : jx_M := (⟨"FairByEarModel", "loudest", "()I"⟩, prog_14_method_89_code, 5, (some .int), false, 2, jx_C305)
def jx_C306 : List jx_El := [(0, 1, .aload_n 0, [0], [], none),
  (1, 1, .iconst 0, [], [.int 0], none),
  (2, 3, .putfield 3, [0, 12, 0], [], none),
  (5, 1, .iload_n 1, [1], [], none),
  (6, 3, .invokestatic 39, [225, 0, 1, 1], [], none),
  (9, 3, .ifCond .eq 24, [33], [], none),
  (12, 1, .iload_n 2, [2], [], none),
  (13, 1, .i2l, [], [], none),
  (14, 1, .lconst 0, [], [.long 0], none),
  (15, 3, .ldc2_w 55, [], [.long 999], none),
  (18, 3, .invokestatic 24, [219, 0, 1, 3], [], none),
  (21, 3, .ifCond .eq 12, [33], [], none),
  (24, 1, .aload_n 0, [0], [], none),
  (25, 3, .getfield 407, [59, 12], [], none),
  (28, 2, .bipush 6, [], [.int 6], none),
  (30, 3, .if_icmp .ne 5, [35], [], none),
  (33, 1, .iconst (-1), [], [.int (-1)], some []),
  (34, 1, .ireturn, [], [], none),
  (35, 1, .aload_n 0, [0], [], none),
  (36, 3, .getfield 410, [60, 12], [], none),
  (39, 1, .aload_n 0, [0], [], none),
  (40, 3, .getfield 407, [59, 12], [], none),
  (43, 1, .iload_n 1, [1], [], none),
  (44, 1, .iastore, [], [], none),
  (45, 1, .aload_n 0, [0], [], none),
  (46, 3, .getfield 413, [61, 12], [], none),
  (49, 1, .aload_n 0, [0], [], none),
  (50, 3, .getfield 407, [59, 12], [], none),
  (53, 1, .iload_n 2, [2], [], none),
  (54, 1, .iastore, [], [], none),
  (55, 1, .aload_n 0, [0], [], none),
  (56, 1, .dup, [], [], none),
  (57, 3, .getfield 407, [59, 12], [], none),
  (60, 1, .iconst 1, [], [.int 1], none),
  (61, 1, .iadd, [], [], none),
  (62, 3, .putfield 407, [59, 12, 0], [], none),
  (65, 1, .aload_n 0, [0], [], none),
  (66, 3, .getfield 407, [59, 12], [], none),
  (69, 1, .ireturn, [], [], none)]
def jx_M306 : jx_M := (⟨"FairByEarModel", "heard", "(II)I"⟩, prog_14_method_90_code, 3, (some .int), false, 2, jx_C306)
def jx_C307 : List jx_El := [(0, 1, .iconst 0, [], [.int 0], none),
  (1, 1, .istore_n 3, [3], [], none),
  (2, 1, .iload_n 3, [3], [], some [0, 1, 2, 3]),
  (3, 1, .aload_n 0, [0], [], none),
  (4, 3, .getfield 407, [59, 12], [], none),
  (7, 3, .if_icmp .ge 73, [80], [], none),
  (10, 1, .iconst 0, [], [.int 0], none),
  (11, 2, .istore 4, [4], [], none),
  (13, 1, .iconst 0, [], [.int 0], none),
  (14, 2, .istore 5, [5], [], none),
  (16, 2, .iload 5, [5], [], some [0, 1, 2, 3, 4, 5]),
  (18, 1, .iload_n 1, [1], [], none),
  (19, 3, .if_icmp .ge 37, [56], [], none),
  (22, 2, .iload 4, [4], [], none),
  (24, 1, .aload_n 0, [0], [], none),
  (25, 3, .getfield 416, [62, 12], [], none),
  (28, 2, .iload 5, [5], [], none),
  (30, 1, .iaload, [], [], none),
  (31, 1, .aload_n 0, [0], [], none),
  (32, 2, .iload 5, [5], [], none),
  (34, 1, .aload_n 0, [0], [], none),
  (35, 3, .getfield 410, [60, 12], [], none),
  (38, 1, .iload_n 3, [3], [], none),
  (39, 1, .iaload, [], [], none),
  (40, 3, .invokevirtual 35, [227, 0, 1, 3, 12], [], none),
  (43, 3, .invokestatic 401, [302, 0, 1, 1], [], none),
  (46, 1, .imul, [], [], none),
  (47, 1, .iadd, [], [], none),
  (48, 2, .istore 4, [4], [], none),
  (50, 3, .iinc 5 1, [5], [.int 1], none),
  (53, 3, .goto (-37), [16], [], none),
  (56, 2, .iload 4, [4], [], none),
  (58, 1, .aload_n 0, [0], [], none),
  (59, 3, .getfield 413, [61, 12], [], none),
  (62, 1, .iload_n 3, [3], [], none),
  (63, 1, .iaload, [], [], none),
  (64, 1, .isub, [], [], none),
  (65, 3, .invokestatic 419, [0, 0, 1, 1], [], none),
  (68, 1, .iload_n 2, [2], [], none),
  (69, 3, .if_icmp .le 5, [74], [], none),
  (72, 1, .iconst 0, [], [.int 0], none),
  (73, 1, .ireturn, [1], [], none),
  (74, 3, .iinc 3 1, [3], [.int 1], none),
  (77, 3, .goto (-75), [2], [], none),
  (80, 1, .iconst 1, [], [.int 1], none),
  (81, 1, .ireturn, [1], [], none)]
def jx_M307 : jx_M := (⟨"FairByEarModel", "isHeard", "(II)Z"⟩, prog_14_method_91_code, 6, (some .boolean), false, 1, jx_C307)
def jx_C308 : List jx_El := [(0, 1, .aload_n 0, [0], [], none),
  (1, 1, .iconst 0, [], [.int 0], none),
  (2, 3, .putfield 3, [0, 12, 0], [], none),
  (5, 1, .iload_n 1, [1], [], none),
  (6, 1, .i2l, [], [], none),
  (7, 1, .lconst 1, [], [.long 1], none),
  (8, 3, .ldc2_w 422, [], [.long 6], none),
  (11, 3, .invokestatic 24, [219, 0, 1, 3], [], none),
  (14, 3, .ifCond .eq 15, [29], [], none),
  (17, 1, .iload_n 2, [2], [], none),
  (18, 1, .i2l, [], [], none),
  (19, 1, .lconst 0, [], [.long 0], none),
  (20, 3, .ldc2_w 169, [], [.long 99], none),
  (23, 3, .invokestatic 24, [219, 0, 1, 3], [], none),
  (26, 3, .ifCond .ne 5, [31], [], none),
  (29, 1, .iconst (-1), [], [.int (-1)], some []),
  (30, 1, .ireturn, [], [], none),
  (31, 1, .iconst 1, [], [.int 1], none),
  (32, 1, .istore_n 3, [3], [], none),
  (33, 1, .iconst 0, [], [.int 0], none),
  (34, 2, .istore 4, [4], [], none),
  (36, 2, .iload 4, [4], [], some [0, 1, 2, 3, 4]),
  (38, 1, .iload_n 1, [1], [], none),
  (39, 3, .if_icmp .ge 13, [52], [], none),
  (42, 1, .iload_n 3, [3], [], none),
  (43, 1, .iconst 5, [], [.int 5], none),
  (44, 1, .imul, [], [], none),
  (45, 1, .istore_n 3, [3], [], none),
  (46, 3, .iinc 4 1, [4], [.int 1], none),
  (49, 3, .goto (-13), [36], [], none),
  (52, 1, .iconst 0, [], [.int 0], none),
  (53, 2, .istore 4, [4], [], none),
  (55, 1, .aload_n 0, [0], [], none),
  (56, 1, .iconst 0, [], [.int 0], none),
  (57, 3, .putfield 11, [1, 12, 0], [], none),
  (60, 1, .iconst 0, [], [.int 0], none),
  (61, 2, .istore 5, [5], [], none),
  (63, 2, .iload 5, [5], [], some [0, 1, 2, 3, 4, 5]),
  (65, 1, .iload_n 3, [3], [], none),
  (66, 3, .if_icmp .ge 90, [156], [], none),
  (69, 2, .iload 5, [5], [], none),
  (71, 2, .istore 6, [6], [], none),
  (73, 1, .iload_n 1, [1], [], none),
  (74, 1, .iconst 1, [], [.int 1], none),
  (75, 1, .isub, [], [], none),
  (76, 2, .istore 7, [7], [], none),
  (78, 2, .iload 7, [7], [], some [0, 1, 2, 3, 4, 5, 6, 7]),
  (80, 3, .ifCond .lt 26, [106], [], none),
  (83, 1, .aload_n 0, [0], [], none),
  (84, 3, .getfield 416, [62, 12], [], none),
  (87, 2, .iload 7, [7], [], none),
  (89, 2, .iload 6, [6], [], none),
  (91, 1, .iconst 5, [], [.int 5], none),
  (92, 1, .irem, [], [], none),
  (93, 1, .iastore, [], [], none),
  (94, 2, .iload 6, [6], [], none),
  (96, 1, .iconst 5, [], [.int 5], none),
  (97, 1, .idiv, [], [], none),
  (98, 2, .istore 6, [6], [], none),
  (100, 3, .iinc 7 (-1), [7], [.int (-1)], none),
  (103, 3, .goto (-25), [78], [], none),
  (106, 1, .aload_n 0, [0], [], none),
  (107, 1, .iload_n 1, [1], [], none),
  (108, 1, .iload_n 2, [2], [], none),
  (109, 3, .invokevirtual 424, [307, 0, 1, 3, 12], [], none),
  (112, 3, .ifCond .eq 38, [150], [], none),
  (115, 1, .iconst 0, [], [.int 0], none),
  (116, 2, .istore 7, [7], [], none),
  (118, 2, .iload 7, [7], [], some [0, 1, 2, 3, 4, 5, 7]),
  (120, 1, .iload_n 1, [1], [], none),
  (121, 3, .if_icmp .ge 26, [147], [], none),
  (124, 2, .iload 4, [4], [], none),
  (126, 3, .ifCond .ne 21, [147], [], none),
  (129, 1, .aload_n 0, [0], [], none),
  (130, 1, .aload_n 0, [0], [], none),
  (131, 3, .getfield 416, [62, 12], [], none),
  (134, 2, .iload 7, [7], [], none),
  (136, 1, .iaload, [], [], none),
  (137, 1, .i2l, [], [], none),
  (138, 3, .invokevirtual 18, [222, 0, 0, 2, 12], [], none),
  (141, 3, .iinc 7 1, [7], [.int 1], none),
  (144, 3, .goto (-26), [118], [], none),
  (147, 3, .iinc 4 1, [4], [.int 1], some [0, 1, 2, 3, 4, 5]),
  (150, 3, .iinc 5 1, [5], [.int 1], some [0, 1, 2, 3, 4, 5]),
  (153, 3, .goto (-90), [63], [], none),
  (156, 2, .iload 4, [4], [], none),
  (158, 1, .ireturn, [], [], none)]
def jx_M308 : jx_M := (⟨"FairByEarModel", "crowds", "(II)I"⟩, prog_14_method_92_code, 8, (some .int), false, 2, jx_C308)
def jx_C309 : List jx_El := [(0, 1, .aload_n 0, [0], [], none),
  (1, 1, .iconst 0, [], [.int 0], none),
  (2, 3, .putfield 3, [0, 12, 0], [], none),
  (5, 1, .iload_n 1, [1], [], none),
  (6, 1, .i2l, [], [], none),
  (7, 1, .lconst 0, [], [.long 0], none),
  (8, 3, .ldc2_w 99, [], [.long 3], none),
  (11, 3, .invokestatic 24, [219, 0, 1, 3], [], none),
  (14, 3, .ifCond .eq 34, [48], [], none),
  (17, 1, .iload_n 2, [2], [], none),
  (18, 1, .i2l, [], [], none),
  (19, 1, .iload_n 1, [1], [], none),
  (20, 3, .ifCond .ne 7, [27], [], none),
  (23, 1, .lconst 0, [], [.long 0], none),
  (24, 3, .goto 4, [28], [], none),
  (27, 1, .lconst 1, [], [.long 1], none),
  (28, 1, .iload_n 1, [1], [], some [0, 1, 2]),
  (29, 1, .iconst 1, [], [.int 1], none),
  (30, 3, .if_icmp .ne 9, [39], [], none),
  (33, 3, .ldc2_w 169, [], [.long 99], none),
  (36, 3, .goto 6, [42], [], none),
  (39, 3, .ldc2_w 427, [], [.long 9999], none),
  (42, 3, .invokestatic 24, [219, 0, 1, 3], [], some [0, 1, 2]),
  (45, 3, .ifCond .ne 5, [50], [], none),
  (48, 1, .iconst (-1), [], [.int (-1)], some []),
  (49, 1, .ireturn, [], [], none),
  (50, 1, .iload_n 1, [1], [], none),
  (51, 3, .ifCond .ne 10, [61], [], none),
  (54, 1, .aload_n 0, [0], [], none),
  (55, 3, .getfield 429, [63, 12], [], none),
  (58, 3, .goto 31, [89], [], none),
  (61, 1, .iload_n 1, [1], [], none),
  (62, 1, .iconst 1, [], [.int 1], none),
  (63, 3, .if_icmp .ne 10, [73], [], none),
  (66, 1, .aload_n 0, [0], [], none),
  (67, 3, .getfield 432, [64, 12], [], none),
  (70, 3, .goto 19, [89], [], none),
  (73, 1, .iload_n 1, [1], [], none),
  (74, 1, .iconst 2, [], [.int 2], none),
  (75, 3, .if_icmp .ne 10, [85], [], none),
  (78, 1, .aload_n 0, [0], [], none),
  (79, 3, .getfield 435, [65, 12], [], none),
  (82, 3, .goto 7, [89], [], none),
  (85, 1, .aload_n 0, [0], [], none),
  (86, 3, .getfield 438, [66, 12], [], none),
  (89, 1, .istore_n 3, [3], [], some [0, 1, 2]),
  (90, 1, .aload_n 0, [0], [], none),
  (91, 1, .iload_n 1, [1], [], none),
  (92, 3, .ifCond .ne 7, [99], [], none),
  (95, 1, .iload_n 2, [2], [], none),
  (96, 3, .goto 7, [103], [], none),
  (99, 1, .aload_n 0, [0], [], none),
  (100, 3, .getfield 429, [63, 12], [], none),
  (103, 3, .putfield 429, [63, 12, 0], [], some [0, 1, 2, 3]),
  (106, 1, .aload_n 0, [0], [], none),
  (107, 1, .iload_n 1, [1], [], none),
  (108, 1, .iconst 1, [], [.int 1], none),
  (109, 3, .if_icmp .ne 7, [116], [], none),
  (112, 1, .iload_n 2, [2], [], none),
  (113, 3, .goto 7, [120], [], none),
  (116, 1, .aload_n 0, [0], [], none),
  (117, 3, .getfield 432, [64, 12], [], none),
  (120, 3, .putfield 432, [64, 12, 0], [], some [0, 1, 2, 3]),
  (123, 1, .aload_n 0, [0], [], none),
  (124, 1, .iload_n 1, [1], [], none),
  (125, 1, .iconst 2, [], [.int 2], none),
  (126, 3, .if_icmp .ne 7, [133], [], none),
  (129, 1, .iload_n 2, [2], [], none),
  (130, 3, .goto 7, [137], [], none),
  (133, 1, .aload_n 0, [0], [], none),
  (134, 3, .getfield 435, [65, 12], [], none),
  (137, 3, .putfield 435, [65, 12, 0], [], some [0, 1, 2, 3]),
  (140, 1, .aload_n 0, [0], [], none),
  (141, 1, .iload_n 1, [1], [], none),
  (142, 1, .iconst 3, [], [.int 3], none),
  (143, 3, .if_icmp .ne 7, [150], [], none),
  (146, 1, .iload_n 2, [2], [], none),
  (147, 3, .goto 7, [154], [], none),
  (150, 1, .aload_n 0, [0], [], none),
  (151, 3, .getfield 438, [66, 12], [], none),
  (154, 3, .putfield 438, [66, 12, 0], [], some [3]),
  (157, 1, .iload_n 3, [3], [], none),
  (158, 1, .ireturn, [], [], none)]
def jx_M309 : jx_M := (⟨"FairByEarModel", "gas", "(II)I"⟩, prog_14_method_93_code, 4, (some .int), false, 1, jx_C309)
def jx_C310 : List jx_El := [(0, 1, .iconst 0, [], [.int 0], none),
  (1, 1, .istore_n 1, [1], [], none),
  (2, 1, .iconst 0, [], [.int 0], none),
  (3, 1, .istore_n 2, [2], [], none),
  (4, 1, .iload_n 2, [2], [], some [0, 1, 2]),
  (5, 1, .aload_n 0, [0], [], none),
  (6, 3, .getfield 28, [6, 12], [], none),
  (9, 3, .if_icmp .ge 25, [34], [], none),
  (12, 1, .iload_n 1, [1], [], none),
  (13, 1, .aload_n 0, [0], [], none),
  (14, 1, .aload_n 0, [0], [], none),
  (15, 3, .getfield 57, [7, 12], [], none),
  (18, 1, .iload_n 2, [2], [], none),
  (19, 1, .iaload, [], [], none),
  (20, 1, .iconst 0, [], [.int 0], none),
  (21, 3, .invokevirtual 35, [227, 0, 1, 3, 12], [], none),
  (24, 3, .invokestatic 106, [1, 0, 1, 2], [], none),
  (27, 1, .istore_n 1, [1], [], none),
  (28, 3, .iinc 2 1, [2], [.int 1], none),
  (31, 3, .goto (-27), [4], [], none),
  (34, 1, .iload_n 1, [1], [], none),
  (35, 1, .ireturn, [], [], none)]
def jx_M310 : jx_M := (⟨"FairByEarModel", "waysOut", "()I"⟩, prog_14_method_94_code, 3, (some .int), false, 1, jx_C310)
def jx_C311 : List jx_El := [(0, 1, .aload_n 0, [0], [], none),
  (1, 1, .iconst 0, [], [.int 0], none),
  (2, 3, .putfield 3, [0, 12, 0], [], none),
  (5, 1, .aload_n 0, [0], [], none),
  (6, 3, .getfield 28, [6, 12], [], none),
  (9, 3, .ifCond .ne 7, [16], [], none),
  (12, 3, .sipush 9999, [], [.int 9999], none),
  (15, 1, .ireturn, [], [], none),
  (16, 1, .aload_n 0, [0], [], none),
  (17, 3, .invokevirtual 441, [310, 0, 1, 1, 12], [], none),
  (20, 1, .istore_n 1, [1], [], none),
  (21, 1, .iload_n 1, [1], [], none),
  (22, 3, .sipush 999, [], [.int 999], none),
  (25, 3, .if_icmp .ne 6, [31], [], none),
  (28, 2, .bipush (-2), [], [.int (-2)], none),
  (30, 1, .ireturn, [], [], none),
  (31, 1, .iconst 0, [], [.int 0], none),
  (32, 1, .istore_n 2, [2], [], none),
  (33, 1, .iconst 0, [], [.int 0], none),
  (34, 1, .istore_n 3, [3], [], none),
  (35, 1, .iload_n 3, [3], [], some [0, 1, 2, 3]),
  (36, 1, .aload_n 0, [0], [], none),
  (37, 3, .getfield 28, [6, 12], [], none),
  (40, 3, .if_icmp .ge 28, [68], [], none),
  (43, 1, .iload_n 2, [2], [], none),
  (44, 1, .aload_n 0, [0], [], none),
  (45, 1, .aload_n 0, [0], [], none),
  (46, 3, .getfield 57, [7, 12], [], none),
  (49, 1, .iload_n 3, [3], [], none),
  (50, 1, .iaload, [], [], none),
  (51, 1, .iconst 0, [], [.int 0], none),
  (52, 3, .invokevirtual 35, [227, 0, 1, 3, 12], [], none),
  (55, 1, .aload_n 0, [0], [], none),
  (56, 3, .getfield 432, [64, 12], [], none),
  (59, 1, .imul, [], [], none),
  (60, 1, .iadd, [], [], none),
  (61, 1, .istore_n 2, [2], [], none),
  (62, 3, .iinc 3 1, [3], [.int 1], none),
  (65, 3, .goto (-30), [35], [], none),
  (68, 2, .bipush (-2), [], [.int (-2)], none),
  (70, 1, .istore_n 3, [3], [], none),
  (71, 1, .iconst 0, [], [.int 0], none),
  (72, 2, .istore 4, [4], [], none),
  (74, 2, .iload 4, [4], [], some [0, 1, 2, 3, 4]),
  (76, 3, .sipush 9999, [], [.int 9999], none),
  (79, 3, .if_icmp .gt 61, [140], [], none),
  (82, 2, .iload 4, [4], [], none),
  (84, 1, .iload_n 1, [1], [], none),
  (85, 1, .iadd, [], [], none),
  (86, 3, .ifCond .eq 29, [115], [], none),
  (89, 1, .aload_n 0, [0], [], none),
  (90, 3, .getfield 429, [63, 12], [], none),
  (93, 2, .iload 4, [4], [], none),
  (95, 1, .aload_n 0, [0], [], none),
  (96, 3, .getfield 28, [6, 12], [], none),
  (99, 1, .imul, [], [], none),
  (100, 1, .aload_n 0, [0], [], none),
  (101, 3, .getfield 432, [64, 12], [], none),
  (104, 1, .imul, [], [], none),
  (105, 1, .iadd, [], [], none),
  (106, 1, .iload_n 2, [2], [], none),
  (107, 1, .iadd, [], [], none),
  (108, 1, .aload_n 0, [0], [], none),
  (109, 3, .getfield 435, [65, 12], [], none),
  (112, 3, .if_icmp .ge 7, [119], [], none),
  (115, 1, .iconst 1, [], [.int 1], some [0, 1, 2, 3, 4]),
  (116, 3, .goto 4, [120], [], none),
  (119, 1, .iconst 0, [], [.int 0], none),
  (120, 2, .istore 5, [5], [], some [0, 1, 2, 3, 4]),
  (122, 2, .iload 5, [5], [], none),
  (124, 3, .ifCond .eq 8, [132], [], none),
  (127, 2, .iload 4, [4], [], none),
  (129, 3, .goto 4, [133], [], none),
  (132, 1, .iload_n 3, [3], [], none),
  (133, 1, .istore_n 3, [3], [], some [0, 1, 2, 4]),
  (134, 3, .iinc 4 1, [4], [.int 1], none),
  (137, 3, .goto (-63), [74], [], none),
  (140, 1, .iload_n 3, [3], [], none),
  (141, 1, .ireturn, [], [], none)]
def jx_M311 : jx_M := (⟨"FairByEarModel", "lasts", "()I"⟩, prog_14_method_95_code, 6, (some .int), false, 2, jx_C311)
def jx_C312 : List jx_El := [(0, 1, .aload_n 0, [0], [], none),
  (1, 1, .iconst 0, [], [.int 0], none),
  (2, 3, .putfield 3, [0, 12, 0], [], none),
  (5, 1, .aload_n 0, [0], [], none),
  (6, 1, .iconst 0, [], [.int 0], none),
  (7, 3, .putfield 11, [1, 12, 0], [], none),
  (10, 1, .iconst 0, [], [.int 0], none),
  (11, 1, .istore_n 1, [1], [], none),
  (12, 1, .iconst 0, [], [.int 0], none),
  (13, 1, .istore_n 2, [2], [], none),
  (14, 1, .aload_n 0, [0], [], none),
  (15, 3, .getfield 429, [63, 12], [], none),
  (18, 1, .istore_n 3, [3], [], none),
  (19, 1, .iload_n 3, [3], [], none),
  (20, 1, .aload_n 0, [0], [], none),
  (21, 3, .getfield 435, [65, 12], [], none),
  (24, 3, .if_icmp .ge 7, [31], [], none),
  (27, 1, .iconst 1, [], [.int 1], none),
  (28, 3, .goto 4, [32], [], none),
  (31, 1, .iconst 0, [], [.int 0], none),
  (32, 2, .istore 4, [4], [], some [0, 1, 2, 3]),
  (34, 2, .iload 4, [4], [], some [0, 1, 2, 3, 4]),
  (36, 3, .ifCond .eq 188, [224], [], none),
  (39, 1, .iconst (-1), [], [.int (-1)], none),
  (40, 2, .istore 5, [5], [], none),
  (42, 1, .iconst 0, [], [.int 0], none),
  (43, 2, .istore 6, [6], [], none),
  (45, 2, .iload 6, [6], [], some [0, 1, 2, 3, 5, 6]),
  (47, 1, .aload_n 0, [0], [], none),
  (48, 3, .getfield 28, [6, 12], [], none),
  (51, 3, .if_icmp .ge 89, [140], [], none),
  (54, 1, .iload_n 2, [2], [], none),
  (55, 2, .iload 6, [6], [], none),
  (57, 3, .invokestatic 112, [220, 0, 1, 2], [], none),
  (60, 3, .ifCond .ne 25, [85], [], none),
  (63, 1, .aload_n 0, [0], [], none),
  (64, 1, .aload_n 0, [0], [], none),
  (65, 3, .getfield 57, [7, 12], [], none),
  (68, 2, .iload 6, [6], [], none),
  (70, 1, .iaload, [], [], none),
  (71, 1, .iconst 0, [], [.int 0], none),
  (72, 3, .invokevirtual 35, [227, 0, 1, 3, 12], [], none),
  (75, 3, .sipush 999, [], [.int 999], none),
  (78, 3, .if_icmp .ge 7, [85], [], none),
  (81, 1, .iconst 1, [], [.int 1], none),
  (82, 3, .goto 4, [86], [], none),
  (85, 1, .iconst 0, [], [.int 0], some [0, 1, 2, 3, 5, 6]),
  (86, 2, .istore 7, [7], [], some [0, 1, 2, 3, 5, 6]),
  (88, 2, .iload 7, [7], [], none),
  (90, 3, .ifCond .eq 40, [130], [], none),
  (93, 2, .iload 5, [5], [], none),
  (95, 3, .ifCond .lt 30, [125], [], none),
  (98, 1, .aload_n 0, [0], [], none),
  (99, 1, .aload_n 0, [0], [], none),
  (100, 3, .getfield 57, [7, 12], [], none),
  (103, 2, .iload 6, [6], [], none),
  (105, 1, .iaload, [], [], none),
  (106, 1, .iconst 0, [], [.int 0], none),
  (107, 3, .invokevirtual 35, [227, 0, 1, 3, 12], [], none),
  (110, 1, .aload_n 0, [0], [], none),
  (111, 1, .aload_n 0, [0], [], none),
  (112, 3, .getfield 57, [7, 12], [], none),
  (115, 2, .iload 5, [5], [], none),
  (117, 1, .iaload, [], [], none),
  (118, 1, .iconst 0, [], [.int 0], none),
  (119, 3, .invokevirtual 35, [227, 0, 1, 3, 12], [], none),
  (122, 3, .if_icmp .ge 8, [130], [], none),
  (125, 2, .iload 6, [6], [], some [0, 1, 2, 3, 6]),
  (127, 3, .goto 5, [132], [], none),
  (130, 2, .iload 5, [5], [], some [0, 1, 2, 3, 5, 6]),
  (132, 2, .istore 5, [5], [], some [0, 1, 2, 3, 6]),
  (134, 3, .iinc 6 1, [6], [.int 1], none),
  (137, 3, .goto (-92), [45], [], none),
  (140, 2, .iload 5, [5], [], none),
  (142, 3, .ifCond .lt 7, [149], [], none),
  (145, 1, .iconst 1, [], [.int 1], none),
  (146, 3, .goto 4, [150], [], none),
  (149, 1, .iconst 0, [], [.int 0], none),
  (150, 2, .istore 4, [4], [], some [0, 1, 2, 3, 5]),
  (152, 2, .iload 4, [4], [], none),
  (154, 3, .ifCond .eq 45, [199], [], none),
  (157, 1, .iload_n 3, [3], [], none),
  (158, 1, .aload_n 0, [0], [], none),
  (159, 1, .aload_n 0, [0], [], none),
  (160, 3, .getfield 57, [7, 12], [], none),
  (163, 2, .iload 5, [5], [], none),
  (165, 1, .iaload, [], [], none),
  (166, 1, .iconst 0, [], [.int 0], none),
  (167, 3, .invokevirtual 35, [227, 0, 1, 3, 12], [], none),
  (170, 1, .aload_n 0, [0], [], none),
  (171, 3, .getfield 432, [64, 12], [], none),
  (174, 1, .imul, [], [], none),
  (175, 1, .aload_n 0, [0], [], none),
  (176, 3, .getfield 28, [6, 12], [], none),
  (179, 1, .iload_n 1, [1], [], none),
  (180, 1, .isub, [], [], none),
  (181, 1, .imul, [], [], none),
  (182, 1, .iadd, [], [], none),
  (183, 1, .istore_n 3, [3], [], none),
  (184, 1, .iload_n 3, [3], [], none),
  (185, 1, .aload_n 0, [0], [], none),
  (186, 3, .getfield 435, [65, 12], [], none),
  (189, 3, .if_icmp .ge 7, [196], [], none),
  (192, 1, .iconst 1, [], [.int 1], none),
  (193, 3, .goto 4, [197], [], none),
  (196, 1, .iconst 0, [], [.int 0], none),
  (197, 2, .istore 4, [4], [], some [0, 1, 2, 3, 5]),
  (199, 2, .iload 4, [4], [], some [0, 1, 2, 3, 4, 5]),
  (201, 3, .ifCond .eq 20, [221], [], none),
  (204, 1, .iload_n 2, [2], [], none),
  (205, 1, .iconst 1, [], [.int 1], none),
  (206, 2, .iload 5, [5], [], none),
  (208, 1, .ishl, [], [], none),
  (209, 1, .ior, [], [], none),
  (210, 1, .istore_n 2, [2], [], none),
  (211, 3, .iinc 1 1, [1], [.int 1], none),
  (214, 1, .aload_n 0, [0], [], none),
  (215, 2, .iload 5, [5], [], none),
  (217, 1, .i2l, [], [], none),
  (218, 3, .invokevirtual 18, [222, 0, 0, 2, 12], [], none),
  (221, 3, .goto (-187), [34], [], some [0, 1, 2, 3, 4]),
  (224, 1, .iload_n 1, [1], [], none),
  (225, 1, .ireturn, [], [], none)]
def jx_M312 : jx_M := (⟨"FairByEarModel", "leave", "()I"⟩, prog_14_method_96_code, 8, (some .int), false, 1, jx_C312)
def jx_C313 : List jx_El := [(0, 1, .aload_n 0, [0], [], none),
  (1, 1, .iconst 0, [], [.int 0], none),
  (2, 3, .putfield 3, [0, 12, 0], [], none),
  (5, 1, .iload_n 1, [1], [], none),
  (6, 1, .i2l, [], [], none),
  (7, 1, .lconst 0, [], [.long 0], none),
  (8, 3, .ldc2_w 99, [], [.long 3], none),
  (11, 3, .invokestatic 24, [219, 0, 1, 3], [], none),
  (14, 3, .ifCond .eq 54, [68], [], none),
  (17, 1, .iload_n 2, [2], [], none),
  (18, 1, .i2l, [], [], none),
  (19, 1, .lconst 0, [], [.long 0], none),
  (20, 3, .ldc2_w 22, [], [.long 9], none),
  (23, 3, .invokestatic 24, [219, 0, 1, 3], [], none),
  (26, 3, .ifCond .eq 42, [68], [], none),
  (29, 1, .aload_n 0, [0], [], none),
  (30, 3, .getfield 444, [67, 12], [], none),
  (33, 1, .iconst 0, [], [.int 0], none),
  (34, 1, .iaload, [], [], none),
  (35, 1, .aload_n 0, [0], [], none),
  (36, 3, .getfield 444, [67, 12], [], none),
  (39, 1, .iconst 1, [], [.int 1], none),
  (40, 1, .iaload, [], [], none),
  (41, 1, .iadd, [], [], none),
  (42, 1, .aload_n 0, [0], [], none),
  (43, 3, .getfield 444, [67, 12], [], none),
  (46, 1, .iconst 2, [], [.int 2], none),
  (47, 1, .iaload, [], [], none),
  (48, 1, .iadd, [], [], none),
  (49, 1, .aload_n 0, [0], [], none),
  (50, 3, .getfield 444, [67, 12], [], none),
  (53, 1, .iconst 3, [], [.int 3], none),
  (54, 1, .iaload, [], [], none),
  (55, 1, .iadd, [], [], none),
  (56, 1, .aload_n 0, [0], [], none),
  (57, 3, .getfield 444, [67, 12], [], none),
  (60, 1, .iload_n 1, [1], [], none),
  (61, 1, .iaload, [], [], none),
  (62, 1, .isub, [], [], none),
  (63, 1, .iload_n 2, [2], [], none),
  (64, 1, .iadd, [], [], none),
  (65, 3, .ifCond .ne 5, [70], [], none),
  (68, 1, .iconst (-1), [], [.int (-1)], some []),
  (69, 1, .ireturn, [], [], none),
  (70, 1, .aload_n 0, [0], [], none),
  (71, 3, .getfield 444, [67, 12], [], none),
  (74, 1, .iload_n 1, [1], [], none),
  (75, 1, .iaload, [], [], none),
  (76, 1, .istore_n 3, [3], [], none),
  (77, 1, .aload_n 0, [0], [], none),
  (78, 3, .getfield 444, [67, 12], [], none),
  (81, 1, .iload_n 1, [1], [], none),
  (82, 1, .iload_n 2, [2], [], none),
  (83, 1, .iastore, [], [], none),
  (84, 1, .iload_n 3, [3], [], none),
  (85, 1, .ireturn, [], [], none)]
def jx_M313 : jx_M := (⟨"FairByEarModel", "ear", "(II)I"⟩, prog_14_method_97_code, 4, (some .int), false, 1, jx_C313)
def jx_C314 : List jx_El := [(0, 1, .iload_n 1, [1], [], none),
  (1, 3, .invokestatic 419, [0, 0, 1, 1], [], none),
  (4, 1, .iconst 3, [], [.int 3], none),
  (5, 3, .if_icmp .le 7, [12], [], none),
  (8, 1, .iconst 0, [], [.int 0], none),
  (9, 3, .goto 12, [21], [], none),
  (12, 1, .aload_n 0, [0], [], none),
  (13, 3, .getfield 444, [67, 12], [], none),
  (16, 1, .iload_n 1, [1], [], none),
  (17, 3, .invokestatic 419, [0, 0, 1, 1], [], none),
  (20, 1, .iaload, [], [], none),
  (21, 1, .ireturn, [], [], some [])]
def jx_M314 : jx_M := (⟨"FairByEarModel", "chanceOf", "(I)I"⟩, prog_14_method_98_code, 2, (some .int), false, 1, jx_C314)
def jx_C315 : List jx_El := [(0, 1, .aload_n 0, [0], [], none),
  (1, 1, .iload_n 1, [1], [], none),
  (2, 1, .iload_n 2, [2], [], none),
  (3, 3, .invokevirtual 35, [227, 0, 1, 3, 12], [], none),
  (6, 2, .istore 5, [5], [], none),
  (8, 2, .iload 5, [5], [], none),
  (10, 3, .sipush 999, [], [.int 999], none),
  (13, 3, .if_icmp .ne 7, [20], [], none),
  (16, 1, .iconst 0, [], [.int 0], none),
  (17, 3, .goto 27, [44], [], none),
  (20, 1, .aload_n 0, [0], [], none),
  (21, 1, .iload_n 3, [3], [], none),
  (22, 2, .iload 5, [5], [], none),
  (24, 1, .isub, [], [], none),
  (25, 3, .invokevirtual 447, [314, 0, 1, 2, 12], [], none),
  (28, 1, .aload_n 0, [0], [], none),
  (29, 2, .iload 4, [4], [], none),
  (31, 1, .iconst 2, [], [.int 2], none),
  (32, 1, .aload_n 0, [0], [], none),
  (33, 3, .getfield 52, [5, 12], [], none),
  (36, 1, .iload_n 1, [1], [], none),
  (37, 1, .iaload, [], [], none),
  (38, 1, .imul, [], [], none),
  (39, 1, .isub, [], [], none),
  (40, 3, .invokevirtual 447, [314, 0, 1, 2, 12], [], none),
  (43, 1, .imul, [], [], none),
  (44, 1, .ireturn, [], [], some [])]
def jx_M315 : jx_M := (⟨"FairByEarModel", "likely", "(IIII)I"⟩, prog_14_method_99_code, 6, (some .int), false, 2, jx_C315)
def jx_C316 : List jx_El := [(0, 1, .iload_n 0, [0], [], none),
  (1, 1, .i2l, [], [], none),
  (2, 1, .lconst 0, [], [.long 0], none),
  (3, 3, .ldc2_w 55, [], [.long 999], none),
  (6, 3, .invokestatic 24, [219, 0, 1, 3], [], none),
  (9, 3, .ifCond .eq 19, [28], [], none),
  (12, 1, .iload_n 1, [1], [], none),
  (13, 1, .i2l, [], [], none),
  (14, 1, .lconst 0, [], [.long 0], none),
  (15, 3, .ldc2_w 55, [], [.long 999], none),
  (18, 3, .invokestatic 24, [219, 0, 1, 3], [], none),
  (21, 3, .ifCond .eq 7, [28], [], none),
  (24, 1, .iconst 1, [], [.int 1], none),
  (25, 3, .goto 4, [29], [], none),
  (28, 1, .iconst 0, [], [.int 0], some []),
  (29, 1, .ireturn, [1], [], some [])]
def jx_M316 : jx_M := (⟨"FairByEarModel", "areLate", "(II)Z"⟩, prog_14_method_100_code, 2, (some .boolean), true, 1, jx_C316)
def jx_C317 : List jx_El := [(0, 2, .bipush (-2), [], [.int (-2)], none),
  (2, 2, .istore 5, [5], [], none),
  (4, 1, .iconst 0, [], [.int 0], none),
  (5, 2, .istore 6, [6], [], none),
  (7, 1, .iconst 0, [], [.int 0], none),
  (8, 2, .istore 7, [7], [], none),
  (10, 2, .iload 4, [4], [], none),
  (12, 3, .ifCond .eq 10, [22], [], none),
  (15, 1, .aload_n 0, [0], [], none),
  (16, 3, .getfield 28, [6, 12], [], none),
  (19, 3, .goto 5, [24], [], none),
  (22, 2, .bipush 10, [], [.int 10], none),
  (24, 2, .istore 8, [8], [], some [0, 1, 2, 3, 4, 5, 6, 7]),
  (26, 1, .iconst 0, [], [.int 0], none),
  (27, 2, .istore 9, [9], [], none),
  (29, 2, .iload 9, [9], [], some [0, 1, 2, 3, 4, 5, 6, 7, 8, 9]),
  (31, 2, .iload 8, [8], [], none),
  (33, 3, .if_icmp .ge 77, [110], [], none),
  (36, 2, .iload 4, [4], [], none),
  (38, 3, .ifCond .eq 13, [51], [], none),
  (41, 2, .iload 9, [9], [], none),
  (43, 1, .iload_n 1, [1], [], none),
  (44, 3, .if_icmp .ne 7, [51], [], none),
  (47, 1, .iconst 0, [], [.int 0], none),
  (48, 3, .goto 32, [80], [], none),
  (51, 1, .aload_n 0, [0], [], some [0, 1, 2, 3, 4, 5, 6, 7, 8, 9]),
  (52, 2, .iload 4, [4], [], none),
  (54, 3, .ifCond .eq 13, [67], [], none),
  (57, 1, .aload_n 0, [0], [], none),
  (58, 3, .getfield 57, [7, 12], [], none),
  (61, 2, .iload 9, [9], [], none),
  (63, 1, .iaload, [], [], none),
  (64, 3, .goto 5, [69], [], none),
  (67, 2, .iload 9, [9], [], none),
  (69, 1, .aload_n 0, [0], [], some [0, 1, 2, 3, 4, 5, 6, 7, 8, 9]),
  (70, 3, .getfield 57, [7, 12], [], none),
  (73, 1, .iload_n 1, [1], [], none),
  (74, 1, .iaload, [], [], none),
  (75, 1, .iload_n 2, [2], [], none),
  (76, 1, .iload_n 3, [3], [], none),
  (77, 3, .invokevirtual 450, [315, 0, 1, 5, 12], [], none),
  (80, 2, .istore 10, [10], [], some [0, 1, 2, 3, 4, 5, 6, 7, 8, 9]),
  (82, 2, .iload 7, [7], [], none),
  (84, 2, .iload 10, [10], [], none),
  (86, 1, .iadd, [], [], none),
  (87, 2, .istore 7, [7], [], none),
  (89, 2, .iload 10, [10], [], none),
  (91, 2, .iload 6, [6], [], none),
  (93, 3, .if_icmp .le 11, [104], [], none),
  (96, 2, .iload 9, [9], [], none),
  (98, 2, .istore 5, [5], [], none),
  (100, 2, .iload 10, [10], [], none),
  (102, 2, .istore 6, [6], [], none),
  (104, 3, .iinc 9 1, [9], [.int 1], some [0, 1, 2, 3, 4, 5, 6, 7, 8, 9]),
  (107, 3, .goto (-78), [29], [], none),
  (110, 2, .iload 5, [5], [], none),
  (112, 3, .ifCond .lt 18, [130], [], none),
  (115, 1, .aload_n 0, [0], [], none),
  (116, 1, .iconst 0, [], [.int 0], none),
  (117, 3, .putfield 11, [1, 12, 0], [], none),
  (120, 1, .aload_n 0, [0], [], none),
  (121, 2, .iload 6, [6], [], none),
  (123, 1, .i2l, [], [], none),
  (124, 2, .iload 7, [7], [], none),
  (126, 1, .i2l, [], [], none),
  (127, 3, .invokevirtual 454, [224, 0, 0, 3, 12], [], none),
  (130, 2, .iload 5, [5], [], some [5]),
  (132, 1, .ireturn, [], [], none)]
def jx_M317 : jx_M := (⟨"FairByEarModel", "judges", "(IIIZ)I"⟩, prog_14_method_101_code, 11, (some .int), false, 3, jx_C317)
def jx_C318 : List jx_El := [(0, 1, .aload_n 0, [0], [], none),
  (1, 1, .iconst 0, [], [.int 0], none),
  (2, 3, .putfield 3, [0, 12, 0], [], none),
  (5, 1, .iload_n 1, [1], [], none),
  (6, 3, .invokestatic 39, [225, 0, 1, 1], [], none),
  (9, 3, .ifCond .eq 10, [19], [], none),
  (12, 1, .iload_n 2, [2], [], none),
  (13, 3, .invokestatic 39, [225, 0, 1, 1], [], none),
  (16, 3, .ifCond .ne 5, [21], [], none),
  (19, 1, .iconst (-1), [], [.int (-1)], some []),
  (20, 1, .ireturn, [], [], none),
  (21, 1, .aload_n 0, [0], [], none),
  (22, 1, .iload_n 1, [1], [], none),
  (23, 1, .iload_n 2, [2], [], none),
  (24, 3, .invokevirtual 35, [227, 0, 1, 3, 12], [], none),
  (27, 1, .istore_n 3, [3], [], none),
  (28, 1, .iload_n 3, [3], [], none),
  (29, 3, .sipush 999, [], [.int 999], none),
  (32, 3, .if_icmp .ne 6, [38], [], none),
  (35, 2, .bipush (-2), [], [.int (-2)], none),
  (37, 1, .ireturn, [], [], none),
  (38, 1, .iconst 0, [], [.int 0], none),
  (39, 2, .istore 4, [4], [], none),
  (41, 1, .iconst 0, [], [.int 0], none),
  (42, 2, .istore 5, [5], [], none),
  (44, 2, .iload 5, [5], [], some [0, 1, 2, 3, 4, 5]),
  (46, 2, .bipush 10, [], [.int 10], none),
  (48, 3, .if_icmp .ge 49, [97], [], none),
  (51, 2, .iload 4, [4], [], none),
  (53, 1, .aload_n 0, [0], [], none),
  (54, 2, .iload 5, [5], [], none),
  (56, 1, .iload_n 2, [2], [], none),
  (57, 3, .invokevirtual 35, [227, 0, 1, 3, 12], [], none),
  (60, 1, .iload_n 3, [3], [], none),
  (61, 3, .if_icmp .ne 26, [87], [], none),
  (64, 1, .aload_n 0, [0], [], none),
  (65, 3, .getfield 52, [5, 12], [], none),
  (68, 2, .iload 5, [5], [], none),
  (70, 1, .iaload, [], [], none),
  (71, 1, .aload_n 0, [0], [], none),
  (72, 3, .getfield 52, [5, 12], [], none),
  (75, 1, .iload_n 1, [1], [], none),
  (76, 1, .iaload, [], [], none),
  (77, 3, .if_icmp .ne 10, [87], [], none),
  (80, 1, .iconst 1, [], [.int 1], none),
  (81, 2, .iload 5, [5], [], none),
  (83, 1, .ishl, [], [], none),
  (84, 3, .goto 4, [88], [], none),
  (87, 1, .iconst 0, [], [.int 0], some [0, 1, 2, 3, 5]),
  (88, 1, .ior, [], [], some [0, 1, 2, 3, 5]),
  (89, 2, .istore 4, [4], [], none),
  (91, 3, .iinc 5 1, [5], [.int 1], none),
  (94, 3, .goto (-50), [44], [], none),
  (97, 1, .aload_n 0, [0], [], none),
  (98, 1, .iconst 0, [], [.int 0], none),
  (99, 3, .putfield 11, [1, 12, 0], [], none),
  (102, 1, .aload_n 0, [0], [], none),
  (103, 1, .iload_n 3, [3], [], none),
  (104, 1, .i2l, [], [], none),
  (105, 3, .invokevirtual 18, [222, 0, 0, 2, 12], [], none),
  (108, 1, .aload_n 0, [0], [], none),
  (109, 1, .iconst 2, [], [.int 2], none),
  (110, 1, .aload_n 0, [0], [], none),
  (111, 3, .getfield 52, [5, 12], [], none),
  (114, 1, .iload_n 1, [1], [], none),
  (115, 1, .iaload, [], [], none),
  (116, 1, .imul, [], [], none),
  (117, 1, .i2l, [], [], none),
  (118, 3, .invokevirtual 18, [222, 0, 0, 2, 12], [], none),
  (121, 1, .aload_n 0, [0], [], none),
  (122, 2, .iload 4, [4], [], none),
  (124, 1, .i2l, [], [], none),
  (125, 3, .invokevirtual 18, [222, 0, 0, 2, 12], [], none),
  (128, 1, .iconst 0, [], [.int 0], none),
  (129, 1, .ireturn, [], [], none)]
def jx_M318 : jx_M := (⟨"FairByEarModel", "sound", "(II)I"⟩, prog_14_method_102_code, 6, (some .int), false, 2, jx_C318)
def jx_C319 : List jx_El := [(0, 1, .aload_n 0, [0], [], none),
  (1, 1, .iconst 0, [], [.int 0], none),
  (2, 3, .putfield 3, [0, 12, 0], [], none),
  (5, 1, .aload_n 0, [0], [], none),
  (6, 1, .iload_n 1, [1], [], none),
  (7, 3, .invokevirtual 66, [226, 0, 1, 2, 12], [], none),
  (10, 3, .ifCond .eq 22, [32], [], none),
  (13, 1, .iload_n 2, [2], [], none),
  (14, 1, .iload_n 3, [3], [], none),
  (15, 3, .invokestatic 458, [316, 0, 1, 2], [], none),
  (18, 3, .ifCond .eq 14, [32], [], none),
  (21, 1, .aload_n 0, [0], [], none),
  (22, 1, .iload_n 1, [1], [], none),
  (23, 1, .iload_n 2, [2], [], none),
  (24, 1, .iload_n 3, [3], [], none),
  (25, 1, .iconst 0, [], [.int 0], none),
  (26, 3, .invokevirtual 461, [317, 0, 1, 5, 12], [], none),
  (29, 3, .goto 4, [33], [], none),
  (32, 1, .iconst (-1), [], [.int (-1)], some []),
  (33, 1, .ireturn, [], [], some [])]
def jx_M319 : jx_M := (⟨"FairByEarModel", "judge", "(III)I"⟩, prog_14_method_103_code, 4, (some .int), false, 4, jx_C319)
def jx_C320 : List jx_El := [(0, 1, .aload_n 0, [0], [], none),
  (1, 1, .iconst 0, [], [.int 0], none),
  (2, 3, .putfield 3, [0, 12, 0], [], none),
  (5, 1, .aload_n 0, [0], [], none),
  (6, 1, .iload_n 1, [1], [], none),
  (7, 3, .invokevirtual 66, [226, 0, 1, 2, 12], [], none),
  (10, 3, .ifCond .eq 22, [32], [], none),
  (13, 1, .iload_n 2, [2], [], none),
  (14, 1, .iload_n 3, [3], [], none),
  (15, 3, .invokestatic 458, [316, 0, 1, 2], [], none),
  (18, 3, .ifCond .eq 14, [32], [], none),
  (21, 1, .aload_n 0, [0], [], none),
  (22, 1, .iload_n 1, [1], [], none),
  (23, 1, .iload_n 2, [2], [], none),
  (24, 1, .iload_n 3, [3], [], none),
  (25, 1, .iconst 1, [], [.int 1], none),
  (26, 3, .invokevirtual 461, [317, 0, 1, 5, 12], [], none),
  (29, 3, .goto 4, [33], [], none),
  (32, 1, .iconst (-1), [], [.int (-1)], some []),
  (33, 1, .ireturn, [], [], some [])]
def jx_M320 : jx_M := (⟨"FairByEarModel", "who", "(III)I"⟩, prog_14_method_104_code, 4, (some .int), false, 4, jx_C320)
def jx_C321 : List jx_El := [(0, 1, .aload_n 0, [0], [], none),
  (1, 1, .iconst 0, [], [.int 0], none),
  (2, 3, .putfield 3, [0, 12, 0], [], none),
  (5, 1, .iload_n 1, [1], [], none),
  (6, 3, .invokestatic 39, [225, 0, 1, 1], [], none),
  (9, 3, .ifCond .ne 5, [14], [], none),
  (12, 1, .iconst (-1), [], [.int (-1)], none),
  (13, 1, .ireturn, [], [], none),
  (14, 1, .aload_n 0, [0], [], none),
  (15, 3, .getfield 429, [63, 12], [], none),
  (18, 1, .aload_n 0, [0], [], none),
  (19, 3, .getfield 438, [66, 12], [], none),
  (22, 3, .if_icmp .lt 29, [51], [], none),
  (25, 1, .iconst 0, [], [.int 0], none),
  (26, 1, .istore_n 2, [2], [], none),
  (27, 1, .iload_n 2, [2], [], some [0, 2]),
  (28, 1, .aload_n 0, [0], [], none),
  (29, 3, .getfield 28, [6, 12], [], none),
  (32, 3, .if_icmp .ge 16, [48], [], none),
  (35, 1, .aload_n 0, [0], [], none),
  (36, 3, .getfield 60, [8, 12], [], none),
  (39, 1, .iload_n 2, [2], [], none),
  (40, 1, .iconst 0, [], [.int 0], none),
  (41, 1, .iastore, [], [], none),
  (42, 3, .iinc 2 1, [2], [.int 1], none),
  (45, 3, .goto (-18), [27], [], none),
  (48, 2, .bipush (-2), [], [.int (-2)], none),
  (50, 1, .ireturn, [], [], none),
  (51, 1, .iconst 0, [], [.int 0], none),
  (52, 1, .istore_n 2, [2], [], none),
  (53, 1, .iconst 0, [], [.int 0], none),
  (54, 1, .istore_n 3, [3], [], none),
  (55, 1, .iload_n 3, [3], [], some [0, 1, 2, 3]),
  (56, 1, .aload_n 0, [0], [], none),
  (57, 3, .getfield 28, [6, 12], [], none),
  (60, 3, .if_icmp .ge 35, [95], [], none),
  (63, 1, .iload_n 2, [2], [], none),
  (64, 1, .aload_n 0, [0], [], none),
  (65, 1, .aload_n 0, [0], [], none),
  (66, 3, .getfield 57, [7, 12], [], none),
  (69, 1, .iload_n 3, [3], [], none),
  (70, 1, .iaload, [], [], none),
  (71, 1, .iload_n 1, [1], [], none),
  (72, 3, .invokevirtual 35, [227, 0, 1, 3, 12], [], none),
  (75, 2, .bipush 10, [], [.int 10], none),
  (77, 3, .if_icmp .gt 9, [86], [], none),
  (80, 1, .iconst 1, [], [.int 1], none),
  (81, 1, .iload_n 3, [3], [], none),
  (82, 1, .ishl, [], [], none),
  (83, 3, .goto 4, [87], [], none),
  (86, 1, .iconst 0, [], [.int 0], none),
  (87, 1, .ior, [], [], some [0, 1, 3]),
  (88, 1, .istore_n 2, [2], [], none),
  (89, 3, .iinc 3 1, [3], [.int 1], none),
  (92, 3, .goto (-37), [55], [], none),
  (95, 1, .iconst 0, [], [.int 0], none),
  (96, 1, .istore_n 3, [3], [], none),
  (97, 1, .iconst 0, [], [.int 0], none),
  (98, 2, .istore 4, [4], [], none),
  (100, 1, .iconst 0, [], [.int 0], none),
  (101, 2, .istore 5, [5], [], none),
  (103, 2, .iload 5, [5], [], some [0, 2, 3, 4, 5]),
  (105, 1, .aload_n 0, [0], [], none),
  (106, 3, .getfield 266, [28, 12], [], none),
  (109, 3, .if_icmp .ge 145, [254], [], none),
  (112, 1, .iload_n 2, [2], [], none),
  (113, 1, .aload_n 0, [0], [], none),
  (114, 3, .getfield 275, [30, 12], [], none),
  (117, 2, .iload 5, [5], [], none),
  (119, 1, .iaload, [], [], none),
  (120, 3, .invokestatic 112, [220, 0, 1, 2], [], none),
  (123, 3, .ifCond .ne 6, [129], [], none),
  (126, 3, .goto 122, [248], [], none),
  (129, 1, .iload_n 3, [3], [], none),
  (130, 1, .iconst 1, [], [.int 1], none),
  (131, 2, .iload 5, [5], [], none),
  (133, 1, .ishl, [], [], none),
  (134, 1, .ior, [], [], none),
  (135, 1, .istore_n 3, [3], [], none),
  (136, 1, .iconst 0, [], [.int 0], none),
  (137, 2, .istore 6, [6], [], none),
  (139, 1, .iconst 0, [], [.int 0], none),
  (140, 2, .istore 7, [7], [], none),
  (142, 2, .iload 7, [7], [], some [0, 2, 3, 4, 5, 6, 7]),
  (144, 1, .aload_n 0, [0], [], none),
  (145, 3, .getfield 28, [6, 12], [], none),
  (148, 3, .if_icmp .ge 71, [219], [], none),
  (151, 2, .iload 6, [6], [], none),
  (153, 2, .iload 7, [7], [], none),
  (155, 1, .aload_n 0, [0], [], none),
  (156, 3, .getfield 275, [30, 12], [], none),
  (159, 2, .iload 5, [5], [], none),
  (161, 1, .iaload, [], [], none),
  (162, 3, .if_icmp .eq 44, [206], [], none),
  (165, 1, .iload_n 2, [2], [], none),
  (166, 2, .iload 7, [7], [], none),
  (168, 3, .invokestatic 112, [220, 0, 1, 2], [], none),
  (171, 3, .ifCond .eq 35, [206], [], none),
  (174, 1, .aload_n 0, [0], [], none),
  (175, 3, .getfield 269, [27, 12], [], none),
  (178, 2, .bipush 10, [], [.int 10], none),
  (180, 2, .iload 7, [7], [], none),
  (182, 1, .imul, [], [], none),
  (183, 1, .aload_n 0, [0], [], none),
  (184, 3, .getfield 272, [29, 12], [], none),
  (187, 2, .iload 5, [5], [], none),
  (189, 1, .iaload, [], [], none),
  (190, 1, .iadd, [], [], none),
  (191, 1, .iaload, [], [], none),
  (192, 1, .aload_n 0, [0], [], none),
  (193, 3, .getfield 282, [32, 12], [], none),
  (196, 2, .iload 5, [5], [], none),
  (198, 1, .iaload, [], [], none),
  (199, 3, .if_icmp .le 7, [206], [], none),
  (202, 1, .iconst 1, [], [.int 1], none),
  (203, 3, .goto 4, [207], [], none),
  (206, 1, .iconst 0, [], [.int 0], some [0, 2, 3, 4, 5, 7]),
  (207, 3, .invokestatic 250, [221, 0, 1, 1], [], some [0, 2, 3, 4, 5, 7]),
  (210, 1, .iadd, [], [], none),
  (211, 2, .istore 6, [6], [], none),
  (213, 3, .iinc 7 1, [7], [.int 1], none),
  (216, 3, .goto (-74), [142], [], none),
  (219, 2, .iload 4, [4], [], none),
  (221, 2, .iload 6, [6], [], none),
  (223, 1, .iconst 1, [], [.int 1], none),
  (224, 3, .if_icmp .le 20, [244], [], none),
  (227, 1, .aload_n 0, [0], [], none),
  (228, 3, .getfield 278, [31, 12], [], none),
  (231, 2, .iload 5, [5], [], none),
  (233, 1, .baload, [], [], none),
  (234, 3, .ifCond .ne 10, [244], [], none),
  (237, 1, .iconst 1, [], [.int 1], none),
  (238, 2, .iload 5, [5], [], none),
  (240, 1, .ishl, [], [], none),
  (241, 3, .goto 4, [245], [], none),
  (244, 1, .iconst 0, [], [.int 0], some [0, 2, 3, 5]),
  (245, 1, .ior, [], [], some [0, 2, 3, 5]),
  (246, 2, .istore 4, [4], [], none),
  (248, 3, .iinc 5 1, [5], [.int 1], some [0, 2, 3, 4, 5]),
  (251, 3, .goto (-148), [103], [], none),
  (254, 1, .aload_n 0, [0], [], none),
  (255, 1, .iconst 0, [], [.int 0], none),
  (256, 3, .putfield 11, [1, 12, 0], [], none),
  (259, 1, .aload_n 0, [0], [], none),
  (260, 1, .iload_n 3, [3], [], none),
  (261, 1, .i2l, [], [], none),
  (262, 3, .invokevirtual 18, [222, 0, 0, 2, 12], [], none),
  (265, 1, .aload_n 0, [0], [], none),
  (266, 2, .iload 4, [4], [], none),
  (268, 1, .i2l, [], [], none),
  (269, 3, .invokevirtual 18, [222, 0, 0, 2, 12], [], none),
  (272, 1, .iload_n 2, [2], [], none),
  (273, 1, .ireturn, [], [], none)]
def jx_M321 : jx_M := (⟨"FairByEarModel", "lamp", "(I)I"⟩, prog_14_method_105_code, 8, (some .int), false, 2, jx_C321)
def jx_C322 : List jx_El := [(0, 1, .iconst 0, [], [.int 0], none),
  (1, 1, .istore_n 1, [1], [], none),
  (2, 1, .iconst 0, [], [.int 0], none),
  (3, 1, .istore_n 2, [2], [], none),
  (4, 1, .iload_n 2, [2], [], some [0, 1, 2]),
  (5, 1, .aload_n 0, [0], [], none),
  (6, 3, .getfield 266, [28, 12], [], none),
  (9, 3, .if_icmp .ge 28, [37], [], none),
  (12, 1, .iload_n 1, [1], [], none),
  (13, 1, .aload_n 0, [0], [], none),
  (14, 3, .getfield 278, [31, 12], [], none),
  (17, 1, .iload_n 2, [2], [], none),
  (18, 1, .baload, [], [], none),
  (19, 3, .ifCond .eq 9, [28], [], none),
  (22, 1, .iconst 1, [], [.int 1], none),
  (23, 1, .iload_n 2, [2], [], none),
  (24, 1, .ishl, [], [], none),
  (25, 3, .goto 4, [29], [], none),
  (28, 1, .iconst 0, [], [.int 0], none),
  (29, 1, .ior, [], [], some [0, 2]),
  (30, 1, .istore_n 1, [1], [], none),
  (31, 3, .iinc 2 1, [2], [.int 1], none),
  (34, 3, .goto (-30), [4], [], none),
  (37, 1, .iload_n 1, [1], [], none),
  (38, 1, .ireturn, [], [], none)]
def jx_M322 : jx_M := (⟨"FairByEarModel", "soldBits", "()I"⟩, prog_14_method_106_code, 3, (some .int), false, 0, jx_C322)
def jx_C323 : List jx_El := [(0, 1, .iconst 0, [], [.int 0], none),
  (1, 1, .istore_n 1, [1], [], none),
  (2, 1, .iconst 0, [], [.int 0], none),
  (3, 1, .istore_n 2, [2], [], none),
  (4, 1, .iload_n 2, [2], [], some [0, 1, 2]),
  (5, 1, .aload_n 0, [0], [], none),
  (6, 3, .getfield 28, [6, 12], [], none),
  (9, 3, .if_icmp .ge 18, [27], [], none),
  (12, 1, .iload_n 1, [1], [], none),
  (13, 1, .aload_n 0, [0], [], none),
  (14, 3, .getfield 60, [8, 12], [], none),
  (17, 1, .iload_n 2, [2], [], none),
  (18, 1, .iaload, [], [], none),
  (19, 1, .iadd, [], [], none),
  (20, 1, .istore_n 1, [1], [], none),
  (21, 3, .iinc 2 1, [2], [.int 1], none),
  (24, 3, .goto (-20), [4], [], none),
  (27, 1, .iload_n 1, [1], [], none),
  (28, 1, .ireturn, [], [], none)]
def jx_M323 : jx_M := (⟨"FairByEarModel", "purses", "()I"⟩, prog_14_method_107_code, 3, (some .int), false, 0, jx_C323)
def jx_C324 : List jx_El := [(0, 1, .aload_n 0, [0], [], none),
  (1, 1, .iconst 0, [], [.int 0], none),
  (2, 3, .putfield 3, [0, 12, 0], [], none),
  (5, 1, .iload_n 1, [1], [], none),
  (6, 54, .tableswitch 104 0 9 #[54, 59, 64, 69, 74, 79, 84, 89, 94, 99], [110, 60, 65, 70, 75, 80, 85, 90, 95, 100, 105], [.int 0, .int 1, .int 2, .int 3, .int 4, .int 5, .int 6, .int 7, .int 8, .int 9], none),
  (60, 1, .aload_n 0, [0], [], none),
  (61, 3, .getfield 45, [3, 12], [], none),
  (64, 1, .ireturn, [], [], none),
  (65, 1, .aload_n 0, [0], [], none),
  (66, 3, .getfield 28, [6, 12], [], none),
  (69, 1, .ireturn, [], [], none),
  (70, 1, .aload_n 0, [0], [], none),
  (71, 3, .getfield 75, [10, 12], [], none),
  (74, 1, .ireturn, [], [], none),
  (75, 1, .aload_n 0, [0], [], none),
  (76, 3, .getfield 78, [12, 12], [], none),
  (79, 1, .ireturn, [], [], none),
  (80, 1, .aload_n 0, [0], [], none),
  (81, 3, .getfield 266, [28, 12], [], none),
  (84, 1, .ireturn, [], [], none),
  (85, 1, .aload_n 0, [0], [], none),
  (86, 3, .invokevirtual 465, [322, 0, 1, 1, 12], [], none),
  (89, 1, .ireturn, [], [], none),
  (90, 1, .aload_n 0, [0], [], none),
  (91, 3, .getfield 317, [36, 12], [], none),
  (94, 1, .ireturn, [], [], none),
  (95, 1, .aload_n 0, [0], [], none),
  (96, 3, .invokevirtual 468, [323, 0, 1, 1, 12], [], none),
  (99, 1, .ireturn, [], [], none),
  (100, 1, .aload_n 0, [0], [], none),
  (101, 3, .getfield 11, [1, 12], [], none),
  (104, 1, .ireturn, [], [], none),
  (105, 1, .aload_n 0, [0], [], none),
  (106, 3, .getfield 175, [23, 12], [], none),
  (109, 1, .ireturn, [], [], none),
  (110, 1, .iconst (-1), [], [.int (-1)], none),
  (111, 1, .ireturn, [], [], none)]
def jx_M324 : jx_M := (⟨"FairByEarModel", "count", "(I)I"⟩, prog_14_method_108_code, 2, (some .int), false, 1, jx_C324)
def jx_C325 : List jx_El := [(0, 1, .aload_n 0, [0], [], none),
  (1, 1, .iconst 0, [], [.int 0], none),
  (2, 3, .putfield 3, [0, 12, 0], [], none),
  (5, 1, .iload_n 1, [1], [], none),
  (6, 1, .i2l, [], [], none),
  (7, 1, .lconst 0, [], [.long 0], none),
  (8, 1, .aload_n 0, [0], [], none),
  (9, 3, .getfield 11, [1, 12], [], none),
  (12, 1, .iconst 1, [], [.int 1], none),
  (13, 1, .isub, [], [], none),
  (14, 1, .i2l, [], [], none),
  (15, 3, .invokestatic 24, [219, 0, 1, 3], [], none),
  (18, 3, .ifCond .ne 10, [28], [], none),
  (21, 1, .aload_n 0, [0], [], none),
  (22, 1, .iconst 1, [], [.int 1], none),
  (23, 3, .putfield 3, [0, 12, 0], [], none),
  (26, 1, .lconst 0, [], [.long 0], none),
  (27, 1, .lreturn, [], [], none),
  (28, 1, .aload_n 0, [0], [], none),
  (29, 3, .getfield 7, [2, 12], [], none),
  (32, 1, .iload_n 1, [1], [], none),
  (33, 1, .laload, [], [], none),
  (34, 1, .lreturn, [], [], none)]
def jx_M325 : jx_M := (⟨"FairByEarModel", "row", "(I)J"⟩, prog_14_method_110_code, 2, (some .long), false, 1, jx_C325)
def jx_ms : List jx_M := [jx_M0, jx_M1, jx_M2, jx_M3, jx_M4, jx_M5, jx_M6, jx_M7, jx_M8, jx_M9, jx_M10, jx_M11, jx_M12, jx_M13, jx_M14, jx_M15, jx_M16, jx_M17, jx_M18, jx_M19, jx_M20, jx_M21, jx_M22, jx_M23, jx_M24, jx_M25, jx_M26, jx_M27, jx_M28, jx_M29, jx_M30, jx_M31, jx_M32, jx_M33, jx_M34, jx_M35, jx_M36, jx_M37, jx_M38, jx_M39, jx_M40, jx_M41, jx_M42, jx_M43, jx_M44, jx_M45, jx_M46, jx_M47, jx_M48, jx_M49, jx_M50, jx_M51, jx_M52, jx_M53, jx_M54, jx_M55, jx_M56, jx_M57, jx_M58, jx_M59, jx_M60, jx_M61, jx_M62, jx_M63, jx_M64, jx_M65, jx_M66, jx_M67, jx_M68, jx_M69, jx_M70, jx_M71, jx_M72, jx_M73, jx_M74, jx_M75, jx_M76, jx_M77, jx_M78, jx_M79, jx_M80, jx_M81, jx_M82, jx_M83, jx_M84, jx_M85, jx_M86, jx_M87, jx_M88, jx_M89, jx_M90, jx_M91, jx_M92, jx_M93, jx_M94, jx_M95, jx_M96, jx_M97, jx_M98, jx_M99, jx_M100, jx_M101, jx_M102, jx_M103, jx_M104, jx_M105, jx_M106, jx_M107, jx_M108, jx_M109, jx_M110, jx_M111, jx_M112, jx_M113, jx_M114, jx_M115, jx_M116, jx_M117, jx_M118, jx_M119, jx_M120, jx_M121, jx_M122, jx_M123, jx_M124, jx_M125, jx_M126, jx_M127, jx_M128, jx_M129, jx_M130, jx_M131, jx_M132, jx_M133, jx_M134, jx_M135, jx_M136, jx_M137, jx_M138, jx_M139, jx_M140, jx_M141, jx_M142, jx_M143, jx_M144, jx_M145, jx_M146, jx_M147, jx_M148, jx_M149, jx_M150, jx_M151, jx_M152, jx_M153, jx_M154, jx_M155, jx_M156, jx_M157, jx_M158, jx_M159, jx_M160, jx_M161, jx_M162, jx_M163, jx_M164, jx_M165, jx_M166, jx_M167, jx_M168, jx_M169, jx_M170, jx_M171, jx_M172, jx_M173, jx_M174, jx_M175, jx_M176, jx_M177, jx_M178, jx_M179, jx_M180, jx_M181, jx_M182, jx_M183, jx_M184, jx_M185, jx_M186, jx_M187, jx_M188, jx_M189, jx_M190, jx_M191, jx_M192, jx_M193, jx_M194, jx_M195, jx_M196, jx_M197, jx_M198, jx_M199, jx_M200, jx_M201, jx_M202, jx_M203, jx_M204, jx_M205, jx_M206, jx_M207, jx_M208, jx_M209, jx_M210, jx_M211, jx_M212, jx_M213, jx_M214, jx_M215, jx_M216, jx_M217, jx_M218, jx_M219, jx_M220, jx_M221, jx_M222, jx_M223, jx_M224, jx_M225, jx_M226, jx_M227, jx_M228, jx_M229, jx_M230, jx_M231, jx_M232, jx_M233, jx_M234, jx_M235, jx_M236, jx_M237, jx_M238, jx_M239, jx_M240, jx_M241, jx_M242, jx_M243, jx_M244, jx_M245, jx_M246, jx_M247, jx_M248, jx_M249, jx_M250, jx_M251, jx_M252, jx_M253, jx_M254, jx_M255, jx_M256, jx_M257, jx_M258, jx_M259, jx_M260, jx_M261, jx_M262, jx_M263, jx_M264, jx_M265, jx_M266, jx_M267, jx_M268, jx_M269, jx_M270, jx_M271, jx_M272, jx_M273, jx_M274, jx_M275, jx_M276, jx_M277, jx_M278, jx_M279, jx_M280, jx_M281, jx_M282, jx_M283, jx_M284, jx_M285, jx_M286, jx_M287, jx_M288, jx_M289, jx_M290, jx_M291, jx_M292, jx_M293, jx_M294, jx_M295, jx_M296, jx_M297, jx_M298, jx_M299, jx_M300, jx_M301, jx_M302, jx_M303, jx_M304, jx_M305, jx_M306, jx_M307, jx_M308, jx_M309, jx_M310, jx_M311, jx_M312, jx_M313, jx_M314, jx_M315, jx_M316, jx_M317, jx_M318, jx_M319, jx_M320, jx_M321, jx_M322, jx_M323, jx_M324, jx_M325]
end
section
/-! A small machine of our own over the cells of one fair and one reference: what a method does, as a function -/
abbrev jx_Mem : Type := (Nat → Nat → Int32) × (Nat → Nat → Int64)
abbrev jx_Lv : Type := List (Nat × Value)
/-- what a step does: goes on (if so), jumps, ends (if so), or calls -/
abbrev jx_Act : Type := (Bool × jx_Lv × List Value × jx_Mem) ⊕ (List (Bool × Nat) × Option Nat × jx_Lv × List Value) ⊕ (Bool × Option Value) ⊕ (Nat × Nat × Nat × List Value × List Value)
def jx_get : jx_Lv → Nat → Option Value
  | [], _ => none
  | q :: r, i => bif Nat.beq q.1 i then some q.2 else jx_get r i
def jx_set1 (lv : jx_Lv) (i : Nat) (v : Value) : jx_Lv := (i, v) :: lv.filter (fun q => !(q.1 == i) && !(q.1 + 1 == i && q.2.category == 2))
def jx_set2 (lv : jx_Lv) (i : Nat) (v : Value) : jx_Lv := (i, v) :: lv.filter (fun q => !(q.1 == i) && (!(q.1 == i + 1) && !(q.1 + 1 == i && q.2.category == 2)))
def jx_trim (ks : List Nat) (lv : jx_Lv) : jx_Lv := ks.filterMap (fun i => (jx_get lv i).map (fun v => (i, v)))
def jx_up {α : Type} (f : Nat → Nat → α) (a k : Nat) (v : α) : Nat → Nat → α := fun a' k' => if a' = a ∧ k' = k then v else f a' k'
def jx_in (x : Int32) (n : Nat) : Bool := !(decide (x < 0)) && decide (x.toNatClampNeg < n)
def jx_01 (v : Int32) : Bool := decide (v = 0) || decide (v = 1)
def jx_cpy (f : Nat → Nat → Int32) (s sp d dp n : Nat) : Nat → Nat → Int32 := fun a k => if a = d ∧ dp ≤ k ∧ k < dp + n then f s (sp + (k - dp)) else f a k
def jx_cat : List Value → Nat
  | [] => 0
  | v :: r => v.category + jx_cat r
def jx_pop : Nat → List Value → List Value → Option (List Value × List Value)
  | 0, st, acc => some (acc, st)
  | _ + 1, [], _ => none
  | n + 1, v :: st, acc => jx_pop n st (v :: acc)
def jx_shape (i : Nat) : Option jx_Sh := jx_sh[i]?
def jx_pc (el : jx_El) : Nat := el.1
def jx_len (el : jx_El) : Nat := el.2.1
def jx_ins (el : jx_El) : Instr := el.2.2.1
def jx_inf (el : jx_El) : List Nat := el.2.2.2.1
def jx_vals (el : jx_El) : List Value := el.2.2.2.2.1
def jx_keep (el : jx_El) : Option (List Nat) := el.2.2.2.2.2
def jx_go (b : Bool) (lv : jx_Lv) (st : List Value) (μ : jx_Mem) : Option jx_Act := some (.inl (b, lv, st, μ))
def jx_push (el : jx_El) (lv : jx_Lv) (st : List Value) (μ : jx_Mem) : Option jx_Act := match jx_vals el with
  | [v] => jx_go true lv (v :: st) μ
  | _ => none
def jx_ldI (el : jx_El) (lv : jx_Lv) (st : List Value) (μ : jx_Mem) : Option jx_Act := match jx_inf el with
  | [i] => match jx_get lv i with
    | some (.int x) => jx_go true lv (.int x :: st) μ
    | _ => none
  | _ => none
def jx_ldL (el : jx_El) (lv : jx_Lv) (st : List Value) (μ : jx_Mem) : Option jx_Act := match jx_inf el with
  | [i] => match jx_get lv i with
    | some (.long x) => jx_go true lv (.long x :: st) μ
    | _ => none
  | _ => none
def jx_ldA (el : jx_El) (lv : jx_Lv) (st : List Value) (μ : jx_Mem) : Option jx_Act := match jx_inf el with
  | [i] => match jx_get lv i with
    | some (.ref x) => jx_go true lv (.ref x :: st) μ
    | _ => none
  | _ => none
def jx_stI (el : jx_El) (lv : jx_Lv) (st : List Value) (μ : jx_Mem) : Option jx_Act := match jx_inf el with
  | [i] => match st with
    | .int x :: r => jx_go true (jx_set1 lv i (.int x)) r μ
    | _ => none
  | _ => none
def jx_stL (el : jx_El) (lv : jx_Lv) (st : List Value) (μ : jx_Mem) : Option jx_Act := match jx_inf el with
  | [i] => match st with
    | .long x :: r => jx_go true (jx_set2 lv i (.long x)) r μ
    | _ => none
  | _ => none
def jx_stA (el : jx_El) (lv : jx_Lv) (st : List Value) (μ : jx_Mem) : Option jx_Act := match jx_inf el with
  | [i] => match st with
    | .ref x :: r => jx_go true (jx_set1 lv i (.ref x)) r μ
    | _ => none
  | _ => none
def jx_iinc (el : jx_El) (lv : jx_Lv) (st : List Value) (μ : jx_Mem) : Option jx_Act := match jx_inf el with
  | [i] => match jx_vals el with
    | [.int c] => match jx_get lv i with
      | some (.int x) => jx_go true (jx_set1 lv i (.int (x + c))) st μ
      | _ => none
    | _ => none
  | _ => none
def jx_bin (f : Int32 → Int32 → Int32) (g : Int32 → Bool) (lv : jx_Lv) (st : List Value) (μ : jx_Mem) : Option jx_Act := match st with
  | .int y :: .int x :: r => jx_go (g y) lv (.int (f x y) :: r) μ
  | _ => none
def jx_binL (f : Int64 → Int64 → Int64) (g : Int64 → Bool) (lv : jx_Lv) (st : List Value) (μ : jx_Mem) : Option jx_Act := match st with
  | .long y :: .long x :: r => jx_go (g y) lv (.long (f x y) :: r) μ
  | _ => none
def jx_shL (f : Int64 → Int32 → Int64) (lv : jx_Lv) (st : List Value) (μ : jx_Mem) : Option jx_Act := match st with
  | .int y :: .long x :: r => jx_go true lv (.long (f x y) :: r) μ
  | _ => none
def jx_un (f : Int32 → Int32) (lv : jx_Lv) (st : List Value) (μ : jx_Mem) : Option jx_Act := match st with
  | .int x :: r => jx_go true lv (.int (f x) :: r) μ
  | _ => none
def jx_if1 (f : Int32 → Bool) (el : jx_El) (lv : jx_Lv) (st : List Value) : Option jx_Act := match jx_inf el with
  | [t] => match st with
    | .int x :: r => some (.inr (.inl ([(f x, t)], none, lv, r)))
    | _ => none
  | _ => none
def jx_if2 (f : Int32 → Int32 → Bool) (el : jx_El) (lv : jx_Lv) (st : List Value) : Option jx_Act := match jx_inf el with
  | [t] => match st with
    | .int y :: .int x :: r => some (.inr (.inl ([(f x y, t)], none, lv, r)))
    | _ => none
  | _ => none
def jx_goto (el : jx_El) (lv : jx_Lv) (st : List Value) : Option jx_Act := match jx_inf el with
  | [t] => some (.inr (.inl ([], some t, lv, st)))
  | _ => none
def jx_cases (x : Int32) : List Value → List Nat → List (Bool × Nat)
  | .int k :: vs, t :: ts => (decide (x = k), t) :: jx_cases x vs ts
  | _, _ => []
def jx_switch (el : jx_El) (lv : jx_Lv) (st : List Value) : Option jx_Act := match jx_inf el with
  | d :: ts => match st with
    | .int x :: r => some (.inr (.inl (jx_cases x (jx_vals el) ts, some d, lv, r)))
    | _ => none
  | _ => none
def jx_getf (el : jx_El) (lv : jx_Lv) (st : List Value) (μ : jx_Mem) : Option jx_Act := match jx_inf el with
  | [k, ci] => match st with
    | .ref i :: r => match jx_shape i with
      | some (.inl (c, fs)) => bif Nat.beq c ci then (match fs[k]? with
        | some none => jx_go true lv (.int (μ.1 i k) :: r) μ
        | some (some a) => jx_go true lv (.ref a :: r) μ
        | none => none) else none
      | _ => none
    | _ => none
  | _ => none
def jx_putf (el : jx_El) (lv : jx_Lv) (st : List Value) (μ : jx_Mem) : Option jx_Act := match jx_inf el with
  | [k, ci, z] => match st with
    | .int v :: .ref i :: r => match jx_shape i with
      | some (.inl (c, fs)) => bif Nat.beq c ci then (match fs[k]? with
        | some none => jx_go (bif Nat.beq z 0 then true else jx_01 v) lv r (jx_up μ.1 i k v, μ.2)
        | _ => none) else none
      | _ => none
    | _ => none
  | _ => none
def jx_ald (kd : Nat) (lv : jx_Lv) (st : List Value) (μ : jx_Mem) : Option jx_Act := match st with
  | .int x :: .ref i :: r => match jx_shape i with
    | some (.inr (c, n)) => bif Nat.beq c kd then jx_go (jx_in x n) lv (.int (μ.1 i x.toNatClampNeg) :: r) μ else none
    | _ => none
  | _ => none
def jx_aldL (lv : jx_Lv) (st : List Value) (μ : jx_Mem) : Option jx_Act := match st with
  | .int x :: .ref i :: r => match jx_shape i with
    | some (.inr (c, n)) => bif Nat.beq c 1 then jx_go (jx_in x n) lv (.long (μ.2 i x.toNatClampNeg) :: r) μ else none
    | _ => none
  | _ => none
def jx_ast (kd : Nat) (lv : jx_Lv) (st : List Value) (μ : jx_Mem) : Option jx_Act := match st with
  | .int v :: .int x :: .ref i :: r => match jx_shape i with
    | some (.inr (c, n)) => bif Nat.beq c kd then jx_go (jx_in x n && (bif Nat.beq kd 0 then true else jx_01 v)) lv r (jx_up μ.1 i x.toNatClampNeg v, μ.2) else none
    | _ => none
  | _ => none
def jx_astL (lv : jx_Lv) (st : List Value) (μ : jx_Mem) : Option jx_Act := match st with
  | .long v :: .int x :: .ref i :: r => match jx_shape i with
    | some (.inr (c, n)) => bif Nat.beq c 1 then jx_go (jx_in x n) lv r (μ.1, jx_up μ.2 i x.toNatClampNeg v) else none
    | _ => none
  | _ => none
def jx_alen (lv : jx_Lv) (st : List Value) (μ : jx_Mem) : Option jx_Act := match st with
  | .ref i :: r => match jx_shape i with
    | some (.inr (_, n)) => jx_go true lv (.int (Int32.ofNat n) :: r) μ
    | _ => none
  | _ => none
def jx_copy (lv : jx_Lv) (st : List Value) (μ : jx_Mem) : Option jx_Act := match st with
  | .int n :: .int dp :: .ref d :: .int sp :: .ref s :: r => match jx_shape s, jx_shape d with
    | some (.inr (c, ns)), some (.inr (c2, nd)) => bif Nat.beq c 0 && (Nat.beq c2 0 && Nat.ble (jx_cat r) 8) then
        jx_go ((!(decide (sp < 0)) && (!(decide (dp < 0)) && !(decide (n < 0)))) && (decide (sp.toNatClampNeg + n.toNatClampNeg ≤ ns) && decide (dp.toNatClampNeg + n.toNatClampNeg ≤ nd))) lv r (jx_cpy μ.1 s sp.toNatClampNeg d dp.toNatClampNeg n.toNatClampNeg, μ.2) else none
    | _, _ => none
  | _ => none
def jx_slen (lv : jx_Lv) (st : List Value) (μ : jx_Mem) : Option jx_Act := match st with
  | .ref q :: r => bif Nat.ble 900 q && Nat.ble (jx_cat r) 8 then (match jx_str[q - 900]? with
    | some t => jx_go true lv (.int (Int32.ofNat t.length) :: r) μ
    | none => none) else none
  | _ => none
def jx_schar (lv : jx_Lv) (st : List Value) (μ : jx_Mem) : Option jx_Act := match st with
  | .int x :: .ref q :: r => bif Nat.ble 900 q && Nat.ble (jx_cat r) 8 then (match jx_str[q - 900]? with
    | some t => jx_go (jx_in x t.length) lv (.int (t.getD x.toNatClampNeg 0) :: r) μ
    | none => none) else none
  | _ => none
def jx_callV (el : jx_El) (lv : jx_Lv) (st : List Value) (μ : jx_Mem) : Option jx_Act := match jx_inf el with
  | [j, mode, rk, na, ci] => match jx_pop na st [] with
    | some (.ref i :: as, r) => match jx_shape i with
      | some (.inl (c, _)) => bif Nat.beq c ci && Nat.ble (jx_cat r) 8 then some (.inr (.inr (.inr (j, mode, rk, .ref i :: as, r)))) else none
      | _ => none
    | _ => none
  | [1] => jx_slen lv st μ
  | [2] => jx_schar lv st μ
  | _ => none
def jx_callS (el : jx_El) (lv : jx_Lv) (st : List Value) (μ : jx_Mem) : Option jx_Act := match jx_inf el with
  | [j, mode, rk, na] => match jx_pop na st [] with
    | some (as, r) => bif Nat.ble (jx_cat r) 8 then some (.inr (.inr (.inr (j, mode, rk, as, r)))) else none
    | _ => none
  | [0] => jx_copy lv st μ
  | _ => none
def jx_act (el : jx_El) (lv : jx_Lv) (st : List Value) (μ : jx_Mem) : Option jx_Act :=
  match jx_ins el with
  | .iconst _ => jx_push el lv st μ
  | .bipush _ => jx_push el lv st μ
  | .sipush _ => jx_push el lv st μ
  | .lconst _ => jx_push el lv st μ
  | .ldc _ => jx_push el lv st μ
  | .ldc_w _ => jx_push el lv st μ
  | .ldc2_w _ => jx_push el lv st μ
  | .iload _ => jx_ldI el lv st μ
  | .iload_n _ => jx_ldI el lv st μ
  | .lload _ => jx_ldL el lv st μ
  | .lload_n _ => jx_ldL el lv st μ
  | .aload _ => jx_ldA el lv st μ
  | .aload_n _ => jx_ldA el lv st μ
  | .istore _ => jx_stI el lv st μ
  | .istore_n _ => jx_stI el lv st μ
  | .lstore _ => jx_stL el lv st μ
  | .lstore_n _ => jx_stL el lv st μ
  | .astore _ => jx_stA el lv st μ
  | .astore_n _ => jx_stA el lv st μ
  | .iinc _ _ => jx_iinc el lv st μ
  | .iadd => jx_bin (fun x y => x + y) (fun _ => true) lv st μ
  | .isub => jx_bin (fun x y => x - y) (fun _ => true) lv st μ
  | .imul => jx_bin (fun x y => x * y) (fun _ => true) lv st μ
  | .iand => jx_bin (fun x y => x &&& y) (fun _ => true) lv st μ
  | .ior => jx_bin (fun x y => x ||| y) (fun _ => true) lv st μ
  | .ixor => jx_bin (fun x y => x ^^^ y) (fun _ => true) lv st μ
  | .idiv => jx_bin (fun x y => x / y) (fun y => !(decide (y = 0))) lv st μ
  | .irem => jx_bin (fun x y => x - x / y * y) (fun y => !(decide (y = 0))) lv st μ
  | .ishl => jx_bin (fun x y => x <<< (y &&& 31)) (fun _ => true) lv st μ
  | .ishr => jx_bin (fun x y => x >>> (y &&& 31)) (fun _ => true) lv st μ
  | .iushr => jx_bin (fun x y => (x.toUInt32 >>> (y.toUInt32 &&& Int32.toUInt32 31)).toInt32) (fun _ => true) lv st μ
  | .ineg => jx_un (fun x => -x) lv st μ
  | .i2b => jx_un (fun x => x.toInt8.toInt32) lv st μ
  | .i2s => jx_un (fun x => x.toInt16.toInt32) lv st μ
  | .i2l => match st with
    | .int x :: r => jx_go true lv (.long x.toInt64 :: r) μ
    | _ => none
  | .land => jx_binL (fun x y => x &&& y) (fun _ => true) lv st μ
  | .lor => jx_binL (fun x y => x ||| y) (fun _ => true) lv st μ
  | .ldiv => jx_binL (fun x y => x / y) (fun y => !(decide (y = 0))) lv st μ
  | .lrem => jx_binL (fun x y => x - x / y * y) (fun y => !(decide (y = 0))) lv st μ
  | .lshl => jx_shL (fun x y => x <<< (y.toInt64 &&& 63)) lv st μ
  | .lushr => jx_shL (fun x y => (x.toUInt64 >>> (y.toInt64.toUInt64 &&& Int64.toUInt64 63)).toInt64) lv st μ
  | .lcmp => match st with
    | .long y :: .long x :: r => jx_go true lv (.int (lg_cmp x y) :: r) μ
    | _ => none
  | .dup => match st with
    | v :: r => bif Nat.beq v.category 1 then jx_go true lv (v :: v :: r) μ else none
    | _ => none
  | .dup2 => match st with
    | v :: w :: r => bif Nat.beq v.category 1 && Nat.beq w.category 1 then jx_go true lv (v :: w :: v :: w :: r) μ else none
    | _ => none
  | .pop => match st with
    | v :: r => bif Nat.beq v.category 1 then jx_go true lv r μ else none
    | _ => none
  | .ifCond .eq _ => jx_if1 (fun x => decide (x = 0)) el lv st
  | .ifCond .ne _ => jx_if1 (fun x => decide (¬ x = 0)) el lv st
  | .ifCond .lt _ => jx_if1 (fun x => decide (x < 0)) el lv st
  | .ifCond .ge _ => jx_if1 (fun x => decide (0 ≤ x)) el lv st
  | .ifCond .gt _ => jx_if1 (fun x => decide (0 < x)) el lv st
  | .ifCond .le _ => jx_if1 (fun x => decide (x ≤ 0)) el lv st
  | .if_icmp .eq _ => jx_if2 (fun x y => decide (x = y)) el lv st
  | .if_icmp .ne _ => jx_if2 (fun x y => decide (¬ x = y)) el lv st
  | .if_icmp .lt _ => jx_if2 (fun x y => decide (x < y)) el lv st
  | .if_icmp .ge _ => jx_if2 (fun x y => decide (y ≤ x)) el lv st
  | .if_icmp .gt _ => jx_if2 (fun x y => decide (y < x)) el lv st
  | .if_icmp .le _ => jx_if2 (fun x y => decide (x ≤ y)) el lv st
  | .goto _ => jx_goto el lv st
  | .tableswitch _ _ _ _ => jx_switch el lv st
  | .lookupswitch _ _ => jx_switch el lv st
  | .getfield _ => jx_getf el lv st μ
  | .putfield _ => jx_putf el lv st μ
  | .iaload => jx_ald 0 lv st μ
  | .baload => jx_ald 2 lv st μ
  | .laload => jx_aldL lv st μ
  | .iastore => jx_ast 0 lv st μ
  | .bastore => jx_ast 2 lv st μ
  | .lastore => jx_astL lv st μ
  | .arraylength => jx_alen lv st μ
  | .invokevirtual _ => jx_callV el lv st μ
  | .invokestatic _ => jx_callS el lv st μ
  | .ireturn => match st with
    | [.int v] => some (.inr (.inr (.inl ((match jx_inf el with | [1] => jx_01 v | _ => true), some (.int v)))))
    | _ => none
  | .lreturn => match st with
    | [.long v] => some (.inr (.inr (.inl (true, some (.long v)))))
    | _ => none
  | .return_ => match st with
    | [] => some (.inr (.inr (.inl (true, none))))
    | _ => none
  | _ => none
def jx_cd (j : Nat) : List jx_El := match jx_ms[j]? with
  | some M => M.2.2.2.2.2.2
  | none => []
def jx_seek (pc : Nat) : List jx_El → List jx_El
  | [] => []
  | e :: k => bif Nat.beq e.1 pc then e :: k else jx_seek pc k
def jx_pick : List (Bool × Nat) → Option Nat → Option Nat
  | [], d => d
  | q :: r, d => bif q.1 then some q.2 else jx_pick r d
def jx_lev : Nat → Nat → Option Nat
  | 0, _ => some 0
  | 1, _ => some 120
  | _ + 2, 0 => none
  | _ + 2, n + 1 => some n
def jx_ret (rk : Nat) (v : Option Value) (st : List Value) : Option (List Value) := match rk, v with
  | 0, none => some st
  | 1, some (.int x) => some (.int x :: st)
  | 2, some (.long x) => some (.long x :: st)
  | _, _ => none
def jx_arr (el : jx_El) (lv : jx_Lv) : jx_Lv := match jx_keep el with
  | none => lv
  | some ks => jx_trim ks lv
def jx_run : Nat → Nat → Nat → Nat → jx_Lv → List Value → jx_Mem → Option (Option Value × jx_Mem)
  | 0, _, _, _, _, _, _ => none
  | n + 1, j, lev, pc, lv, st, μ =>
    match jx_seek pc (jx_cd j) with
    | [] => none
    | el :: _ => match jx_act el (jx_arr el lv) st μ with
      | none => none
      | some (.inl (b, lv', st', μ')) => bif b then jx_run n j lev (pc + jx_len el) lv' st' μ' else none
      | some (.inr (.inl (sw, d, lv', st'))) => match jx_pick sw d with
        | some t => jx_run n j lev t lv' st' μ
        | none => jx_run n j lev (pc + jx_len el) lv' st' μ
      | some (.inr (.inr (.inl (b, v)))) => bif b then some (v, μ) else none
      | some (.inr (.inr (.inr (j', mode, rk, args, rest)))) => match jx_lev mode lev with
        | none => none
        | some lev' => match jx_run n j' lev' 0 (lv_args 0 args) [] μ with
          | none => none
          | some r => match jx_ret rk r.1 rest with
            | none => none
            | some st' => jx_run n j lev (pc + jx_len el) (jx_arr el lv) st' r.2
end
section
/-! what a method means: the limit of its runs; it keeps the step's equation; unrolled between the places where roads meet -/
theorem jx_run_mono : ∀ (n j lev pc : Nat) (lv : jx_Lv) (st : List Value) (μ : jx_Mem) (r : Option Value × jx_Mem), jx_run n j lev pc lv st μ = some r → jx_run (n + 1) j lev pc lv st μ = some r := by
  intro n
  induction n with
  | zero => intro j lev pc lv st μ r h; simp [jx_run] at h
  | succ n ih =>
    intro j lev pc lv st μ r h
    unfold jx_run at h ⊢
    cases hs : jx_seek pc (jx_cd j) with
    | nil => rw [hs] at h; exact absurd h (by simp)
    | cons el k =>
      rw [hs] at h
      dsimp only at h ⊢
      cases ha : jx_act el (jx_arr el lv) st μ with
      | none => rw [ha] at h; exact absurd h (by simp)
      | some a =>
        rw [ha] at h
        rcases a with ⟨b, lv', st', μ'⟩ | ⟨sw, d, lv', st'⟩ | ⟨b, v⟩ | ⟨j', mode, rk, args, rest⟩
        · dsimp only at h ⊢
          cases b with
          | false => exact absurd h (by simp)
          | true => exact ih _ _ _ _ _ _ _ h
        · dsimp only at h ⊢
          cases hp : jx_pick sw d with
          | none => rw [hp] at h; exact ih _ _ _ _ _ _ _ h
          | some t => rw [hp] at h; exact ih _ _ _ _ _ _ _ h
        · exact h
        · dsimp only at h ⊢
          cases hl : jx_lev mode lev with
          | none => rw [hl] at h; exact absurd h (by simp)
          | some lev' =>
            rw [hl] at h
            dsimp only at h ⊢
            cases hr : jx_run n j' lev' 0 (lv_args 0 args) [] μ with
            | none => rw [hr] at h; exact absurd h (by simp)
            | some r1 =>
              rw [hr] at h
              rw [ih _ _ _ _ _ _ _ hr]
              dsimp only at h ⊢
              cases hq : jx_ret rk r1.1 rest with
              | none => rw [hq] at h; exact absurd h (by simp)
              | some st' => rw [hq] at h; exact ih _ _ _ _ _ _ _ h
theorem jx_run_le {n m : Nat} (hnm : n ≤ m) {j lev pc : Nat} {lv : jx_Lv} {st : List Value} {μ : jx_Mem} {r : Option Value × jx_Mem} (h : jx_run n j lev pc lv st μ = some r) : jx_run m j lev pc lv st μ = some r := by
  induction hnm with
  | refl => exact h
  | step _ ih => exact jx_run_mono _ _ _ _ _ _ _ _ ih
noncomputable def jx_ev (j lev pc : Nat) (lv : jx_Lv) (st : List Value) (μ : jx_Mem) : Option (Option Value × jx_Mem) :=
  @dite _ (∃ r, ∃ n, jx_run n j lev pc lv st μ = some r) (Classical.propDecidable _) (fun h => some h.choose) (fun _ => none)
theorem jx_ev_iff {j lev pc : Nat} {lv : jx_Lv} {st : List Value} {μ : jx_Mem} {r : Option Value × jx_Mem} : jx_ev j lev pc lv st μ = some r ↔ ∃ n, jx_run n j lev pc lv st μ = some r := by
  unfold jx_ev
  constructor
  · intro h
    split at h
    next hx =>
      obtain ⟨n, hn⟩ := hx.choose_spec
      rw [Option.some.inj h] at hn
      exact ⟨n, hn⟩
    next => exact absurd h (by simp)
  · intro ⟨n, hn⟩
    have hx : ∃ r, ∃ n, jx_run n j lev pc lv st μ = some r := ⟨r, n, hn⟩
    rw [dif_pos hx]
    obtain ⟨m, hm⟩ := hx.choose_spec
    have h1 := jx_run_le (Nat.le_max_left n m) hn
    have h2 := jx_run_le (Nat.le_max_right n m) hm
    rw [h1] at h2
    exact congrArg some (Option.some.inj h2).symm
/-- one step, over a meaning of what comes behind it -/
def jx_step (ev : Nat → Nat → Nat → jx_Lv → List Value → jx_Mem → Option (Option Value × jx_Mem)) (j lev pc : Nat) (lv : jx_Lv) (st : List Value) (μ : jx_Mem) : Option (Option Value × jx_Mem) :=
    match jx_seek pc (jx_cd j) with
    | [] => none
    | el :: _ => match jx_act el (jx_arr el lv) st μ with
      | none => none
      | some (.inl (b, lv', st', μ')) => bif b then ev j lev (pc + jx_len el) lv' st' μ' else none
      | some (.inr (.inl (sw, d, lv', st'))) => match jx_pick sw d with
        | some t => ev j lev t lv' st' μ
        | none => ev j lev (pc + jx_len el) lv' st' μ
      | some (.inr (.inr (.inl (b, v)))) => bif b then some (v, μ) else none
      | some (.inr (.inr (.inr (j', mode, rk, args, rest)))) => match jx_lev mode lev with
        | none => none
        | some lev' => match ev j' lev' 0 (lv_args 0 args) [] μ with
          | none => none
          | some r => match jx_ret rk r.1 rest with
            | none => none
            | some st' => ev j lev (pc + jx_len el) (jx_arr el lv) st' r.2
theorem jx_run_step (n j lev pc : Nat) (lv : jx_Lv) (st : List Value) (μ : jx_Mem) : jx_run (n + 1) j lev pc lv st μ = jx_step (jx_run n) j lev pc lv st μ := rfl
theorem jx_ev_fix (j lev pc : Nat) (lv : jx_Lv) (st : List Value) (μ : jx_Mem) : jx_ev j lev pc lv st μ = jx_step jx_ev j lev pc lv st μ := by
  apply Option.ext
  intro r
  rw [jx_ev_iff]
  have hsucc : (∃ n, jx_run n j lev pc lv st μ = some r) ↔ ∃ n, jx_step (jx_run n) j lev pc lv st μ = some r := by
    constructor
    · rintro ⟨n, hn⟩
      exact ⟨n, by rw [← jx_run_step]; exact jx_run_mono _ _ _ _ _ _ _ _ hn⟩
    · rintro ⟨n, hn⟩
      exact ⟨n + 1, by rw [jx_run_step]; exact hn⟩
  rw [hsucc]
  unfold jx_step
  cases hs : jx_seek pc (jx_cd j) with
  | nil => simp
  | cons el k =>
    dsimp only
    cases ha : jx_act el (jx_arr el lv) st μ with
    | none => simp
    | some a =>
      rcases a with ⟨b, lv', st', μ'⟩ | ⟨sw, d, lv', st'⟩ | ⟨b, v⟩ | ⟨j', mode, rk, args, rest⟩
      · dsimp only
        cases b with
        | false => simp
        | true => exact jx_ev_iff.symm
      · dsimp only
        cases hp : jx_pick sw d with
        | none => exact jx_ev_iff.symm
        | some t => exact jx_ev_iff.symm
      · dsimp only
        exact ⟨fun ⟨_, h⟩ => h, fun h => ⟨0, h⟩⟩
      · dsimp only
        cases hl : jx_lev mode lev with
        | none => simp
        | some lev' =>
          dsimp only
          cases he : jx_ev j' lev' 0 (lv_args 0 args) [] μ with
          | none =>
            constructor
            · rintro ⟨n, hn⟩
              cases hr : jx_run n j' lev' 0 (lv_args 0 args) [] μ with
              | none => rw [hr] at hn; exact absurd hn (by simp)
              | some r1 => rw [jx_ev_iff.mpr ⟨n, hr⟩] at he; exact absurd he (by simp)
            · intro h; exact absurd h (by simp)
          | some r1 =>
            dsimp only
            obtain ⟨n1, h1⟩ := jx_ev_iff.mp he
            cases hq : jx_ret rk r1.1 rest with
            | none =>
              constructor
              · rintro ⟨n, hn⟩
                cases hr : jx_run n j' lev' 0 (lv_args 0 args) [] μ with
                | none => rw [hr] at hn; exact absurd hn (by simp)
                | some r2 =>
                  have : r2 = r1 := by
                    have h3 := jx_ev_iff.mpr ⟨n, hr⟩
                    rw [he] at h3
                    exact (Option.some.inj h3).symm
                  subst this
                  rw [hr] at hn
                  dsimp only at hn
                  rw [hq] at hn
                  exact absurd hn (by simp)
              · intro h; exact absurd h (by simp)
            | some st' =>
              dsimp only
              rw [jx_ev_iff]
              constructor
              · rintro ⟨n, hn⟩
                cases hr : jx_run n j' lev' 0 (lv_args 0 args) [] μ with
                | none => rw [hr] at hn; exact absurd hn (by simp)
                | some r2 =>
                  have : r2 = r1 := by
                    have h3 := jx_ev_iff.mpr ⟨n, hr⟩
                    rw [he] at h3
                    exact (Option.some.inj h3).symm
                  subst this
                  rw [hr] at hn
                  dsimp only at hn
                  rw [hq] at hn
                  exact ⟨n, hn⟩
              · rintro ⟨n, hn⟩
                refine ⟨max n n1, ?_⟩
                rw [jx_run_le (Nat.le_max_right n n1) h1]
                dsimp only
                rw [hq]
                exact jx_run_le (Nat.le_max_left n n1) hn
/-- the meaning, with what is done with the answer -/
noncomputable def jx_K {β : Type} (κ : Option Value → jx_Mem → Option β) (j lev pc : Nat) (lv : jx_Lv) (st : List Value) (μ : jx_Mem) : Option β := (jx_ev j lev pc lv st μ).bind (fun r => κ r.1 r.2)
def jx_kI : Option Value → jx_Mem → Option (Int32 × jx_Mem) := fun v μ => match v with
  | some (.int x) => some (x, μ)
  | _ => none
def jx_kL : Option Value → jx_Mem → Option (Int64 × jx_Mem) := fun v μ => match v with
  | some (.long x) => some (x, μ)
  | _ => none
def jx_kV : Option Value → jx_Mem → Option jx_Mem := fun v μ => match v with
  | none => some μ
  | _ => none
/-- the first case that holds -/
def jx_D {β : Type} (f : Option Nat → Option β) (d : Option Nat) : List (Bool × Nat) → Option β
  | [] => f d
  | q :: r => if q.1 = true then f (some q.2) else jx_D f d r
theorem jx_D_pick {β : Type} (f : Option Nat → Option β) (d : Option Nat) (sw : List (Bool × Nat)) : jx_D f d sw = f (jx_pick sw d) := by
  induction sw with
  | nil => rfl
  | cons q r ih =>
    unfold jx_D jx_pick
    cases hq : q.1 with
    | true => simp
    | false => simpa using ih
/-- arriving at an element: where roads meet we stop -/
noncomputable def jx_U {β : Type} (κ : Option Value → jx_Mem → Option β) (C : List jx_El) (j lev : Nat) : Nat → List jx_El → jx_Lv → List Value → jx_Mem → Option β
  | _, [], _, _, _ => none
  | 0, el :: _, lv, st, μ => jx_K κ j lev el.1 lv st μ
  | n + 1, el :: k, lv, st, μ => match jx_act el lv st μ with
    | none => none
    | some (.inl (b, lv', st', μ')) => bif b then (match k with
      | [] => none
      | e2 :: k2 => match jx_keep e2 with
        | none => jx_U κ C j lev n (e2 :: k2) lv' st' μ'
        | some ks => jx_K κ j lev e2.1 (jx_trim ks lv') st' μ') else none
    | some (.inr (.inl (sw, d, lv', st'))) =>
      jx_D (fun t => match t with
        | some t => (match jx_seek t C with
          | [] => none
          | e2 :: k2 => match jx_keep e2 with
            | none => jx_U κ C j lev n (e2 :: k2) lv' st' μ
            | some ks => jx_K κ j lev e2.1 (jx_trim ks lv') st' μ)
        | none => (match k with
          | [] => none
          | e2 :: k2 => match jx_keep e2 with
            | none => jx_U κ C j lev n (e2 :: k2) lv' st' μ
            | some ks => jx_K κ j lev e2.1 (jx_trim ks lv') st' μ)) d sw
    | some (.inr (.inr (.inl (b, v)))) => bif b then κ v μ else none
    | some (.inr (.inr (.inr (j', mode, rk, args, rest)))) => match jx_lev mode lev with
      | none => none
      | some lev' => match rk with
        | 0 => (jx_K jx_kV j' lev' 0 (lv_args 0 args) [] μ).bind (fun m => match k with
          | [] => none
          | e2 :: k2 => match jx_keep e2 with
            | none => jx_U κ C j lev n (e2 :: k2) lv rest m
            | some ks => jx_K κ j lev e2.1 (jx_trim ks lv) rest m)
        | 1 => (jx_K jx_kI j' lev' 0 (lv_args 0 args) [] μ).bind (fun p => match k with
          | [] => none
          | e2 :: k2 => match jx_keep e2 with
            | none => jx_U κ C j lev n (e2 :: k2) lv (.int p.1 :: rest) p.2
            | some ks => jx_K κ j lev e2.1 (jx_trim ks lv) (.int p.1 :: rest) p.2)
        | 2 => (jx_K jx_kL j' lev' 0 (lv_args 0 args) [] μ).bind (fun p => match k with
          | [] => none
          | e2 :: k2 => match jx_keep e2 with
            | none => jx_U κ C j lev n (e2 :: k2) lv (.long p.1 :: rest) p.2
            | some ks => jx_K κ j lev e2.1 (jx_trim ks lv) (.long p.1 :: rest) p.2)
        | _ => none
end
section
/-! the unrolled text means what the method means -/
def jx_wf : List jx_El → Bool
  | [] => true
  | e :: k => match k with
    | [] => Nat.ble 1 e.2.1
    | e2 :: _ => Nat.ble 1 e.2.1 && (Nat.beq (e.1 + e.2.1) e2.1 && jx_wf k)
theorem jx_wf_tail {e : jx_El} {k : List jx_El} (h : jx_wf (e :: k) = true) : jx_wf k = true := by
  cases k with
  | nil => rfl
  | cons e2 r => simp only [jx_wf, Bool.and_eq_true] at h ⊢; exact h.2.2
theorem jx_wf_pos {e : jx_El} {k : List jx_El} (h : jx_wf (e :: k) = true) : 1 ≤ e.2.1 := by
  cases k with
  | nil => exact Nat.le_of_ble_eq_true h
  | cons e2 r => simp only [jx_wf, Bool.and_eq_true] at h; exact Nat.le_of_ble_eq_true h.1
theorem jx_wf_next {e e2 : jx_El} {r : List jx_El} (h : jx_wf (e :: e2 :: r) = true) : e.1 + e.2.1 = e2.1 := by
  simp only [jx_wf, Bool.and_eq_true] at h
  exact Nat.eq_of_beq_eq_true h.2.1
theorem jx_wf_gt : ∀ (k : List jx_El) (e : jx_El), jx_wf (e :: k) = true → ∀ x ∈ k, e.1 < x.1 := by
  intro k
  induction k with
  | nil => intro e _ x hx; cases hx
  | cons e2 r ih =>
    intro e h x hx
    have h1 := jx_wf_next h
    have h2 := jx_wf_pos h
    rcases List.mem_cons.mp hx with rfl | hx
    · omega
    · have := ih e2 (jx_wf_tail h) x hx
      omega
theorem jx_seek_none {t : Nat} : ∀ (C : List jx_El), (∀ x ∈ C, x.1 ≠ t) → jx_seek t C = [] := by
  intro C
  induction C with
  | nil => intro _; rfl
  | cons e k ih =>
    intro h
    have h1 : Nat.beq e.1 t = false := by
      cases hb : Nat.beq e.1 t with
      | false => rfl
      | true => exact absurd (Nat.eq_of_beq_eq_true hb) (h e List.mem_cons_self)
    unfold jx_seek
    rw [h1]
    exact ih (fun x hx => h x (List.mem_cons_of_mem _ hx))
theorem jx_seek_pc {t : Nat} {e : jx_El} {k : List jx_El} : ∀ (C : List jx_El), jx_seek t C = e :: k → e.1 = t := by
  intro C
  induction C with
  | nil => intro h; cases h
  | cons e1 r ih =>
    intro h
    unfold jx_seek at h
    cases hb : Nat.beq e1.1 t with
    | false => rw [hb] at h; exact ih h
    | true =>
      rw [hb] at h
      cases h
      exact Nat.eq_of_beq_eq_true hb
theorem jx_seek_next {t : Nat} {e : jx_El} {k : List jx_El} : ∀ (C : List jx_El), jx_wf C = true → jx_seek t C = e :: k → jx_seek (t + e.2.1) C = k := by
  intro C
  induction C with
  | nil => intro _ h; cases h
  | cons e1 r ih =>
    intro hw h
    have hpc := jx_seek_pc _ h
    unfold jx_seek at h
    cases hb : Nat.beq e1.1 t with
    | true =>
      rw [hb] at h
      cases h
      have hp := jx_wf_pos hw
      have hb2 : Nat.beq e.1 (t + e.2.1) = false := by
        cases hq : Nat.beq e.1 (t + e.2.1) with
        | false => rfl
        | true => have := Nat.eq_of_beq_eq_true hq; omega
      unfold jx_seek
      rw [hb2]
      show jx_seek (t + e.2.1) k = k
      cases k with
      | nil => rfl
      | cons e2 r2 =>
        have h3 := jx_wf_next hw
        unfold jx_seek
        rw [show Nat.beq e2.1 (t + e.2.1) = true from by rw [← h3, hpc]; exact Nat.beq_refl _]
        rfl
    | false =>
      rw [hb] at h
      have h4 := ih (jx_wf_tail hw) h
      have hmem : e ∈ r := by
        have : ∀ (C : List jx_El), jx_seek t C = e :: k → e ∈ C := by
          intro C
          induction C with
          | nil => intro h; cases h
          | cons e3 r3 ih3 =>
            intro h
            unfold jx_seek at h
            cases hb3 : Nat.beq e3.1 t with
            | true => rw [hb3] at h; cases h; exact List.mem_cons_self
            | false => rw [hb3] at h; exact List.mem_cons_of_mem _ (ih3 h)
        exact this r h
      have hlt := jx_wf_gt r e1 hw e hmem
      have hb2 : Nat.beq e1.1 (t + e.2.1) = false := by
        cases hq : Nat.beq e1.1 (t + e.2.1) with
        | false => rfl
        | true => have := Nat.eq_of_beq_eq_true hq; omega
      unfold jx_seek
      rw [hb2]
      exact h4
theorem jx_get_trim (lv : jx_Lv) (i : Nat) : ∀ ks : List Nat, i ∈ ks → jx_get (jx_trim ks lv) i = jx_get lv i := by
  intro ks
  induction ks with
  | nil => intro h; cases h
  | cons k r ih =>
    intro h
    by_cases hk : k = i
    · subst hk
      cases hg : jx_get lv k with
      | none =>
        have h0 : jx_trim (k :: r) lv = jx_trim r lv := by simp [jx_trim, hg]
        rw [h0]
        by_cases hr : k ∈ r
        · rw [ih hr, hg]
        · have : ∀ ks : List Nat, k ∉ ks → jx_get (jx_trim ks lv) k = none := by
            intro ks
            induction ks with
            | nil => intro _; rfl
            | cons k2 r2 ih2 =>
              intro hn
              have hne : k2 ≠ k := fun e => hn (e ▸ List.mem_cons_self)
              have hn2 : k ∉ r2 := fun e => hn (List.mem_cons_of_mem _ e)
              cases hg2 : jx_get lv k2 with
              | none => rw [show jx_trim (k2 :: r2) lv = jx_trim r2 lv from by simp [jx_trim, hg2]]; exact ih2 hn2
              | some v =>
                rw [show jx_trim (k2 :: r2) lv = (k2, v) :: jx_trim r2 lv from by simp [jx_trim, hg2]]
                unfold jx_get
                rw [show Nat.beq k2 k = false from by
                  cases hq : Nat.beq k2 k with
                  | false => rfl
                  | true => exact absurd (Nat.eq_of_beq_eq_true hq) hne]
                exact ih2 hn2
          exact this r hr
      | some v =>
        rw [show jx_trim (k :: r) lv = (k, v) :: jx_trim r lv from by simp [jx_trim, hg]]
        unfold jx_get
        rw [show Nat.beq k k = true from Nat.beq_refl k]
        rfl
    · have hr : i ∈ r := by
        rcases List.mem_cons.mp h with h | h
        · exact absurd h.symm hk
        · exact h
      cases hg : jx_get lv k with
      | none => rw [show jx_trim (k :: r) lv = jx_trim r lv from by simp [jx_trim, hg]]; exact ih hr
      | some v =>
        rw [show jx_trim (k :: r) lv = (k, v) :: jx_trim r lv from by simp [jx_trim, hg]]
        show (bif Nat.beq k i then some v else jx_get (jx_trim r lv) i) = _
        rw [show Nat.beq k i = false from by
          cases hq : Nat.beq k i with
          | false => rfl
          | true => exact absurd (Nat.eq_of_beq_eq_true hq) hk]
        exact ih hr
theorem jx_trim_congr (a b : jx_Lv) : ∀ ks : List Nat, (∀ i ∈ ks, jx_get a i = jx_get b i) → jx_trim ks a = jx_trim ks b := by
  intro ks
  induction ks with
  | nil => intro _; rfl
  | cons k r ih =>
    intro h
    have h1 := ih (fun i hi => h i (List.mem_cons_of_mem _ hi))
    have h2 := h k List.mem_cons_self
    unfold jx_trim at h1 ⊢
    rw [List.filterMap_cons, List.filterMap_cons, h2, h1]
theorem jx_trim_trim (ks : List Nat) (lv : jx_Lv) : jx_trim ks (jx_trim ks lv) = jx_trim ks lv := jx_trim_congr _ _ ks (fun i hi => jx_get_trim lv i ks hi)
theorem jx_ev_arr {j lev pc : Nat} {el : jx_El} {k : List jx_El} (hs : jx_seek pc (jx_cd j) = el :: k) (lv : jx_Lv) (st : List Value) (μ : jx_Mem) : jx_ev j lev pc (jx_arr el lv) st μ = jx_ev j lev pc lv st μ := by
  have h : jx_arr el (jx_arr el lv) = jx_arr el lv := by
    unfold jx_arr
    cases jx_keep el with
    | none => rfl
    | some ks => exact jx_trim_trim ks lv
  rw [jx_ev_fix j lev pc (jx_arr el lv), jx_ev_fix j lev pc lv]
  unfold jx_step
  rw [hs]
  dsimp only
  rw [h]
theorem jx_K_arr {β : Type} (κ : Option Value → jx_Mem → Option β) {j lev pc : Nat} {el : jx_El} {k : List jx_El} (hs : jx_seek pc (jx_cd j) = el :: k) (lv : jx_Lv) (st : List Value) (μ : jx_Mem) : jx_K κ j lev pc (jx_arr el lv) st μ = jx_K κ j lev pc lv st μ := by
  unfold jx_K
  rw [jx_ev_arr hs]
theorem jx_K_out {β : Type} (κ : Option Value → jx_Mem → Option β) {j lev pc : Nat} (hs : jx_seek pc (jx_cd j) = []) (lv : jx_Lv) (st : List Value) (μ : jx_Mem) : jx_K κ j lev pc lv st μ = none := by
  unfold jx_K
  rw [jx_ev_fix]
  unfold jx_step
  rw [hs]
  rfl
/-- arriving -/
theorem jx_arrive {β : Type} (κ : Option Value → jx_Mem → Option β) {C : List jx_El} {j lev n pc : Nat} (hC : jx_cd j = C) (ih : ∀ (e : jx_El) (k : List jx_El) (lv : jx_Lv) (st : List Value) (μ : jx_Mem), jx_seek e.1 C = e :: k → jx_U κ C j lev n (e :: k) (jx_arr e lv) st μ = jx_K κ j lev e.1 lv st μ) (s : List jx_El) (lv : jx_Lv) (st : List Value) (μ : jx_Mem) : jx_seek pc C = s →
    (match s with
      | [] => none
      | e2 :: k2 => match jx_keep e2 with
        | none => jx_U κ C j lev n (e2 :: k2) lv st μ
        | some ks => jx_K κ j lev e2.1 (jx_trim ks lv) st μ) = jx_K κ j lev pc lv st μ := by
  intro hs
  cases s with
  | nil => exact (jx_K_out κ (by rw [hC]; exact hs) lv st μ).symm
  | cons e2 k2 =>
    have hp := jx_seek_pc _ hs
    subst hp
    have h1 := ih e2 k2 lv st μ hs
    dsimp only
    unfold jx_arr at h1
    cases hk : jx_keep e2 with
    | none => rw [hk] at h1; exact h1
    | some ks =>
      have h2 := jx_K_arr κ (lev := lev) (show jx_seek e2.1 (jx_cd j) = e2 :: k2 by rw [hC]; exact hs) lv st μ
      unfold jx_arr at h2
      rw [hk] at h2
      exact h2
theorem jx_K_call {β : Type} (κ : Option Value → jx_Mem → Option β) (j' lev' j lev pc rk : Nat) (args rest : List Value) (lv : jx_Lv) (μ : jx_Mem) : ((match jx_ev j' lev' 0 (lv_args 0 args) [] μ with
          | none => none
          | some r => match jx_ret rk r.1 rest with
            | none => none
            | some st' => jx_ev j lev pc lv st' r.2).bind (fun r => κ r.1 r.2)) =
    (match rk with
        | 0 => (jx_K jx_kV j' lev' 0 (lv_args 0 args) [] μ).bind (fun m => jx_K κ j lev pc lv rest m)
        | 1 => (jx_K jx_kI j' lev' 0 (lv_args 0 args) [] μ).bind (fun p => jx_K κ j lev pc lv (.int p.1 :: rest) p.2)
        | 2 => (jx_K jx_kL j' lev' 0 (lv_args 0 args) [] μ).bind (fun p => jx_K κ j lev pc lv (.long p.1 :: rest) p.2)
        | _ => none) := by
  unfold jx_K
  cases jx_ev j' lev' 0 (lv_args 0 args) [] μ with
  | none =>
    match rk with
    | 0 => rfl
    | 1 => rfl
    | 2 => rfl
    | _ + 3 => rfl
  | some r =>
    obtain ⟨v, m⟩ := r
    match rk with
    | 0 => cases v <;> rfl
    | 1 => cases v with
      | none => rfl
      | some v => cases v <;> rfl
    | 2 => cases v with
      | none => rfl
      | some v => cases v <;> rfl
    | _ + 3 => cases v <;> rfl
theorem jx_U_K {β : Type} (κ : Option Value → jx_Mem → Option β) {C : List jx_El} {j lev : Nat} (hC : jx_cd j = C) (hw : jx_wf C = true) : ∀ (n : Nat) (e : jx_El) (k : List jx_El) (lv : jx_Lv) (st : List Value) (μ : jx_Mem), jx_seek e.1 C = e :: k → jx_U κ C j lev n (e :: k) (jx_arr e lv) st μ = jx_K κ j lev e.1 lv st μ := by
  intro n
  induction n with
  | zero =>
    intro e k lv st μ hs
    show jx_K κ j lev e.1 (jx_arr e lv) st μ = _
    exact jx_K_arr κ (by rw [hC]; exact hs) lv st μ
  | succ n ih =>
    intro e k lv st μ hs
    have hnx := jx_seek_next C hw hs
    unfold jx_K
    rw [jx_ev_fix]
    unfold jx_step jx_U
    rw [hC, hs]
    dsimp only
    cases ha : jx_act e (jx_arr e lv) st μ with
    | none => rfl
    | some a =>
      rcases a with ⟨b, lv', st', μ'⟩ | ⟨sw, d, lv', st'⟩ | ⟨b, v⟩ | ⟨j', mode, rk, args, rest⟩
      · cases b with
        | false => rfl
        | true => exact jx_arrive κ hC ih k lv' st' μ' hnx
      · dsimp only
        rw [jx_D_pick]
        cases hp : jx_pick sw d with
        | none => exact jx_arrive κ hC ih k lv' st' μ hnx
        | some t => exact jx_arrive κ hC ih (jx_seek t C) lv' st' μ rfl
      · cases b <;> rfl
      · dsimp only
        cases hl : jx_lev mode lev with
        | none => rfl
        | some lev' =>
          dsimp only
          refine Eq.trans ?_ (jx_K_call κ j' lev' j lev (e.1 + jx_len e) rk args rest (jx_arr e lv) μ).symm
          match rk with
          | 0 =>
            exact congrArg (Option.bind (jx_K jx_kV j' lev' 0 (lv_args 0 args) [] μ)) (funext fun m => jx_arrive κ hC ih k (jx_arr e lv) rest m hnx)
          | 1 =>
            exact congrArg (Option.bind (jx_K jx_kI j' lev' 0 (lv_args 0 args) [] μ)) (funext fun p => jx_arrive κ hC ih k (jx_arr e lv) (.int p.1 :: rest) p.2 hnx)
          | 2 =>
            exact congrArg (Option.bind (jx_K jx_kL j' lev' 0 (lv_args 0 args) [] μ)) (funext fun p => jx_arrive κ hC ih k (jx_arr e lv) (.long p.1 :: rest) p.2 hnx)
          | _ + 3 => rfl
noncomputable def jx_V {β : Type} (κ : Option Value → jx_Mem → Option β) (C : List jx_El) (j lev n : Nat) (s : List jx_El) (lv : jx_Lv) (st : List Value) (μ : jx_Mem) : Option β := match s with
  | [] => none
  | e :: k => jx_U κ C j lev n (e :: k) (jx_arr e lv) st μ
theorem jx_V_K {β : Type} (κ : Option Value → jx_Mem → Option β) {C : List jx_El} {j lev : Nat} (hC : jx_cd j = C) (hw : jx_wf C = true) (n pc : Nat) (lv : jx_Lv) (st : List Value) (μ : jx_Mem) : jx_K κ j lev pc lv st μ = jx_V κ C j lev n (jx_seek pc C) lv st μ := by
  cases hs : jx_seek pc C with
  | nil => exact jx_K_out κ (by rw [hC]; exact hs) lv st μ
  | cons e k =>
    have hp := jx_seek_pc _ hs
    subst hp
    exact (jx_U_K κ hC hw n e k lv st μ hs).symm
end
section
/-! the meanings: a name for each entry and each place where roads meet -/
def jx_w1 (m : jx_Mem) (a k : Nat) (v : Int32) : jx_Mem := (jx_up m.1 a k v, m.2)
def jx_w2 (m : jx_Mem) (a k : Nat) (v : Int64) : jx_Mem := (m.1, jx_up m.2 a k v)
def jx_wc (m : jx_Mem) (s sp d dp n : Nat) : jx_Mem := (jx_cpy m.1 s sp d dp n, m.2)
def jx_ushr (x y : Int32) : Int32 := (x.toUInt32 >>> (y.toUInt32 &&& Int32.toUInt32 31)).toInt32
def jx_lushr (x : Int64) (y : Int32) : Int64 := (x.toUInt64 >>> (y.toInt64.toUInt64 &&& Int64.toUInt64 63)).toInt64
def jx_chr (q : Nat) (x : Int32) : Int32 := (match jx_str[q]? with | some t => t | none => []).getD x.toNatClampNeg 0
theorem jx_h0 : jx_cd 0 = jx_C0 := rfl
theorem jx_w0_ : jx_wf jx_C0 = true := by decide +kernel
theorem jx_h1 : jx_cd 1 = jx_C1 := rfl
theorem jx_w1_ : jx_wf jx_C1 = true := by decide +kernel
theorem jx_h2 : jx_cd 2 = jx_C2 := rfl
theorem jx_w2_ : jx_wf jx_C2 = true := by decide +kernel
theorem jx_h3 : jx_cd 3 = jx_C3 := rfl
theorem jx_w3_ : jx_wf jx_C3 = true := by decide +kernel
theorem jx_h4 : jx_cd 4 = jx_C4 := rfl
theorem jx_w4_ : jx_wf jx_C4 = true := by decide +kernel
theorem jx_h5 : jx_cd 5 = jx_C5 := rfl
theorem jx_w5_ : jx_wf jx_C5 = true := by decide +kernel
theorem jx_h6 : jx_cd 6 = jx_C6 := rfl
theorem jx_w6_ : jx_wf jx_C6 = true := by decide +kernel
theorem jx_h7 : jx_cd 7 = jx_C7 := rfl
theorem jx_w7_ : jx_wf jx_C7 = true := by decide +kernel
theorem jx_h8 : jx_cd 8 = jx_C8 := rfl
theorem jx_w8_ : jx_wf jx_C8 = true := by decide +kernel
theorem jx_h9 : jx_cd 9 = jx_C9 := rfl
theorem jx_w9_ : jx_wf jx_C9 = true := by decide +kernel
theorem jx_h10 : jx_cd 10 = jx_C10 := rfl
theorem jx_w10_ : jx_wf jx_C10 = true := by decide +kernel
theorem jx_h11 : jx_cd 11 = jx_C11 := rfl
theorem jx_w11_ : jx_wf jx_C11 = true := by decide +kernel
theorem jx_h12 : jx_cd 12 = jx_C12 := rfl
theorem jx_w12_ : jx_wf jx_C12 = true := by decide +kernel
theorem jx_h13 : jx_cd 13 = jx_C13 := rfl
theorem jx_w13_ : jx_wf jx_C13 = true := by decide +kernel
theorem jx_h14 : jx_cd 14 = jx_C14 := rfl
theorem jx_w14_ : jx_wf jx_C14 = true := by decide +kernel
theorem jx_h15 : jx_cd 15 = jx_C15 := rfl
theorem jx_w15_ : jx_wf jx_C15 = true := by decide +kernel
theorem jx_h16 : jx_cd 16 = jx_C16 := rfl
theorem jx_w16_ : jx_wf jx_C16 = true := by decide +kernel
theorem jx_h17 : jx_cd 17 = jx_C17 := rfl
theorem jx_w17_ : jx_wf jx_C17 = true := by decide +kernel
theorem jx_h18 : jx_cd 18 = jx_C18 := rfl
theorem jx_w18_ : jx_wf jx_C18 = true := by decide +kernel
theorem jx_h19 : jx_cd 19 = jx_C19 := rfl
theorem jx_w19_ : jx_wf jx_C19 = true := by decide +kernel
theorem jx_h20 : jx_cd 20 = jx_C20 := rfl
theorem jx_w20_ : jx_wf jx_C20 = true := by decide +kernel
theorem jx_h21 : jx_cd 21 = jx_C21 := rfl
theorem jx_w21_ : jx_wf jx_C21 = true := by decide +kernel
theorem jx_h22 : jx_cd 22 = jx_C22 := rfl
theorem jx_w22_ : jx_wf jx_C22 = true := by decide +kernel
theorem jx_h23 : jx_cd 23 = jx_C23 := rfl
theorem jx_w23_ : jx_wf jx_C23 = true := by decide +kernel
theorem jx_h24 : jx_cd 24 = jx_C24 := rfl
theorem jx_w24_ : jx_wf jx_C24 = true := by decide +kernel
theorem jx_h25 : jx_cd 25 = jx_C25 := rfl
theorem jx_w25_ : jx_wf jx_C25 = true := by decide +kernel
theorem jx_h26 : jx_cd 26 = jx_C26 := rfl
theorem jx_w26_ : jx_wf jx_C26 = true := by decide +kernel
theorem jx_h27 : jx_cd 27 = jx_C27 := rfl
theorem jx_w27_ : jx_wf jx_C27 = true := by decide +kernel
theorem jx_h28 : jx_cd 28 = jx_C28 := rfl
theorem jx_w28_ : jx_wf jx_C28 = true := by decide +kernel
theorem jx_h29 : jx_cd 29 = jx_C29 := rfl
theorem jx_w29_ : jx_wf jx_C29 = true := by decide +kernel
theorem jx_h30 : jx_cd 30 = jx_C30 := rfl
theorem jx_w30_ : jx_wf jx_C30 = true := by decide +kernel
theorem jx_h31 : jx_cd 31 = jx_C31 := rfl
theorem jx_w31_ : jx_wf jx_C31 = true := by decide +kernel
theorem jx_h32 : jx_cd 32 = jx_C32 := rfl
theorem jx_w32_ : jx_wf jx_C32 = true := by decide +kernel
theorem jx_h33 : jx_cd 33 = jx_C33 := rfl
theorem jx_w33_ : jx_wf jx_C33 = true := by decide +kernel
theorem jx_h34 : jx_cd 34 = jx_C34 := rfl
theorem jx_w34_ : jx_wf jx_C34 = true := by decide +kernel
theorem jx_h35 : jx_cd 35 = jx_C35 := rfl
theorem jx_w35_ : jx_wf jx_C35 = true := by decide +kernel
theorem jx_h36 : jx_cd 36 = jx_C36 := rfl
theorem jx_w36_ : jx_wf jx_C36 = true := by decide +kernel
theorem jx_h37 : jx_cd 37 = jx_C37 := rfl
theorem jx_w37_ : jx_wf jx_C37 = true := by decide +kernel
theorem jx_h38 : jx_cd 38 = jx_C38 := rfl
theorem jx_w38_ : jx_wf jx_C38 = true := by decide +kernel
theorem jx_h39 : jx_cd 39 = jx_C39 := rfl
theorem jx_w39_ : jx_wf jx_C39 = true := by decide +kernel
theorem jx_h40 : jx_cd 40 = jx_C40 := rfl
theorem jx_w40_ : jx_wf jx_C40 = true := by decide +kernel
theorem jx_h41 : jx_cd 41 = jx_C41 := rfl
theorem jx_w41_ : jx_wf jx_C41 = true := by decide +kernel
theorem jx_h42 : jx_cd 42 = jx_C42 := rfl
theorem jx_w42_ : jx_wf jx_C42 = true := by decide +kernel
theorem jx_h43 : jx_cd 43 = jx_C43 := rfl
theorem jx_w43_ : jx_wf jx_C43 = true := by decide +kernel
theorem jx_h44 : jx_cd 44 = jx_C44 := rfl
theorem jx_w44_ : jx_wf jx_C44 = true := by decide +kernel
theorem jx_h45 : jx_cd 45 = jx_C45 := rfl
theorem jx_w45_ : jx_wf jx_C45 = true := by decide +kernel
theorem jx_h46 : jx_cd 46 = jx_C46 := rfl
theorem jx_w46_ : jx_wf jx_C46 = true := by decide +kernel
theorem jx_h47 : jx_cd 47 = jx_C47 := rfl
theorem jx_w47_ : jx_wf jx_C47 = true := by decide +kernel
theorem jx_h48 : jx_cd 48 = jx_C48 := rfl
theorem jx_w48_ : jx_wf jx_C48 = true := by decide +kernel
theorem jx_h49 : jx_cd 49 = jx_C49 := rfl
theorem jx_w49_ : jx_wf jx_C49 = true := by decide +kernel
theorem jx_h50 : jx_cd 50 = jx_C50 := rfl
theorem jx_w50_ : jx_wf jx_C50 = true := by decide +kernel
theorem jx_h51 : jx_cd 51 = jx_C51 := rfl
theorem jx_w51_ : jx_wf jx_C51 = true := by decide +kernel
theorem jx_h52 : jx_cd 52 = jx_C52 := rfl
theorem jx_w52_ : jx_wf jx_C52 = true := by decide +kernel
theorem jx_h53 : jx_cd 53 = jx_C53 := rfl
theorem jx_w53_ : jx_wf jx_C53 = true := by decide +kernel
theorem jx_h54 : jx_cd 54 = jx_C54 := rfl
theorem jx_w54_ : jx_wf jx_C54 = true := by decide +kernel
theorem jx_h55 : jx_cd 55 = jx_C55 := rfl
theorem jx_w55_ : jx_wf jx_C55 = true := by decide +kernel
theorem jx_h56 : jx_cd 56 = jx_C56 := rfl
theorem jx_w56_ : jx_wf jx_C56 = true := by decide +kernel
theorem jx_h57 : jx_cd 57 = jx_C57 := rfl
theorem jx_w57_ : jx_wf jx_C57 = true := by decide +kernel
theorem jx_h58 : jx_cd 58 = jx_C58 := rfl
theorem jx_w58_ : jx_wf jx_C58 = true := by decide +kernel
theorem jx_h59 : jx_cd 59 = jx_C59 := rfl
theorem jx_w59_ : jx_wf jx_C59 = true := by decide +kernel
theorem jx_h60 : jx_cd 60 = jx_C60 := rfl
theorem jx_w60_ : jx_wf jx_C60 = true := by decide +kernel
theorem jx_h61 : jx_cd 61 = jx_C61 := rfl
theorem jx_w61_ : jx_wf jx_C61 = true := by decide +kernel
theorem jx_h62 : jx_cd 62 = jx_C62 := rfl
theorem jx_w62_ : jx_wf jx_C62 = true := by decide +kernel
theorem jx_h63 : jx_cd 63 = jx_C63 := rfl
theorem jx_w63_ : jx_wf jx_C63 = true := by decide +kernel
theorem jx_h64 : jx_cd 64 = jx_C64 := rfl
theorem jx_w64_ : jx_wf jx_C64 = true := by decide +kernel
theorem jx_h65 : jx_cd 65 = jx_C65 := rfl
theorem jx_w65_ : jx_wf jx_C65 = true := by decide +kernel
theorem jx_h66 : jx_cd 66 = jx_C66 := rfl
theorem jx_w66_ : jx_wf jx_C66 = true := by decide +kernel
theorem jx_h67 : jx_cd 67 = jx_C67 := rfl
theorem jx_w67_ : jx_wf jx_C67 = true := by decide +kernel
theorem jx_h68 : jx_cd 68 = jx_C68 := rfl
theorem jx_w68_ : jx_wf jx_C68 = true := by decide +kernel
theorem jx_h69 : jx_cd 69 = jx_C69 := rfl
theorem jx_w69_ : jx_wf jx_C69 = true := by decide +kernel
theorem jx_h70 : jx_cd 70 = jx_C70 := rfl
theorem jx_w70_ : jx_wf jx_C70 = true := by decide +kernel
theorem jx_h71 : jx_cd 71 = jx_C71 := rfl
theorem jx_w71_ : jx_wf jx_C71 = true := by decide +kernel
theorem jx_h72 : jx_cd 72 = jx_C72 := rfl
theorem jx_w72_ : jx_wf jx_C72 = true := by decide +kernel
theorem jx_h73 : jx_cd 73 = jx_C73 := rfl
theorem jx_w73_ : jx_wf jx_C73 = true := by decide +kernel
theorem jx_h74 : jx_cd 74 = jx_C74 := rfl
theorem jx_w74_ : jx_wf jx_C74 = true := by decide +kernel
theorem jx_h75 : jx_cd 75 = jx_C75 := rfl
theorem jx_w75_ : jx_wf jx_C75 = true := by decide +kernel
theorem jx_h76 : jx_cd 76 = jx_C76 := rfl
theorem jx_w76_ : jx_wf jx_C76 = true := by decide +kernel
theorem jx_h77 : jx_cd 77 = jx_C77 := rfl
theorem jx_w77_ : jx_wf jx_C77 = true := by decide +kernel
theorem jx_h78 : jx_cd 78 = jx_C78 := rfl
theorem jx_w78_ : jx_wf jx_C78 = true := by decide +kernel
theorem jx_h79 : jx_cd 79 = jx_C79 := rfl
theorem jx_w79_ : jx_wf jx_C79 = true := by decide +kernel
theorem jx_h80 : jx_cd 80 = jx_C80 := rfl
theorem jx_w80_ : jx_wf jx_C80 = true := by decide +kernel
theorem jx_h81 : jx_cd 81 = jx_C81 := rfl
theorem jx_w81_ : jx_wf jx_C81 = true := by decide +kernel
theorem jx_h82 : jx_cd 82 = jx_C82 := rfl
theorem jx_w82_ : jx_wf jx_C82 = true := by decide +kernel
theorem jx_h83 : jx_cd 83 = jx_C83 := rfl
theorem jx_w83_ : jx_wf jx_C83 = true := by decide +kernel
theorem jx_h84 : jx_cd 84 = jx_C84 := rfl
theorem jx_w84_ : jx_wf jx_C84 = true := by decide +kernel
theorem jx_h85 : jx_cd 85 = jx_C85 := rfl
theorem jx_w85_ : jx_wf jx_C85 = true := by decide +kernel
theorem jx_h86 : jx_cd 86 = jx_C86 := rfl
theorem jx_w86_ : jx_wf jx_C86 = true := by decide +kernel
theorem jx_h87 : jx_cd 87 = jx_C87 := rfl
theorem jx_w87_ : jx_wf jx_C87 = true := by decide +kernel
theorem jx_h88 : jx_cd 88 = jx_C88 := rfl
theorem jx_w88_ : jx_wf jx_C88 = true := by decide +kernel
theorem jx_h89 : jx_cd 89 = jx_C89 := rfl
theorem jx_w89_ : jx_wf jx_C89 = true := by decide +kernel
theorem jx_h90 : jx_cd 90 = jx_C90 := rfl
theorem jx_w90_ : jx_wf jx_C90 = true := by decide +kernel
theorem jx_h91 : jx_cd 91 = jx_C91 := rfl
theorem jx_w91_ : jx_wf jx_C91 = true := by decide +kernel
theorem jx_h92 : jx_cd 92 = jx_C92 := rfl
theorem jx_w92_ : jx_wf jx_C92 = true := by decide +kernel
theorem jx_h93 : jx_cd 93 = jx_C93 := rfl
theorem jx_w93_ : jx_wf jx_C93 = true := by decide +kernel
theorem jx_h94 : jx_cd 94 = jx_C94 := rfl
theorem jx_w94_ : jx_wf jx_C94 = true := by decide +kernel
theorem jx_h95 : jx_cd 95 = jx_C95 := rfl
theorem jx_w95_ : jx_wf jx_C95 = true := by decide +kernel
theorem jx_h96 : jx_cd 96 = jx_C96 := rfl
theorem jx_w96_ : jx_wf jx_C96 = true := by decide +kernel
theorem jx_h97 : jx_cd 97 = jx_C97 := rfl
theorem jx_w97_ : jx_wf jx_C97 = true := by decide +kernel
theorem jx_h98 : jx_cd 98 = jx_C98 := rfl
theorem jx_w98_ : jx_wf jx_C98 = true := by decide +kernel
theorem jx_h99 : jx_cd 99 = jx_C99 := rfl
theorem jx_w99_ : jx_wf jx_C99 = true := by decide +kernel
theorem jx_h100 : jx_cd 100 = jx_C100 := rfl
theorem jx_w100_ : jx_wf jx_C100 = true := by decide +kernel
theorem jx_h101 : jx_cd 101 = jx_C101 := rfl
theorem jx_w101_ : jx_wf jx_C101 = true := by decide +kernel
theorem jx_h102 : jx_cd 102 = jx_C102 := rfl
theorem jx_w102_ : jx_wf jx_C102 = true := by decide +kernel
theorem jx_h103 : jx_cd 103 = jx_C103 := rfl
theorem jx_w103_ : jx_wf jx_C103 = true := by decide +kernel
theorem jx_h104 : jx_cd 104 = jx_C104 := rfl
theorem jx_w104_ : jx_wf jx_C104 = true := by decide +kernel
theorem jx_h105 : jx_cd 105 = jx_C105 := rfl
theorem jx_w105_ : jx_wf jx_C105 = true := by decide +kernel
theorem jx_h106 : jx_cd 106 = jx_C106 := rfl
theorem jx_w106_ : jx_wf jx_C106 = true := by decide +kernel
theorem jx_h107 : jx_cd 107 = jx_C107 := rfl
theorem jx_w107_ : jx_wf jx_C107 = true := by decide +kernel
theorem jx_h108 : jx_cd 108 = jx_C108 := rfl
theorem jx_w108_ : jx_wf jx_C108 = true := by decide +kernel
theorem jx_h109 : jx_cd 109 = jx_C109 := rfl
theorem jx_w109_ : jx_wf jx_C109 = true := by decide +kernel
theorem jx_h110 : jx_cd 110 = jx_C110 := rfl
theorem jx_w110_ : jx_wf jx_C110 = true := by decide +kernel
theorem jx_h111 : jx_cd 111 = jx_C111 := rfl
theorem jx_w111_ : jx_wf jx_C111 = true := by decide +kernel
theorem jx_h112 : jx_cd 112 = jx_C112 := rfl
theorem jx_w112_ : jx_wf jx_C112 = true := by decide +kernel
theorem jx_h113 : jx_cd 113 = jx_C113 := rfl
theorem jx_w113_ : jx_wf jx_C113 = true := by decide +kernel
theorem jx_h114 : jx_cd 114 = jx_C114 := rfl
theorem jx_w114_ : jx_wf jx_C114 = true := by decide +kernel
theorem jx_h115 : jx_cd 115 = jx_C115 := rfl
theorem jx_w115_ : jx_wf jx_C115 = true := by decide +kernel
theorem jx_h116 : jx_cd 116 = jx_C116 := rfl
theorem jx_w116_ : jx_wf jx_C116 = true := by decide +kernel
theorem jx_h117 : jx_cd 117 = jx_C117 := rfl
theorem jx_w117_ : jx_wf jx_C117 = true := by decide +kernel
theorem jx_h118 : jx_cd 118 = jx_C118 := rfl
theorem jx_w118_ : jx_wf jx_C118 = true := by decide +kernel
theorem jx_h119 : jx_cd 119 = jx_C119 := rfl
theorem jx_w119_ : jx_wf jx_C119 = true := by decide +kernel
theorem jx_h120 : jx_cd 120 = jx_C120 := rfl
theorem jx_w120_ : jx_wf jx_C120 = true := by decide +kernel
theorem jx_h121 : jx_cd 121 = jx_C121 := rfl
theorem jx_w121_ : jx_wf jx_C121 = true := by decide +kernel
theorem jx_h122 : jx_cd 122 = jx_C122 := rfl
theorem jx_w122_ : jx_wf jx_C122 = true := by decide +kernel
theorem jx_h123 : jx_cd 123 = jx_C123 := rfl
theorem jx_w123_ : jx_wf jx_C123 = true := by decide +kernel
theorem jx_h124 : jx_cd 124 = jx_C124 := rfl
theorem jx_w124_ : jx_wf jx_C124 = true := by decide +kernel
theorem jx_h125 : jx_cd 125 = jx_C125 := rfl
theorem jx_w125_ : jx_wf jx_C125 = true := by decide +kernel
theorem jx_h126 : jx_cd 126 = jx_C126 := rfl
theorem jx_w126_ : jx_wf jx_C126 = true := by decide +kernel
theorem jx_h127 : jx_cd 127 = jx_C127 := rfl
theorem jx_w127_ : jx_wf jx_C127 = true := by decide +kernel
theorem jx_h128 : jx_cd 128 = jx_C128 := rfl
theorem jx_w128_ : jx_wf jx_C128 = true := by decide +kernel
theorem jx_h129 : jx_cd 129 = jx_C129 := rfl
theorem jx_w129_ : jx_wf jx_C129 = true := by decide +kernel
theorem jx_h130 : jx_cd 130 = jx_C130 := rfl
theorem jx_w130_ : jx_wf jx_C130 = true := by decide +kernel
theorem jx_h131 : jx_cd 131 = jx_C131 := rfl
theorem jx_w131_ : jx_wf jx_C131 = true := by decide +kernel
theorem jx_h132 : jx_cd 132 = jx_C132 := rfl
theorem jx_w132_ : jx_wf jx_C132 = true := by decide +kernel
theorem jx_h133 : jx_cd 133 = jx_C133 := rfl
theorem jx_w133_ : jx_wf jx_C133 = true := by decide +kernel
theorem jx_h134 : jx_cd 134 = jx_C134 := rfl
theorem jx_w134_ : jx_wf jx_C134 = true := by decide +kernel
theorem jx_h135 : jx_cd 135 = jx_C135 := rfl
theorem jx_w135_ : jx_wf jx_C135 = true := by decide +kernel
theorem jx_h136 : jx_cd 136 = jx_C136 := rfl
theorem jx_w136_ : jx_wf jx_C136 = true := by decide +kernel
theorem jx_h137 : jx_cd 137 = jx_C137 := rfl
theorem jx_w137_ : jx_wf jx_C137 = true := by decide +kernel
theorem jx_h138 : jx_cd 138 = jx_C138 := rfl
theorem jx_w138_ : jx_wf jx_C138 = true := by decide +kernel
theorem jx_h139 : jx_cd 139 = jx_C139 := rfl
theorem jx_w139_ : jx_wf jx_C139 = true := by decide +kernel
theorem jx_h140 : jx_cd 140 = jx_C140 := rfl
theorem jx_w140_ : jx_wf jx_C140 = true := by decide +kernel
theorem jx_h141 : jx_cd 141 = jx_C141 := rfl
theorem jx_w141_ : jx_wf jx_C141 = true := by decide +kernel
theorem jx_h142 : jx_cd 142 = jx_C142 := rfl
theorem jx_w142_ : jx_wf jx_C142 = true := by decide +kernel
theorem jx_h143 : jx_cd 143 = jx_C143 := rfl
theorem jx_w143_ : jx_wf jx_C143 = true := by decide +kernel
theorem jx_h144 : jx_cd 144 = jx_C144 := rfl
theorem jx_w144_ : jx_wf jx_C144 = true := by decide +kernel
theorem jx_h145 : jx_cd 145 = jx_C145 := rfl
theorem jx_w145_ : jx_wf jx_C145 = true := by decide +kernel
theorem jx_h146 : jx_cd 146 = jx_C146 := rfl
theorem jx_w146_ : jx_wf jx_C146 = true := by decide +kernel
theorem jx_h147 : jx_cd 147 = jx_C147 := rfl
theorem jx_w147_ : jx_wf jx_C147 = true := by decide +kernel
theorem jx_h148 : jx_cd 148 = jx_C148 := rfl
theorem jx_w148_ : jx_wf jx_C148 = true := by decide +kernel
theorem jx_h149 : jx_cd 149 = jx_C149 := rfl
theorem jx_w149_ : jx_wf jx_C149 = true := by decide +kernel
theorem jx_h150 : jx_cd 150 = jx_C150 := rfl
theorem jx_w150_ : jx_wf jx_C150 = true := by decide +kernel
theorem jx_h151 : jx_cd 151 = jx_C151 := rfl
theorem jx_w151_ : jx_wf jx_C151 = true := by decide +kernel
theorem jx_h152 : jx_cd 152 = jx_C152 := rfl
theorem jx_w152_ : jx_wf jx_C152 = true := by decide +kernel
theorem jx_h153 : jx_cd 153 = jx_C153 := rfl
theorem jx_w153_ : jx_wf jx_C153 = true := by decide +kernel
theorem jx_h154 : jx_cd 154 = jx_C154 := rfl
theorem jx_w154_ : jx_wf jx_C154 = true := by decide +kernel
theorem jx_h155 : jx_cd 155 = jx_C155 := rfl
theorem jx_w155_ : jx_wf jx_C155 = true := by decide +kernel
theorem jx_h156 : jx_cd 156 = jx_C156 := rfl
theorem jx_w156_ : jx_wf jx_C156 = true := by decide +kernel
theorem jx_h157 : jx_cd 157 = jx_C157 := rfl
theorem jx_w157_ : jx_wf jx_C157 = true := by decide +kernel
theorem jx_h158 : jx_cd 158 = jx_C158 := rfl
theorem jx_w158_ : jx_wf jx_C158 = true := by decide +kernel
theorem jx_h159 : jx_cd 159 = jx_C159 := rfl
theorem jx_w159_ : jx_wf jx_C159 = true := by decide +kernel
theorem jx_h160 : jx_cd 160 = jx_C160 := rfl
theorem jx_w160_ : jx_wf jx_C160 = true := by decide +kernel
theorem jx_h161 : jx_cd 161 = jx_C161 := rfl
theorem jx_w161_ : jx_wf jx_C161 = true := by decide +kernel
theorem jx_h162 : jx_cd 162 = jx_C162 := rfl
theorem jx_w162_ : jx_wf jx_C162 = true := by decide +kernel
theorem jx_h163 : jx_cd 163 = jx_C163 := rfl
theorem jx_w163_ : jx_wf jx_C163 = true := by decide +kernel
theorem jx_h164 : jx_cd 164 = jx_C164 := rfl
theorem jx_w164_ : jx_wf jx_C164 = true := by decide +kernel
theorem jx_h165 : jx_cd 165 = jx_C165 := rfl
theorem jx_w165_ : jx_wf jx_C165 = true := by decide +kernel
theorem jx_h166 : jx_cd 166 = jx_C166 := rfl
theorem jx_w166_ : jx_wf jx_C166 = true := by decide +kernel
theorem jx_h167 : jx_cd 167 = jx_C167 := rfl
theorem jx_w167_ : jx_wf jx_C167 = true := by decide +kernel
theorem jx_h168 : jx_cd 168 = jx_C168 := rfl
theorem jx_w168_ : jx_wf jx_C168 = true := by decide +kernel
theorem jx_h169 : jx_cd 169 = jx_C169 := rfl
theorem jx_w169_ : jx_wf jx_C169 = true := by decide +kernel
theorem jx_h170 : jx_cd 170 = jx_C170 := rfl
theorem jx_w170_ : jx_wf jx_C170 = true := by decide +kernel
theorem jx_h171 : jx_cd 171 = jx_C171 := rfl
theorem jx_w171_ : jx_wf jx_C171 = true := by decide +kernel
theorem jx_h172 : jx_cd 172 = jx_C172 := rfl
theorem jx_w172_ : jx_wf jx_C172 = true := by decide +kernel
theorem jx_h173 : jx_cd 173 = jx_C173 := rfl
theorem jx_w173_ : jx_wf jx_C173 = true := by decide +kernel
theorem jx_h174 : jx_cd 174 = jx_C174 := rfl
theorem jx_w174_ : jx_wf jx_C174 = true := by decide +kernel
theorem jx_h175 : jx_cd 175 = jx_C175 := rfl
theorem jx_w175_ : jx_wf jx_C175 = true := by decide +kernel
theorem jx_h176 : jx_cd 176 = jx_C176 := rfl
theorem jx_w176_ : jx_wf jx_C176 = true := by decide +kernel
theorem jx_h177 : jx_cd 177 = jx_C177 := rfl
theorem jx_w177_ : jx_wf jx_C177 = true := by decide +kernel
theorem jx_h178 : jx_cd 178 = jx_C178 := rfl
theorem jx_w178_ : jx_wf jx_C178 = true := by decide +kernel
theorem jx_h179 : jx_cd 179 = jx_C179 := rfl
theorem jx_w179_ : jx_wf jx_C179 = true := by decide +kernel
theorem jx_h180 : jx_cd 180 = jx_C180 := rfl
theorem jx_w180_ : jx_wf jx_C180 = true := by decide +kernel
theorem jx_h181 : jx_cd 181 = jx_C181 := rfl
theorem jx_w181_ : jx_wf jx_C181 = true := by decide +kernel
theorem jx_h182 : jx_cd 182 = jx_C182 := rfl
theorem jx_w182_ : jx_wf jx_C182 = true := by decide +kernel
theorem jx_h183 : jx_cd 183 = jx_C183 := rfl
theorem jx_w183_ : jx_wf jx_C183 = true := by decide +kernel
theorem jx_h184 : jx_cd 184 = jx_C184 := rfl
theorem jx_w184_ : jx_wf jx_C184 = true := by decide +kernel
theorem jx_h185 : jx_cd 185 = jx_C185 := rfl
theorem jx_w185_ : jx_wf jx_C185 = true := by decide +kernel
theorem jx_h186 : jx_cd 186 = jx_C186 := rfl
theorem jx_w186_ : jx_wf jx_C186 = true := by decide +kernel
theorem jx_h187 : jx_cd 187 = jx_C187 := rfl
theorem jx_w187_ : jx_wf jx_C187 = true := by decide +kernel
theorem jx_h188 : jx_cd 188 = jx_C188 := rfl
theorem jx_w188_ : jx_wf jx_C188 = true := by decide +kernel
theorem jx_h189 : jx_cd 189 = jx_C189 := rfl
theorem jx_w189_ : jx_wf jx_C189 = true := by decide +kernel
theorem jx_h190 : jx_cd 190 = jx_C190 := rfl
theorem jx_w190_ : jx_wf jx_C190 = true := by decide +kernel
theorem jx_h191 : jx_cd 191 = jx_C191 := rfl
theorem jx_w191_ : jx_wf jx_C191 = true := by decide +kernel
theorem jx_h192 : jx_cd 192 = jx_C192 := rfl
theorem jx_w192_ : jx_wf jx_C192 = true := by decide +kernel
theorem jx_h193 : jx_cd 193 = jx_C193 := rfl
theorem jx_w193_ : jx_wf jx_C193 = true := by decide +kernel
theorem jx_h194 : jx_cd 194 = jx_C194 := rfl
theorem jx_w194_ : jx_wf jx_C194 = true := by decide +kernel
theorem jx_h195 : jx_cd 195 = jx_C195 := rfl
theorem jx_w195_ : jx_wf jx_C195 = true := by decide +kernel
theorem jx_h196 : jx_cd 196 = jx_C196 := rfl
theorem jx_w196_ : jx_wf jx_C196 = true := by decide +kernel
theorem jx_h197 : jx_cd 197 = jx_C197 := rfl
theorem jx_w197_ : jx_wf jx_C197 = true := by decide +kernel
theorem jx_h198 : jx_cd 198 = jx_C198 := rfl
theorem jx_w198_ : jx_wf jx_C198 = true := by decide +kernel
theorem jx_h199 : jx_cd 199 = jx_C199 := rfl
theorem jx_w199_ : jx_wf jx_C199 = true := by decide +kernel
theorem jx_h200 : jx_cd 200 = jx_C200 := rfl
theorem jx_w200_ : jx_wf jx_C200 = true := by decide +kernel
theorem jx_h201 : jx_cd 201 = jx_C201 := rfl
theorem jx_w201_ : jx_wf jx_C201 = true := by decide +kernel
theorem jx_h202 : jx_cd 202 = jx_C202 := rfl
theorem jx_w202_ : jx_wf jx_C202 = true := by decide +kernel
theorem jx_h203 : jx_cd 203 = jx_C203 := rfl
theorem jx_w203_ : jx_wf jx_C203 = true := by decide +kernel
theorem jx_h204 : jx_cd 204 = jx_C204 := rfl
theorem jx_w204_ : jx_wf jx_C204 = true := by decide +kernel
theorem jx_h205 : jx_cd 205 = jx_C205 := rfl
theorem jx_w205_ : jx_wf jx_C205 = true := by decide +kernel
theorem jx_h206 : jx_cd 206 = jx_C206 := rfl
theorem jx_w206_ : jx_wf jx_C206 = true := by decide +kernel
theorem jx_h207 : jx_cd 207 = jx_C207 := rfl
theorem jx_w207_ : jx_wf jx_C207 = true := by decide +kernel
theorem jx_h208 : jx_cd 208 = jx_C208 := rfl
theorem jx_w208_ : jx_wf jx_C208 = true := by decide +kernel
theorem jx_h209 : jx_cd 209 = jx_C209 := rfl
theorem jx_w209_ : jx_wf jx_C209 = true := by decide +kernel
theorem jx_h210 : jx_cd 210 = jx_C210 := rfl
theorem jx_w210_ : jx_wf jx_C210 = true := by decide +kernel
theorem jx_h211 : jx_cd 211 = jx_C211 := rfl
theorem jx_w211_ : jx_wf jx_C211 = true := by decide +kernel
theorem jx_h212 : jx_cd 212 = jx_C212 := rfl
theorem jx_w212_ : jx_wf jx_C212 = true := by decide +kernel
theorem jx_h213 : jx_cd 213 = jx_C213 := rfl
theorem jx_w213_ : jx_wf jx_C213 = true := by decide +kernel
theorem jx_h214 : jx_cd 214 = jx_C214 := rfl
theorem jx_w214_ : jx_wf jx_C214 = true := by decide +kernel
theorem jx_h215 : jx_cd 215 = jx_C215 := rfl
theorem jx_w215_ : jx_wf jx_C215 = true := by decide +kernel
theorem jx_h216 : jx_cd 216 = jx_C216 := rfl
theorem jx_w216_ : jx_wf jx_C216 = true := by decide +kernel
theorem jx_h217 : jx_cd 217 = jx_C217 := rfl
theorem jx_w217_ : jx_wf jx_C217 = true := by decide +kernel
theorem jx_h218 : jx_cd 218 = jx_C218 := rfl
theorem jx_w218_ : jx_wf jx_C218 = true := by decide +kernel
theorem jx_h219 : jx_cd 219 = jx_C219 := rfl
theorem jx_w219_ : jx_wf jx_C219 = true := by decide +kernel
theorem jx_h220 : jx_cd 220 = jx_C220 := rfl
theorem jx_w220_ : jx_wf jx_C220 = true := by decide +kernel
theorem jx_h221 : jx_cd 221 = jx_C221 := rfl
theorem jx_w221_ : jx_wf jx_C221 = true := by decide +kernel
theorem jx_h222 : jx_cd 222 = jx_C222 := rfl
theorem jx_w222_ : jx_wf jx_C222 = true := by decide +kernel
theorem jx_h223 : jx_cd 223 = jx_C223 := rfl
theorem jx_w223_ : jx_wf jx_C223 = true := by decide +kernel
theorem jx_h224 : jx_cd 224 = jx_C224 := rfl
theorem jx_w224_ : jx_wf jx_C224 = true := by decide +kernel
theorem jx_h225 : jx_cd 225 = jx_C225 := rfl
theorem jx_w225_ : jx_wf jx_C225 = true := by decide +kernel
theorem jx_h226 : jx_cd 226 = jx_C226 := rfl
theorem jx_w226_ : jx_wf jx_C226 = true := by decide +kernel
theorem jx_h227 : jx_cd 227 = jx_C227 := rfl
theorem jx_w227_ : jx_wf jx_C227 = true := by decide +kernel
theorem jx_h228 : jx_cd 228 = jx_C228 := rfl
theorem jx_w228_ : jx_wf jx_C228 = true := by decide +kernel
theorem jx_h229 : jx_cd 229 = jx_C229 := rfl
theorem jx_w229_ : jx_wf jx_C229 = true := by decide +kernel
theorem jx_h230 : jx_cd 230 = jx_C230 := rfl
theorem jx_w230_ : jx_wf jx_C230 = true := by decide +kernel
theorem jx_h231 : jx_cd 231 = jx_C231 := rfl
theorem jx_w231_ : jx_wf jx_C231 = true := by decide +kernel
theorem jx_h232 : jx_cd 232 = jx_C232 := rfl
theorem jx_w232_ : jx_wf jx_C232 = true := by decide +kernel
theorem jx_h233 : jx_cd 233 = jx_C233 := rfl
theorem jx_w233_ : jx_wf jx_C233 = true := by decide +kernel
theorem jx_h234 : jx_cd 234 = jx_C234 := rfl
theorem jx_w234_ : jx_wf jx_C234 = true := by decide +kernel
theorem jx_h235 : jx_cd 235 = jx_C235 := rfl
theorem jx_w235_ : jx_wf jx_C235 = true := by decide +kernel
theorem jx_h236 : jx_cd 236 = jx_C236 := rfl
theorem jx_w236_ : jx_wf jx_C236 = true := by decide +kernel
theorem jx_h237 : jx_cd 237 = jx_C237 := rfl
theorem jx_w237_ : jx_wf jx_C237 = true := by decide +kernel
theorem jx_h238 : jx_cd 238 = jx_C238 := rfl
theorem jx_w238_ : jx_wf jx_C238 = true := by decide +kernel
theorem jx_h239 : jx_cd 239 = jx_C239 := rfl
theorem jx_w239_ : jx_wf jx_C239 = true := by decide +kernel
theorem jx_h240 : jx_cd 240 = jx_C240 := rfl
theorem jx_w240_ : jx_wf jx_C240 = true := by decide +kernel
theorem jx_h241 : jx_cd 241 = jx_C241 := rfl
theorem jx_w241_ : jx_wf jx_C241 = true := by decide +kernel
theorem jx_h242 : jx_cd 242 = jx_C242 := rfl
theorem jx_w242_ : jx_wf jx_C242 = true := by decide +kernel
theorem jx_h243 : jx_cd 243 = jx_C243 := rfl
theorem jx_w243_ : jx_wf jx_C243 = true := by decide +kernel
theorem jx_h244 : jx_cd 244 = jx_C244 := rfl
theorem jx_w244_ : jx_wf jx_C244 = true := by decide +kernel
theorem jx_h245 : jx_cd 245 = jx_C245 := rfl
theorem jx_w245_ : jx_wf jx_C245 = true := by decide +kernel
theorem jx_h246 : jx_cd 246 = jx_C246 := rfl
theorem jx_w246_ : jx_wf jx_C246 = true := by decide +kernel
theorem jx_h247 : jx_cd 247 = jx_C247 := rfl
theorem jx_w247_ : jx_wf jx_C247 = true := by decide +kernel
theorem jx_h248 : jx_cd 248 = jx_C248 := rfl
theorem jx_w248_ : jx_wf jx_C248 = true := by decide +kernel
theorem jx_h249 : jx_cd 249 = jx_C249 := rfl
theorem jx_w249_ : jx_wf jx_C249 = true := by decide +kernel
theorem jx_h250 : jx_cd 250 = jx_C250 := rfl
theorem jx_w250_ : jx_wf jx_C250 = true := by decide +kernel
theorem jx_h251 : jx_cd 251 = jx_C251 := rfl
theorem jx_w251_ : jx_wf jx_C251 = true := by decide +kernel
theorem jx_h252 : jx_cd 252 = jx_C252 := rfl
theorem jx_w252_ : jx_wf jx_C252 = true := by decide +kernel
theorem jx_h253 : jx_cd 253 = jx_C253 := rfl
theorem jx_w253_ : jx_wf jx_C253 = true := by decide +kernel
theorem jx_h254 : jx_cd 254 = jx_C254 := rfl
theorem jx_w254_ : jx_wf jx_C254 = true := by decide +kernel
theorem jx_h255 : jx_cd 255 = jx_C255 := rfl
theorem jx_w255_ : jx_wf jx_C255 = true := by decide +kernel
theorem jx_h256 : jx_cd 256 = jx_C256 := rfl
theorem jx_w256_ : jx_wf jx_C256 = true := by decide +kernel
theorem jx_h257 : jx_cd 257 = jx_C257 := rfl
theorem jx_w257_ : jx_wf jx_C257 = true := by decide +kernel
theorem jx_h258 : jx_cd 258 = jx_C258 := rfl
theorem jx_w258_ : jx_wf jx_C258 = true := by decide +kernel
theorem jx_h259 : jx_cd 259 = jx_C259 := rfl
theorem jx_w259_ : jx_wf jx_C259 = true := by decide +kernel
theorem jx_h260 : jx_cd 260 = jx_C260 := rfl
theorem jx_w260_ : jx_wf jx_C260 = true := by decide +kernel
theorem jx_h261 : jx_cd 261 = jx_C261 := rfl
theorem jx_w261_ : jx_wf jx_C261 = true := by decide +kernel
theorem jx_h262 : jx_cd 262 = jx_C262 := rfl
theorem jx_w262_ : jx_wf jx_C262 = true := by decide +kernel
theorem jx_h263 : jx_cd 263 = jx_C263 := rfl
theorem jx_w263_ : jx_wf jx_C263 = true := by decide +kernel
theorem jx_h264 : jx_cd 264 = jx_C264 := rfl
theorem jx_w264_ : jx_wf jx_C264 = true := by decide +kernel
theorem jx_h265 : jx_cd 265 = jx_C265 := rfl
theorem jx_w265_ : jx_wf jx_C265 = true := by decide +kernel
theorem jx_h266 : jx_cd 266 = jx_C266 := rfl
theorem jx_w266_ : jx_wf jx_C266 = true := by decide +kernel
theorem jx_h267 : jx_cd 267 = jx_C267 := rfl
theorem jx_w267_ : jx_wf jx_C267 = true := by decide +kernel
theorem jx_h268 : jx_cd 268 = jx_C268 := rfl
theorem jx_w268_ : jx_wf jx_C268 = true := by decide +kernel
theorem jx_h269 : jx_cd 269 = jx_C269 := rfl
theorem jx_w269_ : jx_wf jx_C269 = true := by decide +kernel
theorem jx_h270 : jx_cd 270 = jx_C270 := rfl
theorem jx_w270_ : jx_wf jx_C270 = true := by decide +kernel
theorem jx_h271 : jx_cd 271 = jx_C271 := rfl
theorem jx_w271_ : jx_wf jx_C271 = true := by decide +kernel
theorem jx_h272 : jx_cd 272 = jx_C272 := rfl
theorem jx_w272_ : jx_wf jx_C272 = true := by decide +kernel
theorem jx_h273 : jx_cd 273 = jx_C273 := rfl
theorem jx_w273_ : jx_wf jx_C273 = true := by decide +kernel
theorem jx_h274 : jx_cd 274 = jx_C274 := rfl
theorem jx_w274_ : jx_wf jx_C274 = true := by decide +kernel
theorem jx_h275 : jx_cd 275 = jx_C275 := rfl
theorem jx_w275_ : jx_wf jx_C275 = true := by decide +kernel
theorem jx_h276 : jx_cd 276 = jx_C276 := rfl
theorem jx_w276_ : jx_wf jx_C276 = true := by decide +kernel
theorem jx_h277 : jx_cd 277 = jx_C277 := rfl
theorem jx_w277_ : jx_wf jx_C277 = true := by decide +kernel
theorem jx_h278 : jx_cd 278 = jx_C278 := rfl
theorem jx_w278_ : jx_wf jx_C278 = true := by decide +kernel
theorem jx_h279 : jx_cd 279 = jx_C279 := rfl
theorem jx_w279_ : jx_wf jx_C279 = true := by decide +kernel
theorem jx_h280 : jx_cd 280 = jx_C280 := rfl
theorem jx_w280_ : jx_wf jx_C280 = true := by decide +kernel
theorem jx_h281 : jx_cd 281 = jx_C281 := rfl
theorem jx_w281_ : jx_wf jx_C281 = true := by decide +kernel
theorem jx_h282 : jx_cd 282 = jx_C282 := rfl
theorem jx_w282_ : jx_wf jx_C282 = true := by decide +kernel
theorem jx_h283 : jx_cd 283 = jx_C283 := rfl
theorem jx_w283_ : jx_wf jx_C283 = true := by decide +kernel
theorem jx_h284 : jx_cd 284 = jx_C284 := rfl
theorem jx_w284_ : jx_wf jx_C284 = true := by decide +kernel
theorem jx_h285 : jx_cd 285 = jx_C285 := rfl
theorem jx_w285_ : jx_wf jx_C285 = true := by decide +kernel
theorem jx_h286 : jx_cd 286 = jx_C286 := rfl
theorem jx_w286_ : jx_wf jx_C286 = true := by decide +kernel
theorem jx_h287 : jx_cd 287 = jx_C287 := rfl
theorem jx_w287_ : jx_wf jx_C287 = true := by decide +kernel
theorem jx_h288 : jx_cd 288 = jx_C288 := rfl
theorem jx_w288_ : jx_wf jx_C288 = true := by decide +kernel
theorem jx_h289 : jx_cd 289 = jx_C289 := rfl
theorem jx_w289_ : jx_wf jx_C289 = true := by decide +kernel
theorem jx_h290 : jx_cd 290 = jx_C290 := rfl
theorem jx_w290_ : jx_wf jx_C290 = true := by decide +kernel
theorem jx_h291 : jx_cd 291 = jx_C291 := rfl
theorem jx_w291_ : jx_wf jx_C291 = true := by decide +kernel
theorem jx_h292 : jx_cd 292 = jx_C292 := rfl
theorem jx_w292_ : jx_wf jx_C292 = true := by decide +kernel
theorem jx_h293 : jx_cd 293 = jx_C293 := rfl
theorem jx_w293_ : jx_wf jx_C293 = true := by decide +kernel
theorem jx_h294 : jx_cd 294 = jx_C294 := rfl
theorem jx_w294_ : jx_wf jx_C294 = true := by decide +kernel
theorem jx_h295 : jx_cd 295 = jx_C295 := rfl
theorem jx_w295_ : jx_wf jx_C295 = true := by decide +kernel
theorem jx_h296 : jx_cd 296 = jx_C296 := rfl
theorem jx_w296_ : jx_wf jx_C296 = true := by decide +kernel
theorem jx_h297 : jx_cd 297 = jx_C297 := rfl
theorem jx_w297_ : jx_wf jx_C297 = true := by decide +kernel
theorem jx_h298 : jx_cd 298 = jx_C298 := rfl
theorem jx_w298_ : jx_wf jx_C298 = true := by decide +kernel
theorem jx_h299 : jx_cd 299 = jx_C299 := rfl
theorem jx_w299_ : jx_wf jx_C299 = true := by decide +kernel
theorem jx_h300 : jx_cd 300 = jx_C300 := rfl
theorem jx_w300_ : jx_wf jx_C300 = true := by decide +kernel
theorem jx_h301 : jx_cd 301 = jx_C301 := rfl
theorem jx_w301_ : jx_wf jx_C301 = true := by decide +kernel
theorem jx_h302 : jx_cd 302 = jx_C302 := rfl
theorem jx_w302_ : jx_wf jx_C302 = true := by decide +kernel
theorem jx_h303 : jx_cd 303 = jx_C303 := rfl
theorem jx_w303_ : jx_wf jx_C303 = true := by decide +kernel
theorem jx_h304 : jx_cd 304 = jx_C304 := rfl
theorem jx_w304_ : jx_wf jx_C304 = true := by decide +kernel
theorem jx_h305 : jx_cd 305 = jx_C305 := rfl
theorem jx_w305_ : jx_wf jx_C305 = true := by decide +kernel
theorem jx_h306 : jx_cd 306 = jx_C306 := rfl
theorem jx_w306_ : jx_wf jx_C306 = true := by decide +kernel
theorem jx_h307 : jx_cd 307 = jx_C307 := rfl
theorem jx_w307_ : jx_wf jx_C307 = true := by decide +kernel
theorem jx_h308 : jx_cd 308 = jx_C308 := rfl
theorem jx_w308_ : jx_wf jx_C308 = true := by decide +kernel
theorem jx_h309 : jx_cd 309 = jx_C309 := rfl
theorem jx_w309_ : jx_wf jx_C309 = true := by decide +kernel
theorem jx_h310 : jx_cd 310 = jx_C310 := rfl
theorem jx_w310_ : jx_wf jx_C310 = true := by decide +kernel
theorem jx_h311 : jx_cd 311 = jx_C311 := rfl
theorem jx_w311_ : jx_wf jx_C311 = true := by decide +kernel
theorem jx_h312 : jx_cd 312 = jx_C312 := rfl
theorem jx_w312_ : jx_wf jx_C312 = true := by decide +kernel
theorem jx_h313 : jx_cd 313 = jx_C313 := rfl
theorem jx_w313_ : jx_wf jx_C313 = true := by decide +kernel
theorem jx_h314 : jx_cd 314 = jx_C314 := rfl
theorem jx_w314_ : jx_wf jx_C314 = true := by decide +kernel
theorem jx_h315 : jx_cd 315 = jx_C315 := rfl
theorem jx_w315_ : jx_wf jx_C315 = true := by decide +kernel
theorem jx_h316 : jx_cd 316 = jx_C316 := rfl
theorem jx_w316_ : jx_wf jx_C316 = true := by decide +kernel
theorem jx_h317 : jx_cd 317 = jx_C317 := rfl
theorem jx_w317_ : jx_wf jx_C317 = true := by decide +kernel
theorem jx_h318 : jx_cd 318 = jx_C318 := rfl
theorem jx_w318_ : jx_wf jx_C318 = true := by decide +kernel
theorem jx_h319 : jx_cd 319 = jx_C319 := rfl
theorem jx_w319_ : jx_wf jx_C319 = true := by decide +kernel
theorem jx_h320 : jx_cd 320 = jx_C320 := rfl
theorem jx_w320_ : jx_wf jx_C320 = true := by decide +kernel
theorem jx_h321 : jx_cd 321 = jx_C321 := rfl
theorem jx_w321_ : jx_wf jx_C321 = true := by decide +kernel
theorem jx_h322 : jx_cd 322 = jx_C322 := rfl
theorem jx_w322_ : jx_wf jx_C322 = true := by decide +kernel
theorem jx_h323 : jx_cd 323 = jx_C323 := rfl
theorem jx_w323_ : jx_wf jx_C323 = true := by decide +kernel
theorem jx_h324 : jx_cd 324 = jx_C324 := rfl
theorem jx_w324_ : jx_wf jx_C324 = true := by decide +kernel
theorem jx_h325 : jx_cd 325 = jx_C325 := rfl
theorem jx_w325_ : jx_wf jx_C325 = true := by decide +kernel
noncomputable def f_F_tunnel (x1 : Int32) (x2 : Int32) (x3 : Int32) (m : jx_Mem) : Option (Int32 × jx_Mem) := jx_K jx_kI 164 0 0 [(0, .ref 0), (1, .int x1), (2, .int x2), (3, .int x3)] [] m
noncomputable def f_F_wall (x1 : Int32) (x2 : Int32) (m : jx_Mem) : Option (Int32 × jx_Mem) := jx_K jx_kI 165 0 0 [(0, .ref 0), (1, .int x1), (2, .int x2)] [] m
noncomputable def f_F_far (x1 : Int32) (x2 : Int32) (m : jx_Mem) : Option (Int32 × jx_Mem) := jx_K jx_kI 166 0 0 [(0, .ref 0), (1, .int x1), (2, .int x2)] [] m
noncomputable def f_F_person (x1 : Int32) (x2 : Int32) (x3 : Int32) (m : jx_Mem) : Option (Int32 × jx_Mem) := jx_K jx_kI 167 0 0 [(0, .ref 0), (1, .int x1), (2, .int x2), (3, .int x3)] [] m
noncomputable def f_F_walk (x1 : Int32) (x2 : Int32) (m : jx_Mem) : Option (Int32 × jx_Mem) := jx_K jx_kI 168 0 0 [(0, .ref 0), (1, .int x1), (2, .int x2)] [] m
noncomputable def f_F_of (x1 : Int32) (x2 : Int32) (m : jx_Mem) : Option (Int32 × jx_Mem) := jx_K jx_kI 169 0 0 [(0, .ref 0), (1, .int x1), (2, .int x2)] [] m
noncomputable def f_F_good (x1 : Int32) (m : jx_Mem) : Option (Int32 × jx_Mem) := jx_K jx_kI 170 0 0 [(0, .ref 0), (1, .int x1)] [] m
noncomputable def f_F_test (x1 : Int32) (m : jx_Mem) : Option (Int32 × jx_Mem) := jx_K jx_kI 171 0 0 [(0, .ref 0), (1, .int x1)] [] m
noncomputable def f_F_answer (x1 : Int32) (x2 : Int32) (x3 : Int32) (m : jx_Mem) : Option (Int32 × jx_Mem) := jx_K jx_kI 172 0 0 [(0, .ref 0), (1, .int x1), (2, .int x2), (3, .int x3)] [] m
noncomputable def f_F_sheet (x1 : Int32) (x2 : Int32) (x3 : Int32) (x4 : Int32) (x5 : Int32) (m : jx_Mem) : Option (Int32 × jx_Mem) := jx_K jx_kI 173 0 0 [(0, .ref 0), (1, .int x1), (2, .int x2), (3, .int x3), (4, .int x4), (5, .int x5)] [] m
noncomputable def f_F_apart (x1 : Int32) (x2 : Int32) (m : jx_Mem) : Option (Int32 × jx_Mem) := jx_K jx_kI 174 0 0 [(0, .ref 0), (1, .int x1), (2, .int x2)] [] m
noncomputable def f_F_sure (x1 : Int32) (x2 : Int32) (m : jx_Mem) : Option (Int32 × jx_Mem) := jx_K jx_kI 175 0 0 [(0, .ref 0), (1, .int x1), (2, .int x2)] [] m
noncomputable def f_F_keep (x1 : Int32) (m : jx_Mem) : Option (Int32 × jx_Mem) := jx_K jx_kI 176 0 0 [(0, .ref 0), (1, .int x1)] [] m
noncomputable def f_F_ban (x1 : Int32) (x2 : Int32) (m : jx_Mem) : Option (Int32 × jx_Mem) := jx_K jx_kI 177 0 0 [(0, .ref 0), (1, .int x1), (2, .int x2)] [] m
noncomputable def f_F_tree (x1 : Int32) (m : jx_Mem) : Option (Int32 × jx_Mem) := jx_K jx_kI 178 0 0 [(0, .ref 0), (1, .int x1)] [] m
noncomputable def f_F_copper (x1 : Int32) (x2 : Int32) (m : jx_Mem) : Option (Int32 × jx_Mem) := jx_K jx_kI 179 0 0 [(0, .ref 0), (1, .int x1), (2, .int x2)] [] m
noncomputable def f_F_asks (x1 : Int32) (x2 : Int32) (m : jx_Mem) : Option (Int32 × jx_Mem) := jx_K jx_kI 180 0 0 [(0, .ref 0), (1, .int x1), (2, .int x2)] [] m
noncomputable def f_F_sign (x1 : Int32) (m : jx_Mem) : Option (Int32 × jx_Mem) := jx_K jx_kI 181 0 0 [(0, .ref 0), (1, .int x1)] [] m
noncomputable def f_F_end (x1 : Int32) (m : jx_Mem) : Option (Int32 × jx_Mem) := jx_K jx_kI 182 0 0 [(0, .ref 0), (1, .int x1)] [] m
noncomputable def f_F_rule  (m : jx_Mem) : Option (Int32 × jx_Mem) := jx_K jx_kI 183 0 0 [(0, .ref 0)] [] m
noncomputable def f_F_first (x1 : Int32) (x2 : Int32) (m : jx_Mem) : Option (Int32 × jx_Mem) := jx_K jx_kI 184 0 0 [(0, .ref 0), (1, .int x1), (2, .int x2)] [] m
noncomputable def f_F_order  (m : jx_Mem) : Option (Int32 × jx_Mem) := jx_K jx_kI 185 0 0 [(0, .ref 0)] [] m
noncomputable def f_F_want (x1 : Int32) (x2 : Int32) (x3 : Int32) (m : jx_Mem) : Option (Int32 × jx_Mem) := jx_K jx_kI 186 0 0 [(0, .ref 0), (1, .int x1), (2, .int x2), (3, .int x3)] [] m
noncomputable def f_F_item (x1 : Int32) (x2 : Int32) (x3 : Int32) (m : jx_Mem) : Option (Int32 × jx_Mem) := jx_K jx_kI 187 0 0 [(0, .ref 0), (1, .int x1), (2, .int x2), (3, .int x3)] [] m
noncomputable def f_F_thing (x1 : Int32) (x2 : Int32) (m : jx_Mem) : Option (Int32 × jx_Mem) := jx_K jx_kI 188 0 0 [(0, .ref 0), (1, .int x1), (2, .int x2)] [] m
noncomputable def f_F_wind (x1 : Int32) (m : jx_Mem) : Option (Int32 × jx_Mem) := jx_K jx_kI 189 0 0 [(0, .ref 0), (1, .int x1)] [] m
noncomputable def f_F_rounds (x1 : Int32) (m : jx_Mem) : Option (Int32 × jx_Mem) := jx_K jx_kI 190 0 0 [(0, .ref 0), (1, .int x1)] [] m
noncomputable def f_F_settles  (m : jx_Mem) : Option (Int32 × jx_Mem) := jx_K jx_kI 191 0 0 [(0, .ref 0)] [] m
noncomputable def f_F_buy (x1 : Int32) (x2 : Int32) (m : jx_Mem) : Option (Int32 × jx_Mem) := jx_K jx_kI 192 0 0 [(0, .ref 0), (1, .int x1), (2, .int x2)] [] m
noncomputable def f_F_undo  (m : jx_Mem) : Option (Int32 × jx_Mem) := jx_K jx_kI 193 0 0 [(0, .ref 0)] [] m
noncomputable def f_F_counted (x1 : Int32) (x2 : Int32) (x3 : Int32) (m : jx_Mem) : Option (Int32 × jx_Mem) := jx_K jx_kI 194 0 0 [(0, .ref 0), (1, .int x1), (2, .int x2), (3, .int x3)] [] m
noncomputable def f_F_been (x1 : Int32) (x2 : Int32) (x3 : Int32) (x4 : Int32) (m : jx_Mem) : Option (Int32 × jx_Mem) := jx_K jx_kI 195 0 0 [(0, .ref 0), (1, .int x1), (2, .int x2), (3, .int x3), (4, .int x4)] [] m
noncomputable def f_F_missing (x1 : Int32) (m : jx_Mem) : Option (Int32 × jx_Mem) := jx_K jx_kI 196 0 0 [(0, .ref 0), (1, .int x1)] [] m
noncomputable def f_F_suspects (x1 : Int32) (x2 : Int32) (m : jx_Mem) : Option (Int32 × jx_Mem) := jx_K jx_kI 197 0 0 [(0, .ref 0), (1, .int x1), (2, .int x2)] [] m
noncomputable def f_F_gang  (m : jx_Mem) : Option (Int32 × jx_Mem) := jx_K jx_kI 198 0 0 [(0, .ref 0)] [] m
noncomputable def f_F_clink (x1 : Int32) (x2 : Int32) (x3 : Int32) (m : jx_Mem) : Option (Int32 × jx_Mem) := jx_K jx_kI 199 0 0 [(0, .ref 0), (1, .int x1), (2, .int x2), (3, .int x3)] [] m
noncomputable def f_F_hands  (m : jx_Mem) : Option (Int32 × jx_Mem) := jx_K jx_kI 200 0 0 [(0, .ref 0)] [] m
noncomputable def f_F_loud (x1 : Int32) (m : jx_Mem) : Option (Int32 × jx_Mem) := jx_K jx_kI 201 0 0 [(0, .ref 0), (1, .int x1)] [] m
noncomputable def f_F_loudest  (m : jx_Mem) : Option (Int32 × jx_Mem) := jx_K jx_kI 202 0 0 [(0, .ref 0)] [] m
noncomputable def f_F_heard (x1 : Int32) (x2 : Int32) (m : jx_Mem) : Option (Int32 × jx_Mem) := jx_K jx_kI 203 0 0 [(0, .ref 0), (1, .int x1), (2, .int x2)] [] m
noncomputable def f_F_crowds (x1 : Int32) (x2 : Int32) (m : jx_Mem) : Option (Int32 × jx_Mem) := jx_K jx_kI 204 0 0 [(0, .ref 0), (1, .int x1), (2, .int x2)] [] m
noncomputable def f_F_gas (x1 : Int32) (x2 : Int32) (m : jx_Mem) : Option (Int32 × jx_Mem) := jx_K jx_kI 205 0 0 [(0, .ref 0), (1, .int x1), (2, .int x2)] [] m
noncomputable def f_F_lasts  (m : jx_Mem) : Option (Int32 × jx_Mem) := jx_K jx_kI 206 0 0 [(0, .ref 0)] [] m
noncomputable def f_F_leave  (m : jx_Mem) : Option (Int32 × jx_Mem) := jx_K jx_kI 207 0 0 [(0, .ref 0)] [] m
noncomputable def f_F_ear (x1 : Int32) (x2 : Int32) (m : jx_Mem) : Option (Int32 × jx_Mem) := jx_K jx_kI 208 0 0 [(0, .ref 0), (1, .int x1), (2, .int x2)] [] m
noncomputable def f_F_sound (x1 : Int32) (x2 : Int32) (m : jx_Mem) : Option (Int32 × jx_Mem) := jx_K jx_kI 209 0 0 [(0, .ref 0), (1, .int x1), (2, .int x2)] [] m
noncomputable def f_F_judge (x1 : Int32) (x2 : Int32) (x3 : Int32) (m : jx_Mem) : Option (Int32 × jx_Mem) := jx_K jx_kI 210 0 0 [(0, .ref 0), (1, .int x1), (2, .int x2), (3, .int x3)] [] m
noncomputable def f_F_who (x1 : Int32) (x2 : Int32) (x3 : Int32) (m : jx_Mem) : Option (Int32 × jx_Mem) := jx_K jx_kI 211 0 0 [(0, .ref 0), (1, .int x1), (2, .int x2), (3, .int x3)] [] m
noncomputable def f_F_lamp (x1 : Int32) (m : jx_Mem) : Option (Int32 × jx_Mem) := jx_K jx_kI 212 0 0 [(0, .ref 0), (1, .int x1)] [] m
noncomputable def f_F_count (x1 : Int32) (m : jx_Mem) : Option (Int32 × jx_Mem) := jx_K jx_kI 213 0 0 [(0, .ref 0), (1, .int x1)] [] m
noncomputable def f_F_row (x1 : Int32) (m : jx_Mem) : Option (Int64 × jx_Mem) := jx_K jx_kL 214 0 0 [(0, .ref 0), (1, .int x1)] [] m
noncomputable def f_M_thrown  (m : jx_Mem) : Option (Int32 × jx_Mem) := jx_K jx_kI 217 0 0 [(0, .ref 12)] [] m
noncomputable def f_M_tunnel (x1 : Int32) (x2 : Int32) (x3 : Int32) (m : jx_Mem) : Option (Int32 × jx_Mem) := jx_K jx_kI 229 0 0 [(0, .ref 12), (1, .int x1), (2, .int x2), (3, .int x3)] [] m
noncomputable def f_M_wall (x1 : Int32) (x2 : Int32) (m : jx_Mem) : Option (Int32 × jx_Mem) := jx_K jx_kI 230 0 0 [(0, .ref 12), (1, .int x1), (2, .int x2)] [] m
noncomputable def f_M_far (x1 : Int32) (x2 : Int32) (m : jx_Mem) : Option (Int32 × jx_Mem) := jx_K jx_kI 231 0 0 [(0, .ref 12), (1, .int x1), (2, .int x2)] [] m
noncomputable def f_M_person (x1 : Int32) (x2 : Int32) (x3 : Int32) (m : jx_Mem) : Option (Int32 × jx_Mem) := jx_K jx_kI 232 0 0 [(0, .ref 12), (1, .int x1), (2, .int x2), (3, .int x3)] [] m
noncomputable def f_M_walk (x1 : Int32) (x2 : Int32) (m : jx_Mem) : Option (Int32 × jx_Mem) := jx_K jx_kI 233 0 0 [(0, .ref 12), (1, .int x1), (2, .int x2)] [] m
noncomputable def f_M_of (x1 : Int32) (x2 : Int32) (m : jx_Mem) : Option (Int32 × jx_Mem) := jx_K jx_kI 234 0 0 [(0, .ref 12), (1, .int x1), (2, .int x2)] [] m
noncomputable def f_M_good (x1 : Int32) (m : jx_Mem) : Option (Int32 × jx_Mem) := jx_K jx_kI 239 0 0 [(0, .ref 12), (1, .int x1)] [] m
noncomputable def f_M_test (x1 : Int32) (m : jx_Mem) : Option (Int32 × jx_Mem) := jx_K jx_kI 240 0 0 [(0, .ref 12), (1, .int x1)] [] m
noncomputable def f_M_answer (x1 : Int32) (x2 : Int32) (x3 : Int32) (m : jx_Mem) : Option (Int32 × jx_Mem) := jx_K jx_kI 242 0 0 [(0, .ref 12), (1, .int x1), (2, .int x2), (3, .int x3)] [] m
noncomputable def f_M_sheet (x1 : Int32) (x2 : Int32) (x3 : Int32) (x4 : Int32) (x5 : Int32) (m : jx_Mem) : Option (Int32 × jx_Mem) := jx_K jx_kI 243 0 0 [(0, .ref 12), (1, .int x1), (2, .int x2), (3, .int x3), (4, .int x4), (5, .int x5)] [] m
noncomputable def f_M_apart (x1 : Int32) (x2 : Int32) (m : jx_Mem) : Option (Int32 × jx_Mem) := jx_K jx_kI 245 0 0 [(0, .ref 12), (1, .int x1), (2, .int x2)] [] m
noncomputable def f_M_sure (x1 : Int32) (x2 : Int32) (m : jx_Mem) : Option (Int32 × jx_Mem) := jx_K jx_kI 248 0 0 [(0, .ref 12), (1, .int x1), (2, .int x2)] [] m
noncomputable def f_M_keep (x1 : Int32) (m : jx_Mem) : Option (Int32 × jx_Mem) := jx_K jx_kI 251 0 0 [(0, .ref 12), (1, .int x1)] [] m
noncomputable def f_M_ban (x1 : Int32) (x2 : Int32) (m : jx_Mem) : Option (Int32 × jx_Mem) := jx_K jx_kI 252 0 0 [(0, .ref 12), (1, .int x1), (2, .int x2)] [] m
noncomputable def f_M_tree (x1 : Int32) (m : jx_Mem) : Option (Int32 × jx_Mem) := jx_K jx_kI 256 0 0 [(0, .ref 12), (1, .int x1)] [] m
noncomputable def f_M_copper (x1 : Int32) (x2 : Int32) (m : jx_Mem) : Option (Int32 × jx_Mem) := jx_K jx_kI 258 0 0 [(0, .ref 12), (1, .int x1), (2, .int x2)] [] m
noncomputable def f_M_asks (x1 : Int32) (x2 : Int32) (m : jx_Mem) : Option (Int32 × jx_Mem) := jx_K jx_kI 259 0 0 [(0, .ref 12), (1, .int x1), (2, .int x2)] [] m
noncomputable def f_M_sign (x1 : Int32) (m : jx_Mem) : Option (Int32 × jx_Mem) := jx_K jx_kI 260 0 0 [(0, .ref 12), (1, .int x1)] [] m
noncomputable def f_M_end (x1 : Int32) (m : jx_Mem) : Option (Int32 × jx_Mem) := jx_K jx_kI 261 0 0 [(0, .ref 12), (1, .int x1)] [] m
noncomputable def f_M_rule  (m : jx_Mem) : Option (Int32 × jx_Mem) := jx_K jx_kI 268 0 0 [(0, .ref 12)] [] m
noncomputable def f_M_first (x1 : Int32) (x2 : Int32) (m : jx_Mem) : Option (Int32 × jx_Mem) := jx_K jx_kI 273 0 0 [(0, .ref 12), (1, .int x1), (2, .int x2)] [] m
noncomputable def f_M_order  (m : jx_Mem) : Option (Int32 × jx_Mem) := jx_K jx_kI 274 0 0 [(0, .ref 12)] [] m
noncomputable def f_M_want (x1 : Int32) (x2 : Int32) (x3 : Int32) (m : jx_Mem) : Option (Int32 × jx_Mem) := jx_K jx_kI 276 0 0 [(0, .ref 12), (1, .int x1), (2, .int x2), (3, .int x3)] [] m
noncomputable def f_M_item (x1 : Int32) (x2 : Int32) (x3 : Int32) (m : jx_Mem) : Option (Int32 × jx_Mem) := jx_K jx_kI 277 0 0 [(0, .ref 12), (1, .int x1), (2, .int x2), (3, .int x3)] [] m
noncomputable def f_M_thing_II (x1 : Int32) (x2 : Int32) (m : jx_Mem) : Option (Int32 × jx_Mem) := jx_K jx_kI 278 0 0 [(0, .ref 12), (1, .int x1), (2, .int x2)] [] m
noncomputable def f_M_wind (x1 : Int32) (m : jx_Mem) : Option (Int32 × jx_Mem) := jx_K jx_kI 279 0 0 [(0, .ref 12), (1, .int x1)] [] m
noncomputable def f_M_rounds (x1 : Int32) (m : jx_Mem) : Option (Int32 × jx_Mem) := jx_K jx_kI 283 0 0 [(0, .ref 12), (1, .int x1)] [] m
noncomputable def f_M_settles  (m : jx_Mem) : Option (Int32 × jx_Mem) := jx_K jx_kI 287 0 0 [(0, .ref 12)] [] m
noncomputable def f_M_buy (x1 : Int32) (x2 : Int32) (m : jx_Mem) : Option (Int32 × jx_Mem) := jx_K jx_kI 288 0 0 [(0, .ref 12), (1, .int x1), (2, .int x2)] [] m
noncomputable def f_M_undo  (m : jx_Mem) : Option (Int32 × jx_Mem) := jx_K jx_kI 289 0 0 [(0, .ref 12)] [] m
noncomputable def f_M_counted (x1 : Int32) (x2 : Int32) (x3 : Int32) (m : jx_Mem) : Option (Int32 × jx_Mem) := jx_K jx_kI 291 0 0 [(0, .ref 12), (1, .int x1), (2, .int x2), (3, .int x3)] [] m
noncomputable def f_M_been (x1 : Int32) (x2 : Int32) (x3 : Int32) (x4 : Int32) (m : jx_Mem) : Option (Int32 × jx_Mem) := jx_K jx_kI 292 0 0 [(0, .ref 12), (1, .int x1), (2, .int x2), (3, .int x3), (4, .int x4)] [] m
noncomputable def f_M_missing (x1 : Int32) (m : jx_Mem) : Option (Int32 × jx_Mem) := jx_K jx_kI 294 0 0 [(0, .ref 12), (1, .int x1)] [] m
noncomputable def f_M_suspects (x1 : Int32) (x2 : Int32) (m : jx_Mem) : Option (Int32 × jx_Mem) := jx_K jx_kI 296 0 0 [(0, .ref 12), (1, .int x1), (2, .int x2)] [] m
noncomputable def f_M_gang  (m : jx_Mem) : Option (Int32 × jx_Mem) := jx_K jx_kI 298 0 0 [(0, .ref 12)] [] m
noncomputable def f_M_clink (x1 : Int32) (x2 : Int32) (x3 : Int32) (m : jx_Mem) : Option (Int32 × jx_Mem) := jx_K jx_kI 299 0 0 [(0, .ref 12), (1, .int x1), (2, .int x2), (3, .int x3)] [] m
noncomputable def f_M_hands  (m : jx_Mem) : Option (Int32 × jx_Mem) := jx_K jx_kI 301 0 0 [(0, .ref 12)] [] m
noncomputable def f_M_loud (x1 : Int32) (m : jx_Mem) : Option (Int32 × jx_Mem) := jx_K jx_kI 304 0 0 [(0, .ref 12), (1, .int x1)] [] m
noncomputable def f_M_loudest  (m : jx_Mem) : Option (Int32 × jx_Mem) := jx_K jx_kI 305 0 0 [(0, .ref 12)] [] m
noncomputable def f_M_heard (x1 : Int32) (x2 : Int32) (m : jx_Mem) : Option (Int32 × jx_Mem) := jx_K jx_kI 306 0 0 [(0, .ref 12), (1, .int x1), (2, .int x2)] [] m
noncomputable def f_M_crowds (x1 : Int32) (x2 : Int32) (m : jx_Mem) : Option (Int32 × jx_Mem) := jx_K jx_kI 308 0 0 [(0, .ref 12), (1, .int x1), (2, .int x2)] [] m
noncomputable def f_M_gas (x1 : Int32) (x2 : Int32) (m : jx_Mem) : Option (Int32 × jx_Mem) := jx_K jx_kI 309 0 0 [(0, .ref 12), (1, .int x1), (2, .int x2)] [] m
noncomputable def f_M_lasts  (m : jx_Mem) : Option (Int32 × jx_Mem) := jx_K jx_kI 311 0 0 [(0, .ref 12)] [] m
noncomputable def f_M_leave  (m : jx_Mem) : Option (Int32 × jx_Mem) := jx_K jx_kI 312 0 0 [(0, .ref 12)] [] m
noncomputable def f_M_ear (x1 : Int32) (x2 : Int32) (m : jx_Mem) : Option (Int32 × jx_Mem) := jx_K jx_kI 313 0 0 [(0, .ref 12), (1, .int x1), (2, .int x2)] [] m
noncomputable def f_M_sound (x1 : Int32) (x2 : Int32) (m : jx_Mem) : Option (Int32 × jx_Mem) := jx_K jx_kI 318 0 0 [(0, .ref 12), (1, .int x1), (2, .int x2)] [] m
noncomputable def f_M_judge (x1 : Int32) (x2 : Int32) (x3 : Int32) (m : jx_Mem) : Option (Int32 × jx_Mem) := jx_K jx_kI 319 0 0 [(0, .ref 12), (1, .int x1), (2, .int x2), (3, .int x3)] [] m
noncomputable def f_M_who (x1 : Int32) (x2 : Int32) (x3 : Int32) (m : jx_Mem) : Option (Int32 × jx_Mem) := jx_K jx_kI 320 0 0 [(0, .ref 12), (1, .int x1), (2, .int x2), (3, .int x3)] [] m
noncomputable def f_M_lamp (x1 : Int32) (m : jx_Mem) : Option (Int32 × jx_Mem) := jx_K jx_kI 321 0 0 [(0, .ref 12), (1, .int x1)] [] m
noncomputable def f_M_count (x1 : Int32) (m : jx_Mem) : Option (Int32 × jx_Mem) := jx_K jx_kI 324 0 0 [(0, .ref 12), (1, .int x1)] [] m
noncomputable def f_M_row (x1 : Int32) (m : jx_Mem) : Option (Int64 × jx_Mem) := jx_K jx_kL 325 0 0 [(0, .ref 12), (1, .int x1)] [] m
noncomputable def f_Mine_addTunnel (x1 : Int32) (x2 : Int32) (x3 : Int32) (m : jx_Mem) : Option (Int32 × jx_Mem) := jx_K jx_kI 19 0 0 [(0, .ref 2), (1, .int x1), (2, .int x2), (3, .int x3)] [] m
noncomputable def f_Mine_setWall (x1 : Int32) (x2 : Int32) (m : jx_Mem) : Option (Int32 × jx_Mem) := jx_K jx_kI 22 0 0 [(0, .ref 2), (1, .int x1), (2, .int x2)] [] m
noncomputable def f_Mine_isPlace (x1 : Int32) (m : jx_Mem) : Option (Int32 × jx_Mem) := jx_K jx_kI 15 0 0 [(0, .ref 2), (1, .int x1)] [] m
noncomputable def f_F_far_34  (m : jx_Mem) : Option (Int32 × jx_Mem) := jx_K jx_kI 166 0 34 [] [] m
noncomputable def f_Mine_distance (x1 : Int32) (x2 : Int32) (m : jx_Mem) : Option (Int32 × jx_Mem) := jx_K jx_kI 20 0 0 [(0, .ref 2), (1, .int x1), (2, .int x2)] [] m
noncomputable def f_F_far_35 (y0 : Int32) (m : jx_Mem) : Option (Int32 × jx_Mem) := jx_K jx_kI 166 0 35 [] [.int y0] m
noncomputable def f_Mine_addPerson (x1 : Int32) (x2 : Int32) (x3 : Int32) (m : jx_Mem) : Option (Int32 × jx_Mem) := jx_K jx_kI 24 0 0 [(0, .ref 2), (1, .int x1), (2, .int x2), (3, .int x3)] [] m
noncomputable def f_Mine_move (x1 : Int32) (x2 : Int32) (m : jx_Mem) : Option (Int32 × jx_Mem) := jx_K jx_kI 25 0 0 [(0, .ref 2), (1, .int x1), (2, .int x2)] [] m
noncomputable def f_Mine_isPerson (x1 : Int32) (m : jx_Mem) : Option (Int32 × jx_Mem) := jx_K jx_kI 16 0 0 [(0, .ref 2), (1, .int x1)] [] m
noncomputable def f_F_of_20  (m : jx_Mem) : Option (Int32 × jx_Mem) := jx_K jx_kI 169 0 20 [] [] m
noncomputable def f_F_within (x0 : Int32) (x1 : Int32) (x2 : Int32) (m : jx_Mem) : Option (Int32 × jx_Mem) := jx_K jx_kI 215 0 0 [(0, .int x0), (1, .int x1), (2, .int x2)] [] m
noncomputable def f_Mine_loadOf (x1 : Int32) (m : jx_Mem) : Option (Int32 × jx_Mem) := jx_K jx_kI 29 0 0 [(0, .ref 2), (1, .int x1)] [] m
noncomputable def f_F_of_65 (y0 : Int32) (m : jx_Mem) : Option (Int32 × jx_Mem) := jx_K jx_kI 169 0 65 [] [.int y0] m
noncomputable def f_Mine_purseOf (x1 : Int32) (m : jx_Mem) : Option (Int32 × jx_Mem) := jx_K jx_kI 27 0 0 [(0, .ref 2), (1, .int x1)] [] m
noncomputable def f_Mine_placeOf (x1 : Int32) (m : jx_Mem) : Option (Int32 × jx_Mem) := jx_K jx_kI 26 0 0 [(0, .ref 2), (1, .int x1)] [] m
noncomputable def f_Goods_addGood (x1 : Int32) (m : jx_Mem) : Option (Int32 × jx_Mem) := jx_K jx_kI 41 0 0 [(0, .ref 3), (1, .int x1)] [] m
noncomputable def f_Goods_addTest (x1 : Int32) (m : jx_Mem) : Option (Int32 × jx_Mem) := jx_K jx_kI 42 0 0 [(0, .ref 3), (1, .int x1)] [] m
noncomputable def f_Goods_setAnswer (x1 : Int32) (x2 : Int32) (x3 : Int32) (m : jx_Mem) : Option (Int32 × jx_Mem) := jx_K jx_kI 45 0 0 [(0, .ref 3), (1, .int x1), (2, .int x2), (3, .int x3)] [] m
noncomputable def f_Goods_readSheet (x1 : Int32) (x2 : Int32) (x3 : Int32) (x4 : Int32) (x5 : Int32) (m : jx_Mem) : Option (Int32 × jx_Mem) := jx_K jx_kI 46 0 0 [(0, .ref 3), (1, .int x1), (2, .int x2), (3, .int x3), (4, .int x4), (5, .int x5)] [] m
noncomputable def f_Goods_isGood (x1 : Int32) (m : jx_Mem) : Option (Int32 × jx_Mem) := jx_K jx_kI 37 0 0 [(0, .ref 3), (1, .int x1)] [] m
noncomputable def f_F_apart_34  (m : jx_Mem) : Option (Int32 × jx_Mem) := jx_K jx_kI 174 0 34 [] [] m
noncomputable def f_Goods_unlike (x1 : Int32) (x2 : Int32) (m : jx_Mem) : Option (Int32 × jx_Mem) := jx_K jx_kI 48 0 0 [(0, .ref 3), (1, .int x1), (2, .int x2)] [] m
noncomputable def f_F_apart_35 (y0 : Int32) (m : jx_Mem) : Option (Int32 × jx_Mem) := jx_K jx_kI 174 0 35 [] [.int y0] m
noncomputable def f_Goods_areGoods (x1 : Int32) (m : jx_Mem) : Option (Int32 × jx_Mem) := jx_K jx_kI 39 0 0 [(0, .ref 3), (1, .int x1)] [] m
noncomputable def f_F_sure_22  (m : jx_Mem) : Option (Int32 × jx_Mem) := jx_K jx_kI 175 0 22 [] [] m
noncomputable def f_Goods_areTests (x1 : Int32) (m : jx_Mem) : Option (Int32 × jx_Mem) := jx_K jx_kI 40 0 0 [(0, .ref 3), (1, .int x1)] [] m
noncomputable def f_Goods_toldBy (x1 : Int32) (x2 : Int32) (m : jx_Mem) : Option (Int32 × jx_Mem) := jx_K jx_kI 53 0 0 [(0, .ref 3), (1, .int x1), (2, .int x2)] [] m
noncomputable def f_Row_tell_J (x1 : Int64) (m : jx_Mem) : Option jx_Mem := jx_K jx_kV 8 0 0 [(0, .ref 1), (1, .long x1)] [] m
noncomputable def f_Int_bitCount (x0 : Int32) (m : jx_Mem) : Option (Int32 × jx_Mem) := jx_K jx_kI 3 0 0 [(0, .int x0)] [] m
noncomputable def f_Goods_fewestTests (x1 : Int32) (m : jx_Mem) : Option (Int32 × jx_Mem) := jx_K jx_kI 54 0 0 [(0, .ref 3), (1, .int x1)] [] m
noncomputable def f_F_ban_22  (m : jx_Mem) : Option (Int32 × jx_Mem) := jx_K jx_kI 177 0 22 [] [] m
noncomputable def f_Goods_toBan (x1 : Int32) (x2 : Int32) (m : jx_Mem) : Option (Int32 × jx_Mem) := jx_K jx_kI 57 0 0 [(0, .ref 3), (1, .int x1), (2, .int x2)] [] m
noncomputable def f_Tree_grow (x1 : Int32) (m : jx_Mem) : Option (Int32 × jx_Mem) := jx_K jx_kI 59 0 0 [(0, .ref 4), (1, .int x1)] [] m
noncomputable def f_Tree_firstTest (x1 : Int32) (m : jx_Mem) : Option (Int32 × jx_Mem) := jx_K jx_kI 63 0 0 [(0, .ref 4), (1, .int x1)] [] m
noncomputable def f_Tree_dearest (x1 : Int32) (m : jx_Mem) : Option (Int32 × jx_Mem) := jx_K jx_kI 64 0 0 [(0, .ref 4), (1, .int x1)] [] m
noncomputable def f_Row_tell_JJ (x1 : Int64) (x3 : Int64) (m : jx_Mem) : Option jx_Mem := jx_K jx_kV 9 0 0 [(0, .ref 1), (1, .long x1), (3, .long x3)] [] m
noncomputable def f_F_copper_21  (m : jx_Mem) : Option (Int32 × jx_Mem) := jx_K jx_kI 179 0 21 [] [] m
noncomputable def f_Tree_toldWithin (x1 : Int32) (x2 : Int32) (m : jx_Mem) : Option (Int32 × jx_Mem) := jx_K jx_kI 67 0 0 [(0, .ref 4), (1, .int x1), (2, .int x2)] [] m
noncomputable def f_F_asks_30  (m : jx_Mem) : Option (Int32 × jx_Mem) := jx_K jx_kI 180 0 30 [] [] m
noncomputable def f_F_has (x0 : Int32) (x1 : Int32) (m : jx_Mem) : Option (Int32 × jx_Mem) := jx_K jx_kI 216 0 0 [(0, .int x0), (1, .int x1)] [] m
noncomputable def f_Tree_tellPath (x1 : Int32) (x2 : Int32) (m : jx_Mem) : Option (Int32 × jx_Mem) := jx_K jx_kI 66 0 0 [(0, .ref 4), (1, .int x1), (2, .int x2), (3, .ref 1)] [] m
noncomputable def f_Rule_append (x1 : Int32) (m : jx_Mem) : Option (Int32 × jx_Mem) := jx_K jx_kI 72 0 0 [(0, .ref 5), (1, .int x1)] [] m
noncomputable def f_Rule_cut (x1 : Int32) (m : jx_Mem) : Option (Int32 × jx_Mem) := jx_K jx_kI 73 0 0 [(0, .ref 5), (1, .int x1)] [] m
noncomputable def f_Rule_read  (m : jx_Mem) : Option (Int32 × jx_Mem) := jx_K jx_kI 74 0 0 [(0, .ref 5)] [] m
noncomputable def f_F_first_27  (m : jx_Mem) : Option (Int32 × jx_Mem) := jx_K jx_kI 184 0 27 [] [] m
noncomputable def f_Rule_valueFor (x1 : Int32) (m : jx_Mem) : Option (Int32 × jx_Mem) := jx_K jx_kI 88 0 0 [(0, .ref 5), (1, .int x1)] [] m
noncomputable def f_F_first_83 (y0 : Int32) (m : jx_Mem) : Option (Int32 × jx_Mem) := jx_K jx_kI 184 0 83 [] [.int y0] m
noncomputable def f_Math_min (x0 : Int32) (x1 : Int32) (m : jx_Mem) : Option (Int32 × jx_Mem) := jx_K jx_kI 2 0 0 [(0, .int x0), (1, .int x1)] [] m
noncomputable def f_Rule_tellOrder  (m : jx_Mem) : Option (Int32 × jx_Mem) := jx_K jx_kI 93 0 0 [(0, .ref 5), (1, .ref 1)] [] m
noncomputable def f_F_want_32  (m : jx_Mem) : Option (Int32 × jx_Mem) := jx_K jx_kI 186 0 32 [] [] m
noncomputable def f_Asking_setWants (x1 : Int32) (x2 : Int32) (x3 : Int32) (m : jx_Mem) : Option (Int32 × jx_Mem) := jx_K jx_kI 108 0 0 [(0, .ref 7), (1, .int x1), (2, .int x2), (3, .int x3)] [] m
noncomputable def f_F_item_32  (m : jx_Mem) : Option (Int32 × jx_Mem) := jx_K jx_kI 187 0 32 [] [] m
noncomputable def f_Items_addItem (x1 : Int32) (x2 : Int32) (m : jx_Mem) : Option (Int32 × jx_Mem) := jx_K jx_kI 103 0 0 [(0, .ref 6), (1, .int x1), (2, .int x2)] [] m
noncomputable def f_F_item_61 (x4 : Int32) (m : jx_Mem) : Option (Int32 × jx_Mem) := jx_K jx_kI 187 0 61 [(4, .int x4)] [] m
noncomputable def f_Asking_startPrice (x1 : Int32) (x2 : Int32) (m : jx_Mem) : Option jx_Mem := jx_K jx_kV 111 0 0 [(0, .ref 7), (1, .int x1), (2, .int x2)] [] m
noncomputable def f_Items_isItem (x1 : Int32) (m : jx_Mem) : Option (Int32 × jx_Mem) := jx_K jx_kI 99 0 0 [(0, .ref 6), (1, .int x1)] [] m
noncomputable def f_F_thing_20  (m : jx_Mem) : Option (Int32 × jx_Mem) := jx_K jx_kI 188 0 20 [] [] m
noncomputable def f_Items_isSold (x1 : Int32) (m : jx_Mem) : Option (Int32 × jx_Mem) := jx_K jx_kI 100 0 0 [(0, .ref 6), (1, .int x1)] [] m
noncomputable def f_F_thing_85 (y0 : Int32) (m : jx_Mem) : Option (Int32 × jx_Mem) := jx_K jx_kI 188 0 85 [] [.int y0] m
noncomputable def f_Asking_priceOf (x1 : Int32) (m : jx_Mem) : Option (Int32 × jx_Mem) := jx_K jx_kI 112 0 0 [(0, .ref 7), (1, .int x1)] [] m
noncomputable def f_Items_ownerOf (x1 : Int32) (m : jx_Mem) : Option (Int32 × jx_Mem) := jx_K jx_kI 102 0 0 [(0, .ref 6), (1, .int x1)] [] m
noncomputable def f_Items_goodOf (x1 : Int32) (m : jx_Mem) : Option (Int32 × jx_Mem) := jx_K jx_kI 101 0 0 [(0, .ref 6), (1, .int x1)] [] m
noncomputable def f_Asking_setWind (x1 : Int32) (m : jx_Mem) : Option (Int32 × jx_Mem) := jx_K jx_kI 110 0 0 [(0, .ref 7), (1, .int x1)] [] m
noncomputable def f_Asking_askOn (x1 : Int32) (m : jx_Mem) : Option (Int32 × jx_Mem) := jx_K jx_kI 113 0 0 [(0, .ref 7), (1, .int x1)] [] m
noncomputable def f_Asking_tellAskers  (m : jx_Mem) : Option jx_Mem := jx_K jx_kV 114 0 0 [(0, .ref 7), (1, .ref 1)] [] m
noncomputable def f_Asking_foresee  (m : jx_Mem) : Option (Int32 × jx_Mem) := jx_K jx_kI 115 0 0 [(0, .ref 7)] [] m
noncomputable def f_Items_sell (x1 : Int32) (x2 : Int32) (x3 : Int32) (m : jx_Mem) : Option (Int32 × jx_Mem) := jx_K jx_kI 105 0 0 [(0, .ref 6), (1, .int x1), (2, .int x2), (3, .int x3)] [] m
noncomputable def f_Items_takeBack  (m : jx_Mem) : Option (Int32 × jx_Mem) := jx_K jx_kI 107 0 0 [(0, .ref 6)] [] m
noncomputable def f_Watch_addCount (x1 : Int32) (x2 : Int32) (x3 : Int32) (m : jx_Mem) : Option (Int32 × jx_Mem) := jx_K jx_kI 124 0 0 [(0, .ref 8), (1, .int x1), (2, .int x2), (3, .int x3)] [] m
noncomputable def f_Watch_addStay (x1 : Int32) (x2 : Int32) (x3 : Int32) (x4 : Int32) (m : jx_Mem) : Option (Int32 × jx_Mem) := jx_K jx_kI 125 0 0 [(0, .ref 8), (1, .int x1), (2, .int x2), (3, .int x3), (4, .int x4)] [] m
noncomputable def f_F_missing_27 (y0 : Int32) (m : jx_Mem) : Option (Int32 × jx_Mem) := jx_K jx_kI 196 0 27 [] [.int y0] m
noncomputable def f_Watch_tellThefts (x1 : Int32) (m : jx_Mem) : Option (Int32 × jx_Mem) := jx_K jx_kI 129 0 0 [(0, .ref 8), (1, .int x1), (2, .ref 1)] [] m
noncomputable def f_F_suspects_27  (m : jx_Mem) : Option (Int32 × jx_Mem) := jx_K jx_kI 197 0 27 [] [] m
noncomputable def f_Watch_suspectsOf (x1 : Int32) (x2 : Int32) (m : jx_Mem) : Option (Int32 × jx_Mem) := jx_K jx_kI 130 0 0 [(0, .ref 8), (1, .int x1), (2, .int x2)] [] m
noncomputable def f_F_suspects_28 (y0 : Int32) (m : jx_Mem) : Option (Int32 × jx_Mem) := jx_K jx_kI 197 0 28 [] [.int y0] m
noncomputable def f_Watch_smallestGang  (m : jx_Mem) : Option (Int32 × jx_Mem) := jx_K jx_kI 133 0 0 [(0, .ref 8)] [] m
noncomputable def f_Watch_addClink (x1 : Int32) (x2 : Int32) (x3 : Int32) (m : jx_Mem) : Option (Int32 × jx_Mem) := jx_K jx_kI 126 0 0 [(0, .ref 8), (1, .int x1), (2, .int x2), (3, .int x3)] [] m
noncomputable def f_Watch_tellHands  (m : jx_Mem) : Option (Int32 × jx_Mem) := jx_K jx_kI 135 0 0 [(0, .ref 8), (1, .ref 1)] [] m
noncomputable def f_F_loud_23 (y0 : Int32) (m : jx_Mem) : Option (Int32 × jx_Mem) := jx_K jx_kI 201 0 23 [] [.int y0] m
noncomputable def f_Noise_loudAt (x1 : Int32) (m : jx_Mem) : Option (Int32 × jx_Mem) := jx_K jx_kI 142 0 0 [(0, .ref 9), (1, .int x1)] [] m
noncomputable def f_Noise_tellLoudest  (m : jx_Mem) : Option (Int32 × jx_Mem) := jx_K jx_kI 143 0 0 [(0, .ref 9), (1, .ref 1)] [] m
noncomputable def f_Noise_addHeard (x1 : Int32) (x2 : Int32) (m : jx_Mem) : Option (Int32 × jx_Mem) := jx_K jx_kI 144 0 0 [(0, .ref 9), (1, .int x1), (2, .int x2)] [] m
noncomputable def f_F_crowds_20  (m : jx_Mem) : Option (Int32 × jx_Mem) := jx_K jx_kI 204 0 20 [] [] m
noncomputable def f_Noise_tellCrowds (x1 : Int32) (x2 : Int32) (m : jx_Mem) : Option (Int32 × jx_Mem) := jx_K jx_kI 145 0 0 [(0, .ref 9), (1, .int x1), (2, .int x2), (3, .ref 1)] [] m
noncomputable def f_Air_set (x1 : Int32) (x2 : Int32) (m : jx_Mem) : Option (Int32 × jx_Mem) := jx_K jx_kI 151 0 0 [(0, .ref 10), (1, .int x1), (2, .int x2)] [] m
noncomputable def f_Air_stay  (m : jx_Mem) : Option (Int32 × jx_Mem) := jx_K jx_kI 153 0 0 [(0, .ref 10)] [] m
noncomputable def f_Air_tellLeaving  (m : jx_Mem) : Option (Int32 × jx_Mem) := jx_K jx_kI 154 0 0 [(0, .ref 10), (1, .ref 1)] [] m
noncomputable def f_Ears_setChance (x1 : Int32) (x2 : Int32) (m : jx_Mem) : Option (Int32 × jx_Mem) := jx_K jx_kI 156 0 0 [(0, .ref 11), (1, .int x1), (2, .int x2)] [] m
noncomputable def f_Ears_tellSound (x1 : Int32) (x2 : Int32) (m : jx_Mem) : Option (Int32 × jx_Mem) := jx_K jx_kI 158 0 0 [(0, .ref 11), (1, .int x1), (2, .int x2), (3, .ref 1)] [] m
noncomputable def f_F_judge_23  (m : jx_Mem) : Option (Int32 × jx_Mem) := jx_K jx_kI 210 0 23 [] [] m
noncomputable def f_Ears_canHear (x1 : Int32) (x2 : Int32) (m : jx_Mem) : Option (Int32 × jx_Mem) := jx_K jx_kI 157 0 0 [(0, .ref 11), (1, .int x1), (2, .int x2)] [] m
noncomputable def f_Ears_tellPlace (x1 : Int32) (x2 : Int32) (x3 : Int32) (m : jx_Mem) : Option (Int32 × jx_Mem) := jx_K jx_kI 161 0 0 [(0, .ref 11), (1, .int x1), (2, .int x2), (3, .int x3), (4, .ref 1)] [] m
noncomputable def f_F_who_23  (m : jx_Mem) : Option (Int32 × jx_Mem) := jx_K jx_kI 211 0 23 [] [] m
noncomputable def f_Ears_tellClapper (x1 : Int32) (x2 : Int32) (x3 : Int32) (m : jx_Mem) : Option (Int32 × jx_Mem) := jx_K jx_kI 162 0 0 [(0, .ref 11), (1, .int x1), (2, .int x2), (3, .int x3), (4, .ref 1)] [] m
noncomputable def f_Air_burns  (m : jx_Mem) : Option (Int32 × jx_Mem) := jx_K jx_kI 152 0 0 [(0, .ref 10)] [] m
noncomputable def f_Mine_peopleNear (x1 : Int32) (x2 : Int32) (m : jx_Mem) : Option (Int32 × jx_Mem) := jx_K jx_kI 32 0 0 [(0, .ref 2), (1, .int x1), (2, .int x2)] [] m
noncomputable def f_Items_ownedBy (x1 : Int32) (m : jx_Mem) : Option (Int32 × jx_Mem) := jx_K jx_kI 104 0 0 [(0, .ref 6), (1, .int x1)] [] m
noncomputable def f_Asking_wantedByTwo (x1 : Int32) (x2 : Int32) (m : jx_Mem) : Option (Int32 × jx_Mem) := jx_K jx_kI 122 0 0 [(0, .ref 7), (1, .int x1), (2, .int x2)] [] m
noncomputable def f_Mine_dropPurses  (m : jx_Mem) : Option jx_Mem := jx_K jx_kV 33 0 0 [(0, .ref 2)] [] m
noncomputable def f_Rule_signs  (m : jx_Mem) : Option (Int32 × jx_Mem) := jx_K jx_kI 71 0 0 [(0, .ref 5)] [] m
noncomputable def f_Row_size  (m : jx_Mem) : Option (Int32 × jx_Mem) := jx_K jx_kI 11 0 0 [(0, .ref 1)] [] m
noncomputable def f_Mine_allPurses  (m : jx_Mem) : Option (Int32 × jx_Mem) := jx_K jx_kI 34 0 0 [(0, .ref 2)] [] m
noncomputable def f_Items_sales  (m : jx_Mem) : Option (Int32 × jx_Mem) := jx_K jx_kI 97 0 0 [(0, .ref 6)] [] m
noncomputable def f_Items_soldOnes  (m : jx_Mem) : Option (Int32 × jx_Mem) := jx_K jx_kI 98 0 0 [(0, .ref 6)] [] m
noncomputable def f_Items_size  (m : jx_Mem) : Option (Int32 × jx_Mem) := jx_K jx_kI 96 0 0 [(0, .ref 6)] [] m
noncomputable def f_Goods_tests  (m : jx_Mem) : Option (Int32 × jx_Mem) := jx_K jx_kI 36 0 0 [(0, .ref 3)] [] m
noncomputable def f_Goods_goods  (m : jx_Mem) : Option (Int32 × jx_Mem) := jx_K jx_kI 35 0 0 [(0, .ref 3)] [] m
noncomputable def f_Mine_people  (m : jx_Mem) : Option (Int32 × jx_Mem) := jx_K jx_kI 18 0 0 [(0, .ref 2)] [] m
noncomputable def f_Mine_tunnels  (m : jx_Mem) : Option (Int32 × jx_Mem) := jx_K jx_kI 17 0 0 [(0, .ref 2)] [] m
noncomputable def f_Row_holds (x1 : Int32) (m : jx_Mem) : Option (Int32 × jx_Mem) := jx_K jx_kI 12 0 0 [(0, .ref 1), (1, .int x1)] [] m
noncomputable def f_Row_get (x1 : Int32) (m : jx_Mem) : Option (Int64 × jx_Mem) := jx_K jx_kL 13 0 0 [(0, .ref 1), (1, .int x1)] [] m
noncomputable def f_M_isPlace (x0 : Int32) (m : jx_Mem) : Option (Int32 × jx_Mem) := jx_K jx_kI 225 0 0 [(0, .int x0)] [] m
noncomputable def f_M_tunnel_45  (m : jx_Mem) : Option (Int32 × jx_Mem) := jx_K jx_kI 229 0 45 [] [] m
noncomputable def f_M_in (x0 : Int64) (x2 : Int64) (x4 : Int64) (m : jx_Mem) : Option (Int32 × jx_Mem) := jx_K jx_kI 219 0 0 [(0, .long x0), (2, .long x2), (4, .long x4)] [] m
noncomputable def f_M_shortens (x1 : Int32) (x2 : Int32) (x3 : Int32) (m : jx_Mem) : Option jx_Mem := jx_K jx_kV 228 0 0 [(0, .ref 12), (1, .int x1), (2, .int x2), (3, .int x3)] [] m
noncomputable def f_M_tunnel_57 (x4 : Int32) (m : jx_Mem) : Option (Int32 × jx_Mem) := jx_K jx_kI 229 0 57 [(0, .ref 12), (4, .int x4)] [] m
noncomputable def f_M_wall_24  (m : jx_Mem) : Option (Int32 × jx_Mem) := jx_K jx_kI 230 0 24 [] [] m
noncomputable def f_M_far_28  (m : jx_Mem) : Option (Int32 × jx_Mem) := jx_K jx_kI 231 0 28 [] [] m
noncomputable def f_M_farOf (x1 : Int32) (x2 : Int32) (m : jx_Mem) : Option (Int32 × jx_Mem) := jx_K jx_kI 227 0 0 [(0, .ref 12), (1, .int x1), (2, .int x2)] [] m
noncomputable def f_M_far_29 (y0 : Int32) (m : jx_Mem) : Option (Int32 × jx_Mem) := jx_K jx_kI 231 0 29 [] [.int y0] m
noncomputable def f_M_person_45  (m : jx_Mem) : Option (Int32 × jx_Mem) := jx_K jx_kI 232 0 45 [] [] m
noncomputable def f_M_isPerson (x1 : Int32) (m : jx_Mem) : Option (Int32 × jx_Mem) := jx_K jx_kI 226 0 0 [(0, .ref 12), (1, .int x1)] [] m
noncomputable def f_M_walk_20  (m : jx_Mem) : Option (Int32 × jx_Mem) := jx_K jx_kI 233 0 20 [] [] m
noncomputable def f_M_of_25  (m : jx_Mem) : Option (Int32 × jx_Mem) := jx_K jx_kI 234 0 25 [(0, .ref 12)] [] m
noncomputable def f_M_of_63 (y0 : Int32) (m : jx_Mem) : Option (Int32 × jx_Mem) := jx_K jx_kI 234 0 63 [] [.int y0] m
noncomputable def f_M_good_26  (m : jx_Mem) : Option (Int32 × jx_Mem) := jx_K jx_kI 239 0 26 [] [] m
noncomputable def f_M_test_26  (m : jx_Mem) : Option (Int32 × jx_Mem) := jx_K jx_kI 240 0 26 [] [] m
noncomputable def f_M_isGood (x1 : Int32) (m : jx_Mem) : Option (Int32 × jx_Mem) := jx_K jx_kI 235 0 0 [(0, .ref 12), (1, .int x1)] [] m
noncomputable def f_M_answer_33  (m : jx_Mem) : Option (Int32 × jx_Mem) := jx_K jx_kI 242 0 33 [] [] m
noncomputable def f_M_isTest (x1 : Int32) (m : jx_Mem) : Option (Int32 × jx_Mem) := jx_K jx_kI 236 0 0 [(0, .ref 12), (1, .int x1)] [] m
noncomputable def f_M_answerOf (x1 : Int32) (x2 : Int32) (m : jx_Mem) : Option (Int32 × jx_Mem) := jx_K jx_kI 241 0 0 [(0, .ref 12), (1, .int x1), (2, .int x2)] [] m
noncomputable def f_M_sheet_31  (m : jx_Mem) : Option (Int32 × jx_Mem) := jx_K jx_kI 243 0 31 [] [] m
noncomputable def f_M_sheet_45 (x1 : Int32) (x2 : Int32) (x3 : Int32) (x4 : Int32) (x5 : Int32) (m : jx_Mem) : Option (Int32 × jx_Mem) := jx_K jx_kI 243 0 45 [(0, .ref 12), (1, .int x1), (2, .int x2), (3, .int x3), (4, .int x4), (5, .int x5)] [] m
noncomputable def f_M_apart_30  (m : jx_Mem) : Option (Int32 × jx_Mem) := jx_K jx_kI 245 0 30 [] [] m
noncomputable def f_M_partedBy (x1 : Int32) (x2 : Int32) (m : jx_Mem) : Option (Int32 × jx_Mem) := jx_K jx_kI 244 0 0 [(0, .ref 12), (1, .int x1), (2, .int x2)] [] m
noncomputable def f_M_apart_31 (y0 : Int32) (m : jx_Mem) : Option (Int32 × jx_Mem) := jx_K jx_kI 245 0 31 [] [.int y0] m
noncomputable def f_M_areGoods (x1 : Int32) (m : jx_Mem) : Option (Int32 × jx_Mem) := jx_K jx_kI 237 0 0 [(0, .ref 12), (1, .int x1)] [] m
noncomputable def f_M_sure_21  (m : jx_Mem) : Option (Int32 × jx_Mem) := jx_K jx_kI 248 0 21 [] [] m
noncomputable def f_M_areTests (x1 : Int32) (m : jx_Mem) : Option (Int32 × jx_Mem) := jx_K jx_kI 238 0 0 [(0, .ref 12), (1, .int x1)] [] m
noncomputable def f_M_mixed (x1 : Int32) (x2 : Int32) (m : jx_Mem) : Option (Int32 × jx_Mem) := jx_K jx_kI 247 0 0 [(0, .ref 12), (1, .int x1), (2, .int x2)] [] m
noncomputable def f_M_enters (x1 : Int64) (m : jx_Mem) : Option jx_Mem := jx_K jx_kV 222 0 0 [(0, .ref 12), (1, .long x1)] [] m
noncomputable def f_M_keep_19 (x1 : Int32) (x2 : Int32) (x3 : Int32) (m : jx_Mem) : Option (Int32 × jx_Mem) := jx_K jx_kI 251 0 19 [(0, .ref 12), (1, .int x1), (2, .int x2), (3, .int x3)] [] m
noncomputable def f_M_ban_21  (m : jx_Mem) : Option (Int32 × jx_Mem) := jx_K jx_kI 252 0 21 [] [] m
noncomputable def f_M_ban_28 (x1 : Int32) (x2 : Int32) (x3 : Int32) (x4 : Int32) (m : jx_Mem) : Option (Int32 × jx_Mem) := jx_K jx_kI 252 0 28 [(0, .ref 12), (1, .int x1), (2, .int x2), (3, .int x3), (4, .int x4)] [] m
noncomputable def f_M_trees (x1 : Int32) (m : jx_Mem) : Option jx_Mem := jx_K jx_kV 255 0 0 [(0, .ref 12), (1, .int x1)] [] m
noncomputable def f_M_copper_25  (m : jx_Mem) : Option (Int32 × jx_Mem) := jx_K jx_kI 258 0 25 [] [] m
noncomputable def f_M_copper_37 (x1 : Int32) (x3 : Int32) (x4 : Int32) (m : jx_Mem) : Option (Int32 × jx_Mem) := jx_K jx_kI 258 0 37 [(0, .ref 12), (1, .int x1), (3, .int x3), (4, .int x4)] [] m
noncomputable def f_M_asks_29  (m : jx_Mem) : Option (Int32 × jx_Mem) := jx_K jx_kI 259 0 29 [] [] m
noncomputable def f_M_has (x0 : Int32) (x1 : Int32) (m : jx_Mem) : Option (Int32 × jx_Mem) := jx_K jx_kI 220 0 0 [(0, .int x0), (1, .int x1)] [] m
noncomputable def f_M_asks_46 (x2 : Int32) (x3 : Int32) (x4 : Int32) (m : jx_Mem) : Option (Int32 × jx_Mem) := jx_K jx_kI 259 0 46 [(0, .ref 12), (2, .int x2), (3, .int x3), (4, .int x4)] [] m
noncomputable def f_M_sign_18 (x1 : Int32) (x2 : Int32) (m : jx_Mem) : Option (Int32 × jx_Mem) := jx_K jx_kI 260 0 18 [(0, .ref 12), (1, .int x1), (2, .int x2)] [] m
noncomputable def f_M_rule_54 (x1 : Int32) (m : jx_Mem) : Option (Int32 × jx_Mem) := jx_K jx_kI 268 0 54 [(0, .ref 12), (1, .int x1)] [] m
noncomputable def f_M_ranked (lev : Nat) (x1 : Int32) (m : jx_Mem) : Option (Int32 × jx_Mem) := jx_K jx_kI 267 lev 0 [(0, .ref 12), (1, .int x1)] [] m
noncomputable def f_M_rule_59 (x1 : Int32) (y0 : Int32) (m : jx_Mem) : Option (Int32 × jx_Mem) := jx_K jx_kI 268 0 59 [(0, .ref 12), (1, .int x1)] [.int y0] m
noncomputable def f_M_first_26  (m : jx_Mem) : Option (Int32 × jx_Mem) := jx_K jx_kI 273 0 26 [] [] m
noncomputable def f_M_right (x1 : Int32) (m : jx_Mem) : Option (Int32 × jx_Mem) := jx_K jx_kI 272 0 0 [(0, .ref 12), (1, .int x1)] [] m
noncomputable def f_M_first_84 (y0 : Int32) (m : jx_Mem) : Option (Int32 × jx_Mem) := jx_K jx_kI 273 0 84 [] [.int y0] m
noncomputable def f_M_order_16 (x1 : Int32) (x2 : Int32) (x3 : Int32) (m : jx_Mem) : Option (Int32 × jx_Mem) := jx_K jx_kI 274 0 16 [(0, .ref 12), (1, .int x1), (2, .int x2), (3, .int x3)] [] m
noncomputable def f_M_want_33  (m : jx_Mem) : Option (Int32 × jx_Mem) := jx_K jx_kI 276 0 33 [] [] m
noncomputable def f_M_item_42  (m : jx_Mem) : Option (Int32 × jx_Mem) := jx_K jx_kI 277 0 42 [] [] m
noncomputable def f_M_item_77 (x3 : Int32) (x4 : Int32) (m : jx_Mem) : Option (Int32 × jx_Mem) := jx_K jx_kI 277 0 77 [(0, .ref 12), (3, .int x3), (4, .int x4)] [] m
noncomputable def f_M_isItem (x1 : Int32) (m : jx_Mem) : Option (Int32 × jx_Mem) := jx_K jx_kI 275 0 0 [(0, .ref 12), (1, .int x1)] [] m
noncomputable def f_M_thing_II_25  (m : jx_Mem) : Option (Int32 × jx_Mem) := jx_K jx_kI 278 0 25 [(0, .ref 12)] [] m
noncomputable def f_M_flag (x0 : Int32) (m : jx_Mem) : Option (Int32 × jx_Mem) := jx_K jx_kI 221 0 0 [(0, .int x0)] [] m
noncomputable def f_M_thing_II_80 (y0 : Int32) (m : jx_Mem) : Option (Int32 × jx_Mem) := jx_K jx_kI 278 0 80 [] [.int y0] m
noncomputable def f_M_rounds_23 (x1 : Int32) (x2 : Int32) (x3 : Int32) (m : jx_Mem) : Option (Int32 × jx_Mem) := jx_K jx_kI 283 0 23 [(0, .ref 12), (1, .int x1), (2, .int x2), (3, .int x3)] [] m
noncomputable def f_M_settling  (m : jx_Mem) : Option (Int32 × jx_Mem) := jx_K jx_kI 286 0 0 [(0, .ref 12)] [] m
noncomputable def f_M_settles_12 (x1 : Int32) (x2 : Int32) (m : jx_Mem) : Option (Int32 × jx_Mem) := jx_K jx_kI 287 0 12 [(0, .ref 12), (1, .int x1), (2, .int x2)] [] m
noncomputable def f_M_buy_21  (m : jx_Mem) : Option (Int32 × jx_Mem) := jx_K jx_kI 288 0 21 [] [] m
noncomputable def f_M_buy_62  (m : jx_Mem) : Option (Int32 × jx_Mem) := jx_K jx_kI 288 0 62 [] [] m
noncomputable def f_M_counted_40  (m : jx_Mem) : Option (Int32 × jx_Mem) := jx_K jx_kI 291 0 40 [] [] m
noncomputable def f_M_isMinute (x0 : Int32) (m : jx_Mem) : Option (Int32 × jx_Mem) := jx_K jx_kI 290 0 0 [(0, .int x0)] [] m
noncomputable def f_M_been_50  (m : jx_Mem) : Option (Int32 × jx_Mem) := jx_K jx_kI 292 0 50 [] [] m
noncomputable def f_M_findsThefts (x1 : Int32) (m : jx_Mem) : Option jx_Mem := jx_K jx_kV 293 0 0 [(0, .ref 12), (1, .int x1)] [] m
noncomputable def f_M_missing_62  (m : jx_Mem) : Option (Int32 × jx_Mem) := jx_K jx_kI 294 0 62 [(0, .ref 12)] [] m
noncomputable def f_M_suspects_16  (m : jx_Mem) : Option (Int32 × jx_Mem) := jx_K jx_kI 296 0 16 [] [] m
noncomputable def f_M_suspects_53 (y0 : Int32) (m : jx_Mem) : Option (Int32 × jx_Mem) := jx_K jx_kI 296 0 53 [] [.int y0] m
noncomputable def f_M_there (x1 : Int32) (x2 : Int32) (x3 : Int32) (m : jx_Mem) : Option (Int32 × jx_Mem) := jx_K jx_kI 295 0 0 [(0, .ref 12), (1, .int x1), (2, .int x2), (3, .int x3)] [] m
noncomputable def f_M_gang_9 (x1 : Int32) (x2 : Int32) (m : jx_Mem) : Option (Int32 × jx_Mem) := jx_K jx_kI 298 0 9 [(0, .ref 12), (1, .int x1), (2, .int x2)] [] m
noncomputable def f_M_clink_40  (m : jx_Mem) : Option (Int32 × jx_Mem) := jx_K jx_kI 299 0 40 [] [] m
noncomputable def f_M_hands_7 (x1 : Int32) (m : jx_Mem) : Option (Int32 × jx_Mem) := jx_K jx_kI 301 0 7 [(0, .ref 12), (1, .int x1)] [] m
noncomputable def f_M_loud_21 (y0 : Int32) (m : jx_Mem) : Option (Int32 × jx_Mem) := jx_K jx_kI 304 0 21 [] [.int y0] m
noncomputable def f_M_loudAt (x1 : Int32) (m : jx_Mem) : Option (Int32 × jx_Mem) := jx_K jx_kI 303 0 0 [(0, .ref 12), (1, .int x1)] [] m
noncomputable def f_M_loudest_11 (x1 : Int32) (x2 : Int32) (x3 : Int32) (m : jx_Mem) : Option (Int32 × jx_Mem) := jx_K jx_kI 305 0 11 [(0, .ref 12), (1, .int x1), (2, .int x2), (3, .int x3)] [] m
noncomputable def f_M_heard_33  (m : jx_Mem) : Option (Int32 × jx_Mem) := jx_K jx_kI 306 0 33 [] [] m
noncomputable def f_M_crowds_29  (m : jx_Mem) : Option (Int32 × jx_Mem) := jx_K jx_kI 308 0 29 [] [] m
noncomputable def f_M_crowds_36 (x1 : Int32) (x2 : Int32) (x3 : Int32) (x4 : Int32) (m : jx_Mem) : Option (Int32 × jx_Mem) := jx_K jx_kI 308 0 36 [(0, .ref 12), (1, .int x1), (2, .int x2), (3, .int x3), (4, .int x4)] [] m
noncomputable def f_M_gas_48  (m : jx_Mem) : Option (Int32 × jx_Mem) := jx_K jx_kI 309 0 48 [] [] m
noncomputable def f_M_gas_28 (x1 : Int32) (x2 : Int32) (y0 : Int64) (y1 : Int64) (m : jx_Mem) : Option (Int32 × jx_Mem) := jx_K jx_kI 309 0 28 [(0, .ref 12), (1, .int x1), (2, .int x2)] [.long y0, .long y1] m
noncomputable def f_M_waysOut  (m : jx_Mem) : Option (Int32 × jx_Mem) := jx_K jx_kI 310 0 0 [(0, .ref 12)] [] m
noncomputable def f_M_lasts_35 (x1 : Int32) (x2 : Int32) (x3 : Int32) (m : jx_Mem) : Option (Int32 × jx_Mem) := jx_K jx_kI 311 0 35 [(0, .ref 12), (1, .int x1), (2, .int x2), (3, .int x3)] [] m
noncomputable def f_M_leave_32 (x1 : Int32) (x2 : Int32) (x3 : Int32) (y0 : Int32) (m : jx_Mem) : Option (Int32 × jx_Mem) := jx_K jx_kI 312 0 32 [(0, .ref 12), (1, .int x1), (2, .int x2), (3, .int x3)] [.int y0] m
noncomputable def f_M_ear_68  (m : jx_Mem) : Option (Int32 × jx_Mem) := jx_K jx_kI 313 0 68 [] [] m
noncomputable def f_M_sound_19  (m : jx_Mem) : Option (Int32 × jx_Mem) := jx_K jx_kI 318 0 19 [] [] m
noncomputable def f_M_sound_44 (x1 : Int32) (x2 : Int32) (x3 : Int32) (x4 : Int32) (x5 : Int32) (m : jx_Mem) : Option (Int32 × jx_Mem) := jx_K jx_kI 318 0 44 [(0, .ref 12), (1, .int x1), (2, .int x2), (3, .int x3), (4, .int x4), (5, .int x5)] [] m
noncomputable def f_M_judge_32  (m : jx_Mem) : Option (Int32 × jx_Mem) := jx_K jx_kI 319 0 32 [] [] m
noncomputable def f_M_areLate (x0 : Int32) (x1 : Int32) (m : jx_Mem) : Option (Int32 × jx_Mem) := jx_K jx_kI 316 0 0 [(0, .int x0), (1, .int x1)] [] m
noncomputable def f_M_judges (x1 : Int32) (x2 : Int32) (x3 : Int32) (x4 : Int32) (m : jx_Mem) : Option (Int32 × jx_Mem) := jx_K jx_kI 317 0 0 [(0, .ref 12), (1, .int x1), (2, .int x2), (3, .int x3), (4, .int x4)] [] m
noncomputable def f_M_judge_33 (y0 : Int32) (m : jx_Mem) : Option (Int32 × jx_Mem) := jx_K jx_kI 319 0 33 [] [.int y0] m
noncomputable def f_M_who_32  (m : jx_Mem) : Option (Int32 × jx_Mem) := jx_K jx_kI 320 0 32 [] [] m
noncomputable def f_M_who_33 (y0 : Int32) (m : jx_Mem) : Option (Int32 × jx_Mem) := jx_K jx_kI 320 0 33 [] [.int y0] m
noncomputable def f_M_lamp_55 (x1 : Int32) (x2 : Int32) (x3 : Int32) (m : jx_Mem) : Option (Int32 × jx_Mem) := jx_K jx_kI 321 0 55 [(0, .ref 12), (1, .int x1), (2, .int x2), (3, .int x3)] [] m
noncomputable def f_M_lamp_27 (x2 : Int32) (m : jx_Mem) : Option (Int32 × jx_Mem) := jx_K jx_kI 321 0 27 [(0, .ref 12), (2, .int x2)] [] m
noncomputable def f_M_purses  (m : jx_Mem) : Option (Int32 × jx_Mem) := jx_K jx_kI 323 0 0 [(0, .ref 12)] [] m
noncomputable def f_M_soldBits  (m : jx_Mem) : Option (Int32 × jx_Mem) := jx_K jx_kI 322 0 0 [(0, .ref 12)] [] m
noncomputable def f_Mine_addTunnel_21  (m : jx_Mem) : Option (Int32 × jx_Mem) := jx_K jx_kI 19 0 21 [] [] m
noncomputable def f_Mine_addTunnel_42  (m : jx_Mem) : Option (Int32 × jx_Mem) := jx_K jx_kI 19 0 42 [] [] m
noncomputable def f_Mine_addTunnel_47 (x1 : Int32) (x2 : Int32) (x3 : Int32) (x4 : Int32) (m : jx_Mem) : Option (Int32 × jx_Mem) := jx_K jx_kI 19 0 47 [(0, .ref 2), (1, .int x1), (2, .int x2), (3, .int x3), (4, .int x4)] [] m
noncomputable def f_Mine_setWall_18  (m : jx_Mem) : Option (Int32 × jx_Mem) := jx_K jx_kI 22 0 18 [] [] m
noncomputable def f_Mine_isPlace_14  (m : jx_Mem) : Option (Int32 × jx_Mem) := jx_K jx_kI 15 0 14 [] [] m
noncomputable def f_Mine_isPlace_15 (y0 : Int32) (m : jx_Mem) : Option (Int32 × jx_Mem) := jx_K jx_kI 15 0 15 [] [.int y0] m
noncomputable def f_Mine_distance_30  (m : jx_Mem) : Option (Int32 × jx_Mem) := jx_K jx_kI 20 0 30 [] [] m
noncomputable def f_Mine_distance_33 (y0 : Int32) (m : jx_Mem) : Option (Int32 × jx_Mem) := jx_K jx_kI 20 0 33 [] [.int y0] m
noncomputable def f_Mine_addPerson_29  (m : jx_Mem) : Option (Int32 × jx_Mem) := jx_K jx_kI 24 0 29 [] [] m
noncomputable def f_Mine_move_16  (m : jx_Mem) : Option (Int32 × jx_Mem) := jx_K jx_kI 25 0 16 [] [] m
noncomputable def f_Mine_isPerson_16  (m : jx_Mem) : Option (Int32 × jx_Mem) := jx_K jx_kI 16 0 16 [] [] m
noncomputable def f_Mine_isPerson_17 (y0 : Int32) (m : jx_Mem) : Option (Int32 × jx_Mem) := jx_K jx_kI 16 0 17 [] [.int y0] m
noncomputable def f_F_within_14  (m : jx_Mem) : Option (Int32 × jx_Mem) := jx_K jx_kI 215 0 14 [] [] m
noncomputable def f_F_within_15 (y0 : Int32) (m : jx_Mem) : Option (Int32 × jx_Mem) := jx_K jx_kI 215 0 15 [] [.int y0] m
noncomputable def f_Mine_loadOf_18 (y0 : Int32) (m : jx_Mem) : Option (Int32 × jx_Mem) := jx_K jx_kI 29 0 18 [] [.int y0] m
noncomputable def f_Mine_purseOf_18 (y0 : Int32) (m : jx_Mem) : Option (Int32 × jx_Mem) := jx_K jx_kI 27 0 18 [] [.int y0] m
noncomputable def f_Mine_placeOf_18 (y0 : Int32) (m : jx_Mem) : Option (Int32 × jx_Mem) := jx_K jx_kI 26 0 18 [] [.int y0] m
noncomputable def f_Goods_addGood_19  (m : jx_Mem) : Option (Int32 × jx_Mem) := jx_K jx_kI 41 0 19 [] [] m
noncomputable def f_Goods_addGood_33 (x2 : Int32) (m : jx_Mem) : Option (Int32 × jx_Mem) := jx_K jx_kI 41 0 33 [(0, .ref 3), (2, .int x2)] [] m
noncomputable def f_Goods_addTest_19  (m : jx_Mem) : Option (Int32 × jx_Mem) := jx_K jx_kI 42 0 19 [] [] m
noncomputable def f_Goods_setAnswer_26  (m : jx_Mem) : Option (Int32 × jx_Mem) := jx_K jx_kI 45 0 26 [] [] m
noncomputable def f_Goods_isTest (x1 : Int32) (m : jx_Mem) : Option (Int32 × jx_Mem) := jx_K jx_kI 38 0 0 [(0, .ref 3), (1, .int x1)] [] m
noncomputable def f_Goods_readSheet_23  (m : jx_Mem) : Option (Int32 × jx_Mem) := jx_K jx_kI 46 0 23 [] [] m
noncomputable def f_Goods_readSheet_37 (x1 : Int32) (x2 : Int32) (x3 : Int32) (x4 : Int32) (x5 : Int32) (m : jx_Mem) : Option (Int32 × jx_Mem) := jx_K jx_kI 46 0 37 [(0, .ref 3), (1, .int x1), (2, .int x2), (3, .int x3), (4, .int x4), (5, .int x5)] [] m
noncomputable def f_Goods_isGood_16  (m : jx_Mem) : Option (Int32 × jx_Mem) := jx_K jx_kI 37 0 16 [] [] m
noncomputable def f_Goods_isGood_17 (y0 : Int32) (m : jx_Mem) : Option (Int32 × jx_Mem) := jx_K jx_kI 37 0 17 [] [.int y0] m
noncomputable def f_Goods_unlike_5 (x1 : Int32) (x2 : Int32) (x3 : Int32) (x4 : Int32) (m : jx_Mem) : Option (Int32 × jx_Mem) := jx_K jx_kI 48 0 5 [(0, .ref 3), (1, .int x1), (2, .int x2), (3, .int x3), (4, .int x4)] [] m
noncomputable def f_Goods_areGoods_19  (m : jx_Mem) : Option (Int32 × jx_Mem) := jx_K jx_kI 39 0 19 [] [] m
noncomputable def f_Goods_areGoods_20 (y0 : Int32) (m : jx_Mem) : Option (Int32 × jx_Mem) := jx_K jx_kI 39 0 20 [] [.int y0] m
noncomputable def f_Goods_areTests_18  (m : jx_Mem) : Option (Int32 × jx_Mem) := jx_K jx_kI 40 0 18 [] [] m
noncomputable def f_Goods_areTests_19 (y0 : Int32) (m : jx_Mem) : Option (Int32 × jx_Mem) := jx_K jx_kI 40 0 19 [] [.int y0] m
noncomputable def f_Goods_toldBy_5 (x1 : Int32) (x2 : Int32) (x3 : Int32) (x4 : Int32) (m : jx_Mem) : Option (Int32 × jx_Mem) := jx_K jx_kI 53 0 5 [(0, .ref 3), (1, .int x1), (2, .int x2), (3, .int x3), (4, .int x4)] [] m
noncomputable def f_Row_clear  (m : jx_Mem) : Option jx_Mem := jx_K jx_kV 6 0 0 [(0, .ref 1)] [] m
noncomputable def f_Row_add (x1 : Int64) (m : jx_Mem) : Option jx_Mem := jx_K jx_kV 7 0 0 [(0, .ref 1), (1, .long x1)] [] m
noncomputable def f_Goods_fewestTests_4 (x1 : Int32) (x2 : Int32) (x3 : Int32) (m : jx_Mem) : Option (Int32 × jx_Mem) := jx_K jx_kI 54 0 4 [(0, .ref 3), (1, .int x1), (2, .int x2), (3, .int x3)] [] m
noncomputable def f_Goods_toBan_5 (x1 : Int32) (x2 : Int32) (x3 : Int32) (x4 : Int32) (m : jx_Mem) : Option (Int32 × jx_Mem) := jx_K jx_kI 57 0 5 [(0, .ref 3), (1, .int x1), (2, .int x2), (3, .int x3), (4, .int x4)] [] m
noncomputable def f_Arr_fill_r24 (x1 : Int32) (m : jx_Mem) : Option jx_Mem := jx_K jx_kV 5 0 0 [(0, .ref 24), (1, .int x1)] [] m
noncomputable def f_Tree_least (lev : Nat) (x1 : Int32) (x2 : Int32) (m : jx_Mem) : Option (Int32 × jx_Mem) := jx_K jx_kI 61 lev 0 [(0, .ref 4), (1, .int x1), (2, .int x2)] [] m
noncomputable def f_Tree_isSet (x0 : Int32) (m : jx_Mem) : Option (Int32 × jx_Mem) := jx_K jx_kI 60 0 0 [(0, .int x0)] [] m
noncomputable def f_Tree_firstTest_26  (m : jx_Mem) : Option (Int32 × jx_Mem) := jx_K jx_kI 63 0 26 [] [] m
noncomputable def f_Tree_firstTest_27 (y0 : Int32) (m : jx_Mem) : Option (Int32 × jx_Mem) := jx_K jx_kI 63 0 27 [] [.int y0] m
noncomputable def f_Tree_dearest_4 (x1 : Int32) (x2 : Int32) (x3 : Int32) (m : jx_Mem) : Option (Int32 × jx_Mem) := jx_K jx_kI 64 0 4 [(0, .ref 4), (1, .int x1), (2, .int x2), (3, .int x3)] [] m
noncomputable def f_Arr_fill_r26 (x1 : Int32) (m : jx_Mem) : Option jx_Mem := jx_K jx_kV 5 0 0 [(0, .ref 26), (1, .int x1)] [] m
noncomputable def f_Tree_mostTold (lev : Nat) (x1 : Int32) (x2 : Int32) (x3 : Int32) (m : jx_Mem) : Option (Int32 × jx_Mem) := jx_K jx_kI 68 lev 0 [(0, .ref 4), (1, .int x1), (2, .int x2), (3, .int x3)] [] m
noncomputable def f_F_has_13 (y0 : Int32) (m : jx_Mem) : Option (Int32 × jx_Mem) := jx_K jx_kI 216 0 13 [] [.int y0] m
noncomputable def f_Tree_tellPath_10 (x2 : Int32) (x4 : Int32) (x5 : Int32) (m : jx_Mem) : Option (Int32 × jx_Mem) := jx_K jx_kI 66 0 10 [(0, .ref 4), (2, .int x2), (3, .ref 1), (4, .int x4), (5, .int x5)] [] m
noncomputable def f_Rule_append_16 (x1 : Int32) (x2 : Int32) (m : jx_Mem) : Option (Int32 × jx_Mem) := jx_K jx_kI 72 0 16 [(0, .ref 5), (1, .int x1), (2, .int x2)] [] m
noncomputable def f_Rule_cut_12  (m : jx_Mem) : Option (Int32 × jx_Mem) := jx_K jx_kI 73 0 12 [] [] m
noncomputable def f_Rule_startDraft  (m : jx_Mem) : Option jx_Mem := jx_K jx_kV 75 0 0 [(0, .ref 5)] [] m
noncomputable def f_Rule_read_27 (x1 : Int32) (x2 : Int32) (m : jx_Mem) : Option (Int32 × jx_Mem) := jx_K jx_kI 74 0 27 [(0, .ref 5), (1, .int x1), (2, .int x2)] [] m
noncomputable def f_Rule_valueFor_4 (x1 : Int32) (x2 : Int32) (x3 : Int32) (m : jx_Mem) : Option (Int32 × jx_Mem) := jx_K jx_kI 88 0 4 [(0, .ref 5), (1, .int x1), (2, .int x2), (3, .int x3)] [] m
noncomputable def f_Math_min_10 (y0 : Int32) (m : jx_Mem) : Option (Int32 × jx_Mem) := jx_K jx_kI 2 0 10 [] [.int y0] m
noncomputable def f_Rule_tellOrder_10 (x2 : Int32) (x3 : Int32) (m : jx_Mem) : Option (Int32 × jx_Mem) := jx_K jx_kI 93 0 10 [(0, .ref 5), (1, .ref 1), (2, .int x2), (3, .int x3)] [] m
noncomputable def f_Asking_wantsOf (x1 : Int32) (x2 : Int32) (m : jx_Mem) : Option (Int32 × jx_Mem) := jx_K jx_kI 109 0 0 [(0, .ref 7), (1, .int x1), (2, .int x2)] [] m
noncomputable def f_Asking_setWants_41 (x4 : Int32) (m : jx_Mem) : Option (Int32 × jx_Mem) := jx_K jx_kI 108 0 41 [(4, .int x4)] [] m
noncomputable def f_Asking_startPrice_14 (x1 : Int32) (x2 : Int32) (x3 : Int32) (m : jx_Mem) : Option jx_Mem := jx_K jx_kV 111 0 14 [(0, .ref 7), (1, .int x1), (2, .int x2), (3, .int x3)] [] m
noncomputable def f_Items_isItem_16  (m : jx_Mem) : Option (Int32 × jx_Mem) := jx_K jx_kI 99 0 16 [] [] m
noncomputable def f_Items_isItem_17 (y0 : Int32) (m : jx_Mem) : Option (Int32 × jx_Mem) := jx_K jx_kI 99 0 17 [] [.int y0] m
noncomputable def f_Items_isSold_23  (m : jx_Mem) : Option (Int32 × jx_Mem) := jx_K jx_kI 100 0 23 [] [] m
noncomputable def f_Items_isSold_24 (y0 : Int32) (m : jx_Mem) : Option (Int32 × jx_Mem) := jx_K jx_kI 100 0 24 [] [.int y0] m
noncomputable def f_Asking_priceOf_24 (y0 : Int32) (m : jx_Mem) : Option (Int32 × jx_Mem) := jx_K jx_kI 112 0 24 [] [.int y0] m
noncomputable def f_Items_ownerOf_18 (y0 : Int32) (m : jx_Mem) : Option (Int32 × jx_Mem) := jx_K jx_kI 102 0 18 [] [.int y0] m
noncomputable def f_Items_goodOf_18 (y0 : Int32) (m : jx_Mem) : Option (Int32 × jx_Mem) := jx_K jx_kI 101 0 18 [] [.int y0] m
noncomputable def f_Asking_findLates  (m : jx_Mem) : Option jx_Mem := jx_K jx_kV 117 0 0 [(0, .ref 7)] [] m
noncomputable def f_Arr_fill_r43 (x1 : Int32) (m : jx_Mem) : Option jx_Mem := jx_K jx_kV 5 0 0 [(0, .ref 43), (1, .int x1)] [] m
noncomputable def f_Asking_askOn_29 (x1 : Int32) (x2 : Int32) (x3 : Int32) (m : jx_Mem) : Option (Int32 × jx_Mem) := jx_K jx_kI 113 0 29 [(0, .ref 7), (1, .int x1), (2, .int x2), (3, .int x3)] [] m
noncomputable def f_Asking_tellAskers_6 (x2 : Int32) (m : jx_Mem) : Option jx_Mem := jx_K jx_kV 114 0 6 [(0, .ref 7), (1, .ref 1), (2, .int x2)] [] m
noncomputable def f_Asking_foresee_6 (x1 : Int32) (m : jx_Mem) : Option (Int32 × jx_Mem) := jx_K jx_kI 115 0 6 [(0, .ref 7), (1, .int x1)] [] m
noncomputable def f_Items_sell_19  (m : jx_Mem) : Option (Int32 × jx_Mem) := jx_K jx_kI 105 0 19 [] [] m
noncomputable def f_Items_sell_58  (m : jx_Mem) : Option (Int32 × jx_Mem) := jx_K jx_kI 105 0 58 [] [] m
noncomputable def f_Mine_joined (x1 : Int32) (x2 : Int32) (m : jx_Mem) : Option (Int32 × jx_Mem) := jx_K jx_kI 21 0 0 [(0, .ref 2), (1, .int x1), (2, .int x2)] [] m
noncomputable def f_Items_note (x1 : Int32) (x2 : Int32) (x3 : Int32) (m : jx_Mem) : Option jx_Mem := jx_K jx_kV 106 0 0 [(0, .ref 6), (1, .int x1), (2, .int x2), (3, .int x3)] [] m
noncomputable def f_Mine_setPurse (x1 : Int32) (x2 : Int32) (m : jx_Mem) : Option jx_Mem := jx_K jx_kV 28 0 0 [(0, .ref 2), (1, .int x1), (2, .int x2)] [] m
noncomputable def f_Watch_addCount_32  (m : jx_Mem) : Option (Int32 × jx_Mem) := jx_K jx_kI 124 0 32 [] [] m
noncomputable def f_Watch_addCount_51 (x1 : Int32) (x2 : Int32) (x3 : Int32) (x4 : Int32) (m : jx_Mem) : Option (Int32 × jx_Mem) := jx_K jx_kI 124 0 51 [(0, .ref 8), (1, .int x1), (2, .int x2), (3, .int x3), (4, .int x4)] [] m
noncomputable def f_Watch_addStay_31  (m : jx_Mem) : Option (Int32 × jx_Mem) := jx_K jx_kI 125 0 31 [] [] m
noncomputable def f_Watch_addStay_56  (m : jx_Mem) : Option (Int32 × jx_Mem) := jx_K jx_kI 125 0 56 [] [] m
noncomputable def f_Watch_tellThefts_11 (x1 : Int32) (x3 : Int32) (x4 : Int32) (x5 : Int32) (x6 : Int32) (m : jx_Mem) : Option (Int32 × jx_Mem) := jx_K jx_kI 129 0 11 [(0, .ref 8), (1, .int x1), (2, .ref 1), (3, .int x3), (4, .int x4), (5, .int x5), (6, .int x6)] [] m
noncomputable def f_Watch_suspectsOf_5 (x1 : Int32) (x2 : Int32) (x3 : Int32) (x4 : Int32) (m : jx_Mem) : Option (Int32 × jx_Mem) := jx_K jx_kI 130 0 5 [(0, .ref 8), (1, .int x1), (2, .int x2), (3, .int x3), (4, .int x4)] [] m
noncomputable def f_Watch_smallestGang_4 (x1 : Int32) (x2 : Int32) (m : jx_Mem) : Option (Int32 × jx_Mem) := jx_K jx_kI 133 0 4 [(0, .ref 8), (1, .int x1), (2, .int x2)] [] m
noncomputable def f_Watch_addClink_32  (m : jx_Mem) : Option (Int32 × jx_Mem) := jx_K jx_kI 126 0 32 [] [] m
noncomputable def f_Watch_tellHands_27 (x2 : Int32) (x3 : Int32) (x4 : Int32) (m : jx_Mem) : Option (Int32 × jx_Mem) := jx_K jx_kI 135 0 27 [(0, .ref 8), (1, .ref 1), (2, .int x2), (3, .int x3), (4, .int x4)] [] m
noncomputable def f_Noise_loudAt_4 (x1 : Int32) (x2 : Int32) (x3 : Int32) (m : jx_Mem) : Option (Int32 × jx_Mem) := jx_K jx_kI 142 0 4 [(0, .ref 9), (1, .int x1), (2, .int x2), (3, .int x3)] [] m
noncomputable def f_Noise_tellLoudest_14 (x2 : Int32) (x3 : Int32) (x4 : Int32) (x5 : Int32) (m : jx_Mem) : Option (Int32 × jx_Mem) := jx_K jx_kI 143 0 14 [(0, .ref 9), (1, .ref 1), (2, .int x2), (3, .int x3), (4, .int x4), (5, .int x5)] [] m
noncomputable def f_Noise_addHeard_31  (m : jx_Mem) : Option (Int32 × jx_Mem) := jx_K jx_kI 144 0 31 [] [] m
noncomputable def f_Math_max (x0 : Int32) (x1 : Int32) (m : jx_Mem) : Option (Int32 × jx_Mem) := jx_K jx_kI 1 0 0 [(0, .int x0), (1, .int x1)] [] m
noncomputable def f_Arr_fill_r61 (x1 : Int32) (m : jx_Mem) : Option jx_Mem := jx_K jx_kV 5 0 0 [(0, .ref 61), (1, .int x1)] [] m
noncomputable def f_Noise_findRests  (m : jx_Mem) : Option jx_Mem := jx_K jx_kV 146 0 0 [(0, .ref 9)] [] m
noncomputable def f_Noise_fill (lev : Nat) (x1 : Int32) (m : jx_Mem) : Option (Int32 × jx_Mem) := jx_K jx_kI 147 lev 0 [(0, .ref 9), (1, .int x1)] [] m
noncomputable def f_Noise_tellCrowds_50 (x4 : Int32) (x5 : Int32) (m : jx_Mem) : Option (Int32 × jx_Mem) := jx_K jx_kI 145 0 50 [(0, .ref 9), (3, .ref 1), (4, .int x4), (5, .int x5)] [] m
noncomputable def f_Air_set_30 (x1 : Int32) (x2 : Int32) (x3 : Int32) (m : jx_Mem) : Option (Int32 × jx_Mem) := jx_K jx_kI 151 0 30 [(0, .ref 10), (1, .int x1), (2, .int x2), (3, .int x3)] [] m
noncomputable def f_Air_set_113 (x3 : Int32) (m : jx_Mem) : Option (Int32 × jx_Mem) := jx_K jx_kI 151 0 113 [(3, .int x3)] [] m
noncomputable def f_Air_stay_20 (x1 : Int32) (x2 : Int32) (x3 : Int32) (m : jx_Mem) : Option (Int32 × jx_Mem) := jx_K jx_kI 153 0 20 [(0, .ref 10), (1, .int x1), (2, .int x2), (3, .int x3)] [] m
noncomputable def f_Air_tellLeaving_23 (x2 : Int32) (x3 : Int32) (x4 : Int32) (x5 : Int32) (m : jx_Mem) : Option (Int32 × jx_Mem) := jx_K jx_kI 154 0 23 [(0, .ref 10), (1, .ref 1), (2, .int x2), (3, .int x3), (4, .int x4), (5, .int x5)] [] m
noncomputable def f_Ears_setChance_19  (m : jx_Mem) : Option (Int32 × jx_Mem) := jx_K jx_kI 156 0 19 [] [] m
noncomputable def f_Ears_setChance_26 (x1 : Int32) (x2 : Int32) (x3 : Int32) (x4 : Int32) (m : jx_Mem) : Option (Int32 × jx_Mem) := jx_K jx_kI 156 0 26 [(0, .ref 11), (1, .int x1), (2, .int x2), (3, .int x3), (4, .int x4)] [] m
noncomputable def f_Ears_tellSound_22  (m : jx_Mem) : Option (Int32 × jx_Mem) := jx_K jx_kI 158 0 22 [] [] m
noncomputable def f_Ears_tellSound_52 (x1 : Int32) (x2 : Int32) (x4 : Int32) (x5 : Int32) (x6 : Int32) (m : jx_Mem) : Option (Int32 × jx_Mem) := jx_K jx_kI 158 0 52 [(0, .ref 11), (1, .int x1), (2, .int x2), (3, .ref 1), (4, .int x4), (5, .int x5), (6, .int x6)] [] m
noncomputable def f_Ears_canHear_26  (m : jx_Mem) : Option (Int32 × jx_Mem) := jx_K jx_kI 157 0 26 [] [] m
noncomputable def f_Ears_canHear_27 (y0 : Int32) (m : jx_Mem) : Option (Int32 × jx_Mem) := jx_K jx_kI 157 0 27 [] [.int y0] m
noncomputable def f_Ears_tellPlace_3 (x1 : Int32) (x2 : Int32) (x3 : Int32) (x5 : Int32) (m : jx_Mem) : Option (Int32 × jx_Mem) := jx_K jx_kI 161 0 3 [(0, .ref 11), (1, .int x1), (2, .int x2), (3, .int x3), (4, .ref 1), (5, .int x5)] [] m
noncomputable def f_Ears_tellClapper_17 (x1 : Int32) (x2 : Int32) (x3 : Int32) (x5 : Int32) (x6 : Int32) (m : jx_Mem) : Option (Int32 × jx_Mem) := jx_K jx_kI 162 0 17 [(0, .ref 11), (1, .int x1), (2, .int x2), (3, .int x3), (4, .ref 1), (5, .int x5), (6, .int x6)] [] m
noncomputable def f_Air_burns_16 (y0 : Int32) (m : jx_Mem) : Option (Int32 × jx_Mem) := jx_K jx_kI 152 0 16 [] [.int y0] m
noncomputable def f_Mine_peopleNear_5 (x1 : Int32) (x2 : Int32) (x3 : Int32) (x4 : Int32) (m : jx_Mem) : Option (Int32 × jx_Mem) := jx_K jx_kI 32 0 5 [(0, .ref 2), (1, .int x1), (2, .int x2), (3, .int x3), (4, .int x4)] [] m
noncomputable def f_Items_ownedBy_4 (x1 : Int32) (x2 : Int32) (x3 : Int32) (m : jx_Mem) : Option (Int32 × jx_Mem) := jx_K jx_kI 104 0 4 [(0, .ref 6), (1, .int x1), (2, .int x2), (3, .int x3)] [] m
noncomputable def f_Asking_wantedByTwo_5 (x1 : Int32) (x2 : Int32) (x3 : Int32) (x4 : Int32) (m : jx_Mem) : Option (Int32 × jx_Mem) := jx_K jx_kI 122 0 5 [(0, .ref 7), (1, .int x1), (2, .int x2), (3, .int x3), (4, .int x4)] [] m
noncomputable def f_Arr_fill_r18 (x1 : Int32) (m : jx_Mem) : Option jx_Mem := jx_K jx_kV 5 0 0 [(0, .ref 18), (1, .int x1)] [] m
noncomputable def f_Mine_allPurses_4 (x1 : Int32) (x2 : Int32) (m : jx_Mem) : Option (Int32 × jx_Mem) := jx_K jx_kI 34 0 4 [(0, .ref 2), (1, .int x1), (2, .int x2)] [] m
noncomputable def f_Row_holds_16  (m : jx_Mem) : Option (Int32 × jx_Mem) := jx_K jx_kI 12 0 16 [] [] m
noncomputable def f_Row_holds_17 (y0 : Int32) (m : jx_Mem) : Option (Int32 × jx_Mem) := jx_K jx_kI 12 0 17 [] [.int y0] m
noncomputable def f_Row_get_18 (y0 : Int64) (m : jx_Mem) : Option (Int64 × jx_Mem) := jx_K jx_kL 13 0 18 [] [.long y0] m
noncomputable def f_M_in_17  (m : jx_Mem) : Option (Int32 × jx_Mem) := jx_K jx_kI 219 0 17 [] [] m
noncomputable def f_M_in_18 (y0 : Int32) (m : jx_Mem) : Option (Int32 × jx_Mem) := jx_K jx_kI 219 0 18 [] [.int y0] m
noncomputable def f_M_shortens_39  (m : jx_Mem) : Option jx_Mem := jx_K jx_kV 228 0 39 [] [] m
noncomputable def f_M_tunnel_67 (x4 : Int32) (x5 : Int32) (m : jx_Mem) : Option (Int32 × jx_Mem) := jx_K jx_kI 229 0 67 [(0, .ref 12), (4, .int x4), (5, .int x5)] [] m
noncomputable def f_M_farOf_40 (y0 : Int32) (m : jx_Mem) : Option (Int32 × jx_Mem) := jx_K jx_kI 227 0 40 [] [.int y0] m
noncomputable def f_M_refuse  (m : jx_Mem) : Option (Int32 × jx_Mem) := jx_K jx_kI 218 0 0 [(0, .ref 12)] [] m
noncomputable def f_M_sheet_55 (x1 : Int32) (x2 : Int32) (x3 : Int32) (x5 : Int32) (x6 : Int32) (x7 : Int32) (x8 : Int32) (m : jx_Mem) : Option (Int32 × jx_Mem) := jx_K jx_kI 243 0 55 [(0, .ref 12), (1, .int x1), (2, .int x2), (3, .int x3), (5, .int x5), (6, .int x6), (7, .int x7), (8, .int x8)] [] m
noncomputable def f_M_partedBy_5 (x1 : Int32) (x2 : Int32) (x3 : Int32) (x4 : Int32) (m : jx_Mem) : Option (Int32 × jx_Mem) := jx_K jx_kI 244 0 5 [(0, .ref 12), (1, .int x1), (2, .int x2), (3, .int x3), (4, .int x4)] [] m
noncomputable def f_M_mixed_5 (x1 : Int32) (x2 : Int32) (x3 : Int32) (x4 : Int32) (m : jx_Mem) : Option (Int32 × jx_Mem) := jx_K jx_kI 247 0 5 [(0, .ref 12), (1, .int x1), (2, .int x2), (3, .int x3), (4, .int x4)] [] m
noncomputable def f_M_keep_55 (x1 : Int32) (x2 : Int32) (x3 : Int32) (m : jx_Mem) : Option (Int32 × jx_Mem) := jx_K jx_kI 251 0 55 [(0, .ref 12), (1, .int x1), (2, .int x2), (3, .int x3)] [] m
noncomputable def f_M_isBetter_r72 (x1 : Int32) (x2 : Int32) (m : jx_Mem) : Option (Int32 × jx_Mem) := jx_K jx_kI 250 0 0 [(0, .ref 12), (1, .int x1), (2, .int x2), (3, .ref 72)] [] m
noncomputable def f_M_keep_56 (x1 : Int32) (x3 : Int32) (y0 : Int32) (m : jx_Mem) : Option (Int32 × jx_Mem) := jx_K jx_kI 251 0 56 [(0, .ref 12), (1, .int x1), (3, .int x3)] [.int y0] m
noncomputable def f_M_ban_61 (x1 : Int32) (x2 : Int32) (x3 : Int32) (x4 : Int32) (m : jx_Mem) : Option (Int32 × jx_Mem) := jx_K jx_kI 252 0 61 [(0, .ref 12), (1, .int x1), (2, .int x2), (3, .int x3), (4, .int x4)] [] m
noncomputable def f_M_ban_62 (x1 : Int32) (x2 : Int32) (x3 : Int32) (x4 : Int32) (y0 : Int32) (m : jx_Mem) : Option (Int32 × jx_Mem) := jx_K jx_kI 252 0 62 [(0, .ref 12), (1, .int x1), (2, .int x2), (3, .int x3), (4, .int x4)] [.int y0] m
noncomputable def f_M_trees_2 (x1 : Int32) (x2 : Int32) (m : jx_Mem) : Option jx_Mem := jx_K jx_kV 255 0 2 [(0, .ref 12), (1, .int x1), (2, .int x2)] [] m
noncomputable def f_M_copper_46 (x1 : Int32) (x3 : Int32) (x4 : Int32) (x5 : Int32) (m : jx_Mem) : Option (Int32 × jx_Mem) := jx_K jx_kI 258 0 46 [(0, .ref 12), (1, .int x1), (3, .int x3), (4, .int x4), (5, .int x5)] [] m
noncomputable def f_M_has_14 (y0 : Int32) (m : jx_Mem) : Option (Int32 × jx_Mem) := jx_K jx_kI 220 0 14 [] [.int y0] m
noncomputable def f_M_partOf (x1 : Int32) (x2 : Int32) (x3 : Int32) (m : jx_Mem) : Option (Int32 × jx_Mem) := jx_K jx_kI 253 0 0 [(0, .ref 12), (1, .int x1), (2, .int x2), (3, .int x3)] [] m
noncomputable def f_M_ranked_51_r908 (lev : Nat) (x1 : Int32) (m : jx_Mem) : Option (Int32 × jx_Mem) := jx_K jx_kI 267 lev 51 [(0, .ref 12), (1, .int x1)] [.ref 908] m
noncomputable def f_M_ranked_51_r907 (lev : Nat) (x1 : Int32) (m : jx_Mem) : Option (Int32 × jx_Mem) := jx_K jx_kI 267 lev 51 [(0, .ref 12), (1, .int x1)] [.ref 907] m
noncomputable def f_M_ranked_51_r906 (lev : Nat) (x1 : Int32) (m : jx_Mem) : Option (Int32 × jx_Mem) := jx_K jx_kI 267 lev 51 [(0, .ref 12), (1, .int x1)] [.ref 906] m
noncomputable def f_M_ranked_51_r905 (lev : Nat) (x1 : Int32) (m : jx_Mem) : Option (Int32 × jx_Mem) := jx_K jx_kI 267 lev 51 [(0, .ref 12), (1, .int x1)] [.ref 905] m
noncomputable def f_M_ranked_51_r904 (lev : Nat) (x1 : Int32) (m : jx_Mem) : Option (Int32 × jx_Mem) := jx_K jx_kI 267 lev 51 [(0, .ref 12), (1, .int x1)] [.ref 904] m
noncomputable def f_M_ahead (lev : Nat)  (m : jx_Mem) : Option (Int32 × jx_Mem) := jx_K jx_kI 266 lev 0 [(0, .ref 12)] [] m
noncomputable def f_M_rule_79 (x1 : Int32) (m : jx_Mem) : Option (Int32 × jx_Mem) := jx_K jx_kI 268 0 79 [(0, .ref 12), (1, .int x1)] [] m
noncomputable def f_M_rule_80 (x1 : Int32) (y0 : Int32) (m : jx_Mem) : Option (Int32 × jx_Mem) := jx_K jx_kI 268 0 80 [(0, .ref 12), (1, .int x1)] [.int y0] m
noncomputable def f_M_right_15 (x1 : Int32) (x2 : Int32) (x3 : Int32) (m : jx_Mem) : Option (Int32 × jx_Mem) := jx_K jx_kI 272 0 15 [(0, .ref 12), (1, .int x1), (2, .int x2), (3, .int x3)] [] m
noncomputable def f_M_order_30 (x1 : Int32) (x2 : Int32) (x3 : Int32) (x4 : Int32) (x5 : Int32) (m : jx_Mem) : Option (Int32 × jx_Mem) := jx_K jx_kI 274 0 30 [(0, .ref 12), (1, .int x1), (2, .int x2), (3, .int x3), (4, .int x4), (5, .int x5)] [] m
noncomputable def f_M_flag_9 (y0 : Int32) (m : jx_Mem) : Option (Int32 × jx_Mem) := jx_K jx_kI 221 0 9 [] [.int y0] m
noncomputable def f_M_rounds_46 (x1 : Int32) (x2 : Int32) (x3 : Int32) (m : jx_Mem) : Option (Int32 × jx_Mem) := jx_K jx_kI 283 0 46 [(0, .ref 12), (1, .int x1), (2, .int x2), (3, .int x3)] [] m
noncomputable def f_M_lays (x1 : Int32) (m : jx_Mem) : Option jx_Mem := jx_K jx_kV 284 0 0 [(0, .ref 12), (1, .int x1)] [] m
noncomputable def f_M_settling_7 (x1 : Int32) (m : jx_Mem) : Option (Int32 × jx_Mem) := jx_K jx_kI 286 0 7 [(0, .ref 12), (1, .int x1)] [] m
noncomputable def f_M_findsThefts_4 (x1 : Int32) (x2 : Int32) (x3 : Int32) (m : jx_Mem) : Option jx_Mem := jx_K jx_kV 293 0 4 [(0, .ref 12), (1, .int x1), (2, .int x2), (3, .int x3)] [] m
noncomputable def f_M_there_6 (x1 : Int32) (x2 : Int32) (x3 : Int32) (x4 : Int32) (x5 : Int32) (m : jx_Mem) : Option (Int32 × jx_Mem) := jx_K jx_kI 295 0 6 [(0, .ref 12), (1, .int x1), (2, .int x2), (3, .int x3), (4, .int x4), (5, .int x5)] [] m
noncomputable def f_M_gang_34 (x1 : Int32) (x2 : Int32) (m : jx_Mem) : Option (Int32 × jx_Mem) := jx_K jx_kI 298 0 34 [(0, .ref 12), (1, .int x1), (2, .int x2)] [] m
noncomputable def f_M_gang_44 (x1 : Int32) (x2 : Int32) (m : jx_Mem) : Option (Int32 × jx_Mem) := jx_K jx_kI 298 0 44 [(0, .ref 12), (1, .int x1), (2, .int x2)] [] m
noncomputable def f_M_gives (lev : Nat) (x1 : Int32) (m : jx_Mem) : Option (Int32 × jx_Mem) := jx_K jx_kI 300 lev 0 [(0, .ref 12), (1, .int x1)] [] m
noncomputable def f_M_hands_41 (x1 : Int32) (x2 : Int32) (m : jx_Mem) : Option (Int32 × jx_Mem) := jx_K jx_kI 301 0 41 [(0, .ref 12), (1, .int x1), (2, .int x2)] [] m
noncomputable def f_M_loudAt_4 (x1 : Int32) (x2 : Int32) (x3 : Int32) (m : jx_Mem) : Option (Int32 × jx_Mem) := jx_K jx_kI 303 0 4 [(0, .ref 12), (1, .int x1), (2, .int x2), (3, .int x3)] [] m
noncomputable def f_M_loudest_38 (x1 : Int32) (x3 : Int32) (x4 : Int32) (m : jx_Mem) : Option (Int32 × jx_Mem) := jx_K jx_kI 305 0 38 [(0, .ref 12), (1, .int x1), (3, .int x3), (4, .int x4)] [] m
noncomputable def f_M_loudest_59 (x1 : Int32) (x3 : Int32) (x4 : Int32) (y0 : Int32) (m : jx_Mem) : Option (Int32 × jx_Mem) := jx_K jx_kI 305 0 59 [(0, .ref 12), (1, .int x1), (3, .int x3), (4, .int x4)] [.int y0] m
noncomputable def f_M_crowds_63 (x1 : Int32) (x2 : Int32) (x3 : Int32) (x4 : Int32) (x5 : Int32) (m : jx_Mem) : Option (Int32 × jx_Mem) := jx_K jx_kI 308 0 63 [(0, .ref 12), (1, .int x1), (2, .int x2), (3, .int x3), (4, .int x4), (5, .int x5)] [] m
noncomputable def f_M_gas_42 (x1 : Int32) (x2 : Int32) (y0 : Int64) (y1 : Int64) (y2 : Int64) (m : jx_Mem) : Option (Int32 × jx_Mem) := jx_K jx_kI 309 0 42 [(0, .ref 12), (1, .int x1), (2, .int x2)] [.long y0, .long y1, .long y2] m
noncomputable def f_M_waysOut_4 (x1 : Int32) (x2 : Int32) (m : jx_Mem) : Option (Int32 × jx_Mem) := jx_K jx_kI 310 0 4 [(0, .ref 12), (1, .int x1), (2, .int x2)] [] m
noncomputable def f_M_lasts_74 (x1 : Int32) (x2 : Int32) (x3 : Int32) (x4 : Int32) (m : jx_Mem) : Option (Int32 × jx_Mem) := jx_K jx_kI 311 0 74 [(0, .ref 12), (1, .int x1), (2, .int x2), (3, .int x3), (4, .int x4)] [] m
noncomputable def f_M_leave_34 (x1 : Int32) (x2 : Int32) (x3 : Int32) (x4 : Int32) (m : jx_Mem) : Option (Int32 × jx_Mem) := jx_K jx_kI 312 0 34 [(0, .ref 12), (1, .int x1), (2, .int x2), (3, .int x3), (4, .int x4)] [] m
noncomputable def f_M_sound_87 (x1 : Int32) (x2 : Int32) (x3 : Int32) (x5 : Int32) (y0 : Int32) (m : jx_Mem) : Option (Int32 × jx_Mem) := jx_K jx_kI 318 0 87 [(0, .ref 12), (1, .int x1), (2, .int x2), (3, .int x3), (5, .int x5)] [.int y0] m
noncomputable def f_M_sound_88 (x1 : Int32) (x2 : Int32) (x3 : Int32) (x5 : Int32) (y0 : Int32) (y1 : Int32) (m : jx_Mem) : Option (Int32 × jx_Mem) := jx_K jx_kI 318 0 88 [(0, .ref 12), (1, .int x1), (2, .int x2), (3, .int x3), (5, .int x5)] [.int y0, .int y1] m
noncomputable def f_M_areLate_28  (m : jx_Mem) : Option (Int32 × jx_Mem) := jx_K jx_kI 316 0 28 [] [] m
noncomputable def f_M_areLate_29 (y0 : Int32) (m : jx_Mem) : Option (Int32 × jx_Mem) := jx_K jx_kI 316 0 29 [] [.int y0] m
noncomputable def f_M_judges_24 (x1 : Int32) (x2 : Int32) (x3 : Int32) (x4 : Int32) (x5 : Int32) (x6 : Int32) (x7 : Int32) (y0 : Int32) (m : jx_Mem) : Option (Int32 × jx_Mem) := jx_K jx_kI 317 0 24 [(0, .ref 12), (1, .int x1), (2, .int x2), (3, .int x3), (4, .int x4), (5, .int x5), (6, .int x6), (7, .int x7)] [.int y0] m
noncomputable def f_M_lamp_103 (x2 : Int32) (x3 : Int32) (x4 : Int32) (x5 : Int32) (m : jx_Mem) : Option (Int32 × jx_Mem) := jx_K jx_kI 321 0 103 [(0, .ref 12), (2, .int x2), (3, .int x3), (4, .int x4), (5, .int x5)] [] m
noncomputable def f_M_lamp_87 (x1 : Int32) (x3 : Int32) (y0 : Int32) (y1 : Int32) (m : jx_Mem) : Option (Int32 × jx_Mem) := jx_K jx_kI 321 0 87 [(0, .ref 12), (1, .int x1), (3, .int x3)] [.int y0, .int y1] m
noncomputable def f_M_purses_4 (x1 : Int32) (x2 : Int32) (m : jx_Mem) : Option (Int32 × jx_Mem) := jx_K jx_kI 323 0 4 [(0, .ref 12), (1, .int x1), (2, .int x2)] [] m
noncomputable def f_M_soldBits_4 (x1 : Int32) (x2 : Int32) (m : jx_Mem) : Option (Int32 × jx_Mem) := jx_K jx_kI 322 0 4 [(0, .ref 12), (1, .int x1), (2, .int x2)] [] m
noncomputable def f_Mine_addTunnel_57 (x1 : Int32) (x2 : Int32) (x3 : Int32) (x4 : Int32) (x5 : Int32) (m : jx_Mem) : Option (Int32 × jx_Mem) := jx_K jx_kI 19 0 57 [(0, .ref 2), (1, .int x1), (2, .int x2), (3, .int x3), (4, .int x4), (5, .int x5)] [] m
noncomputable def f_Goods_isTest_16  (m : jx_Mem) : Option (Int32 × jx_Mem) := jx_K jx_kI 38 0 16 [] [] m
noncomputable def f_Goods_isTest_17 (y0 : Int32) (m : jx_Mem) : Option (Int32 × jx_Mem) := jx_K jx_kI 38 0 17 [] [.int y0] m
noncomputable def f_Goods_readSheet_47 (x1 : Int32) (x2 : Int32) (x4 : Int32) (x5 : Int32) (y0 : Int32) (m : jx_Mem) : Option (Int32 × jx_Mem) := jx_K jx_kI 46 0 47 [(0, .ref 3), (1, .int x1), (2, .int x2), (4, .int x4), (5, .int x5)] [.int y0] m
noncomputable def f_Goods_answerOf (x1 : Int32) (x2 : Int32) (m : jx_Mem) : Option (Int32 × jx_Mem) := jx_K jx_kI 44 0 0 [(0, .ref 3), (1, .int x1), (2, .int x2)] [] m
noncomputable def f_Goods_unlike_38 (x1 : Int32) (x2 : Int32) (x3 : Int32) (x4 : Int32) (m : jx_Mem) : Option (Int32 × jx_Mem) := jx_K jx_kI 48 0 38 [(0, .ref 3), (1, .int x1), (2, .int x2), (3, .int x3), (4, .int x4)] [] m
noncomputable def f_Goods_toldBy_45 (x1 : Int32) (x2 : Int32) (x3 : Int32) (x4 : Int32) (m : jx_Mem) : Option (Int32 × jx_Mem) := jx_K jx_kI 53 0 45 [(0, .ref 3), (1, .int x1), (2, .int x2), (3, .int x3), (4, .int x4)] [] m
noncomputable def f_Goods_sameAs (x1 : Int32) (x2 : Int32) (x3 : Int32) (m : jx_Mem) : Option (Int32 × jx_Mem) := jx_K jx_kI 51 0 0 [(0, .ref 3), (1, .int x1), (2, .int x2), (3, .int x3)] [] m
noncomputable def f_Row_add_32  (m : jx_Mem) : Option jx_Mem := jx_K jx_kV 7 0 32 [] [] m
noncomputable def f_Goods_fewestTests_28 (x1 : Int32) (x2 : Int32) (x3 : Int32) (m : jx_Mem) : Option (Int32 × jx_Mem) := jx_K jx_kI 54 0 28 [(0, .ref 3), (1, .int x1), (2, .int x2), (3, .int x3)] [] m
noncomputable def f_Goods_betterTests (x1 : Int32) (x2 : Int32) (m : jx_Mem) : Option (Int32 × jx_Mem) := jx_K jx_kI 55 0 0 [(0, .ref 3), (1, .int x1), (2, .int x2)] [] m
noncomputable def f_Goods_fewestTests_40 (x1 : Int32) (x2 : Int32) (x3 : Int32) (m : jx_Mem) : Option (Int32 × jx_Mem) := jx_K jx_kI 54 0 40 [(0, .ref 3), (1, .int x1), (2, .int x2), (3, .int x3)] [] m
noncomputable def f_Goods_toBan_47 (x1 : Int32) (x2 : Int32) (x3 : Int32) (x4 : Int32) (m : jx_Mem) : Option (Int32 × jx_Mem) := jx_K jx_kI 57 0 47 [(0, .ref 3), (1, .int x1), (2, .int x2), (3, .int x3), (4, .int x4)] [] m
noncomputable def f_Goods_givesWay (x1 : Int32) (x2 : Int32) (m : jx_Mem) : Option (Int32 × jx_Mem) := jx_K jx_kI 58 0 0 [(0, .ref 3), (1, .int x1), (2, .int x2)] [] m
noncomputable def f_Arr_fill_5_r24 (x1 : Int32) (x2 : Int32) (x3 : Int32) (m : jx_Mem) : Option jx_Mem := jx_K jx_kV 5 0 5 [(0, .ref 24), (1, .int x1), (2, .int x2), (3, .int x3)] [] m
noncomputable def f_Tree_least_13 (lev : Nat)  (m : jx_Mem) : Option (Int32 × jx_Mem) := jx_K jx_kI 61 lev 13 [] [] m
noncomputable def f_Tree_least_40 (lev : Nat) (x1 : Int32) (x2 : Int32) (x3 : Int32) (x4 : Int32) (x5 : Int32) (m : jx_Mem) : Option (Int32 × jx_Mem) := jx_K jx_kI 61 lev 40 [(0, .ref 4), (1, .int x1), (2, .int x2), (3, .int x3), (4, .int x4), (5, .int x5)] [] m
noncomputable def f_Tree_isSet_15  (m : jx_Mem) : Option (Int32 × jx_Mem) := jx_K jx_kI 60 0 15 [] [] m
noncomputable def f_Tree_isSet_16 (y0 : Int32) (m : jx_Mem) : Option (Int32 × jx_Mem) := jx_K jx_kI 60 0 16 [] [.int y0] m
noncomputable def f_Tree_dearest_34 (x1 : Int32) (x2 : Int32) (x3 : Int32) (m : jx_Mem) : Option (Int32 × jx_Mem) := jx_K jx_kI 64 0 34 [(0, .ref 4), (1, .int x1), (2, .int x2), (3, .int x3)] [] m
noncomputable def f_Tree_costFor (x1 : Int32) (x2 : Int32) (m : jx_Mem) : Option (Int32 × jx_Mem) := jx_K jx_kI 65 0 0 [(0, .ref 4), (1, .int x1), (2, .int x2)] [] m
noncomputable def f_Arr_fill_5_r26 (x1 : Int32) (x2 : Int32) (x3 : Int32) (m : jx_Mem) : Option jx_Mem := jx_K jx_kV 5 0 5 [(0, .ref 26), (1, .int x1), (2, .int x2), (3, .int x3)] [] m
noncomputable def f_Tree_lowest (x0 : Int32) (m : jx_Mem) : Option (Int32 × jx_Mem) := jx_K jx_kI 70 0 0 [(0, .int x0)] [] m
noncomputable def f_Tree_mostTold_43 (lev : Nat)  (m : jx_Mem) : Option (Int32 × jx_Mem) := jx_K jx_kI 68 lev 43 [] [] m
noncomputable def f_Tree_mostTold_70 (lev : Nat) (x1 : Int32) (x2 : Int32) (x3 : Int32) (x4 : Int32) (x5 : Int32) (x6 : Int32) (m : jx_Mem) : Option (Int32 × jx_Mem) := jx_K jx_kI 68 lev 70 [(0, .ref 4), (1, .int x1), (2, .int x2), (3, .int x3), (4, .int x4), (5, .int x5), (6, .int x6)] [] m
noncomputable def f_Goods_oftenOf (x1 : Int32) (m : jx_Mem) : Option (Int32 × jx_Mem) := jx_K jx_kI 52 0 0 [(0, .ref 3), (1, .int x1)] [] m
noncomputable def f_Tree_tellPath_70 (x4 : Int32) (m : jx_Mem) : Option (Int32 × jx_Mem) := jx_K jx_kI 66 0 70 [(3, .ref 1), (4, .int x4)] [] m
noncomputable def f_Goods_part (x1 : Int32) (x2 : Int32) (x3 : Int32) (m : jx_Mem) : Option (Int32 × jx_Mem) := jx_K jx_kI 49 0 0 [(0, .ref 3), (1, .int x1), (2, .int x2), (3, .int x3)] [] m
noncomputable def f_Rule_read_83 (x1 : Int32) (m : jx_Mem) : Option (Int32 × jx_Mem) := jx_K jx_kI 74 0 83 [(0, .ref 5), (1, .int x1)] [] m
noncomputable def f_Rule_takesBehind (x1 : Int32) (m : jx_Mem) : Option (Int32 × jx_Mem) := jx_K jx_kI 77 0 0 [(0, .ref 5), (1, .int x1)] [] m
noncomputable def f_Rule_read_68 (x1 : Int32) (x2 : Int32) (y0 : Int32) (m : jx_Mem) : Option (Int32 × jx_Mem) := jx_K jx_kI 74 0 68 [(0, .ref 5), (1, .int x1), (2, .int x2)] [.int y0] m
noncomputable def f_Rule_takesThing (x1 : Int32) (m : jx_Mem) : Option (Int32 × jx_Mem) := jx_K jx_kI 76 0 0 [(0, .ref 5), (1, .int x1)] [] m
noncomputable def f_Rule_valueFor_180 (y0 : Int32) (m : jx_Mem) : Option (Int32 × jx_Mem) := jx_K jx_kI 88 0 180 [] [.int y0] m
noncomputable def f_Rule_valueFor_34 (x1 : Int32) (x2 : Int32) (x3 : Int32) (x4 : Int32) (m : jx_Mem) : Option (Int32 × jx_Mem) := jx_K jx_kI 88 0 34 [(0, .ref 5), (1, .int x1), (2, .int x2), (3, .int x3), (4, .int x4)] [] m
noncomputable def f_Rule_isSign (x0 : Int32) (m : jx_Mem) : Option (Int32 × jx_Mem) := jx_K jx_kI 82 0 0 [(0, .int x0)] [] m
noncomputable def f_Rule_valueFor_124 (x1 : Int32) (x2 : Int32) (x3 : Int32) (x4 : Int32) (m : jx_Mem) : Option (Int32 × jx_Mem) := jx_K jx_kI 88 0 124 [(0, .ref 5), (1, .int x1), (2, .int x2), (3, .int x3), (4, .int x4)] [] m
noncomputable def f_Rule_levelWaiting (x0 : Int32) (m : jx_Mem) : Option (Int32 × jx_Mem) := jx_K jx_kI 84 0 0 [(0, .int x0)] [] m
noncomputable def f_Rule_valueFor_117 (x1 : Int32) (x2 : Int32) (x3 : Int32) (y0 : Int32) (y1 : Int32) (m : jx_Mem) : Option (Int32 × jx_Mem) := jx_K jx_kI 88 0 117 [(0, .ref 5), (1, .int x1), (2, .int x2), (3, .int x3)] [.int y0, .int y1, .ref 32] m
noncomputable def f_Rule_valueFor_120 (x1 : Int32) (x2 : Int32) (x3 : Int32) (y0 : Int32) (y1 : Int32) (m : jx_Mem) : Option (Int32 × jx_Mem) := jx_K jx_kI 88 0 120 [(0, .ref 5), (1, .int x1), (2, .int x2), (3, .int x3)] [.int y0, .int y1, .ref 32] m
noncomputable def f_Rule_tellOrder_41 (x2 : Int32) (x3 : Int32) (x4 : Int32) (m : jx_Mem) : Option (Int32 × jx_Mem) := jx_K jx_kI 93 0 41 [(0, .ref 5), (1, .ref 1), (2, .int x2), (3, .int x3), (4, .int x4)] [] m
noncomputable def f_Asking_wantsOf_25 (x1 : Int32) (x2 : Int32) (m : jx_Mem) : Option (Int32 × jx_Mem) := jx_K jx_kI 109 0 25 [(0, .ref 7), (1, .int x1), (2, .int x2)] [] m
noncomputable def f_Asking_wantsOf_26 (x1 : Int32) (x2 : Int32) (y0 : Int32) (m : jx_Mem) : Option (Int32 × jx_Mem) := jx_K jx_kI 109 0 26 [(0, .ref 7), (1, .int x1), (2, .int x2)] [.int y0] m
noncomputable def f_Asking_findLates_2 (x1 : Int32) (m : jx_Mem) : Option jx_Mem := jx_K jx_kV 117 0 2 [(0, .ref 7), (1, .int x1)] [] m
noncomputable def f_Arr_fill_5_r43 (x1 : Int32) (x2 : Int32) (x3 : Int32) (m : jx_Mem) : Option jx_Mem := jx_K jx_kV 5 0 5 [(0, .ref 43), (1, .int x1), (2, .int x2), (3, .int x3)] [] m
noncomputable def f_Asking_askOnce (x1 : Int32) (m : jx_Mem) : Option (Int32 × jx_Mem) := jx_K jx_kI 119 0 0 [(0, .ref 7), (1, .int x1)] [] m
noncomputable def f_Asking_foresee_28 (x1 : Int32) (x2 : Int32) (m : jx_Mem) : Option (Int32 × jx_Mem) := jx_K jx_kI 115 0 28 [(0, .ref 7), (1, .int x1), (2, .int x2)] [] m
noncomputable def f_Mine_joined_17 (y0 : Int32) (m : jx_Mem) : Option (Int32 × jx_Mem) := jx_K jx_kI 21 0 17 [] [.int y0] m
noncomputable def f_Items_note_73  (m : jx_Mem) : Option jx_Mem := jx_K jx_kV 106 0 73 [] [] m
noncomputable def f_Mine_setPurse_21  (m : jx_Mem) : Option jx_Mem := jx_K jx_kV 28 0 21 [] [] m
noncomputable def f_Watch_addCount_123 (x1 : Int32) (x2 : Int32) (x3 : Int32) (x4 : Int32) (m : jx_Mem) : Option (Int32 × jx_Mem) := jx_K jx_kI 124 0 123 [(0, .ref 8), (1, .int x1), (2, .int x2), (3, .int x3), (4, .int x4)] [] m
noncomputable def f_Watch_countAhead (x1 : Int32) (m : jx_Mem) : Option (Int32 × jx_Mem) := jx_K jx_kI 127 0 0 [(0, .ref 8), (1, .int x1)] [] m
noncomputable def f_Watch_tellThefts_93 (x3 : Int32) (x4 : Int32) (x5 : Int32) (y0 : Int32) (m : jx_Mem) : Option (Int32 × jx_Mem) := jx_K jx_kI 129 0 93 [(0, .ref 8), (2, .ref 1), (3, .int x3), (4, .int x4), (5, .int x5)] [.int y0] m
noncomputable def f_Watch_tellThefts_67 (x1 : Int32) (x3 : Int32) (x4 : Int32) (x5 : Int32) (x6 : Int32) (m : jx_Mem) : Option (Int32 × jx_Mem) := jx_K jx_kI 129 0 67 [(0, .ref 8), (1, .int x1), (2, .ref 1), (3, .int x3), (4, .int x4), (5, .int x5), (6, .int x6)] [] m
noncomputable def f_Watch_takenBy (x1 : Int32) (m : jx_Mem) : Option (Int32 × jx_Mem) := jx_K jx_kI 128 0 0 [(0, .ref 8), (1, .int x1)] [] m
noncomputable def f_Watch_tellThefts_51 (x1 : Int32) (x3 : Int32) (x5 : Int32) (x6 : Int32) (y0 : Int32) (m : jx_Mem) : Option (Int32 × jx_Mem) := jx_K jx_kI 129 0 51 [(0, .ref 8), (1, .int x1), (2, .ref 1), (3, .int x3), (5, .int x5), (6, .int x6)] [.int y0] m
noncomputable def f_Watch_suspectsOf_49 (x1 : Int32) (x2 : Int32) (x3 : Int32) (x4 : Int32) (m : jx_Mem) : Option (Int32 × jx_Mem) := jx_K jx_kI 130 0 49 [(0, .ref 8), (1, .int x1), (2, .int x2), (3, .int x3), (4, .int x4)] [] m
noncomputable def f_Watch_suspectsBy (x1 : Int32) (m : jx_Mem) : Option (Int32 × jx_Mem) := jx_K jx_kI 131 0 0 [(0, .ref 8), (1, .int x1)] [] m
noncomputable def f_Watch_smallestGang_44 (x1 : Int32) (x2 : Int32) (x3 : Int32) (m : jx_Mem) : Option (Int32 × jx_Mem) := jx_K jx_kI 133 0 44 [(0, .ref 8), (1, .int x1), (2, .int x2), (3, .int x3)] [] m
noncomputable def f_Watch_smallestGang_34 (x1 : Int32) (x2 : Int32) (m : jx_Mem) : Option (Int32 × jx_Mem) := jx_K jx_kI 133 0 34 [(0, .ref 8), (1, .int x1), (2, .int x2)] [] m
noncomputable def f_Arr_fill_r56 (x1 : Int32) (m : jx_Mem) : Option jx_Mem := jx_K jx_kV 5 0 0 [(0, .ref 56), (1, .int x1)] [] m
noncomputable def f_Watch_tellHands_64 (x2 : Int32) (x3 : Int32) (x4 : Int64) (x6 : Int32) (m : jx_Mem) : Option (Int32 × jx_Mem) := jx_K jx_kI 135 0 64 [(0, .ref 8), (1, .ref 1), (2, .int x2), (3, .int x3), (4, .long x4), (6, .int x6)] [] m
noncomputable def f_Watch_giveTo (x1 : Int32) (x2 : Int32) (m : jx_Mem) : Option jx_Mem := jx_K jx_kV 136 0 0 [(0, .ref 8), (1, .int x1), (2, .int x2)] [] m
noncomputable def f_Noise_voice (x1 : Int32) (x2 : Int32) (m : jx_Mem) : Option (Int32 × jx_Mem) := jx_K jx_kI 141 0 0 [(0, .ref 9), (1, .int x1), (2, .int x2)] [] m
noncomputable def f_Noise_tellLoudest_56 (x2 : Int32) (x3 : Int32) (x4 : Int32) (x5 : Int32) (m : jx_Mem) : Option (Int32 × jx_Mem) := jx_K jx_kI 143 0 56 [(0, .ref 9), (1, .ref 1), (2, .int x2), (3, .int x3), (4, .int x4), (5, .int x5)] [] m
noncomputable def f_Math_max_10 (y0 : Int32) (m : jx_Mem) : Option (Int32 × jx_Mem) := jx_K jx_kI 1 0 10 [] [.int y0] m
noncomputable def f_Arr_fill_5_r61 (x1 : Int32) (x2 : Int32) (x3 : Int32) (m : jx_Mem) : Option jx_Mem := jx_K jx_kV 5 0 5 [(0, .ref 61), (1, .int x1), (2, .int x2), (3, .int x3)] [] m
noncomputable def f_Arr_fill_r62 (x1 : Int32) (m : jx_Mem) : Option jx_Mem := jx_K jx_kV 5 0 0 [(0, .ref 62), (1, .int x1)] [] m
noncomputable def f_Noise_findRests_15 (x1 : Int32) (m : jx_Mem) : Option jx_Mem := jx_K jx_kV 146 0 15 [(0, .ref 9), (1, .int x1)] [] m
noncomputable def f_Noise_fill_16 (lev : Nat)  (m : jx_Mem) : Option (Int32 × jx_Mem) := jx_K jx_kI 147 lev 16 [] [] m
noncomputable def f_Noise_isHopeless (x1 : Int32) (m : jx_Mem) : Option (Int32 × jx_Mem) := jx_K jx_kI 148 0 0 [(0, .ref 9), (1, .int x1)] [] m
noncomputable def f_Noise_fill_36 (lev : Nat) (x1 : Int32) (x2 : Int32) (x3 : Int32) (m : jx_Mem) : Option (Int32 × jx_Mem) := jx_K jx_kI 147 lev 36 [(0, .ref 9), (1, .int x1), (2, .int x2), (3, .int x3)] [] m
noncomputable def f_Noise_keepFirst  (m : jx_Mem) : Option jx_Mem := jx_K jx_kV 150 0 0 [(0, .ref 9)] [] m
noncomputable def f_Noise_tellCrowds_84 (x4 : Int32) (m : jx_Mem) : Option (Int32 × jx_Mem) := jx_K jx_kI 145 0 84 [(4, .int x4)] [] m
noncomputable def f_Air_set_58 (x1 : Int32) (x2 : Int32) (x3 : Int32) (m : jx_Mem) : Option (Int32 × jx_Mem) := jx_K jx_kI 151 0 58 [(0, .ref 10), (1, .int x1), (2, .int x2), (3, .int x3)] [] m
noncomputable def f_Air_stay_93 (x2 : Int32) (m : jx_Mem) : Option (Int32 × jx_Mem) := jx_K jx_kI 153 0 93 [(2, .int x2)] [] m
noncomputable def f_Mine_farOut (x1 : Int32) (m : jx_Mem) : Option (Int32 × jx_Mem) := jx_K jx_kI 30 0 0 [(0, .ref 2), (1, .int x1)] [] m
noncomputable def f_Air_tellLeaving_107  (m : jx_Mem) : Option (Int32 × jx_Mem) := jx_K jx_kI 154 0 107 [(1, .ref 1)] [] m
noncomputable def f_Air_nearest (x1 : Int32) (m : jx_Mem) : Option (Int32 × jx_Mem) := jx_K jx_kI 155 0 0 [(0, .ref 10), (1, .int x1)] [] m
noncomputable def f_Ears_setChance_50 (x1 : Int32) (x2 : Int32) (x4 : Int32) (y0 : Int32) (y1 : Int32) (m : jx_Mem) : Option (Int32 × jx_Mem) := jx_K jx_kI 156 0 50 [(0, .ref 11), (1, .int x1), (2, .int x2), (4, .int x4)] [.int y0, .int y1] m
noncomputable def f_Mine_wallOf (x1 : Int32) (m : jx_Mem) : Option (Int32 × jx_Mem) := jx_K jx_kI 23 0 0 [(0, .ref 2), (1, .int x1)] [] m
noncomputable def f_Ears_tellSound_103 (x1 : Int32) (x2 : Int32) (x4 : Int32) (x5 : Int32) (x6 : Int32) (m : jx_Mem) : Option (Int32 × jx_Mem) := jx_K jx_kI 158 0 103 [(0, .ref 11), (1, .int x1), (2, .int x2), (3, .ref 1), (4, .int x4), (5, .int x5), (6, .int x6)] [] m
noncomputable def f_Ears_likeliest (x1 : Int32) (m : jx_Mem) : Option (Int32 × jx_Mem) := jx_K jx_kI 163 0 0 [(0, .ref 11), (1, .int x1), (2, .ref 1)] [] m
noncomputable def f_Ears_weightOf (x1 : Int32) (x2 : Int32) (x3 : Int32) (x4 : Int32) (m : jx_Mem) : Option (Int32 × jx_Mem) := jx_K jx_kI 160 0 0 [(0, .ref 11), (1, .int x1), (2, .int x2), (3, .int x3), (4, .int x4)] [] m
noncomputable def f_Ears_tellClapper_67 (x1 : Int32) (x2 : Int32) (x3 : Int32) (x5 : Int32) (x6 : Int32) (y0 : Int32) (y1 : Int32) (m : jx_Mem) : Option (Int32 × jx_Mem) := jx_K jx_kI 162 0 67 [(0, .ref 11), (1, .int x1), (2, .int x2), (3, .int x3), (4, .ref 1), (5, .int x5), (6, .int x6)] [.int y0, .int y1, .ref 64] m
noncomputable def f_Mine_peopleNear_37 (x1 : Int32) (x2 : Int32) (x3 : Int32) (x4 : Int32) (m : jx_Mem) : Option (Int32 × jx_Mem) := jx_K jx_kI 32 0 37 [(0, .ref 2), (1, .int x1), (2, .int x2), (3, .int x3), (4, .int x4)] [] m
noncomputable def f_Items_ownedBy_31 (x1 : Int32) (x2 : Int32) (x3 : Int32) (m : jx_Mem) : Option (Int32 × jx_Mem) := jx_K jx_kI 104 0 31 [(0, .ref 6), (1, .int x1), (2, .int x2), (3, .int x3)] [] m
noncomputable def f_Asking_wantedByTwo_56 (x1 : Int32) (x2 : Int32) (x3 : Int32) (x4 : Int32) (m : jx_Mem) : Option (Int32 × jx_Mem) := jx_K jx_kI 122 0 56 [(0, .ref 7), (1, .int x1), (2, .int x2), (3, .int x3), (4, .int x4)] [] m
noncomputable def f_Asking_wanters (x1 : Int32) (x2 : Int32) (m : jx_Mem) : Option (Int32 × jx_Mem) := jx_K jx_kI 123 0 0 [(0, .ref 7), (1, .int x1), (2, .int x2)] [] m
noncomputable def f_Arr_fill_5_r18 (x1 : Int32) (x2 : Int32) (x3 : Int32) (m : jx_Mem) : Option jx_Mem := jx_K jx_kV 5 0 5 [(0, .ref 18), (1, .int x1), (2, .int x2), (3, .int x3)] [] m
noncomputable def f_M_tunnel_77 (x4 : Int32) (x5 : Int32) (x6 : Int32) (m : jx_Mem) : Option (Int32 × jx_Mem) := jx_K jx_kI 229 0 77 [(0, .ref 12), (4, .int x4), (5, .int x5), (6, .int x6)] [] m
noncomputable def f_M_sheet_164 (y0 : Int32) (m : jx_Mem) : Option (Int32 × jx_Mem) := jx_K jx_kI 243 0 164 [] [.int y0] m
noncomputable def f_M_sheet_87 (x1 : Int32) (x2 : Int32) (x3 : Int32) (x5 : Int32) (x6 : Int32) (x7 : Int32) (x8 : Int32) (y0 : Int32) (m : jx_Mem) : Option (Int32 × jx_Mem) := jx_K jx_kI 243 0 87 [(0, .ref 12), (1, .int x1), (2, .int x2), (3, .int x3), (5, .int x5), (6, .int x6), (7, .int x7), (8, .int x8)] [.int y0] m
noncomputable def f_M_partedBy_40 (x1 : Int32) (x2 : Int32) (x4 : Int32) (y0 : Int32) (y1 : Int32) (m : jx_Mem) : Option (Int32 × jx_Mem) := jx_K jx_kI 244 0 40 [(0, .ref 12), (1, .int x1), (2, .int x2), (4, .int x4)] [.int y0, .int y1] m
noncomputable def f_M_mixed_42 (x1 : Int32) (x2 : Int32) (x4 : Int32) (y0 : Int32) (m : jx_Mem) : Option (Int32 × jx_Mem) := jx_K jx_kI 247 0 42 [(0, .ref 12), (1, .int x1), (2, .int x2), (4, .int x4)] [.int y0] m
noncomputable def f_M_isMixed (x1 : Int32) (x2 : Int32) (x3 : Int32) (m : jx_Mem) : Option (Int32 × jx_Mem) := jx_K jx_kI 246 0 0 [(0, .ref 12), (1, .int x1), (2, .int x2), (3, .int x3)] [] m
noncomputable def f_M_mixed_43 (x1 : Int32) (x2 : Int32) (x4 : Int32) (y0 : Int32) (y1 : Int32) (m : jx_Mem) : Option (Int32 × jx_Mem) := jx_K jx_kI 247 0 43 [(0, .ref 12), (1, .int x1), (2, .int x2), (4, .int x4)] [.int y0, .int y1] m
noncomputable def f_M_isBetter_40  (m : jx_Mem) : Option (Int32 × jx_Mem) := jx_K jx_kI 250 0 40 [] [] m
noncomputable def f_M_isBetter_44  (m : jx_Mem) : Option (Int32 × jx_Mem) := jx_K jx_kI 250 0 44 [] [] m
noncomputable def f_M_sumOf_r72 (x1 : Int32) (m : jx_Mem) : Option (Int32 × jx_Mem) := jx_K jx_kI 249 0 0 [(0, .ref 12), (1, .int x1), (2, .ref 72)] [] m
noncomputable def f_M_ban_88 (x1 : Int32) (x2 : Int32) (x3 : Int32) (x4 : Int32) (m : jx_Mem) : Option (Int32 × jx_Mem) := jx_K jx_kI 252 0 88 [(0, .ref 12), (1, .int x1), (2, .int x2), (3, .int x3), (4, .int x4)] [] m
noncomputable def f_M_isBetter_r71 (x1 : Int32) (x2 : Int32) (m : jx_Mem) : Option (Int32 × jx_Mem) := jx_K jx_kI 250 0 0 [(0, .ref 12), (1, .int x1), (2, .int x2), (3, .ref 71)] [] m
noncomputable def f_M_ban_89 (x1 : Int32) (x2 : Int32) (x4 : Int32) (y0 : Int32) (m : jx_Mem) : Option (Int32 × jx_Mem) := jx_K jx_kI 252 0 89 [(0, .ref 12), (1, .int x1), (2, .int x2), (4, .int x4)] [.int y0] m
noncomputable def f_M_trees_41 (x1 : Int32) (x2 : Int32) (x3 : Int32) (m : jx_Mem) : Option jx_Mem := jx_K jx_kV 255 0 41 [(0, .ref 12), (1, .int x1), (2, .int x2), (3, .int x3)] [] m
noncomputable def f_M_trees_209 (x1 : Int32) (x2 : Int32) (m : jx_Mem) : Option jx_Mem := jx_K jx_kV 255 0 209 [(0, .ref 12), (1, .int x1), (2, .int x2)] [] m
noncomputable def f_M_copper_75 (x1 : Int32) (x3 : Int32) (x4 : Int32) (m : jx_Mem) : Option (Int32 × jx_Mem) := jx_K jx_kI 258 0 75 [(0, .ref 12), (1, .int x1), (3, .int x3), (4, .int x4)] [] m
noncomputable def f_M_tells (x1 : Int32) (x2 : Int32) (m : jx_Mem) : Option jx_Mem := jx_K jx_kV 257 0 0 [(0, .ref 12), (1, .int x1), (2, .int x2)] [] m
noncomputable def f_M_partOf_6 (x1 : Int32) (x2 : Int32) (x3 : Int32) (x4 : Int32) (x5 : Int32) (m : jx_Mem) : Option (Int32 × jx_Mem) := jx_K jx_kI 253 0 6 [(0, .ref 12), (1, .int x1), (2, .int x2), (3, .int x3), (4, .int x4), (5, .int x5)] [] m
noncomputable def f_M_ranked_63_r908 (lev : Nat) (x1 : Int32) (x3 : Int32) (x4 : Int32) (m : jx_Mem) : Option (Int32 × jx_Mem) := jx_K jx_kI 267 lev 63 [(0, .ref 12), (1, .int x1), (2, .ref 908), (3, .int x3), (4, .int x4)] [] m
noncomputable def f_M_ranked_63_r907 (lev : Nat) (x1 : Int32) (x3 : Int32) (x4 : Int32) (m : jx_Mem) : Option (Int32 × jx_Mem) := jx_K jx_kI 267 lev 63 [(0, .ref 12), (1, .int x1), (2, .ref 907), (3, .int x3), (4, .int x4)] [] m
noncomputable def f_M_ranked_63_r906 (lev : Nat) (x1 : Int32) (x3 : Int32) (x4 : Int32) (m : jx_Mem) : Option (Int32 × jx_Mem) := jx_K jx_kI 267 lev 63 [(0, .ref 12), (1, .int x1), (2, .ref 906), (3, .int x3), (4, .int x4)] [] m
noncomputable def f_M_ranked_63_r905 (lev : Nat) (x1 : Int32) (x3 : Int32) (x4 : Int32) (m : jx_Mem) : Option (Int32 × jx_Mem) := jx_K jx_kI 267 lev 63 [(0, .ref 12), (1, .int x1), (2, .ref 905), (3, .int x3), (4, .int x4)] [] m
noncomputable def f_M_ranked_63_r904 (lev : Nat) (x1 : Int32) (x3 : Int32) (x4 : Int32) (m : jx_Mem) : Option (Int32 × jx_Mem) := jx_K jx_kI 267 lev 63 [(0, .ref 12), (1, .int x1), (2, .ref 904), (3, .int x3), (4, .int x4)] [] m
noncomputable def f_M_among_r903  (m : jx_Mem) : Option (Int32 × jx_Mem) := jx_K jx_kI 263 0 0 [(0, .ref 12), (1, .ref 903)] [] m
noncomputable def f_M_ahead_54 (lev : Nat) (x2 : Int32) (m : jx_Mem) : Option (Int32 × jx_Mem) := jx_K jx_kI 266 lev 54 [(2, .int x2)] [] m
noncomputable def f_M_ahead_50 (lev : Nat) (x2 : Int32) (y0 : Int32) (y1 : Int32) (m : jx_Mem) : Option (Int32 × jx_Mem) := jx_K jx_kI 266 lev 50 [(2, .int x2)] [.int y0, .int y1, .ref 12] m
noncomputable def f_M_thing_ (lev : Nat)  (m : jx_Mem) : Option (Int32 × jx_Mem) := jx_K jx_kI 265 lev 0 [(0, .ref 12)] [] m
noncomputable def f_M_rule_103 (x3 : Int32) (m : jx_Mem) : Option (Int32 × jx_Mem) := jx_K jx_kI 268 0 103 [(0, .ref 12), (3, .int x3)] [] m
noncomputable def f_M_rule_100  (m : jx_Mem) : Option (Int32 × jx_Mem) := jx_K jx_kI 268 0 100 [] [] m
noncomputable def f_M_acted (x0 : Int32) (x1 : Int32) (x2 : Int32) (m : jx_Mem) : Option (Int32 × jx_Mem) := jx_K jx_kI 271 0 0 [(0, .int x0), (1, .int x1), (2, .int x2)] [] m
noncomputable def f_M_right_177 (x1 : Int32) (x2 : Int32) (x3 : Int32) (m : jx_Mem) : Option (Int32 × jx_Mem) := jx_K jx_kI 272 0 177 [(0, .ref 12), (1, .int x1), (2, .int x2), (3, .int x3)] [] m
noncomputable def f_M_right_108 (x1 : Int32) (x2 : Int32) (x3 : Int32) (y0 : Int32) (y1 : Int32) (m : jx_Mem) : Option (Int32 × jx_Mem) := jx_K jx_kI 272 0 108 [(0, .ref 12), (1, .int x1), (2, .int x2), (3, .int x3)] [.int y0, .int y1, .ref 80] m
noncomputable def f_M_valueOf (x1 : Int32) (x2 : Int32) (m : jx_Mem) : Option (Int32 × jx_Mem) := jx_K jx_kI 269 0 0 [(0, .ref 12), (1, .int x1), (2, .int x2)] [] m
noncomputable def f_M_right_70 (x1 : Int32) (x2 : Int32) (x3 : Int32) (y0 : Int32) (y1 : Int32) (m : jx_Mem) : Option (Int32 × jx_Mem) := jx_K jx_kI 272 0 70 [(0, .ref 12), (1, .int x1), (2, .int x2), (3, .int x3)] [.int y0, .int y1, .ref 80] m
noncomputable def f_M_order_100 (x1 : Int32) (x2 : Int32) (x3 : Int32) (x5 : Int32) (m : jx_Mem) : Option (Int32 × jx_Mem) := jx_K jx_kI 274 0 100 [(0, .ref 12), (1, .int x1), (2, .int x2), (3, .int x3), (5, .int x5)] [] m
noncomputable def f_M_order_73 (x1 : Int32) (x2 : Int32) (x3 : Int32) (x4 : Int32) (x5 : Int32) (m : jx_Mem) : Option (Int32 × jx_Mem) := jx_K jx_kI 274 0 73 [(0, .ref 12), (1, .int x1), (2, .int x2), (3, .int x3), (4, .int x4), (5, .int x5)] [] m
noncomputable def f_M_order_68 (x1 : Int32) (x2 : Int32) (x3 : Int32) (x5 : Int32) (m : jx_Mem) : Option (Int32 × jx_Mem) := jx_K jx_kI 274 0 68 [(0, .ref 12), (1, .int x1), (2, .int x2), (3, .int x3), (5, .int x5)] [] m
noncomputable def f_M_rounds_69 (x2 : Int32) (x3 : Int32) (m : jx_Mem) : Option (Int32 × jx_Mem) := jx_K jx_kI 283 0 69 [(0, .ref 12), (2, .int x2), (3, .int x3)] [] m
noncomputable def f_M_goesRound  (m : jx_Mem) : Option (Int32 × jx_Mem) := jx_K jx_kI 282 0 0 [(0, .ref 12)] [] m
noncomputable def f_M_lays_2 (x1 : Int32) (x2 : Int32) (m : jx_Mem) : Option jx_Mem := jx_K jx_kV 284 0 2 [(0, .ref 12), (1, .int x1), (2, .int x2)] [] m
noncomputable def f_M_settling_23 (x1 : Int32) (x2 : Int32) (m : jx_Mem) : Option (Int32 × jx_Mem) := jx_K jx_kI 286 0 23 [(0, .ref 12), (1, .int x1), (2, .int x2)] [] m
noncomputable def f_M_findsThefts_107 (x2 : Int32) (x3 : Int32) (m : jx_Mem) : Option jx_Mem := jx_K jx_kV 293 0 107 [(0, .ref 12), (2, .int x2), (3, .int x3)] [] m
noncomputable def f_M_findsThefts_28 (x1 : Int32) (x2 : Int32) (x3 : Int32) (x4 : Int32) (m : jx_Mem) : Option jx_Mem := jx_K jx_kV 293 0 28 [(0, .ref 12), (1, .int x1), (2, .int x2), (3, .int x3), (4, .int x4)] [] m
noncomputable def f_M_findsThefts_89 (x1 : Int32) (x2 : Int32) (x3 : Int32) (m : jx_Mem) : Option jx_Mem := jx_K jx_kV 293 0 89 [(0, .ref 12), (1, .int x1), (2, .int x2), (3, .int x3)] [] m
noncomputable def f_M_there_62 (x1 : Int32) (x2 : Int32) (x3 : Int32) (x5 : Int32) (y0 : Int32) (m : jx_Mem) : Option (Int32 × jx_Mem) := jx_K jx_kI 295 0 62 [(0, .ref 12), (1, .int x1), (2, .int x2), (3, .int x3), (5, .int x5)] [.int y0] m
noncomputable def f_M_there_63 (x1 : Int32) (x2 : Int32) (x3 : Int32) (x5 : Int32) (y0 : Int32) (y1 : Int32) (m : jx_Mem) : Option (Int32 × jx_Mem) := jx_K jx_kI 295 0 63 [(0, .ref 12), (1, .int x1), (2, .int x2), (3, .int x3), (5, .int x5)] [.int y0, .int y1] m
noncomputable def f_M_isGang (x1 : Int32) (m : jx_Mem) : Option (Int32 × jx_Mem) := jx_K jx_kI 297 0 0 [(0, .ref 12), (1, .int x1)] [] m
noncomputable def f_M_gives_71 (lev : Nat) (x1 : Int32) (x2 : Int32) (x3 : Int32) (x4 : Int32) (m : jx_Mem) : Option (Int32 × jx_Mem) := jx_K jx_kI 300 lev 71 [(0, .ref 12), (1, .int x1), (2, .int x2), (3, .int x3), (4, .int x4)] [] m
noncomputable def f_M_gives_10 (lev : Nat) (x2 : Int32) (m : jx_Mem) : Option (Int32 × jx_Mem) := jx_K jx_kI 300 lev 10 [(0, .ref 12), (2, .int x2)] [] m
noncomputable def f_M_sounds (x0 : Int32) (m : jx_Mem) : Option (Int32 × jx_Mem) := jx_K jx_kI 302 0 0 [(0, .int x0)] [] m
noncomputable def f_M_loudest_75 (x2 : Int32) (x3 : Int32) (y0 : Int32) (m : jx_Mem) : Option (Int32 × jx_Mem) := jx_K jx_kI 305 0 75 [(0, .ref 12), (2, .int x2), (3, .int x3)] [.int y0] m
noncomputable def f_M_crowds_78 (x1 : Int32) (x2 : Int32) (x3 : Int32) (x4 : Int32) (x5 : Int32) (x6 : Int32) (x7 : Int32) (m : jx_Mem) : Option (Int32 × jx_Mem) := jx_K jx_kI 308 0 78 [(0, .ref 12), (1, .int x1), (2, .int x2), (3, .int x3), (4, .int x4), (5, .int x5), (6, .int x6), (7, .int x7)] [] m
noncomputable def f_M_gas_89 (x1 : Int32) (x2 : Int32) (y0 : Int32) (m : jx_Mem) : Option (Int32 × jx_Mem) := jx_K jx_kI 309 0 89 [(0, .ref 12), (1, .int x1), (2, .int x2)] [.int y0] m
noncomputable def f_M_lasts_115 (x1 : Int32) (x2 : Int32) (x3 : Int32) (x4 : Int32) (m : jx_Mem) : Option (Int32 × jx_Mem) := jx_K jx_kI 311 0 115 [(0, .ref 12), (1, .int x1), (2, .int x2), (3, .int x3), (4, .int x4)] [] m
noncomputable def f_M_lasts_120 (x1 : Int32) (x2 : Int32) (x3 : Int32) (x4 : Int32) (y0 : Int32) (m : jx_Mem) : Option (Int32 × jx_Mem) := jx_K jx_kI 311 0 120 [(0, .ref 12), (1, .int x1), (2, .int x2), (3, .int x3), (4, .int x4)] [.int y0] m
noncomputable def f_M_leave_45 (x1 : Int32) (x2 : Int32) (x3 : Int32) (x5 : Int32) (x6 : Int32) (m : jx_Mem) : Option (Int32 × jx_Mem) := jx_K jx_kI 312 0 45 [(0, .ref 12), (1, .int x1), (2, .int x2), (3, .int x3), (5, .int x5), (6, .int x6)] [] m
noncomputable def f_M_judges_29 (x1 : Int32) (x2 : Int32) (x3 : Int32) (x4 : Int32) (x5 : Int32) (x6 : Int32) (x7 : Int32) (x8 : Int32) (x9 : Int32) (m : jx_Mem) : Option (Int32 × jx_Mem) := jx_K jx_kI 317 0 29 [(0, .ref 12), (1, .int x1), (2, .int x2), (3, .int x3), (4, .int x4), (5, .int x5), (6, .int x6), (7, .int x7), (8, .int x8), (9, .int x9)] [] m
noncomputable def f_M_lamp_142 (x2 : Int32) (x3 : Int32) (x4 : Int32) (x5 : Int32) (x6 : Int32) (x7 : Int32) (m : jx_Mem) : Option (Int32 × jx_Mem) := jx_K jx_kI 321 0 142 [(0, .ref 12), (2, .int x2), (3, .int x3), (4, .int x4), (5, .int x5), (6, .int x6), (7, .int x7)] [] m
noncomputable def f_M_lamp_248 (x2 : Int32) (x3 : Int32) (x4 : Int32) (x5 : Int32) (m : jx_Mem) : Option (Int32 × jx_Mem) := jx_K jx_kI 321 0 248 [(0, .ref 12), (2, .int x2), (3, .int x3), (4, .int x4), (5, .int x5)] [] m
noncomputable def f_M_soldBits_29 (x2 : Int32) (y0 : Int32) (y1 : Int32) (m : jx_Mem) : Option (Int32 × jx_Mem) := jx_K jx_kI 322 0 29 [(0, .ref 12), (2, .int x2)] [.int y0, .int y1] m
noncomputable def f_Goods_readSheet_55 (x1 : Int32) (x2 : Int32) (x4 : Int32) (x5 : Int32) (x6 : Int32) (x7 : Int32) (x8 : Int32) (m : jx_Mem) : Option (Int32 × jx_Mem) := jx_K jx_kI 46 0 55 [(0, .ref 3), (1, .int x1), (2, .int x2), (4, .int x4), (5, .int x5), (6, .int x6), (7, .int x7), (8, .int x8)] [] m
noncomputable def f_Goods_answerOf_30  (m : jx_Mem) : Option (Int32 × jx_Mem) := jx_K jx_kI 44 0 30 [] [] m
noncomputable def f_Goods_answerOf_31 (y0 : Int32) (m : jx_Mem) : Option (Int32 × jx_Mem) := jx_K jx_kI 44 0 31 [] [.int y0] m
noncomputable def f_Goods_sameAs_6 (x1 : Int32) (x2 : Int32) (x4 : Int32) (x5 : Int32) (m : jx_Mem) : Option (Int32 × jx_Mem) := jx_K jx_kI 51 0 6 [(0, .ref 3), (1, .int x1), (2, .int x2), (4, .int x4), (5, .int x5)] [] m
noncomputable def f_Goods_betterTests_31  (m : jx_Mem) : Option (Int32 × jx_Mem) := jx_K jx_kI 55 0 31 [] [] m
noncomputable def f_Goods_betterTests_35  (m : jx_Mem) : Option (Int32 × jx_Mem) := jx_K jx_kI 55 0 35 [] [] m
noncomputable def f_Goods_costOfAll (x1 : Int32) (m : jx_Mem) : Option (Int32 × jx_Mem) := jx_K jx_kI 56 0 0 [(0, .ref 3), (1, .int x1)] [] m
noncomputable def f_Goods_givesWay_2 (x1 : Int32) (x2 : Int32) (x3 : Int32) (m : jx_Mem) : Option (Int32 × jx_Mem) := jx_K jx_kI 58 0 2 [(0, .ref 3), (1, .int x1), (2, .int x2), (3, .int x3)] [] m
noncomputable def f_Goods_parts (x1 : Int32) (x2 : Int32) (m : jx_Mem) : Option (Int32 × jx_Mem) := jx_K jx_kI 50 0 0 [(0, .ref 3), (1, .int x1), (2, .int x2)] [] m
noncomputable def f_Tree_least_115 (lev : Nat) (x1 : Int32) (x2 : Int32) (x3 : Int32) (x4 : Int32) (x5 : Int32) (m : jx_Mem) : Option (Int32 × jx_Mem) := jx_K jx_kI 61 lev 115 [(0, .ref 4), (1, .int x1), (2, .int x2), (3, .int x3), (4, .int x4), (5, .int x5)] [] m
noncomputable def f_Goods_costOf (x1 : Int32) (m : jx_Mem) : Option (Int32 × jx_Mem) := jx_K jx_kI 43 0 0 [(0, .ref 3), (1, .int x1)] [] m
noncomputable def f_Tree_leastOfParts (lev : Nat) (x1 : Int32) (x2 : Int32) (x3 : Int32) (m : jx_Mem) : Option (Int32 × jx_Mem) := jx_K jx_kI 62 lev 0 [(0, .ref 4), (1, .int x1), (2, .int x2), (3, .int x3)] [] m
noncomputable def f_Tree_least_108 (lev : Nat) (x1 : Int32) (x2 : Int32) (x5 : Int32) (x6 : Int32) (m : jx_Mem) : Option (Int32 × jx_Mem) := jx_K jx_kI 61 lev 108 [(0, .ref 4), (1, .int x1), (2, .int x2), (5, .int x5), (6, .int x6)] [] m
noncomputable def f_Tree_costFor_8 (x2 : Int32) (x3 : Int32) (x4 : Int32) (x5 : Int32) (m : jx_Mem) : Option (Int32 × jx_Mem) := jx_K jx_kI 65 0 8 [(0, .ref 4), (2, .int x2), (3, .int x3), (4, .int x4), (5, .int x5)] [] m
noncomputable def f_Tree_lowest_2 (x0 : Int32) (x1 : Int32) (m : jx_Mem) : Option (Int32 × jx_Mem) := jx_K jx_kI 70 0 2 [(0, .int x0), (1, .int x1)] [] m
noncomputable def f_Tree_mostTold_108 (lev : Nat) (x1 : Int32) (x2 : Int32) (x3 : Int32) (x4 : Int32) (x5 : Int32) (x6 : Int32) (m : jx_Mem) : Option (Int32 × jx_Mem) := jx_K jx_kI 68 lev 108 [(0, .ref 4), (1, .int x1), (2, .int x2), (3, .int x3), (4, .int x4), (5, .int x5), (6, .int x6)] [] m
noncomputable def f_Tree_mostTold_109 (lev : Nat) (x1 : Int32) (x2 : Int32) (x3 : Int32) (x4 : Int32) (x5 : Int32) (x6 : Int32) (y0 : Int32) (m : jx_Mem) : Option (Int32 × jx_Mem) := jx_K jx_kI 68 lev 109 [(0, .ref 4), (1, .int x1), (2, .int x2), (3, .int x3), (4, .int x4), (5, .int x5), (6, .int x6)] [.int y0] m
noncomputable def f_Goods_oftenOf_4 (x1 : Int32) (x2 : Int32) (x3 : Int32) (m : jx_Mem) : Option (Int32 × jx_Mem) := jx_K jx_kI 52 0 4 [(0, .ref 3), (1, .int x1), (2, .int x2), (3, .int x3)] [] m
noncomputable def f_Goods_part_34  (m : jx_Mem) : Option (Int32 × jx_Mem) := jx_K jx_kI 49 0 34 [] [] m
noncomputable def f_Goods_part_35 (y0 : Int32) (m : jx_Mem) : Option (Int32 × jx_Mem) := jx_K jx_kI 49 0 35 [] [.int y0] m
noncomputable def f_Rule_read_106 (x1 : Int32) (m : jx_Mem) : Option (Int32 × jx_Mem) := jx_K jx_kI 74 0 106 [(1, .int x1)] [] m
noncomputable def f_Rule_release (x1 : Int32) (m : jx_Mem) : Option jx_Mem := jx_K jx_kV 87 0 0 [(0, .ref 5), (1, .int x1)] [] m
noncomputable def f_Rule_isDigit (x0 : Int32) (m : jx_Mem) : Option (Int32 × jx_Mem) := jx_K jx_kI 81 0 0 [(0, .int x0)] [] m
noncomputable def f_Rule_levelBetween (x0 : Int32) (m : jx_Mem) : Option (Int32 × jx_Mem) := jx_K jx_kI 83 0 0 [(0, .int x0)] [] m
noncomputable def f_Rule_takesBehind_58  (m : jx_Mem) : Option (Int32 × jx_Mem) := jx_K jx_kI 77 0 58 [] [] m
noncomputable def f_Rule_takesBehind_60 (x1 : Int32) (x2 : Int32) (m : jx_Mem) : Option (Int32 × jx_Mem) := jx_K jx_kI 77 0 60 [(0, .ref 5), (1, .int x1), (2, .int x2)] [] m
noncomputable def f_Rule_closes  (m : jx_Mem) : Option (Int32 × jx_Mem) := jx_K jx_kI 80 0 0 [(0, .ref 5)] [] m
noncomputable def f_Rule_goesOn (x1 : Int32) (m : jx_Mem) : Option (Int32 × jx_Mem) := jx_K jx_kI 78 0 0 [(0, .ref 5), (1, .int x1)] [] m
noncomputable def f_Rule_emit (x1 : Int32) (m : jx_Mem) : Option jx_Mem := jx_K jx_kV 85 0 0 [(0, .ref 5), (1, .int x1)] [] m
noncomputable def f_Rule_takesThing_92  (m : jx_Mem) : Option (Int32 × jx_Mem) := jx_K jx_kI 76 0 92 [] [] m
noncomputable def f_Rule_opens  (m : jx_Mem) : Option (Int32 × jx_Mem) := jx_K jx_kI 79 0 0 [(0, .ref 5)] [] m
noncomputable def f_Rule_await (x1 : Int32) (m : jx_Mem) : Option jx_Mem := jx_K jx_kV 86 0 0 [(0, .ref 5), (1, .int x1)] [] m
noncomputable def f_Rule_signFor (x1 : Int32) (x2 : Int32) (m : jx_Mem) : Option (Int32 × jx_Mem) := jx_K jx_kI 90 0 0 [(0, .ref 5), (1, .int x1), (2, .int x2)] [] m
noncomputable def f_Rule_valueFor_54 (x1 : Int32) (x3 : Int32) (y0 : Int32) (y1 : Int32) (m : jx_Mem) : Option (Int32 × jx_Mem) := jx_K jx_kI 88 0 54 [(0, .ref 5), (1, .int x1), (3, .int x3)] [.int y0, .int y1, .ref 5] m
noncomputable def f_Rule_isSign_36  (m : jx_Mem) : Option (Int32 × jx_Mem) := jx_K jx_kI 82 0 36 [] [] m
noncomputable def f_Rule_isSign_41 (y0 : Int32) (m : jx_Mem) : Option (Int32 × jx_Mem) := jx_K jx_kI 82 0 41 [] [.int y0] m
noncomputable def f_Rule_valueFor_160 (x1 : Int32) (x2 : Int32) (x3 : Int32) (m : jx_Mem) : Option (Int32 × jx_Mem) := jx_K jx_kI 88 0 160 [(0, .ref 5), (1, .int x1), (2, .int x2), (3, .int x3)] [] m
noncomputable def f_Rule_between (x0 : Int32) (x1 : Int32) (x2 : Int32) (m : jx_Mem) : Option (Int32 × jx_Mem) := jx_K jx_kI 91 0 0 [(0, .int x0), (1, .int x1), (2, .int x2)] [] m
noncomputable def f_Rule_levelWaiting_12  (m : jx_Mem) : Option (Int32 × jx_Mem) := jx_K jx_kI 84 0 12 [] [] m
noncomputable def f_Rule_levelWaiting_21 (y0 : Int32) (m : jx_Mem) : Option (Int32 × jx_Mem) := jx_K jx_kI 84 0 21 [] [.int y0] m
noncomputable def f_Rule_bit (x0 : Int32) (m : jx_Mem) : Option (Int32 × jx_Mem) := jx_K jx_kI 92 0 0 [(0, .int x0)] [] m
noncomputable def f_Rule_equalPairs (x1 : Int32) (m : jx_Mem) : Option (Int32 × jx_Mem) := jx_K jx_kI 95 0 0 [(0, .ref 5), (1, .int x1)] [] m
noncomputable def f_Rule_firstOf (x1 : Int32) (x2 : Int32) (m : jx_Mem) : Option (Int32 × jx_Mem) := jx_K jx_kI 94 0 0 [(0, .ref 5), (1, .int x1), (2, .int x2)] [] m
noncomputable def f_Rule_tellOrder_70 (x2 : Int32) (x4 : Int32) (x5 : Int32) (y0 : Int32) (y1 : Int32) (m : jx_Mem) : Option (Int32 × jx_Mem) := jx_K jx_kI 93 0 70 [(0, .ref 5), (1, .ref 1), (2, .int x2), (4, .int x4), (5, .int x5)] [.int y0, .int y1] m
noncomputable def f_Asking_wantsOf_46 (y0 : Int32) (m : jx_Mem) : Option (Int32 × jx_Mem) := jx_K jx_kI 109 0 46 [] [.int y0] m
noncomputable def f_Asking_findLates_15 (x1 : Int32) (x2 : Int32) (m : jx_Mem) : Option jx_Mem := jx_K jx_kV 117 0 15 [(0, .ref 7), (1, .int x1), (2, .int x2)] [] m
noncomputable def f_Asking_askOnce_10 (x1 : Int32) (x2 : Int32) (m : jx_Mem) : Option (Int32 × jx_Mem) := jx_K jx_kI 119 0 10 [(0, .ref 7), (1, .int x1), (2, .int x2)] [] m
noncomputable def f_Asking_sameBehind (x1 : Int32) (x2 : Int32) (m : jx_Mem) : Option (Int32 × jx_Mem) := jx_K jx_kI 116 0 0 [(0, .ref 7), (1, .int x1), (2, .int x2)] [] m
noncomputable def f_Asking_foresee_57 (y0 : Int32) (m : jx_Mem) : Option (Int32 × jx_Mem) := jx_K jx_kI 115 0 57 [] [.int y0] m
noncomputable def f_Watch_countAhead_4 (x1 : Int32) (x2 : Int32) (m : jx_Mem) : Option (Int32 × jx_Mem) := jx_K jx_kI 127 0 4 [(0, .ref 8), (1, .int x1), (2, .int x2)] [] m
noncomputable def f_Watch_tellThefts_128 (x3 : Int32) (m : jx_Mem) : Option (Int32 × jx_Mem) := jx_K jx_kI 129 0 128 [(3, .int x3)] [] m
noncomputable def f_Watch_takenBy_32 (y0 : Int32) (m : jx_Mem) : Option (Int32 × jx_Mem) := jx_K jx_kI 128 0 32 [] [.int y0] m
noncomputable def f_Watch_present (x1 : Int32) (x2 : Int32) (x3 : Int32) (m : jx_Mem) : Option (Int32 × jx_Mem) := jx_K jx_kI 132 0 0 [(0, .ref 8), (1, .int x1), (2, .int x2), (3, .int x3)] [] m
noncomputable def f_Watch_smallestGang_73 (x1 : Int32) (x2 : Int32) (x3 : Int32) (m : jx_Mem) : Option (Int32 × jx_Mem) := jx_K jx_kI 133 0 73 [(0, .ref 8), (1, .int x1), (2, .int x2), (3, .int x3)] [] m
noncomputable def f_Watch_smallestGang_78 (x1 : Int32) (x2 : Int32) (x3 : Int32) (y0 : Int32) (m : jx_Mem) : Option (Int32 × jx_Mem) := jx_K jx_kI 133 0 78 [(0, .ref 8), (1, .int x1), (2, .int x2), (3, .int x3)] [.int y0] m
noncomputable def f_Arr_fill_5_r56 (x1 : Int32) (x2 : Int32) (x3 : Int32) (m : jx_Mem) : Option jx_Mem := jx_K jx_kV 5 0 5 [(0, .ref 56), (1, .int x1), (2, .int x2), (3, .int x3)] [] m
noncomputable def f_Watch_tellHands_93 (x2 : Int32) (x3 : Int32) (x6 : Int32) (m : jx_Mem) : Option (Int32 × jx_Mem) := jx_K jx_kI 135 0 93 [(0, .ref 8), (1, .ref 1), (2, .int x2), (3, .int x3), (6, .int x6)] [] m
noncomputable def f_Watch_traceBack (x1 : Int32) (x2 : Int32) (x3 : Int64) (m : jx_Mem) : Option (Int64 × jx_Mem) := jx_K jx_kL 137 0 0 [(0, .ref 8), (1, .int x1), (2, .int x2), (3, .long x3)] [] m
noncomputable def f_Watch_canTake (x1 : Int32) (x2 : Int32) (m : jx_Mem) : Option (Int64 × jx_Mem) := jx_K jx_kL 139 0 0 [(0, .ref 8), (1, .int x1), (2, .int x2)] [] m
noncomputable def f_Watch_giveTo_10 (x1 : Int32) (x2 : Int32) (x3 : Int64) (x5 : Int32) (m : jx_Mem) : Option jx_Mem := jx_K jx_kV 136 0 10 [(0, .ref 8), (1, .int x1), (2, .int x2), (3, .long x3), (5, .int x5)] [] m
noncomputable def f_Noise_voice_21  (m : jx_Mem) : Option (Int32 × jx_Mem) := jx_K jx_kI 141 0 21 [] [] m
noncomputable def f_Noise_voice_31 (y0 : Int32) (m : jx_Mem) : Option (Int32 × jx_Mem) := jx_K jx_kI 141 0 31 [] [.int y0] m
noncomputable def f_Arr_fill_5_r62 (x1 : Int32) (x2 : Int32) (x3 : Int32) (m : jx_Mem) : Option jx_Mem := jx_K jx_kV 5 0 5 [(0, .ref 62), (1, .int x1), (2, .int x2), (3, .int x3)] [] m
noncomputable def f_Noise_findRests_21 (x1 : Int32) (x2 : Int32) (m : jx_Mem) : Option jx_Mem := jx_K jx_kV 146 0 21 [(0, .ref 9), (1, .int x1), (2, .int x2)] [] m
noncomputable def f_Noise_isHopeless_2 (x1 : Int32) (x2 : Int32) (m : jx_Mem) : Option (Int32 × jx_Mem) := jx_K jx_kI 148 0 2 [(0, .ref 9), (1, .int x1), (2, .int x2)] [] m
noncomputable def f_Noise_shout (x1 : Int32) (x2 : Int32) (m : jx_Mem) : Option jx_Mem := jx_K jx_kV 149 0 0 [(0, .ref 9), (1, .int x1), (2, .int x2)] [] m
noncomputable def f_Noise_keepFirst_29  (m : jx_Mem) : Option jx_Mem := jx_K jx_kV 150 0 29 [] [] m
noncomputable def f_Air_set_87 (x1 : Int32) (x2 : Int32) (x3 : Int32) (m : jx_Mem) : Option (Int32 × jx_Mem) := jx_K jx_kI 151 0 87 [(0, .ref 10), (1, .int x1), (2, .int x2), (3, .int x3)] [] m
noncomputable def f_Air_stay_103 (y0 : Int32) (m : jx_Mem) : Option (Int32 × jx_Mem) := jx_K jx_kI 153 0 103 [] [.int y0] m
noncomputable def f_Air_nearest_4 (x1 : Int32) (x2 : Int32) (x3 : Int32) (m : jx_Mem) : Option (Int32 × jx_Mem) := jx_K jx_kI 155 0 4 [(0, .ref 10), (1, .int x1), (2, .int x2), (3, .int x3)] [] m
noncomputable def f_Mine_wallOf_18 (y0 : Int32) (m : jx_Mem) : Option (Int32 × jx_Mem) := jx_K jx_kI 23 0 18 [] [.int y0] m
noncomputable def f_Ears_likeliest_11 (x1 : Int32) (x3 : Int32) (x4 : Int32) (x5 : Int32) (x6 : Int32) (m : jx_Mem) : Option (Int32 × jx_Mem) := jx_K jx_kI 163 0 11 [(0, .ref 11), (1, .int x1), (2, .ref 1), (3, .int x3), (4, .int x4), (5, .int x5), (6, .int x6)] [] m
noncomputable def f_Ears_chanceOf (x1 : Int32) (m : jx_Mem) : Option (Int32 × jx_Mem) := jx_K jx_kI 159 0 0 [(0, .ref 11), (1, .int x1)] [] m
noncomputable def f_Asking_wanters_5 (x1 : Int32) (x2 : Int32) (x3 : Int32) (x4 : Int32) (m : jx_Mem) : Option (Int32 × jx_Mem) := jx_K jx_kI 123 0 5 [(0, .ref 7), (1, .int x1), (2, .int x2), (3, .int x3), (4, .int x4)] [] m
noncomputable def f_M_sheet_111 (x1 : Int32) (x2 : Int32) (x3 : Int32) (x5 : Int32) (x6 : Int32) (x7 : Int32) (x8 : Int32) (y0 : Int32) (m : jx_Mem) : Option (Int32 × jx_Mem) := jx_K jx_kI 243 0 111 [(0, .ref 12), (1, .int x1), (2, .int x2), (3, .int x3), (5, .int x5), (6, .int x6), (7, .int x7), (8, .int x8)] [.int y0, .ref 73] m
noncomputable def f_M_sheet_126 (x1 : Int32) (x2 : Int32) (x3 : Int32) (x5 : Int32) (x6 : Int32) (x7 : Int32) (x8 : Int32) (y0 : Int32) (y1 : Int32) (m : jx_Mem) : Option (Int32 × jx_Mem) := jx_K jx_kI 243 0 126 [(0, .ref 12), (1, .int x1), (2, .int x2), (3, .int x3), (5, .int x5), (6, .int x6), (7, .int x7), (8, .int x8)] [.int y0, .int y1, .ref 73] m
noncomputable def f_M_isMixed_6 (x1 : Int32) (x2 : Int32) (x3 : Int32) (x4 : Int32) (x5 : Int32) (m : jx_Mem) : Option (Int32 × jx_Mem) := jx_K jx_kI 246 0 6 [(0, .ref 12), (1, .int x1), (2, .int x2), (3, .int x3), (4, .int x4), (5, .int x5)] [] m
noncomputable def f_M_isBetter_45 (y0 : Int32) (m : jx_Mem) : Option (Int32 × jx_Mem) := jx_K jx_kI 250 0 45 [] [.int y0] m
noncomputable def f_M_sumOf_5_r72 (x1 : Int32) (x3 : Int32) (x4 : Int32) (m : jx_Mem) : Option (Int32 × jx_Mem) := jx_K jx_kI 249 0 5 [(1, .int x1), (2, .ref 72), (3, .int x3), (4, .int x4)] [] m
noncomputable def f_M_sumOf_r71 (x1 : Int32) (m : jx_Mem) : Option (Int32 × jx_Mem) := jx_K jx_kI 249 0 0 [(0, .ref 12), (1, .int x1), (2, .ref 71)] [] m
noncomputable def f_M_parts (x1 : Int32) (x2 : Int32) (m : jx_Mem) : Option (Int32 × jx_Mem) := jx_K jx_kI 254 0 0 [(0, .ref 12), (1, .int x1), (2, .int x2)] [] m
noncomputable def f_M_trees_85 (x1 : Int32) (x2 : Int32) (x3 : Int32) (x4 : Int32) (x5 : Int32) (x6 : Int32) (m : jx_Mem) : Option jx_Mem := jx_K jx_kV 255 0 85 [(0, .ref 12), (1, .int x1), (2, .int x2), (3, .int x3), (4, .int x4), (5, .int x5), (6, .int x6)] [] m
noncomputable def f_M_trees_203 (x1 : Int32) (x2 : Int32) (x3 : Int32) (m : jx_Mem) : Option jx_Mem := jx_K jx_kV 255 0 203 [(0, .ref 12), (1, .int x1), (2, .int x2), (3, .int x3)] [] m
noncomputable def f_M_tells_21 (x1 : Int32) (x2 : Int32) (y0 : Int32) (m : jx_Mem) : Option jx_Mem := jx_K jx_kV 257 0 21 [(0, .ref 12), (1, .int x1), (2, .int x2)] [.int y0] m
noncomputable def f_M_partOf_44 (x1 : Int32) (x2 : Int32) (x3 : Int32) (x5 : Int32) (y0 : Int32) (m : jx_Mem) : Option (Int32 × jx_Mem) := jx_K jx_kI 253 0 44 [(0, .ref 12), (1, .int x1), (2, .int x2), (3, .int x3), (5, .int x5)] [.int y0] m
noncomputable def f_M_partOf_45 (x1 : Int32) (x2 : Int32) (x3 : Int32) (x5 : Int32) (y0 : Int32) (y1 : Int32) (m : jx_Mem) : Option (Int32 × jx_Mem) := jx_K jx_kI 253 0 45 [(0, .ref 12), (1, .int x1), (2, .int x2), (3, .int x3), (5, .int x5)] [.int y0, .int y1] m
noncomputable def f_M_ranked_138 (lev : Nat) (x3 : Int32) (m : jx_Mem) : Option (Int32 × jx_Mem) := jx_K jx_kI 267 lev 138 [(3, .int x3)] [] m
noncomputable def f_M_among_r908  (m : jx_Mem) : Option (Int32 × jx_Mem) := jx_K jx_kI 263 0 0 [(0, .ref 12), (1, .ref 908)] [] m
noncomputable def f_M_ranked_123_r908 (lev : Nat) (x1 : Int32) (x3 : Int32) (m : jx_Mem) : Option (Int32 × jx_Mem) := jx_K jx_kI 267 lev 123 [(0, .ref 12), (1, .int x1), (2, .ref 908), (3, .int x3)] [] m
noncomputable def f_M_marks (x1 : Int32) (m : jx_Mem) : Option jx_Mem := jx_K jx_kV 264 0 0 [(0, .ref 12), (1, .int x1)] [] m
noncomputable def f_M_among_r907  (m : jx_Mem) : Option (Int32 × jx_Mem) := jx_K jx_kI 263 0 0 [(0, .ref 12), (1, .ref 907)] [] m
noncomputable def f_M_ranked_123_r907 (lev : Nat) (x1 : Int32) (x3 : Int32) (m : jx_Mem) : Option (Int32 × jx_Mem) := jx_K jx_kI 267 lev 123 [(0, .ref 12), (1, .int x1), (2, .ref 907), (3, .int x3)] [] m
noncomputable def f_M_among_r906  (m : jx_Mem) : Option (Int32 × jx_Mem) := jx_K jx_kI 263 0 0 [(0, .ref 12), (1, .ref 906)] [] m
noncomputable def f_M_ranked_123_r906 (lev : Nat) (x1 : Int32) (x3 : Int32) (m : jx_Mem) : Option (Int32 × jx_Mem) := jx_K jx_kI 267 lev 123 [(0, .ref 12), (1, .int x1), (2, .ref 906), (3, .int x3)] [] m
noncomputable def f_M_among_r905  (m : jx_Mem) : Option (Int32 × jx_Mem) := jx_K jx_kI 263 0 0 [(0, .ref 12), (1, .ref 905)] [] m
noncomputable def f_M_ranked_123_r905 (lev : Nat) (x1 : Int32) (x3 : Int32) (m : jx_Mem) : Option (Int32 × jx_Mem) := jx_K jx_kI 267 lev 123 [(0, .ref 12), (1, .int x1), (2, .ref 905), (3, .int x3)] [] m
noncomputable def f_M_among_r904  (m : jx_Mem) : Option (Int32 × jx_Mem) := jx_K jx_kI 263 0 0 [(0, .ref 12), (1, .ref 904)] [] m
noncomputable def f_M_ranked_123_r904 (lev : Nat) (x1 : Int32) (x3 : Int32) (m : jx_Mem) : Option (Int32 × jx_Mem) := jx_K jx_kI 267 lev 123 [(0, .ref 12), (1, .int x1), (2, .ref 904), (3, .int x3)] [] m
noncomputable def f_M_among_2_r903 (x2 : Int32) (m : jx_Mem) : Option (Int32 × jx_Mem) := jx_K jx_kI 263 0 2 [(0, .ref 12), (1, .ref 903), (2, .int x2)] [] m
noncomputable def f_M_isDigit  (m : jx_Mem) : Option (Int32 × jx_Mem) := jx_K jx_kI 262 0 0 [(0, .ref 12)] [] m
noncomputable def f_M_among_r900  (m : jx_Mem) : Option (Int32 × jx_Mem) := jx_K jx_kI 263 0 0 [(0, .ref 12), (1, .ref 900)] [] m
noncomputable def f_M_among_r901  (m : jx_Mem) : Option (Int32 × jx_Mem) := jx_K jx_kI 263 0 0 [(0, .ref 12), (1, .ref 901)] [] m
noncomputable def f_M_thing__113 (lev : Nat)  (m : jx_Mem) : Option (Int32 × jx_Mem) := jx_K jx_kI 265 lev 113 [] [] m
noncomputable def f_M_thing__152 (lev : Nat)  (m : jx_Mem) : Option (Int32 × jx_Mem) := jx_K jx_kI 265 lev 152 [] [] m
noncomputable def f_M_among_r902  (m : jx_Mem) : Option (Int32 × jx_Mem) := jx_K jx_kI 263 0 0 [(0, .ref 12), (1, .ref 902)] [] m
noncomputable def f_M_thing__11 (lev : Nat) (x1 : Int32) (x2 : Int32) (m : jx_Mem) : Option (Int32 × jx_Mem) := jx_K jx_kI 265 lev 11 [(0, .ref 12), (1, .int x1), (2, .int x2)] [] m
noncomputable def f_M_rule_129 (x4 : Int32) (m : jx_Mem) : Option (Int32 × jx_Mem) := jx_K jx_kI 268 0 129 [(0, .ref 12), (4, .int x4)] [] m
noncomputable def f_M_acted_195  (m : jx_Mem) : Option (Int32 × jx_Mem) := jx_K jx_kI 271 0 195 [] [] m
noncomputable def f_M_acted_200 (y0 : Int32) (m : jx_Mem) : Option (Int32 × jx_Mem) := jx_K jx_kI 271 0 200 [] [.int y0] m
noncomputable def f_M_acted_152 (y0 : Int32) (m : jx_Mem) : Option (Int32 × jx_Mem) := jx_K jx_kI 271 0 152 [] [.int y0] m
noncomputable def f_M_acted_166 (y0 : Int32) (m : jx_Mem) : Option (Int32 × jx_Mem) := jx_K jx_kI 271 0 166 [] [.int y0] m
noncomputable def f_M_acted_138 (y0 : Int32) (m : jx_Mem) : Option (Int32 × jx_Mem) := jx_K jx_kI 271 0 138 [] [.int y0] m
noncomputable def f_M_acted_182  (m : jx_Mem) : Option (Int32 × jx_Mem) := jx_K jx_kI 271 0 182 [] [] m
noncomputable def f_M_acted_183 (y0 : Int32) (m : jx_Mem) : Option (Int32 × jx_Mem) := jx_K jx_kI 271 0 183 [] [.int y0] m
noncomputable def f_M_peopleAt (x1 : Int32) (m : jx_Mem) : Option (Int32 × jx_Mem) := jx_K jx_kI 270 0 0 [(0, .ref 12), (1, .int x1)] [] m
noncomputable def f_M_order_126 (x1 : Int32) (x3 : Int32) (x5 : Int32) (y0 : Int32) (y1 : Int32) (m : jx_Mem) : Option (Int32 × jx_Mem) := jx_K jx_kI 274 0 126 [(0, .ref 12), (1, .int x1), (3, .int x3), (5, .int x5)] [.int y0, .int y1] m
noncomputable def f_M_order_75 (x1 : Int32) (x2 : Int32) (x3 : Int32) (x5 : Int32) (y0 : Int32) (m : jx_Mem) : Option (Int32 × jx_Mem) := jx_K jx_kI 274 0 75 [(0, .ref 12), (1, .int x1), (2, .int x2), (3, .int x3), (5, .int x5)] [.int y0] m
noncomputable def f_M_goesRound_2 (x1 : Int32) (m : jx_Mem) : Option (Int32 × jx_Mem) := jx_K jx_kI 282 0 2 [(0, .ref 12), (1, .int x1)] [] m
noncomputable def f_M_isAs (x1 : Int32) (m : jx_Mem) : Option (Int32 × jx_Mem) := jx_K jx_kI 285 0 0 [(0, .ref 12), (1, .int x1)] [] m
noncomputable def f_M_settling_51 (y0 : Int32) (m : jx_Mem) : Option (Int32 × jx_Mem) := jx_K jx_kI 286 0 51 [] [.int y0] m
noncomputable def f_M_findsThefts_207 (x2 : Int32) (x3 : Int32) (m : jx_Mem) : Option jx_Mem := jx_K jx_kV 293 0 207 [(0, .ref 12), (2, .int x2), (3, .int x3)] [] m
noncomputable def f_M_findsThefts_78 (x1 : Int32) (x2 : Int32) (x3 : Int32) (x4 : Int32) (m : jx_Mem) : Option jx_Mem := jx_K jx_kV 293 0 78 [(0, .ref 12), (1, .int x1), (2, .int x2), (3, .int x3), (4, .int x4)] [] m
noncomputable def f_M_isGang_2 (x1 : Int32) (x2 : Int32) (m : jx_Mem) : Option (Int32 × jx_Mem) := jx_K jx_kI 297 0 2 [(0, .ref 12), (1, .int x1), (2, .int x2)] [] m
noncomputable def f_M_gives_163 (lev : Nat) (x1 : Int32) (x2 : Int32) (x3 : Int32) (x4 : Int32) (m : jx_Mem) : Option (Int32 × jx_Mem) := jx_K jx_kI 300 lev 163 [(0, .ref 12), (1, .int x1), (2, .int x2), (3, .int x3), (4, .int x4)] [] m
noncomputable def f_M_sounds_17 (y0 : Int32) (m : jx_Mem) : Option (Int32 × jx_Mem) := jx_K jx_kI 302 0 17 [] [.int y0] m
noncomputable def f_M_isHeard (x1 : Int32) (x2 : Int32) (m : jx_Mem) : Option (Int32 × jx_Mem) := jx_K jx_kI 307 0 0 [(0, .ref 12), (1, .int x1), (2, .int x2)] [] m
noncomputable def f_M_crowds_150 (x1 : Int32) (x2 : Int32) (x3 : Int32) (x4 : Int32) (x5 : Int32) (m : jx_Mem) : Option (Int32 × jx_Mem) := jx_K jx_kI 308 0 150 [(0, .ref 12), (1, .int x1), (2, .int x2), (3, .int x3), (4, .int x4), (5, .int x5)] [] m
noncomputable def f_M_crowds_118 (x1 : Int32) (x2 : Int32) (x3 : Int32) (x4 : Int32) (x5 : Int32) (x7 : Int32) (m : jx_Mem) : Option (Int32 × jx_Mem) := jx_K jx_kI 308 0 118 [(0, .ref 12), (1, .int x1), (2, .int x2), (3, .int x3), (4, .int x4), (5, .int x5), (7, .int x7)] [] m
noncomputable def f_M_gas_103 (x1 : Int32) (x2 : Int32) (x3 : Int32) (y0 : Int32) (m : jx_Mem) : Option (Int32 × jx_Mem) := jx_K jx_kI 309 0 103 [(0, .ref 12), (1, .int x1), (2, .int x2), (3, .int x3)] [.int y0, .ref 12] m
noncomputable def f_M_lasts_133 (x1 : Int32) (x2 : Int32) (x4 : Int32) (y0 : Int32) (m : jx_Mem) : Option (Int32 × jx_Mem) := jx_K jx_kI 311 0 133 [(0, .ref 12), (1, .int x1), (2, .int x2), (4, .int x4)] [.int y0] m
noncomputable def f_M_leave_150 (x1 : Int32) (x2 : Int32) (x3 : Int32) (x5 : Int32) (y0 : Int32) (m : jx_Mem) : Option (Int32 × jx_Mem) := jx_K jx_kI 312 0 150 [(0, .ref 12), (1, .int x1), (2, .int x2), (3, .int x3), (5, .int x5)] [.int y0] m
noncomputable def f_M_leave_85 (x1 : Int32) (x2 : Int32) (x3 : Int32) (x5 : Int32) (x6 : Int32) (m : jx_Mem) : Option (Int32 × jx_Mem) := jx_K jx_kI 312 0 85 [(0, .ref 12), (1, .int x1), (2, .int x2), (3, .int x3), (5, .int x5), (6, .int x6)] [] m
noncomputable def f_M_leave_86 (x1 : Int32) (x2 : Int32) (x3 : Int32) (x5 : Int32) (x6 : Int32) (y0 : Int32) (m : jx_Mem) : Option (Int32 × jx_Mem) := jx_K jx_kI 312 0 86 [(0, .ref 12), (1, .int x1), (2, .int x2), (3, .int x3), (5, .int x5), (6, .int x6)] [.int y0] m
noncomputable def f_M_judges_130 (x5 : Int32) (m : jx_Mem) : Option (Int32 × jx_Mem) := jx_K jx_kI 317 0 130 [(5, .int x5)] [] m
noncomputable def f_M_entersFraction (x1 : Int64) (x3 : Int64) (m : jx_Mem) : Option jx_Mem := jx_K jx_kV 224 0 0 [(0, .ref 12), (1, .long x1), (3, .long x3)] [] m
noncomputable def f_M_judges_51 (x1 : Int32) (x2 : Int32) (x3 : Int32) (x4 : Int32) (x5 : Int32) (x6 : Int32) (x7 : Int32) (x8 : Int32) (x9 : Int32) (m : jx_Mem) : Option (Int32 × jx_Mem) := jx_K jx_kI 317 0 51 [(0, .ref 12), (1, .int x1), (2, .int x2), (3, .int x3), (4, .int x4), (5, .int x5), (6, .int x6), (7, .int x7), (8, .int x8), (9, .int x9)] [] m
noncomputable def f_M_judges_80 (x1 : Int32) (x2 : Int32) (x3 : Int32) (x4 : Int32) (x5 : Int32) (x6 : Int32) (x7 : Int32) (x8 : Int32) (x9 : Int32) (y0 : Int32) (m : jx_Mem) : Option (Int32 × jx_Mem) := jx_K jx_kI 317 0 80 [(0, .ref 12), (1, .int x1), (2, .int x2), (3, .int x3), (4, .int x4), (5, .int x5), (6, .int x6), (7, .int x7), (8, .int x8), (9, .int x9)] [.int y0] m
noncomputable def f_M_lamp_244 (x2 : Int32) (x3 : Int32) (x5 : Int32) (y0 : Int32) (m : jx_Mem) : Option (Int32 × jx_Mem) := jx_K jx_kI 321 0 244 [(0, .ref 12), (2, .int x2), (3, .int x3), (5, .int x5)] [.int y0] m
noncomputable def f_M_lamp_245 (x2 : Int32) (x3 : Int32) (x5 : Int32) (y0 : Int32) (y1 : Int32) (m : jx_Mem) : Option (Int32 × jx_Mem) := jx_K jx_kI 321 0 245 [(0, .ref 12), (2, .int x2), (3, .int x3), (5, .int x5)] [.int y0, .int y1] m
noncomputable def f_M_lamp_206 (x2 : Int32) (x3 : Int32) (x4 : Int32) (x5 : Int32) (x7 : Int32) (y0 : Int32) (m : jx_Mem) : Option (Int32 × jx_Mem) := jx_K jx_kI 321 0 206 [(0, .ref 12), (2, .int x2), (3, .int x3), (4, .int x4), (5, .int x5), (7, .int x7)] [.int y0] m
noncomputable def f_M_lamp_207 (x2 : Int32) (x3 : Int32) (x4 : Int32) (x5 : Int32) (x7 : Int32) (y0 : Int32) (y1 : Int32) (m : jx_Mem) : Option (Int32 × jx_Mem) := jx_K jx_kI 321 0 207 [(0, .ref 12), (2, .int x2), (3, .int x3), (4, .int x4), (5, .int x5), (7, .int x7)] [.int y0, .int y1] m
noncomputable def f_Goods_readSheet_124 (y0 : Int32) (m : jx_Mem) : Option (Int32 × jx_Mem) := jx_K jx_kI 46 0 124 [] [.int y0] m
noncomputable def f_Goods_readSheet_87 (x1 : Int32) (x2 : Int32) (x4 : Int32) (x5 : Int32) (x6 : Int32) (x7 : Int32) (x8 : Int32) (y0 : Int32) (m : jx_Mem) : Option (Int32 × jx_Mem) := jx_K jx_kI 46 0 87 [(0, .ref 3), (1, .int x1), (2, .int x2), (4, .int x4), (5, .int x5), (6, .int x6), (7, .int x7), (8, .int x8)] [.int y0] m
noncomputable def f_Goods_entry (x0 : Int32) (x1 : Int32) (m : jx_Mem) : Option (Int32 × jx_Mem) := jx_K jx_kI 47 0 0 [(0, .int x0), (1, .int x1)] [] m
noncomputable def f_Goods_sameAs_41 (x1 : Int32) (x2 : Int32) (x4 : Int32) (x5 : Int32) (m : jx_Mem) : Option (Int32 × jx_Mem) := jx_K jx_kI 51 0 41 [(0, .ref 3), (1, .int x1), (2, .int x2), (4, .int x4), (5, .int x5)] [] m
noncomputable def f_Goods_betterTests_36 (y0 : Int32) (m : jx_Mem) : Option (Int32 × jx_Mem) := jx_K jx_kI 55 0 36 [] [.int y0] m
noncomputable def f_Goods_costOfAll_4 (x1 : Int32) (x2 : Int32) (x3 : Int32) (m : jx_Mem) : Option (Int32 × jx_Mem) := jx_K jx_kI 56 0 4 [(0, .ref 3), (1, .int x1), (2, .int x2), (3, .int x3)] [] m
noncomputable def f_Goods_givesWay_63 (x1 : Int32) (x2 : Int32) (x3 : Int32) (m : jx_Mem) : Option (Int32 × jx_Mem) := jx_K jx_kI 58 0 63 [(0, .ref 3), (1, .int x1), (2, .int x2), (3, .int x3)] [] m
noncomputable def f_Goods_givesWay_61  (m : jx_Mem) : Option (Int32 × jx_Mem) := jx_K jx_kI 58 0 61 [] [] m
noncomputable def f_Goods_parts_2 (x1 : Int32) (x2 : Int32) (x3 : Int32) (m : jx_Mem) : Option (Int32 × jx_Mem) := jx_K jx_kI 50 0 2 [(0, .ref 3), (1, .int x1), (2, .int x2), (3, .int x3)] [] m
noncomputable def f_Goods_costOf_18 (y0 : Int32) (m : jx_Mem) : Option (Int32 × jx_Mem) := jx_K jx_kI 43 0 18 [] [.int y0] m
noncomputable def f_Tree_leastOfParts_6 (lev : Nat) (x1 : Int32) (x2 : Int32) (x3 : Int32) (x4 : Int32) (x5 : Int32) (m : jx_Mem) : Option (Int32 × jx_Mem) := jx_K jx_kI 62 lev 6 [(0, .ref 4), (1, .int x1), (2, .int x2), (3, .int x3), (4, .int x4), (5, .int x5)] [] m
noncomputable def f_Tree_costFor_72 (x4 : Int32) (m : jx_Mem) : Option (Int32 × jx_Mem) := jx_K jx_kI 65 0 72 [(4, .int x4)] [] m
noncomputable def f_Tree_mostTold_164 (lev : Nat) (x1 : Int32) (x2 : Int32) (x3 : Int32) (x4 : Int32) (x5 : Int32) (x6 : Int32) (m : jx_Mem) : Option (Int32 × jx_Mem) := jx_K jx_kI 68 lev 164 [(0, .ref 4), (1, .int x1), (2, .int x2), (3, .int x3), (4, .int x4), (5, .int x5), (6, .int x6)] [] m
noncomputable def f_Tree_mostOfParts (lev : Nat) (x1 : Int32) (x2 : Int32) (x3 : Int32) (x4 : Int32) (m : jx_Mem) : Option (Int32 × jx_Mem) := jx_K jx_kI 69 lev 0 [(0, .ref 4), (1, .int x1), (2, .int x2), (3, .int x3), (4, .int x4)] [] m
noncomputable def f_Goods_oftenOf_29 (x1 : Int32) (x2 : Int32) (x3 : Int32) (m : jx_Mem) : Option (Int32 × jx_Mem) := jx_K jx_kI 52 0 29 [(0, .ref 3), (1, .int x1), (2, .int x2), (3, .int x3)] [] m
noncomputable def f_Rule_release_54  (m : jx_Mem) : Option jx_Mem := jx_K jx_kV 87 0 54 [] [] m
noncomputable def f_Rule_isDigit_16  (m : jx_Mem) : Option (Int32 × jx_Mem) := jx_K jx_kI 81 0 16 [] [] m
noncomputable def f_Rule_isDigit_17 (y0 : Int32) (m : jx_Mem) : Option (Int32 × jx_Mem) := jx_K jx_kI 81 0 17 [] [.int y0] m
noncomputable def f_Rule_takesBehind_84 (x1 : Int32) (x2 : Int32) (m : jx_Mem) : Option (Int32 × jx_Mem) := jx_K jx_kI 77 0 84 [(0, .ref 5), (1, .int x1), (2, .int x2)] [] m
noncomputable def f_Rule_takesBehind_83 (x1 : Int32) (x2 : Int32) (y0 : Int32) (y1 : Int32) (m : jx_Mem) : Option (Int32 × jx_Mem) := jx_K jx_kI 77 0 83 [(0, .ref 5), (1, .int x1), (2, .int x2)] [.int y0, .int y1, .ref 31] m
noncomputable def f_Rule_goesOn_22  (m : jx_Mem) : Option (Int32 × jx_Mem) := jx_K jx_kI 78 0 22 [] [] m
noncomputable def f_Rule_emit_32  (m : jx_Mem) : Option jx_Mem := jx_K jx_kV 85 0 32 [] [] m
noncomputable def f_Rule_await_32  (m : jx_Mem) : Option jx_Mem := jx_K jx_kV 86 0 32 [] [] m
noncomputable def f_Mine_peopleAt (x1 : Int32) (m : jx_Mem) : Option (Int32 × jx_Mem) := jx_K jx_kI 31 0 0 [(0, .ref 2), (1, .int x1)] [] m
noncomputable def f_Rule_put (x1 : Int32) (x2 : Int32) (m : jx_Mem) : Option (Int32 × jx_Mem) := jx_K jx_kI 89 0 0 [(0, .ref 5), (1, .int x1), (2, .int x2)] [] m
noncomputable def f_Rule_between_76  (m : jx_Mem) : Option (Int32 × jx_Mem) := jx_K jx_kI 91 0 76 [] [] m
noncomputable def f_Rule_between_81 (y0 : Int32) (m : jx_Mem) : Option (Int32 × jx_Mem) := jx_K jx_kI 91 0 81 [] [.int y0] m
noncomputable def f_Rule_between_126 (y0 : Int32) (m : jx_Mem) : Option (Int32 × jx_Mem) := jx_K jx_kI 91 0 126 [] [.int y0] m
noncomputable def f_Rule_between_140 (y0 : Int32) (m : jx_Mem) : Option (Int32 × jx_Mem) := jx_K jx_kI 91 0 140 [] [.int y0] m
noncomputable def f_Rule_between_112 (y0 : Int32) (m : jx_Mem) : Option (Int32 × jx_Mem) := jx_K jx_kI 91 0 112 [] [.int y0] m
noncomputable def f_Rule_between_97  (m : jx_Mem) : Option (Int32 × jx_Mem) := jx_K jx_kI 91 0 97 [] [] m
noncomputable def f_Rule_between_98 (y0 : Int32) (m : jx_Mem) : Option (Int32 × jx_Mem) := jx_K jx_kI 91 0 98 [] [.int y0] m
noncomputable def f_Rule_bit_9 (y0 : Int32) (m : jx_Mem) : Option (Int32 × jx_Mem) := jx_K jx_kI 92 0 9 [] [.int y0] m
noncomputable def f_Rule_equalPairs_4 (x1 : Int32) (x2 : Int32) (x3 : Int32) (m : jx_Mem) : Option (Int32 × jx_Mem) := jx_K jx_kI 95 0 4 [(0, .ref 5), (1, .int x1), (2, .int x2), (3, .int x3)] [] m
noncomputable def f_Rule_firstOf_8 (x1 : Int32) (x2 : Int32) (x3 : Int32) (x4 : Int32) (x5 : Int32) (m : jx_Mem) : Option (Int32 × jx_Mem) := jx_K jx_kI 94 0 8 [(0, .ref 5), (1, .int x1), (2, .int x2), (3, .int x3), (4, .int x4), (5, .int x5)] [] m
noncomputable def f_Asking_lateFor (x1 : Int32) (x2 : Int32) (m : jx_Mem) : Option (Int32 × jx_Mem) := jx_K jx_kI 118 0 0 [(0, .ref 7), (1, .int x1), (2, .int x2)] [] m
noncomputable def f_Asking_askOnce_55 (x1 : Int32) (x2 : Int32) (x3 : Int32) (m : jx_Mem) : Option (Int32 × jx_Mem) := jx_K jx_kI 119 0 55 [(0, .ref 7), (1, .int x1), (2, .int x2), (3, .int x3)] [] m
noncomputable def f_Asking_choice (x1 : Int32) (x2 : Int32) (m : jx_Mem) : Option (Int32 × jx_Mem) := jx_K jx_kI 121 0 0 [(0, .ref 7), (1, .int x1), (2, .int x2)] [] m
noncomputable def f_Asking_askOnce_45 (x1 : Int32) (x2 : Int32) (m : jx_Mem) : Option (Int32 × jx_Mem) := jx_K jx_kI 119 0 45 [(0, .ref 7), (1, .int x1), (2, .int x2)] [] m
noncomputable def f_Asking_sameBehind_3 (x1 : Int32) (x2 : Int32) (x3 : Int32) (m : jx_Mem) : Option (Int32 × jx_Mem) := jx_K jx_kI 116 0 3 [(0, .ref 7), (1, .int x1), (2, .int x2), (3, .int x3)] [] m
noncomputable def f_Watch_present_6 (x1 : Int32) (x2 : Int32) (x3 : Int32) (x4 : Int32) (x5 : Int32) (m : jx_Mem) : Option (Int32 × jx_Mem) := jx_K jx_kI 132 0 6 [(0, .ref 8), (1, .int x1), (2, .int x2), (3, .int x3), (4, .int x4), (5, .int x5)] [] m
noncomputable def f_Watch_smallestGang_96 (x1 : Int32) (x2 : Int32) (x3 : Int32) (m : jx_Mem) : Option (Int32 × jx_Mem) := jx_K jx_kI 133 0 96 [(0, .ref 8), (1, .int x1), (2, .int x2), (3, .int x3)] [] m
noncomputable def f_Watch_meetsAll (x1 : Int32) (x2 : Int32) (m : jx_Mem) : Option (Int32 × jx_Mem) := jx_K jx_kI 134 0 0 [(0, .ref 8), (1, .int x1), (2, .int x2)] [] m
noncomputable def f_Watch_traceBack_14 (x1 : Int32) (x2 : Int32) (x3 : Int64) (x5 : Int64) (x7 : Int64) (x9 : Int32) (m : jx_Mem) : Option (Int64 × jx_Mem) := jx_K jx_kL 137 0 14 [(0, .ref 8), (1, .int x1), (2, .int x2), (3, .long x3), (5, .long x5), (7, .long x7), (9, .int x9)] [] m
noncomputable def f_Watch_canTake_5 (x1 : Int32) (x2 : Int32) (x3 : Int32) (x4 : Int32) (m : jx_Mem) : Option (Int64 × jx_Mem) := jx_K jx_kL 139 0 5 [(0, .ref 8), (1, .int x1), (2, .int x2), (3, .int x3), (4, .int x4)] [] m
noncomputable def f_Watch_giveTo_22 (x1 : Int32) (x2 : Int32) (x3 : Int64) (x5 : Int32) (x6 : Int32) (x7 : Int32) (m : jx_Mem) : Option jx_Mem := jx_K jx_kV 136 0 22 [(0, .ref 8), (1, .int x1), (2, .int x2), (3, .long x3), (5, .int x5), (6, .int x6), (7, .int x7)] [] m
noncomputable def f_Noise_isHopeless_64  (m : jx_Mem) : Option (Int32 × jx_Mem) := jx_K jx_kI 148 0 64 [] [] m
noncomputable def f_Noise_shout_2 (x1 : Int32) (x2 : Int32) (x3 : Int32) (m : jx_Mem) : Option jx_Mem := jx_K jx_kV 149 0 2 [(0, .ref 9), (1, .int x1), (2, .int x2), (3, .int x3)] [] m
noncomputable def f_Air_nearest_41 (x1 : Int32) (x2 : Int32) (x3 : Int32) (m : jx_Mem) : Option (Int32 × jx_Mem) := jx_K jx_kI 155 0 41 [(0, .ref 10), (1, .int x1), (2, .int x2), (3, .int x3)] [] m
noncomputable def f_Air_nearest_42 (x1 : Int32) (x2 : Int32) (x3 : Int32) (y0 : Int32) (m : jx_Mem) : Option (Int32 × jx_Mem) := jx_K jx_kI 155 0 42 [(0, .ref 10), (1, .int x1), (2, .int x2), (3, .int x3)] [.int y0] m
noncomputable def f_Row_tellFraction (x1 : Int32) (x2 : Int32) (m : jx_Mem) : Option jx_Mem := jx_K jx_kV 10 0 0 [(0, .ref 1), (1, .int x1), (2, .int x2)] [] m
noncomputable def f_Ears_likeliest_53 (x1 : Int32) (x3 : Int32) (x4 : Int32) (x5 : Int32) (x6 : Int32) (m : jx_Mem) : Option (Int32 × jx_Mem) := jx_K jx_kI 163 0 53 [(0, .ref 11), (1, .int x1), (2, .ref 1), (3, .int x3), (4, .int x4), (5, .int x5), (6, .int x6)] [] m
noncomputable def f_Math_abs (x0 : Int32) (m : jx_Mem) : Option (Int32 × jx_Mem) := jx_K jx_kI 0 0 0 [(0, .int x0)] [] m
noncomputable def f_Ears_chanceOf_24 (y0 : Int32) (m : jx_Mem) : Option (Int32 × jx_Mem) := jx_K jx_kI 159 0 24 [] [.int y0] m
noncomputable def f_Asking_wanters_43 (x1 : Int32) (x2 : Int32) (x3 : Int32) (x4 : Int32) (m : jx_Mem) : Option (Int32 × jx_Mem) := jx_K jx_kI 123 0 43 [(0, .ref 7), (1, .int x1), (2, .int x2), (3, .int x3), (4, .int x4)] [] m
noncomputable def f_Asking_wanters_44 (x1 : Int32) (x2 : Int32) (x3 : Int32) (x4 : Int32) (y0 : Int32) (m : jx_Mem) : Option (Int32 × jx_Mem) := jx_K jx_kI 123 0 44 [(0, .ref 7), (1, .int x1), (2, .int x2), (3, .int x3), (4, .int x4)] [.int y0] m
noncomputable def f_M_isMixed_47 (x1 : Int32) (x2 : Int32) (x3 : Int32) (x5 : Int32) (m : jx_Mem) : Option (Int32 × jx_Mem) := jx_K jx_kI 246 0 47 [(0, .ref 12), (1, .int x1), (2, .int x2), (3, .int x3), (5, .int x5)] [] m
noncomputable def f_M_isMixed_51 (x1 : Int32) (x2 : Int32) (x3 : Int32) (x5 : Int32) (m : jx_Mem) : Option (Int32 × jx_Mem) := jx_K jx_kI 246 0 51 [(0, .ref 12), (1, .int x1), (2, .int x2), (3, .int x3), (5, .int x5)] [] m
noncomputable def f_M_sumOf_30_r72 (x1 : Int32) (x4 : Int32) (y0 : Int32) (y1 : Int32) (m : jx_Mem) : Option (Int32 × jx_Mem) := jx_K jx_kI 249 0 30 [(1, .int x1), (2, .ref 72), (4, .int x4)] [.int y0, .int y1] m
noncomputable def f_M_sumOf_5_r71 (x1 : Int32) (x3 : Int32) (x4 : Int32) (m : jx_Mem) : Option (Int32 × jx_Mem) := jx_K jx_kI 249 0 5 [(1, .int x1), (2, .ref 71), (3, .int x3), (4, .int x4)] [] m
noncomputable def f_Int_numberOfTrailingZeros (x0 : Int32) (m : jx_Mem) : Option (Int32 × jx_Mem) := jx_K jx_kI 4 0 0 [(0, .int x0)] [] m
noncomputable def f_M_parts_26 (y0 : Int32) (m : jx_Mem) : Option (Int32 × jx_Mem) := jx_K jx_kI 254 0 26 [] [.int y0] m
noncomputable def f_M_trees_173 (x1 : Int32) (x2 : Int32) (x3 : Int32) (x4 : Int32) (x5 : Int32) (m : jx_Mem) : Option jx_Mem := jx_K jx_kV 255 0 173 [(0, .ref 12), (1, .int x1), (2, .int x2), (3, .int x3), (4, .int x4), (5, .int x5)] [] m
noncomputable def f_M_trees_120 (x1 : Int32) (x2 : Int32) (x3 : Int32) (x5 : Int32) (x6 : Int32) (x7 : Int32) (y0 : Int32) (y1 : Int32) (m : jx_Mem) : Option jx_Mem := jx_K jx_kV 255 0 120 [(0, .ref 12), (1, .int x1), (2, .int x2), (3, .int x3), (5, .int x5), (6, .int x6), (7, .int x7)] [.int y0, .int y1] m
noncomputable def f_M_tells_25 (x1 : Int32) (x2 : Int32) (x3 : Int32) (x4 : Int32) (m : jx_Mem) : Option jx_Mem := jx_K jx_kV 257 0 25 [(0, .ref 12), (1, .int x1), (2, .int x2), (3, .int x3), (4, .int x4)] [] m
noncomputable def f_M_among_2_r908 (x2 : Int32) (m : jx_Mem) : Option (Int32 × jx_Mem) := jx_K jx_kI 263 0 2 [(0, .ref 12), (1, .ref 908), (2, .int x2)] [] m
noncomputable def f_M_ranked_133_r908 (lev : Nat) (x1 : Int32) (x3 : Int32) (y0 : Int32) (m : jx_Mem) : Option (Int32 × jx_Mem) := jx_K jx_kI 267 lev 133 [(0, .ref 12), (1, .int x1), (2, .ref 908), (3, .int x3)] [.int y0] m
noncomputable def f_M_among_2_r907 (x2 : Int32) (m : jx_Mem) : Option (Int32 × jx_Mem) := jx_K jx_kI 263 0 2 [(0, .ref 12), (1, .ref 907), (2, .int x2)] [] m
noncomputable def f_M_ranked_133_r907 (lev : Nat) (x1 : Int32) (x3 : Int32) (y0 : Int32) (m : jx_Mem) : Option (Int32 × jx_Mem) := jx_K jx_kI 267 lev 133 [(0, .ref 12), (1, .int x1), (2, .ref 907), (3, .int x3)] [.int y0] m
noncomputable def f_M_among_2_r906 (x2 : Int32) (m : jx_Mem) : Option (Int32 × jx_Mem) := jx_K jx_kI 263 0 2 [(0, .ref 12), (1, .ref 906), (2, .int x2)] [] m
noncomputable def f_M_ranked_133_r906 (lev : Nat) (x1 : Int32) (x3 : Int32) (y0 : Int32) (m : jx_Mem) : Option (Int32 × jx_Mem) := jx_K jx_kI 267 lev 133 [(0, .ref 12), (1, .int x1), (2, .ref 906), (3, .int x3)] [.int y0] m
noncomputable def f_M_among_2_r905 (x2 : Int32) (m : jx_Mem) : Option (Int32 × jx_Mem) := jx_K jx_kI 263 0 2 [(0, .ref 12), (1, .ref 905), (2, .int x2)] [] m
noncomputable def f_M_ranked_133_r905 (lev : Nat) (x1 : Int32) (x3 : Int32) (y0 : Int32) (m : jx_Mem) : Option (Int32 × jx_Mem) := jx_K jx_kI 267 lev 133 [(0, .ref 12), (1, .int x1), (2, .ref 905), (3, .int x3)] [.int y0] m
noncomputable def f_M_among_2_r904 (x2 : Int32) (m : jx_Mem) : Option (Int32 × jx_Mem) := jx_K jx_kI 263 0 2 [(0, .ref 12), (1, .ref 904), (2, .int x2)] [] m
noncomputable def f_M_ranked_133_r904 (lev : Nat) (x1 : Int32) (x3 : Int32) (y0 : Int32) (m : jx_Mem) : Option (Int32 × jx_Mem) := jx_K jx_kI 267 lev 133 [(0, .ref 12), (1, .int x1), (2, .ref 904), (3, .int x3)] [.int y0] m
noncomputable def f_M_among_46  (m : jx_Mem) : Option (Int32 × jx_Mem) := jx_K jx_kI 263 0 46 [] [] m
noncomputable def f_M_isDigit_37  (m : jx_Mem) : Option (Int32 × jx_Mem) := jx_K jx_kI 262 0 37 [] [] m
noncomputable def f_M_isDigit_38 (y0 : Int32) (m : jx_Mem) : Option (Int32 × jx_Mem) := jx_K jx_kI 262 0 38 [] [.int y0] m
noncomputable def f_M_among_2_r900 (x2 : Int32) (m : jx_Mem) : Option (Int32 × jx_Mem) := jx_K jx_kI 263 0 2 [(0, .ref 12), (1, .ref 900), (2, .int x2)] [] m
noncomputable def f_M_among_2_r901 (x2 : Int32) (m : jx_Mem) : Option (Int32 × jx_Mem) := jx_K jx_kI 263 0 2 [(0, .ref 12), (1, .ref 901), (2, .int x2)] [] m
noncomputable def f_M_among_2_r902 (x2 : Int32) (m : jx_Mem) : Option (Int32 × jx_Mem) := jx_K jx_kI 263 0 2 [(0, .ref 12), (1, .ref 902), (2, .int x2)] [] m
noncomputable def f_M_thing__57 (lev : Nat) (x1 : Int32) (m : jx_Mem) : Option (Int32 × jx_Mem) := jx_K jx_kI 265 lev 57 [(0, .ref 12), (1, .int x1)] [] m
noncomputable def f_M_peopleAt_4 (x1 : Int32) (x2 : Int32) (x3 : Int32) (m : jx_Mem) : Option (Int32 × jx_Mem) := jx_K jx_kI 270 0 4 [(0, .ref 12), (1, .int x1), (2, .int x2), (3, .int x3)] [] m
noncomputable def f_M_goesRound_25 (x1 : Int32) (m : jx_Mem) : Option (Int32 × jx_Mem) := jx_K jx_kI 282 0 25 [(0, .ref 12), (1, .int x1)] [] m
noncomputable def f_M_isAs_2 (x1 : Int32) (x2 : Int32) (m : jx_Mem) : Option (Int32 × jx_Mem) := jx_K jx_kI 285 0 2 [(0, .ref 12), (1, .int x1), (2, .int x2)] [] m
noncomputable def f_M_isGang_15 (x1 : Int32) (x2 : Int32) (x3 : Int32) (m : jx_Mem) : Option (Int32 × jx_Mem) := jx_K jx_kI 297 0 15 [(0, .ref 12), (1, .int x1), (2, .int x2), (3, .int x3)] [] m
noncomputable def f_M_isHeard_2 (x1 : Int32) (x2 : Int32) (x3 : Int32) (m : jx_Mem) : Option (Int32 × jx_Mem) := jx_K jx_kI 307 0 2 [(0, .ref 12), (1, .int x1), (2, .int x2), (3, .int x3)] [] m
noncomputable def f_M_crowds_147 (x1 : Int32) (x2 : Int32) (x3 : Int32) (x4 : Int32) (x5 : Int32) (m : jx_Mem) : Option (Int32 × jx_Mem) := jx_K jx_kI 308 0 147 [(0, .ref 12), (1, .int x1), (2, .int x2), (3, .int x3), (4, .int x4), (5, .int x5)] [] m
noncomputable def f_M_gas_120 (x1 : Int32) (x2 : Int32) (x3 : Int32) (y0 : Int32) (m : jx_Mem) : Option (Int32 × jx_Mem) := jx_K jx_kI 309 0 120 [(0, .ref 12), (1, .int x1), (2, .int x2), (3, .int x3)] [.int y0, .ref 12] m
noncomputable def f_M_leave_199 (x1 : Int32) (x2 : Int32) (x3 : Int32) (x4 : Int32) (x5 : Int32) (m : jx_Mem) : Option (Int32 × jx_Mem) := jx_K jx_kI 312 0 199 [(0, .ref 12), (1, .int x1), (2, .int x2), (3, .int x3), (4, .int x4), (5, .int x5)] [] m
noncomputable def f_M_leave_197 (x1 : Int32) (x2 : Int32) (x3 : Int32) (x5 : Int32) (y0 : Int32) (m : jx_Mem) : Option (Int32 × jx_Mem) := jx_K jx_kI 312 0 197 [(0, .ref 12), (1, .int x1), (2, .int x2), (3, .int x3), (5, .int x5)] [.int y0] m
noncomputable def f_M_leave_130 (x1 : Int32) (x2 : Int32) (x3 : Int32) (x5 : Int32) (x6 : Int32) (m : jx_Mem) : Option (Int32 × jx_Mem) := jx_K jx_kI 312 0 130 [(0, .ref 12), (1, .int x1), (2, .int x2), (3, .int x3), (5, .int x5), (6, .int x6)] [] m
noncomputable def f_M_leave_125 (x1 : Int32) (x2 : Int32) (x3 : Int32) (x6 : Int32) (m : jx_Mem) : Option (Int32 × jx_Mem) := jx_K jx_kI 312 0 125 [(0, .ref 12), (1, .int x1), (2, .int x2), (3, .int x3), (6, .int x6)] [] m
noncomputable def f_M_common (x0 : Int64) (x2 : Int64) (m : jx_Mem) : Option (Int64 × jx_Mem) := jx_K jx_kL 223 0 0 [(0, .long x0), (2, .long x2)] [] m
noncomputable def f_M_judges_69 (x1 : Int32) (x2 : Int32) (x3 : Int32) (x4 : Int32) (x5 : Int32) (x6 : Int32) (x7 : Int32) (x8 : Int32) (x9 : Int32) (y0 : Int32) (m : jx_Mem) : Option (Int32 × jx_Mem) := jx_K jx_kI 317 0 69 [(0, .ref 12), (1, .int x1), (2, .int x2), (3, .int x3), (4, .int x4), (5, .int x5), (6, .int x6), (7, .int x7), (8, .int x8), (9, .int x9)] [.int y0, .ref 12] m
noncomputable def f_M_judges_104 (x1 : Int32) (x2 : Int32) (x3 : Int32) (x4 : Int32) (x5 : Int32) (x6 : Int32) (x7 : Int32) (x8 : Int32) (x9 : Int32) (m : jx_Mem) : Option (Int32 × jx_Mem) := jx_K jx_kI 317 0 104 [(0, .ref 12), (1, .int x1), (2, .int x2), (3, .int x3), (4, .int x4), (5, .int x5), (6, .int x6), (7, .int x7), (8, .int x8), (9, .int x9)] [] m
noncomputable def f_Goods_entry_20 (x2 : Int32) (m : jx_Mem) : Option (Int32 × jx_Mem) := jx_K jx_kI 47 0 20 [(2, .int x2)] [] m
noncomputable def f_Goods_costOfAll_29 (x1 : Int32) (x2 : Int32) (x3 : Int32) (m : jx_Mem) : Option (Int32 × jx_Mem) := jx_K jx_kI 56 0 29 [(0, .ref 3), (1, .int x1), (2, .int x2), (3, .int x3)] [] m
noncomputable def f_Goods_parts_33 (y0 : Int32) (m : jx_Mem) : Option (Int32 × jx_Mem) := jx_K jx_kI 50 0 33 [] [.int y0] m
noncomputable def f_Tree_leastOfParts_43 (lev : Nat) (x1 : Int32) (x2 : Int32) (x3 : Int32) (x4 : Int32) (x5 : Int32) (m : jx_Mem) : Option (Int32 × jx_Mem) := jx_K jx_kI 62 lev 43 [(0, .ref 4), (1, .int x1), (2, .int x2), (3, .int x3), (4, .int x4), (5, .int x5)] [] m
noncomputable def f_Tree_mostOfParts_6 (lev : Nat) (x1 : Int32) (x2 : Int32) (x3 : Int32) (x4 : Int32) (x5 : Int32) (x6 : Int32) (m : jx_Mem) : Option (Int32 × jx_Mem) := jx_K jx_kI 69 lev 6 [(0, .ref 4), (1, .int x1), (2, .int x2), (3, .int x3), (4, .int x4), (5, .int x5), (6, .int x6)] [] m
noncomputable def f_Mine_peopleAt_4 (x1 : Int32) (x2 : Int32) (x3 : Int32) (m : jx_Mem) : Option (Int32 × jx_Mem) := jx_K jx_kI 31 0 4 [(0, .ref 2), (1, .int x1), (2, .int x2), (3, .int x3)] [] m
noncomputable def f_Rule_put_13 (x1 : Int32) (m : jx_Mem) : Option (Int32 × jx_Mem) := jx_K jx_kI 89 0 13 [(1, .int x1)] [] m
noncomputable def f_Rule_equalPairs_14 (x1 : Int32) (x2 : Int32) (x3 : Int32) (x4 : Int32) (m : jx_Mem) : Option (Int32 × jx_Mem) := jx_K jx_kI 95 0 14 [(0, .ref 5), (1, .int x1), (2, .int x2), (3, .int x3), (4, .int x4)] [] m
noncomputable def f_Rule_firstOf_52 (x1 : Int32) (x2 : Int32) (x3 : Int32) (x4 : Int32) (x5 : Int32) (m : jx_Mem) : Option (Int32 × jx_Mem) := jx_K jx_kI 94 0 52 [(0, .ref 5), (1, .int x1), (2, .int x2), (3, .int x3), (4, .int x4), (5, .int x5)] [] m
noncomputable def f_Rule_firstOf_40 (x1 : Int32) (x2 : Int32) (x5 : Int32) (m : jx_Mem) : Option (Int32 × jx_Mem) := jx_K jx_kI 94 0 40 [(0, .ref 5), (1, .int x1), (2, .int x2), (5, .int x5)] [] m
noncomputable def f_Asking_lateFor_33  (m : jx_Mem) : Option (Int32 × jx_Mem) := jx_K jx_kI 118 0 33 [] [] m
noncomputable def f_Asking_lateFor_84 (y0 : Int32) (m : jx_Mem) : Option (Int32 × jx_Mem) := jx_K jx_kI 118 0 84 [] [.int y0] m
noncomputable def f_Asking_nextPrice (x0 : Int32) (x1 : Int32) (m : jx_Mem) : Option (Int32 × jx_Mem) := jx_K jx_kI 120 0 0 [(0, .int x0), (1, .int x1)] [] m
noncomputable def f_Asking_askOnce_109 (x1 : Int32) (x2 : Int32) (x3 : Int32) (x4 : Int32) (y0 : Int32) (m : jx_Mem) : Option (Int32 × jx_Mem) := jx_K jx_kI 119 0 109 [(0, .ref 7), (1, .int x1), (2, .int x2), (3, .int x3), (4, .int x4)] [.int y0] m
noncomputable def f_Asking_choice_8 (x1 : Int32) (x2 : Int32) (x3 : Int32) (x4 : Int32) (x5 : Int32) (m : jx_Mem) : Option (Int32 × jx_Mem) := jx_K jx_kI 121 0 8 [(0, .ref 7), (1, .int x1), (2, .int x2), (3, .int x3), (4, .int x4), (5, .int x5)] [] m
noncomputable def f_Asking_sameBehind_26 (x1 : Int32) (x2 : Int32) (x3 : Int32) (x4 : Int32) (x5 : Int32) (x6 : Int32) (m : jx_Mem) : Option (Int32 × jx_Mem) := jx_K jx_kI 116 0 26 [(0, .ref 7), (1, .int x1), (2, .int x2), (3, .int x3), (4, .int x4), (5, .int x5), (6, .int x6)] [] m
noncomputable def f_Watch_present_62 (x1 : Int32) (x2 : Int32) (x3 : Int32) (x4 : Int32) (x5 : Int32) (m : jx_Mem) : Option (Int32 × jx_Mem) := jx_K jx_kI 132 0 62 [(0, .ref 8), (1, .int x1), (2, .int x2), (3, .int x3), (4, .int x4), (5, .int x5)] [] m
noncomputable def f_Watch_meetsAll_2 (x1 : Int32) (x2 : Int32) (x3 : Int32) (m : jx_Mem) : Option (Int32 × jx_Mem) := jx_K jx_kI 134 0 2 [(0, .ref 8), (1, .int x1), (2, .int x2), (3, .int x3)] [] m
noncomputable def f_Watch_traceBack_23 (x1 : Int32) (x2 : Int32) (x3 : Int64) (x5 : Int64) (x7 : Int64) (x9 : Int32) (x10 : Int32) (m : jx_Mem) : Option (Int64 × jx_Mem) := jx_K jx_kL 137 0 23 [(0, .ref 8), (1, .int x1), (2, .int x2), (3, .long x3), (5, .long x5), (7, .long x7), (9, .int x9), (10, .int x10)] [] m
noncomputable def f_Watch_canTake_64 (x1 : Int32) (x2 : Int32) (x3 : Int32) (x4 : Int64) (x6 : Int32) (m : jx_Mem) : Option (Int64 × jx_Mem) := jx_K jx_kL 139 0 64 [(0, .ref 8), (1, .int x1), (2, .int x2), (3, .int x3), (4, .long x4), (6, .int x6)] [] m
noncomputable def f_Watch_canTake_52 (x1 : Int32) (x2 : Int32) (x3 : Int32) (x4 : Int32) (m : jx_Mem) : Option (Int64 × jx_Mem) := jx_K jx_kL 139 0 52 [(0, .ref 8), (1, .int x1), (2, .int x2), (3, .int x3), (4, .int x4)] [] m
noncomputable def f_Watch_giveTo_70 (x1 : Int32) (x2 : Int32) (x3 : Int64) (x5 : Int32) (x6 : Int32) (x7 : Int32) (m : jx_Mem) : Option jx_Mem := jx_K jx_kV 136 0 70 [(0, .ref 8), (1, .int x1), (2, .int x2), (3, .long x3), (5, .int x5), (6, .int x6), (7, .int x7)] [] m
noncomputable def f_Air_nearest_75 (x1 : Int32) (x2 : Int32) (x3 : Int32) (m : jx_Mem) : Option (Int32 × jx_Mem) := jx_K jx_kI 155 0 75 [(0, .ref 10), (1, .int x1), (2, .int x2), (3, .int x3)] [] m
noncomputable def f_Air_nearest_73 (x1 : Int32) (x3 : Int32) (m : jx_Mem) : Option (Int32 × jx_Mem) := jx_K jx_kI 155 0 73 [(0, .ref 10), (1, .int x1), (3, .int x3)] [] m
noncomputable def f_Row_commonDivisor (x0 : Int32) (x1 : Int32) (m : jx_Mem) : Option (Int32 × jx_Mem) := jx_K jx_kI 14 0 0 [(0, .int x0), (1, .int x1)] [] m
noncomputable def f_Row_tellFraction_14  (m : jx_Mem) : Option jx_Mem := jx_K jx_kV 10 0 14 [(0, .ref 1)] [] m
noncomputable def f_Row_tellFraction_35  (m : jx_Mem) : Option jx_Mem := jx_K jx_kV 10 0 35 [] [] m
noncomputable def f_Math_abs_10 (y0 : Int32) (m : jx_Mem) : Option (Int32 × jx_Mem) := jx_K jx_kI 0 0 10 [] [.int y0] m
noncomputable def f_Asking_wanters_76 (x1 : Int32) (x2 : Int32) (x3 : Int32) (x4 : Int32) (m : jx_Mem) : Option (Int32 × jx_Mem) := jx_K jx_kI 123 0 76 [(0, .ref 7), (1, .int x1), (2, .int x2), (3, .int x3), (4, .int x4)] [] m
noncomputable def f_M_isMixed_52 (x1 : Int32) (x2 : Int32) (x3 : Int32) (x5 : Int32) (y0 : Int32) (m : jx_Mem) : Option (Int32 × jx_Mem) := jx_K jx_kI 246 0 52 [(0, .ref 12), (1, .int x1), (2, .int x2), (3, .int x3), (5, .int x5)] [.int y0] m
noncomputable def f_M_sumOf_30_r71 (x1 : Int32) (x4 : Int32) (y0 : Int32) (y1 : Int32) (m : jx_Mem) : Option (Int32 × jx_Mem) := jx_K jx_kI 249 0 30 [(1, .int x1), (2, .ref 71), (4, .int x4)] [.int y0, .int y1] m
noncomputable def f_Int_numberOfTrailingZeros_34 (x0 : Int32) (x1 : Int32) (m : jx_Mem) : Option (Int32 × jx_Mem) := jx_K jx_kI 4 0 34 [(0, .int x0), (1, .int x1)] [] m
noncomputable def f_M_trees_145 (x1 : Int32) (x2 : Int32) (x3 : Int32) (x4 : Int32) (x6 : Int32) (y0 : Int32) (m : jx_Mem) : Option jx_Mem := jx_K jx_kV 255 0 145 [(0, .ref 12), (1, .int x1), (2, .int x2), (3, .int x3), (4, .int x4), (6, .int x6)] [.int y0] m
noncomputable def f_M_tells_129 (x1 : Int32) (x2 : Int32) (x3 : Int32) (x4 : Int32) (m : jx_Mem) : Option jx_Mem := jx_K jx_kV 257 0 129 [(0, .ref 12), (1, .int x1), (2, .int x2), (3, .int x3), (4, .int x4)] [] m
noncomputable def f_M_tells_64 (x1 : Int32) (x2 : Int32) (x3 : Int32) (x4 : Int32) (x5 : Int32) (x6 : Int32) (m : jx_Mem) : Option jx_Mem := jx_K jx_kV 257 0 64 [(0, .ref 12), (1, .int x1), (2, .int x2), (3, .int x3), (4, .int x4), (5, .int x5), (6, .int x6)] [] m
noncomputable def f_M_peopleAt_28 (x1 : Int32) (x3 : Int32) (y0 : Int32) (y1 : Int32) (m : jx_Mem) : Option (Int32 × jx_Mem) := jx_K jx_kI 270 0 28 [(0, .ref 12), (1, .int x1), (3, .int x3)] [.int y0, .int y1] m
noncomputable def f_M_goesRound_64 (x1 : Int32) (m : jx_Mem) : Option (Int32 × jx_Mem) := jx_K jx_kI 282 0 64 [(0, .ref 12), (1, .int x1)] [] m
noncomputable def f_M_asksFor (x1 : Int32) (m : jx_Mem) : Option (Int32 × jx_Mem) := jx_K jx_kI 281 0 0 [(0, .ref 12), (1, .int x1)] [] m
noncomputable def f_M_goesRound_55 (x1 : Int32) (m : jx_Mem) : Option (Int32 × jx_Mem) := jx_K jx_kI 282 0 55 [(0, .ref 12), (1, .int x1)] [] m
noncomputable def f_M_isAs_41 (x1 : Int32) (x2 : Int32) (m : jx_Mem) : Option (Int32 × jx_Mem) := jx_K jx_kI 285 0 41 [(0, .ref 12), (1, .int x1), (2, .int x2)] [] m
noncomputable def f_M_isHeard_16 (x1 : Int32) (x2 : Int32) (x3 : Int32) (x4 : Int32) (x5 : Int32) (m : jx_Mem) : Option (Int32 × jx_Mem) := jx_K jx_kI 307 0 16 [(0, .ref 12), (1, .int x1), (2, .int x2), (3, .int x3), (4, .int x4), (5, .int x5)] [] m
noncomputable def f_M_gas_137 (x1 : Int32) (x2 : Int32) (x3 : Int32) (y0 : Int32) (m : jx_Mem) : Option (Int32 × jx_Mem) := jx_K jx_kI 309 0 137 [(0, .ref 12), (1, .int x1), (2, .int x2), (3, .int x3)] [.int y0, .ref 12] m
noncomputable def f_M_leave_221 (x1 : Int32) (x2 : Int32) (x3 : Int32) (x4 : Int32) (m : jx_Mem) : Option (Int32 × jx_Mem) := jx_K jx_kI 312 0 221 [(0, .ref 12), (1, .int x1), (2, .int x2), (3, .int x3), (4, .int x4)] [] m
noncomputable def f_M_leave_132 (x1 : Int32) (x2 : Int32) (x3 : Int32) (x6 : Int32) (y0 : Int32) (m : jx_Mem) : Option (Int32 × jx_Mem) := jx_K jx_kI 312 0 132 [(0, .ref 12), (1, .int x1), (2, .int x2), (3, .int x3), (6, .int x6)] [.int y0] m
noncomputable def f_M_common_6 (x4 : Int64) (x6 : Int64) (m : jx_Mem) : Option (Int64 × jx_Mem) := jx_K jx_kL 223 0 6 [(4, .long x4), (6, .long x6)] [] m
noncomputable def f_M_likely (x1 : Int32) (x2 : Int32) (x3 : Int32) (x4 : Int32) (m : jx_Mem) : Option (Int32 × jx_Mem) := jx_K jx_kI 315 0 0 [(0, .ref 12), (1, .int x1), (2, .int x2), (3, .int x3), (4, .int x4)] [] m
noncomputable def f_Tree_mostOfParts_45 (lev : Nat) (x1 : Int32) (x2 : Int32) (x3 : Int32) (x4 : Int32) (x5 : Int32) (x6 : Int32) (m : jx_Mem) : Option (Int32 × jx_Mem) := jx_K jx_kI 69 lev 45 [(0, .ref 4), (1, .int x1), (2, .int x2), (3, .int x3), (4, .int x4), (5, .int x5), (6, .int x6)] [] m
noncomputable def f_Mine_peopleAt_25 (x1 : Int32) (x2 : Int32) (x3 : Int32) (m : jx_Mem) : Option (Int32 × jx_Mem) := jx_K jx_kI 31 0 25 [(0, .ref 2), (1, .int x1), (2, .int x2), (3, .int x3)] [] m
noncomputable def f_Rule_equalPairs_39 (x1 : Int32) (x2 : Int32) (x3 : Int32) (x4 : Int32) (m : jx_Mem) : Option (Int32 × jx_Mem) := jx_K jx_kI 95 0 39 [(0, .ref 5), (1, .int x1), (2, .int x2), (3, .int x3), (4, .int x4)] [] m
noncomputable def f_Asking_nextPrice_29 (y0 : Int32) (m : jx_Mem) : Option (Int32 × jx_Mem) := jx_K jx_kI 120 0 29 [] [.int y0] m
noncomputable def f_Asking_askOnce_136 (x1 : Int32) (x2 : Int32) (x3 : Int32) (m : jx_Mem) : Option (Int32 × jx_Mem) := jx_K jx_kI 119 0 136 [(0, .ref 7), (1, .int x1), (2, .int x2), (3, .int x3)] [] m
noncomputable def f_Asking_choice_101 (x1 : Int32) (x2 : Int32) (x3 : Int32) (x4 : Int32) (x5 : Int32) (x8 : Int32) (m : jx_Mem) : Option (Int32 × jx_Mem) := jx_K jx_kI 121 0 101 [(0, .ref 7), (1, .int x1), (2, .int x2), (3, .int x3), (4, .int x4), (5, .int x5), (8, .int x8)] [] m
noncomputable def f_Asking_choice_102 (x1 : Int32) (x2 : Int32) (x3 : Int32) (x4 : Int32) (x5 : Int32) (x8 : Int32) (y0 : Int32) (m : jx_Mem) : Option (Int32 × jx_Mem) := jx_K jx_kI 121 0 102 [(0, .ref 7), (1, .int x1), (2, .int x2), (3, .int x3), (4, .int x4), (5, .int x5), (8, .int x8)] [.int y0] m
noncomputable def f_Asking_choice_128 (x1 : Int32) (x2 : Int32) (x3 : Int32) (x4 : Int32) (x5 : Int32) (m : jx_Mem) : Option (Int32 × jx_Mem) := jx_K jx_kI 121 0 128 [(0, .ref 7), (1, .int x1), (2, .int x2), (3, .int x3), (4, .int x4), (5, .int x5)] [] m
noncomputable def f_Watch_traceBack_118 (x1 : Int32) (x2 : Int32) (x3 : Int64) (x5 : Int64) (x7 : Int64) (x9 : Int32) (m : jx_Mem) : Option (Int64 × jx_Mem) := jx_K jx_kL 137 0 118 [(0, .ref 8), (1, .int x1), (2, .int x2), (3, .long x3), (5, .long x5), (7, .long x7), (9, .int x9)] [] m
noncomputable def f_Watch_traceBack_67 (x1 : Int32) (x2 : Int32) (x3 : Int64) (x5 : Int64) (x7 : Int64) (x9 : Int32) (x10 : Int32) (m : jx_Mem) : Option (Int64 × jx_Mem) := jx_K jx_kL 137 0 67 [(0, .ref 8), (1, .int x1), (2, .int x2), (3, .long x3), (5, .long x5), (7, .long x7), (9, .int x9), (10, .int x10)] [] m
noncomputable def f_Watch_traceBack_68 (x1 : Int32) (x2 : Int32) (x3 : Int64) (x5 : Int64) (x7 : Int64) (x9 : Int32) (x10 : Int32) (y0 : Int32) (m : jx_Mem) : Option (Int64 × jx_Mem) := jx_K jx_kL 137 0 68 [(0, .ref 8), (1, .int x1), (2, .int x2), (3, .long x3), (5, .long x5), (7, .long x7), (9, .int x9), (10, .int x10)] [.int y0] m
noncomputable def f_Watch_canTake_105 (x1 : Int32) (x2 : Int32) (x3 : Int32) (x4 : Int64) (x6 : Int32) (m : jx_Mem) : Option (Int64 × jx_Mem) := jx_K jx_kL 139 0 105 [(0, .ref 8), (1, .int x1), (2, .int x2), (3, .int x3), (4, .long x4), (6, .int x6)] [] m
noncomputable def f_Watch_sumOf (x1 : Int32) (m : jx_Mem) : Option (Int32 × jx_Mem) := jx_K jx_kI 140 0 0 [(0, .ref 8), (1, .int x1)] [] m
noncomputable def f_Row_commonDivisor_7 (x2 : Int32) (x3 : Int32) (x4 : Int32) (m : jx_Mem) : Option (Int32 × jx_Mem) := jx_K jx_kI 14 0 7 [(2, .int x2), (3, .int x3), (4, .int x4)] [] m
noncomputable def f_Int_numberOfTrailingZeros_49 (x0 : Int32) (x1 : Int32) (m : jx_Mem) : Option (Int32 × jx_Mem) := jx_K jx_kI 4 0 49 [(0, .int x0), (1, .int x1)] [] m
noncomputable def f_M_tells_113 (x1 : Int32) (x2 : Int32) (x3 : Int32) (x4 : Int32) (x6 : Int32) (y0 : Int32) (y1 : Int32) (m : jx_Mem) : Option jx_Mem := jx_K jx_kV 257 0 113 [(0, .ref 12), (1, .int x1), (2, .int x2), (3, .int x3), (4, .int x4), (6, .int x6)] [.int y0, .int y1] m
noncomputable def f_M_goesRound_118 (x1 : Int32) (x2 : Int32) (m : jx_Mem) : Option (Int32 × jx_Mem) := jx_K jx_kI 282 0 118 [(0, .ref 12), (1, .int x1), (2, .int x2)] [] m
noncomputable def f_M_goesRound_70 (x1 : Int32) (x2 : Int32) (m : jx_Mem) : Option (Int32 × jx_Mem) := jx_K jx_kI 282 0 70 [(0, .ref 12), (1, .int x1), (2, .int x2)] [] m
noncomputable def f_M_asksFor_7 (x1 : Int32) (x2 : Int32) (x3 : Int32) (x4 : Int32) (m : jx_Mem) : Option (Int32 × jx_Mem) := jx_K jx_kI 281 0 7 [(0, .ref 12), (1, .int x1), (2, .int x2), (3, .int x3), (4, .int x4)] [] m
noncomputable def f_M_gas_154 (x3 : Int32) (y0 : Int32) (m : jx_Mem) : Option (Int32 × jx_Mem) := jx_K jx_kI 309 0 154 [(3, .int x3)] [.int y0, .ref 12] m
noncomputable def f_M_chanceOf (x1 : Int32) (m : jx_Mem) : Option (Int32 × jx_Mem) := jx_K jx_kI 314 0 0 [(0, .ref 12), (1, .int x1)] [] m
noncomputable def f_M_likely_44 (y0 : Int32) (m : jx_Mem) : Option (Int32 × jx_Mem) := jx_K jx_kI 315 0 44 [] [.int y0] m
noncomputable def f_Asking_choice_121 (x1 : Int32) (x2 : Int32) (x5 : Int32) (x8 : Int32) (m : jx_Mem) : Option (Int32 × jx_Mem) := jx_K jx_kI 121 0 121 [(0, .ref 7), (1, .int x1), (2, .int x2), (5, .int x5), (8, .int x8)] [] m
noncomputable def f_Watch_traceBack_112 (x1 : Int32) (x2 : Int32) (x3 : Int64) (x5 : Int64) (x7 : Int64) (x9 : Int32) (x10 : Int32) (m : jx_Mem) : Option (Int64 × jx_Mem) := jx_K jx_kL 137 0 112 [(0, .ref 8), (1, .int x1), (2, .int x2), (3, .long x3), (5, .long x5), (7, .long x7), (9, .int x9), (10, .int x10)] [] m
noncomputable def f_Watch_markHand (x1 : Int32) (x2 : Int32) (m : jx_Mem) : Option jx_Mem := jx_K jx_kV 138 0 0 [(0, .ref 8), (1, .int x1), (2, .int x2)] [] m
noncomputable def f_Watch_sumOf_4 (x1 : Int32) (x2 : Int32) (x3 : Int32) (m : jx_Mem) : Option (Int32 × jx_Mem) := jx_K jx_kI 140 0 4 [(0, .ref 8), (1, .int x1), (2, .int x2), (3, .int x3)] [] m
noncomputable def f_Row_commonDivisor_34 (x2 : Int32) (m : jx_Mem) : Option (Int32 × jx_Mem) := jx_K jx_kI 14 0 34 [(2, .int x2)] [] m
noncomputable def f_Int_numberOfTrailingZeros_62 (x0 : Int32) (x1 : Int32) (m : jx_Mem) : Option (Int32 × jx_Mem) := jx_K jx_kI 4 0 62 [(0, .int x0), (1, .int x1)] [] m
noncomputable def f_M_goesRound_159 (x1 : Int32) (x2 : Int32) (x3 : Int32) (m : jx_Mem) : Option (Int32 × jx_Mem) := jx_K jx_kI 282 0 159 [(0, .ref 12), (1, .int x1), (2, .int x2), (3, .int x3)] [] m
noncomputable def f_M_goesRound_186 (x1 : Int32) (x2 : Int32) (x3 : Int32) (y0 : Int32) (m : jx_Mem) : Option (Int32 × jx_Mem) := jx_K jx_kI 282 0 186 [(0, .ref 12), (1, .int x1), (2, .int x2), (3, .int x3)] [.int y0] m
noncomputable def f_M_asksFor_37 (x1 : Int32) (x2 : Int32) (x3 : Int32) (x4 : Int32) (m : jx_Mem) : Option (Int32 × jx_Mem) := jx_K jx_kI 281 0 37 [(0, .ref 12), (1, .int x1), (2, .int x2), (3, .int x3), (4, .int x4)] [] m
noncomputable def f_M_heardBy (x1 : Int32) (x2 : Int32) (m : jx_Mem) : Option (Int32 × jx_Mem) := jx_K jx_kI 280 0 0 [(0, .ref 12), (1, .int x1), (2, .int x2)] [] m
noncomputable def f_M_asksFor_48 (x1 : Int32) (x2 : Int32) (x3 : Int32) (x4 : Int32) (y0 : Int32) (m : jx_Mem) : Option (Int32 × jx_Mem) := jx_K jx_kI 281 0 48 [(0, .ref 12), (1, .int x1), (2, .int x2), (3, .int x3), (4, .int x4)] [.int y0] m
noncomputable def f_M_chanceOf_21 (y0 : Int32) (m : jx_Mem) : Option (Int32 × jx_Mem) := jx_K jx_kI 314 0 21 [] [.int y0] m
noncomputable def f_Watch_markHand_2 (x1 : Int32) (x2 : Int32) (x3 : Int32) (m : jx_Mem) : Option jx_Mem := jx_K jx_kV 138 0 2 [(0, .ref 8), (1, .int x1), (2, .int x2), (3, .int x3)] [] m
noncomputable def f_Watch_sumOf_29 (x1 : Int32) (x2 : Int32) (x3 : Int32) (m : jx_Mem) : Option (Int32 × jx_Mem) := jx_K jx_kI 140 0 29 [(0, .ref 8), (1, .int x1), (2, .int x2), (3, .int x3)] [] m
noncomputable def f_Int_numberOfTrailingZeros_74 (x0 : Int32) (x1 : Int32) (m : jx_Mem) : Option (Int32 × jx_Mem) := jx_K jx_kI 4 0 74 [(0, .int x0), (1, .int x1)] [] m
noncomputable def f_M_goesRound_208 (x2 : Int32) (y0 : Int32) (y1 : Int32) (m : jx_Mem) : Option (Int32 × jx_Mem) := jx_K jx_kI 282 0 208 [(0, .ref 12), (2, .int x2)] [.int y0, .int y1] m
noncomputable def f_M_heardBy_54 (y0 : Int32) (m : jx_Mem) : Option (Int32 × jx_Mem) := jx_K jx_kI 280 0 54 [] [.int y0] m
noncomputable def f_M_asksFor_109 (x1 : Int32) (x2 : Int32) (x3 : Int32) (x4 : Int32) (m : jx_Mem) : Option (Int32 × jx_Mem) := jx_K jx_kI 281 0 109 [(0, .ref 12), (1, .int x1), (2, .int x2), (3, .int x3), (4, .int x4)] [] m
noncomputable def f_M_asksFor_103 (x1 : Int32) (x4 : Int32) (x6 : Int32) (m : jx_Mem) : Option (Int32 × jx_Mem) := jx_K jx_kI 281 0 103 [(0, .ref 12), (1, .int x1), (4, .int x4), (6, .int x6)] [] m
noncomputable def f_Watch_markHand_30 (x1 : Int32) (x2 : Int32) (x3 : Int32) (m : jx_Mem) : Option jx_Mem := jx_K jx_kV 138 0 30 [(0, .ref 8), (1, .int x1), (2, .int x2), (3, .int x3)] [] m
end
section
/-! the equations of the meanings -/
theorem e_F_tunnel (x1 : Int32) (x2 : Int32) (x3 : Int32) (m : jx_Mem) : f_F_tunnel x1 x2 x3 m = (f_Mine_addTunnel x1 x2 x3 m).bind (fun p1 => some (p1.1, p1.2)) := (jx_V_K jx_kI jx_h164 jx_w164_ 400 0 _ _ m).trans rfl
theorem e_F_wall (x1 : Int32) (x2 : Int32) (m : jx_Mem) : f_F_wall x1 x2 m = (f_Mine_setWall x1 x2 m).bind (fun p1 => some (p1.1, p1.2)) := (jx_V_K jx_kI jx_h165 jx_w165_ 400 0 _ _ m).trans rfl
theorem e_F_far (x1 : Int32) (x2 : Int32) (m : jx_Mem) : f_F_far x1 x2 m = (f_Mine_isPlace x1 m).bind (fun p1 => if decide (p1.1 = 0) = true then (f_F_far_34 p1.2) else ((f_Mine_isPlace x2 p1.2).bind (fun p2 => if decide (p2.1 = 0) = true then (f_F_far_34 p2.2) else ((f_Mine_distance x1 x2 p2.2).bind (fun p3 => f_F_far_35 p3.1 p3.2))))) := (jx_V_K jx_kI jx_h166 jx_w166_ 400 0 _ _ m).trans rfl
theorem e_F_person (x1 : Int32) (x2 : Int32) (x3 : Int32) (m : jx_Mem) : f_F_person x1 x2 x3 m = (f_Mine_addPerson x1 x2 x3 m).bind (fun p1 => some (p1.1, p1.2)) := (jx_V_K jx_kI jx_h167 jx_w167_ 400 0 _ _ m).trans rfl
theorem e_F_walk (x1 : Int32) (x2 : Int32) (m : jx_Mem) : f_F_walk x1 x2 m = (f_Mine_move x1 x2 m).bind (fun p1 => some (p1.1, p1.2)) := (jx_V_K jx_kI jx_h168 jx_w168_ 400 0 _ _ m).trans rfl
theorem e_F_of (x1 : Int32) (x2 : Int32) (m : jx_Mem) : f_F_of x1 x2 m = (f_Mine_isPerson x1 m).bind (fun p1 => if decide (p1.1 = 0) = true then (f_F_of_20 p1.2) else ((f_F_within x2 0 2 p1.2).bind (fun p2 => if decide (¬ p2.1 = 0) = true then (if decide (¬ x2 = 0) = true then (if decide (¬ x2 = 1) = true then ((f_Mine_loadOf x1 p2.2).bind (fun p3 => f_F_of_65 p3.1 p3.2)) else ((f_Mine_purseOf x1 p2.2).bind (fun p4 => f_F_of_65 p4.1 p4.2))) else ((f_Mine_placeOf x1 p2.2).bind (fun p5 => some (p5.1, p5.2)))) else (f_F_of_20 p2.2)))) := (jx_V_K jx_kI jx_h169 jx_w169_ 400 0 _ _ m).trans rfl
theorem e_F_good (x1 : Int32) (m : jx_Mem) : f_F_good x1 m = (f_Goods_addGood x1 m).bind (fun p1 => some (p1.1, p1.2)) := (jx_V_K jx_kI jx_h170 jx_w170_ 400 0 _ _ m).trans rfl
theorem e_F_test (x1 : Int32) (m : jx_Mem) : f_F_test x1 m = (f_Goods_addTest x1 m).bind (fun p1 => some (p1.1, p1.2)) := (jx_V_K jx_kI jx_h171 jx_w171_ 400 0 _ _ m).trans rfl
theorem e_F_answer (x1 : Int32) (x2 : Int32) (x3 : Int32) (m : jx_Mem) : f_F_answer x1 x2 x3 m = (f_Goods_setAnswer x1 x2 x3 m).bind (fun p1 => some (p1.1, p1.2)) := (jx_V_K jx_kI jx_h172 jx_w172_ 400 0 _ _ m).trans rfl
theorem e_F_sheet (x1 : Int32) (x2 : Int32) (x3 : Int32) (x4 : Int32) (x5 : Int32) (m : jx_Mem) : f_F_sheet x1 x2 x3 x4 x5 m = (f_Goods_readSheet x1 x2 x3 x4 x5 m).bind (fun p1 => some (p1.1, p1.2)) := (jx_V_K jx_kI jx_h173 jx_w173_ 400 0 _ _ m).trans rfl
theorem e_F_apart (x1 : Int32) (x2 : Int32) (m : jx_Mem) : f_F_apart x1 x2 m = (f_Goods_isGood x1 m).bind (fun p1 => if decide (p1.1 = 0) = true then (f_F_apart_34 p1.2) else ((f_Goods_isGood x2 p1.2).bind (fun p2 => if decide (p2.1 = 0) = true then (f_F_apart_34 p2.2) else ((f_Goods_unlike x1 x2 p2.2).bind (fun p3 => f_F_apart_35 p3.1 p3.2))))) := (jx_V_K jx_kI jx_h174 jx_w174_ 400 0 _ _ m).trans rfl
theorem e_F_sure (x1 : Int32) (x2 : Int32) (m : jx_Mem) : f_F_sure x1 x2 m = (f_Goods_areGoods x1 m).bind (fun p1 => if decide (p1.1 = 0) = true then (f_F_sure_22 p1.2) else ((f_Goods_areTests x2 p1.2).bind (fun p2 => if decide (¬ p2.1 = 0) = true then ((f_Goods_toldBy x2 x1 p2.2).bind (fun p3 => (f_Row_tell_J p3.1.toInt64 p3.2).bind (fun p4 => (f_Int_bitCount p3.1 p4).bind (fun p5 => some (p5.1, p5.2))))) else (f_F_sure_22 p2.2)))) := (jx_V_K jx_kI jx_h175 jx_w175_ 400 0 _ _ m).trans rfl
theorem e_F_keep (x1 : Int32) (m : jx_Mem) : f_F_keep x1 m = (f_Goods_areGoods x1 m).bind (fun p1 => if decide (¬ p1.1 = 0) = true then ((f_Goods_fewestTests x1 p1.2).bind (fun p2 => if decide (0 ≤ p2.1) = true then ((f_Row_tell_J p2.1.toInt64 p2.2).bind (fun p3 => (f_Int_bitCount p2.1 p3).bind (fun p4 => some (p4.1, p4.2)))) else (some ((-2), p2.2)))) else (some ((-1), p1.2))) := (jx_V_K jx_kI jx_h176 jx_w176_ 400 0 _ _ m).trans rfl
theorem e_F_ban (x1 : Int32) (x2 : Int32) (m : jx_Mem) : f_F_ban x1 x2 m = (f_Goods_areGoods x1 m).bind (fun p1 => if decide (p1.1 = 0) = true then (f_F_ban_22 p1.2) else ((f_Goods_areTests x2 p1.2).bind (fun p2 => if decide (¬ p2.1 = 0) = true then ((f_Goods_toBan x2 x1 p2.2).bind (fun p3 => (f_Row_tell_J p3.1.toInt64 p3.2).bind (fun p4 => (f_Int_bitCount p3.1 p4).bind (fun p5 => some (p5.1, p5.2))))) else (f_F_ban_22 p2.2)))) := (jx_V_K jx_kI jx_h177 jx_w177_ 400 0 _ _ m).trans rfl
theorem e_F_tree (x1 : Int32) (m : jx_Mem) : f_F_tree x1 m = (f_Goods_areGoods x1 m).bind (fun p1 => if decide (¬ p1.1 = 0) = true then ((f_Tree_grow x1 p1.2).bind (fun p2 => (f_Tree_firstTest x1 p2.2).bind (fun p3 => (f_Tree_dearest x1 p3.2).bind (fun p4 => (f_Row_tell_JJ p3.1.toInt64 p4.1.toInt64 p4.2).bind (fun p5 => some (p2.1, p5)))))) else (some ((-1), p1.2))) := (jx_V_K jx_kI jx_h178 jx_w178_ 400 0 _ _ m).trans rfl
theorem e_F_copper (x1 : Int32) (x2 : Int32) (m : jx_Mem) : f_F_copper x1 x2 m = (f_Goods_areGoods x1 m).bind (fun p1 => if decide (p1.1 = 0) = true then (f_F_copper_21 p1.2) else ((f_F_within x2 0 99 p1.2).bind (fun p2 => if decide (¬ p2.1 = 0) = true then ((f_Tree_toldWithin x1 x2 p2.2).bind (fun p3 => some (p3.1, p3.2))) else (f_F_copper_21 p2.2)))) := (jx_V_K jx_kI jx_h179 jx_w179_ 400 0 _ _ m).trans rfl
theorem e_F_asks (x1 : Int32) (x2 : Int32) (m : jx_Mem) : f_F_asks x1 x2 m = (f_Goods_areGoods x1 m).bind (fun p1 => if decide (p1.1 = 0) = true then (f_F_asks_30 p1.2) else ((f_Goods_isGood x2 p1.2).bind (fun p2 => if decide (p2.1 = 0) = true then (f_F_asks_30 p2.2) else ((f_F_has x1 x2 p2.2).bind (fun p3 => if decide (¬ p3.1 = 0) = true then ((f_Tree_grow x1 p3.2).bind (fun p4 => (f_Tree_tellPath x1 x2 p4.2).bind (fun p5 => some (p5.1, p5.2)))) else (f_F_asks_30 p3.2)))))) := (jx_V_K jx_kI jx_h180 jx_w180_ 400 0 _ _ m).trans rfl
theorem e_F_sign (x1 : Int32) (m : jx_Mem) : f_F_sign x1 m = (f_Rule_append x1 m).bind (fun p1 => some (p1.1, p1.2)) := (jx_V_K jx_kI jx_h181 jx_w181_ 400 0 _ _ m).trans rfl
theorem e_F_end (x1 : Int32) (m : jx_Mem) : f_F_end x1 m = (f_Rule_cut x1 m).bind (fun p1 => bif jx_01 p1.1 then some (p1.1, p1.2) else none) := (jx_V_K jx_kI jx_h182 jx_w182_ 400 0 _ _ m).trans rfl
theorem e_F_rule  (m : jx_Mem) : f_F_rule m = (f_Rule_read m).bind (fun p1 => some (p1.1, p1.2)) := (jx_V_K jx_kI jx_h183 jx_w183_ 400 0 _ _ m).trans rfl
theorem e_F_first (x1 : Int32) (x2 : Int32) (m : jx_Mem) : f_F_first x1 x2 m = (f_Mine_isPerson x1 m).bind (fun p1 => if decide (p1.1 = 0) = true then (f_F_first_27 p1.2) else ((f_Mine_isPerson x2 p1.2).bind (fun p2 => if decide (p2.1 = 0) = true then (f_F_first_27 p2.2) else (if decide (¬ x1 = x2) = true then ((f_Rule_valueFor x1 p2.2).bind (fun p3 => (f_Rule_valueFor x2 p3.2).bind (fun p4 => (f_Row_tell_JJ p3.1.toInt64 p4.1.toInt64 p4.2).bind (fun p5 => if decide (¬ p3.1 = p4.1) = true then (if decide (p3.1 ≤ p4.1) = true then (f_F_first_83 x2 p5) else (f_F_first_83 x1 p5)) else ((f_Math_min x1 x2 p5).bind (fun p6 => some (p6.1, p6.2))))))) else (f_F_first_27 p2.2))))) := (jx_V_K jx_kI jx_h184 jx_w184_ 400 0 _ _ m).trans rfl
theorem e_F_order  (m : jx_Mem) : f_F_order m = (f_Rule_tellOrder m).bind (fun p1 => some (p1.1, p1.2)) := (jx_V_K jx_kI jx_h185 jx_w185_ 400 0 _ _ m).trans rfl
theorem e_F_want (x1 : Int32) (x2 : Int32) (x3 : Int32) (m : jx_Mem) : f_F_want x1 x2 x3 m = (f_Mine_isPerson x1 m).bind (fun p1 => if decide (p1.1 = 0) = true then (f_F_want_32 p1.2) else ((f_Goods_isGood x2 p1.2).bind (fun p2 => if decide (p2.1 = 0) = true then (f_F_want_32 p2.2) else ((f_F_within x3 0 99 p2.2).bind (fun p3 => if decide (¬ p3.1 = 0) = true then ((f_Asking_setWants x1 x2 x3 p3.2).bind (fun p4 => some (p4.1, p4.2))) else (f_F_want_32 p3.2)))))) := (jx_V_K jx_kI jx_h186 jx_w186_ 400 0 _ _ m).trans rfl
theorem e_F_item (x1 : Int32) (x2 : Int32) (x3 : Int32) (m : jx_Mem) : f_F_item x1 x2 x3 m = (f_Goods_isGood x1 m).bind (fun p1 => if decide (p1.1 = 0) = true then (f_F_item_32 p1.2) else ((f_Mine_isPerson x2 p1.2).bind (fun p2 => if decide (p2.1 = 0) = true then (f_F_item_32 p2.2) else ((f_F_within x3 0 99 p2.2).bind (fun p3 => if decide (¬ p3.1 = 0) = true then ((f_Items_addItem x1 x2 p3.2).bind (fun p4 => if decide (p4.1 = (-1)) = true then (f_F_item_61 p4.1 p4.2) else ((f_Asking_startPrice p4.1 x3 p4.2).bind (fun p5 => f_F_item_61 p4.1 p5)))) else (f_F_item_32 p3.2)))))) := (jx_V_K jx_kI jx_h187 jx_w187_ 400 0 _ _ m).trans rfl
theorem e_F_thing (x1 : Int32) (x2 : Int32) (m : jx_Mem) : f_F_thing x1 x2 m = (f_Items_isItem x1 m).bind (fun p1 => if decide (p1.1 = 0) = true then (f_F_thing_20 p1.2) else ((f_F_within x2 0 3 p1.2).bind (fun p2 => if decide (¬ p2.1 = 0) = true then (if decide (¬ x2 = 0) = true then (if decide (¬ x2 = 1) = true then (if decide (¬ x2 = 2) = true then ((f_Items_isSold x1 p2.2).bind (fun p3 => if decide (p3.1 = 0) = true then (f_F_thing_85 0 p3.2) else (f_F_thing_85 1 p3.2))) else ((f_Asking_priceOf x1 p2.2).bind (fun p4 => some (p4.1, p4.2)))) else ((f_Items_ownerOf x1 p2.2).bind (fun p5 => some (p5.1, p5.2)))) else ((f_Items_goodOf x1 p2.2).bind (fun p6 => some (p6.1, p6.2)))) else (f_F_thing_20 p2.2)))) := (jx_V_K jx_kI jx_h188 jx_w188_ 400 0 _ _ m).trans rfl
theorem e_F_wind (x1 : Int32) (m : jx_Mem) : f_F_wind x1 m = (f_Asking_setWind x1 m).bind (fun p1 => some (p1.1, p1.2)) := (jx_V_K jx_kI jx_h189 jx_w189_ 400 0 _ _ m).trans rfl
theorem e_F_rounds (x1 : Int32) (m : jx_Mem) : f_F_rounds x1 m = (f_F_within x1 0 200 m).bind (fun p1 => if decide (¬ p1.1 = 0) = true then ((f_Asking_askOn x1 p1.2).bind (fun p2 => (f_Asking_tellAskers p2.2).bind (fun p3 => some (p2.1, p3)))) else (some ((-1), p1.2))) := (jx_V_K jx_kI jx_h190 jx_w190_ 400 0 _ _ m).trans rfl
theorem e_F_settles  (m : jx_Mem) : f_F_settles m = (f_Asking_foresee m).bind (fun p1 => some (p1.1, p1.2)) := (jx_V_K jx_kI jx_h191 jx_w191_ 400 0 _ _ m).trans rfl
theorem e_F_buy (x1 : Int32) (x2 : Int32) (m : jx_Mem) : f_F_buy x1 x2 m = (f_Asking_priceOf x2 m).bind (fun p1 => (f_Items_sell x2 x1 p1.1 p1.2).bind (fun p2 => some (p2.1, p2.2))) := (jx_V_K jx_kI jx_h192 jx_w192_ 400 0 _ _ m).trans rfl
theorem e_F_undo  (m : jx_Mem) : f_F_undo m = (f_Items_takeBack m).bind (fun p1 => some (p1.1, p1.2)) := (jx_V_K jx_kI jx_h193 jx_w193_ 400 0 _ _ m).trans rfl
theorem e_F_counted (x1 : Int32) (x2 : Int32) (x3 : Int32) (m : jx_Mem) : f_F_counted x1 x2 x3 m = (f_Watch_addCount x1 x2 x3 m).bind (fun p1 => some (p1.1, p1.2)) := (jx_V_K jx_kI jx_h194 jx_w194_ 400 0 _ _ m).trans rfl
theorem e_F_been (x1 : Int32) (x2 : Int32) (x3 : Int32) (x4 : Int32) (m : jx_Mem) : f_F_been x1 x2 x3 x4 m = (f_Watch_addStay x1 x2 x3 x4 m).bind (fun p1 => some (p1.1, p1.2)) := (jx_V_K jx_kI jx_h195 jx_w195_ 400 0 _ _ m).trans rfl
theorem e_F_missing (x1 : Int32) (m : jx_Mem) : f_F_missing x1 m = (f_Mine_isPlace x1 m).bind (fun p1 => if decide (p1.1 = 0) = true then (f_F_missing_27 (-1) p1.2) else ((f_Watch_tellThefts x1 p1.2).bind (fun p2 => f_F_missing_27 p2.1 p2.2))) := (jx_V_K jx_kI jx_h196 jx_w196_ 400 0 _ _ m).trans rfl
theorem e_F_suspects (x1 : Int32) (x2 : Int32) (m : jx_Mem) : f_F_suspects x1 x2 m = (f_Mine_isPlace x1 m).bind (fun p1 => if decide (p1.1 = 0) = true then (f_F_suspects_27 p1.2) else (if decide (x2 < 0) = true then (f_F_suspects_27 p1.2) else ((f_Watch_suspectsOf x1 x2 p1.2).bind (fun p2 => f_F_suspects_28 p2.1 p2.2)))) := (jx_V_K jx_kI jx_h197 jx_w197_ 400 0 _ _ m).trans rfl
theorem e_F_gang  (m : jx_Mem) : f_F_gang m = (f_Watch_smallestGang m).bind (fun p1 => if decide (0 ≤ p1.1) = true then ((f_Row_tell_J p1.1.toInt64 p1.2).bind (fun p2 => (f_Int_bitCount p1.1 p2).bind (fun p3 => some (p3.1, p3.2)))) else (some ((-2), p1.2))) := (jx_V_K jx_kI jx_h198 jx_w198_ 400 0 _ _ m).trans rfl
theorem e_F_clink (x1 : Int32) (x2 : Int32) (x3 : Int32) (m : jx_Mem) : f_F_clink x1 x2 x3 m = (f_Watch_addClink x1 x2 x3 m).bind (fun p1 => some (p1.1, p1.2)) := (jx_V_K jx_kI jx_h199 jx_w199_ 400 0 _ _ m).trans rfl
theorem e_F_hands  (m : jx_Mem) : f_F_hands m = (f_Watch_tellHands m).bind (fun p1 => some (p1.1, p1.2)) := (jx_V_K jx_kI jx_h200 jx_w200_ 400 0 _ _ m).trans rfl
theorem e_F_loud (x1 : Int32) (m : jx_Mem) : f_F_loud x1 m = (f_Mine_isPlace x1 m).bind (fun p1 => if decide (p1.1 = 0) = true then (f_F_loud_23 (-1) p1.2) else ((f_Noise_loudAt x1 p1.2).bind (fun p2 => f_F_loud_23 p2.1 p2.2))) := (jx_V_K jx_kI jx_h201 jx_w201_ 400 0 _ _ m).trans rfl
theorem e_F_loudest  (m : jx_Mem) : f_F_loudest m = (f_Noise_tellLoudest m).bind (fun p1 => some (p1.1, p1.2)) := (jx_V_K jx_kI jx_h202 jx_w202_ 400 0 _ _ m).trans rfl
theorem e_F_heard (x1 : Int32) (x2 : Int32) (m : jx_Mem) : f_F_heard x1 x2 m = (f_Noise_addHeard x1 x2 m).bind (fun p1 => some (p1.1, p1.2)) := (jx_V_K jx_kI jx_h203 jx_w203_ 400 0 _ _ m).trans rfl
theorem e_F_crowds (x1 : Int32) (x2 : Int32) (m : jx_Mem) : f_F_crowds x1 x2 m = (f_F_within x1 1 6 m).bind (fun p1 => if decide (p1.1 = 0) = true then (f_F_crowds_20 p1.2) else ((f_F_within x2 0 99 p1.2).bind (fun p2 => if decide (¬ p2.1 = 0) = true then ((f_Noise_tellCrowds x1 x2 p2.2).bind (fun p3 => some (p3.1, p3.2))) else (f_F_crowds_20 p2.2)))) := (jx_V_K jx_kI jx_h204 jx_w204_ 400 0 _ _ m).trans rfl
theorem e_F_gas (x1 : Int32) (x2 : Int32) (m : jx_Mem) : f_F_gas x1 x2 m = (f_Air_set x1 x2 m).bind (fun p1 => some (p1.1, p1.2)) := (jx_V_K jx_kI jx_h205 jx_w205_ 400 0 _ _ m).trans rfl
theorem e_F_lasts  (m : jx_Mem) : f_F_lasts m = (f_Air_stay m).bind (fun p1 => some (p1.1, p1.2)) := (jx_V_K jx_kI jx_h206 jx_w206_ 400 0 _ _ m).trans rfl
theorem e_F_leave  (m : jx_Mem) : f_F_leave m = (f_Air_tellLeaving m).bind (fun p1 => some (p1.1, p1.2)) := (jx_V_K jx_kI jx_h207 jx_w207_ 400 0 _ _ m).trans rfl
theorem e_F_ear (x1 : Int32) (x2 : Int32) (m : jx_Mem) : f_F_ear x1 x2 m = (f_Ears_setChance x1 x2 m).bind (fun p1 => some (p1.1, p1.2)) := (jx_V_K jx_kI jx_h208 jx_w208_ 400 0 _ _ m).trans rfl
theorem e_F_sound (x1 : Int32) (x2 : Int32) (m : jx_Mem) : f_F_sound x1 x2 m = (f_Ears_tellSound x1 x2 m).bind (fun p1 => some (p1.1, p1.2)) := (jx_V_K jx_kI jx_h209 jx_w209_ 400 0 _ _ m).trans rfl
theorem e_F_judge (x1 : Int32) (x2 : Int32) (x3 : Int32) (m : jx_Mem) : f_F_judge x1 x2 x3 m = (f_Mine_isPerson x1 m).bind (fun p1 => if decide (p1.1 = 0) = true then (f_F_judge_23 p1.2) else ((f_Ears_canHear x2 x3 p1.2).bind (fun p2 => if decide (¬ p2.1 = 0) = true then ((f_Ears_tellPlace x1 x2 x3 p2.2).bind (fun p3 => some (p3.1, p3.2))) else (f_F_judge_23 p2.2)))) := (jx_V_K jx_kI jx_h210 jx_w210_ 400 0 _ _ m).trans rfl
theorem e_F_who (x1 : Int32) (x2 : Int32) (x3 : Int32) (m : jx_Mem) : f_F_who x1 x2 x3 m = (f_Mine_isPerson x1 m).bind (fun p1 => if decide (p1.1 = 0) = true then (f_F_who_23 p1.2) else ((f_Ears_canHear x2 x3 p1.2).bind (fun p2 => if decide (¬ p2.1 = 0) = true then ((f_Ears_tellClapper x1 x2 x3 p2.2).bind (fun p3 => some (p3.1, p3.2))) else (f_F_who_23 p2.2)))) := (jx_V_K jx_kI jx_h211 jx_w211_ 400 0 _ _ m).trans rfl
theorem e_F_lamp (x1 : Int32) (m : jx_Mem) : f_F_lamp x1 m = (f_Mine_isPlace x1 m).bind (fun p1 => if decide (¬ p1.1 = 0) = true then ((f_Air_burns p1.2).bind (fun p2 => if decide (p2.1 = 0) = true then ((f_Mine_peopleNear x1 10 p2.2).bind (fun p3 => (f_Items_ownedBy p3.1 p3.2).bind (fun p4 => (f_Asking_wantedByTwo p4.1 p3.1 p4.2).bind (fun p5 => (f_Row_tell_JJ p4.1.toInt64 p5.1.toInt64 p5.2).bind (fun p6 => some (p3.1, p6)))))) else ((f_Mine_dropPurses p2.2).bind (fun p7 => some ((-2), p7))))) else (some ((-1), p1.2))) := (jx_V_K jx_kI jx_h212 jx_w212_ 400 0 _ _ m).trans rfl
theorem e_F_count (x1 : Int32) (m : jx_Mem) : f_F_count x1 m = if decide (x1 = 0) = true then ((f_Mine_tunnels m).bind (fun p10 => some (p10.1, p10.2))) else (if decide (x1 = 1) = true then ((f_Mine_people m).bind (fun p9 => some (p9.1, p9.2))) else (if decide (x1 = 2) = true then ((f_Goods_goods m).bind (fun p8 => some (p8.1, p8.2))) else (if decide (x1 = 3) = true then ((f_Goods_tests m).bind (fun p7 => some (p7.1, p7.2))) else (if decide (x1 = 4) = true then ((f_Items_size m).bind (fun p6 => some (p6.1, p6.2))) else (if decide (x1 = 5) = true then ((f_Items_soldOnes m).bind (fun p5 => some (p5.1, p5.2))) else (if decide (x1 = 6) = true then ((f_Items_sales m).bind (fun p4 => some (p4.1, p4.2))) else (if decide (x1 = 7) = true then ((f_Mine_allPurses m).bind (fun p3 => some (p3.1, p3.2))) else (if decide (x1 = 8) = true then ((f_Row_size m).bind (fun p2 => some (p2.1, p2.2))) else (if decide (x1 = 9) = true then ((f_Rule_signs m).bind (fun p1 => some (p1.1, p1.2))) else (some ((-1), m))))))))))) := (jx_V_K jx_kI jx_h213 jx_w213_ 400 0 _ _ m).trans rfl
theorem e_F_row (x1 : Int32) (m : jx_Mem) : f_F_row x1 m = (f_Row_holds x1 m).bind (fun p1 => if decide (¬ p1.1 = 0) = true then ((f_Row_get x1 p1.2).bind (fun p2 => some (p2.1, p2.2))) else none) := (jx_V_K jx_kL jx_h214 jx_w214_ 400 0 _ _ m).trans rfl
theorem e_M_thrown  (m : jx_Mem) : f_M_thrown m = some (m.1 12 0, m) := (jx_V_K jx_kI jx_h217 jx_w217_ 400 0 _ _ m).trans rfl
theorem e_M_tunnel (x1 : Int32) (x2 : Int32) (x3 : Int32) (m : jx_Mem) : f_M_tunnel x1 x2 x3 m = let m1 := jx_w1 m 12 0 0; (f_M_isPlace x1 m1).bind (fun p1 => if decide (p1.1 = 0) = true then (f_M_tunnel_45 p1.2) else ((f_M_isPlace x2 p1.2).bind (fun p2 => if decide (p2.1 = 0) = true then (f_M_tunnel_45 p2.2) else (if decide (x1 = x2) = true then (f_M_tunnel_45 p2.2) else ((f_M_in x3.toInt64 1 20 p2.2).bind (fun p3 => if decide (p3.1 = 0) = true then (f_M_tunnel_45 p3.2) else (if decide (¬ (p3.2.1 12 3) = 16) = true then ((f_M_shortens x1 x2 x3 p3.2).bind (fun p4 => f_M_tunnel_57 0 p4)) else (f_M_tunnel_45 p3.2)))))))) := (jx_V_K jx_kI jx_h229 jx_w229_ 400 0 _ _ m).trans rfl
theorem e_M_wall (x1 : Int32) (x2 : Int32) (m : jx_Mem) : f_M_wall x1 x2 m = let m1 := jx_w1 m 12 0 0; (f_M_isPlace x1 m1).bind (fun p1 => if decide (p1.1 = 0) = true then (f_M_wall_24 p1.2) else ((f_M_in x2.toInt64 0 20 p1.2).bind (fun p2 => if decide (¬ p2.1 = 0) = true then (bif jx_in x1 10 then bif (jx_in x1 10 && true) then (let m2 := jx_w1 p2.2 67 x1.toNatClampNeg x2; some (p2.2.1 67 x1.toNatClampNeg, m2)) else none else none) else (f_M_wall_24 p2.2)))) := (jx_V_K jx_kI jx_h230 jx_w230_ 400 0 _ _ m).trans rfl
theorem e_M_far (x1 : Int32) (x2 : Int32) (m : jx_Mem) : f_M_far x1 x2 m = let m1 := jx_w1 m 12 0 0; (f_M_isPlace x1 m1).bind (fun p1 => if decide (p1.1 = 0) = true then (f_M_far_28 p1.2) else ((f_M_isPlace x2 p1.2).bind (fun p2 => if decide (p2.1 = 0) = true then (f_M_far_28 p2.2) else ((f_M_farOf x1 x2 p2.2).bind (fun p3 => f_M_far_29 p3.1 p3.2))))) := (jx_V_K jx_kI jx_h231 jx_w231_ 400 0 _ _ m).trans rfl
theorem e_M_person (x1 : Int32) (x2 : Int32) (x3 : Int32) (m : jx_Mem) : f_M_person x1 x2 x3 m = let m1 := jx_w1 m 12 0 0; (f_M_isPlace x1 m1).bind (fun p1 => if decide (p1.1 = 0) = true then (f_M_person_45 p1.2) else ((f_M_in x2.toInt64 0 999 p1.2).bind (fun p2 => if decide (p2.1 = 0) = true then (f_M_person_45 p2.2) else ((f_M_in x3.toInt64 0 9 p2.2).bind (fun p3 => if decide (p3.1 = 0) = true then (f_M_person_45 p3.2) else (if decide (¬ (p3.2.1 12 6) = 8) = true then (bif (jx_in (p3.2.1 12 6) 8 && true) then (let m2 := jx_w1 p3.2 68 (p3.2.1 12 6).toNatClampNeg x1; bif (jx_in (m2.1 12 6) 8 && true) then (let m3 := jx_w1 m2 69 (m2.1 12 6).toNatClampNeg x2; bif (jx_in (m3.1 12 6) 8 && true) then (let m4 := jx_w1 m3 70 (m3.1 12 6).toNatClampNeg x3; let m5 := jx_w1 m4 12 6 ((m4.1 12 6) + 1); some ((m5.1 12 6) - 1, m5)) else none) else none) else none) else (f_M_person_45 p3.2))))))) := (jx_V_K jx_kI jx_h232 jx_w232_ 400 0 _ _ m).trans rfl
theorem e_M_walk (x1 : Int32) (x2 : Int32) (m : jx_Mem) : f_M_walk x1 x2 m = let m1 := jx_w1 m 12 0 0; (f_M_isPerson x1 m1).bind (fun p1 => if decide (p1.1 = 0) = true then (f_M_walk_20 p1.2) else ((f_M_isPlace x2 p1.2).bind (fun p2 => if decide (¬ p2.1 = 0) = true then (bif jx_in x1 8 then (f_M_farOf (p2.2.1 68 x1.toNatClampNeg) x2 p2.2).bind (fun p3 => if decide (¬ p3.1 = 999) = true then (bif (jx_in x1 8 && true) then (let m2 := jx_w1 p3.2 68 x1.toNatClampNeg x2; some (p3.1, m2)) else none) else (some ((-2), p3.2))) else none) else (f_M_walk_20 p2.2)))) := (jx_V_K jx_kI jx_h233 jx_w233_ 400 0 _ _ m).trans rfl
theorem e_M_of (x1 : Int32) (x2 : Int32) (m : jx_Mem) : f_M_of x1 x2 m = let m1 := jx_w1 m 12 0 0; (f_M_isPerson x1 m1).bind (fun p1 => if decide (p1.1 = 0) = true then (f_M_of_25 p1.2) else ((f_M_in x2.toInt64 0 2 p1.2).bind (fun p2 => if decide (¬ p2.1 = 0) = true then (if decide (¬ x2 = 0) = true then (if decide (¬ x2 = 1) = true then (bif jx_in x1 8 then f_M_of_63 (p2.2.1 70 x1.toNatClampNeg) p2.2 else none) else (bif jx_in x1 8 then f_M_of_63 (p2.2.1 69 x1.toNatClampNeg) p2.2 else none)) else (bif jx_in x1 8 then f_M_of_63 (p2.2.1 68 x1.toNatClampNeg) p2.2 else none)) else (f_M_of_25 p2.2)))) := (jx_V_K jx_kI jx_h234 jx_w234_ 400 0 _ _ m).trans rfl
theorem e_M_good (x1 : Int32) (m : jx_Mem) : f_M_good x1 m = let m1 := jx_w1 m 12 0 0; (f_M_in x1.toInt64 1 9 m1).bind (fun p1 => if decide (p1.1 = 0) = true then (f_M_good_26 p1.2) else (if decide (¬ (p1.2.1 12 10) = 10) = true then (bif (jx_in (p1.2.1 12 10) 10 && true) then (let m2 := jx_w1 p1.2 71 (p1.2.1 12 10).toNatClampNeg x1; let m3 := jx_w1 m2 12 10 ((m2.1 12 10) + 1); some ((m3.1 12 10) - 1, m3)) else none) else (f_M_good_26 p1.2))) := (jx_V_K jx_kI jx_h239 jx_w239_ 400 0 _ _ m).trans rfl
theorem e_M_test (x1 : Int32) (m : jx_Mem) : f_M_test x1 m = let m1 := jx_w1 m 12 0 0; (f_M_in x1.toInt64 1 9 m1).bind (fun p1 => if decide (p1.1 = 0) = true then (f_M_test_26 p1.2) else (if decide (¬ (p1.2.1 12 12) = 6) = true then (bif (jx_in (p1.2.1 12 12) 6 && true) then (let m2 := jx_w1 p1.2 72 (p1.2.1 12 12).toNatClampNeg x1; let m3 := jx_w1 m2 12 12 ((m2.1 12 12) + 1); some ((m3.1 12 12) - 1, m3)) else none) else (f_M_test_26 p1.2))) := (jx_V_K jx_kI jx_h240 jx_w240_ 400 0 _ _ m).trans rfl
end

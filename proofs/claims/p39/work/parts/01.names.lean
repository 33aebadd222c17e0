-- ===== PART A: goes FIRST, ahead of the names: the tables' words, and 'selects' of the private methods out of them =====
/-- a private method of a class that the tables say can be made, by its rows of tables_1 -/
def lw_okq (q : MethodName × Nat) : Prop := (q.1.cls ≠ "java/lang/invoke/MethodHandle" ∧ q.1.cls ≠ "java/lang/invoke/VarHandle") ∧ Cond.instantiable q.1.cls q.2 ∈ tables_1 ∧ Cond.privateMethod q.1 ∈ tables_1 ∧ Cond.instanceMethod q.1 ∈ tables_1
theorem lw_p0 : lw_okq (⟨"BallotWays$Poll", "drawByNumbers", "()V"⟩, 8) := ⟨⟨by decide +kernel, by decide +kernel⟩, List.mem_of_getElem? (i := 21) (by decide +kernel), List.mem_of_getElem? (i := 34) (by decide +kernel), List.mem_of_getElem? (i := 35) (by decide +kernel)⟩
theorem lw_p1 : lw_okq (⟨"BallotWays", "readParts", "()I"⟩, 8) := ⟨⟨by decide +kernel, by decide +kernel⟩, List.mem_of_getElem? (i := 13) (by decide +kernel), List.mem_of_getElem? (i := 280) (by decide +kernel), List.mem_of_getElem? (i := 281) (by decide +kernel)⟩
theorem lw_p2 : lw_okq (⟨"BallotWays$Tape", "figure", "()I"⟩, 5) := ⟨⟨by decide +kernel, by decide +kernel⟩, List.mem_of_getElem? (i := 113) (by decide +kernel), List.mem_of_getElem? (i := 292) (by decide +kernel), List.mem_of_getElem? (i := 293) (by decide +kernel)⟩
theorem lw_p3 : lw_okq (⟨"BallotWays$Tape", "sign", "()I"⟩, 5) := ⟨⟨by decide +kernel, by decide +kernel⟩, List.mem_of_getElem? (i := 113) (by decide +kernel), List.mem_of_getElem? (i := 296) (by decide +kernel), List.mem_of_getElem? (i := 297) (by decide +kernel)⟩
theorem lw_p4 : lw_okq (⟨"BallotWays$Tape", "placeOthers", "(III)V"⟩, 5) := ⟨⟨by decide +kernel, by decide +kernel⟩, List.mem_of_getElem? (i := 113) (by decide +kernel), List.mem_of_getElem? (i := 313) (by decide +kernel), List.mem_of_getElem? (i := 314) (by decide +kernel)⟩
theorem lw_p5 : lw_okq (⟨"BallotWays$Poll", "closeUp", "(I)V"⟩, 8) := ⟨⟨by decide +kernel, by decide +kernel⟩, List.mem_of_getElem? (i := 21) (by decide +kernel), List.mem_of_getElem? (i := 360) (by decide +kernel), List.mem_of_getElem? (i := 361) (by decide +kernel)⟩
theorem lw_p6 : lw_okq (⟨"BallotWays", "readRankingAlone", "()I"⟩, 8) := ⟨⟨by decide +kernel, by decide +kernel⟩, List.mem_of_getElem? (i := 13) (by decide +kernel), List.mem_of_getElem? (i := 380) (by decide +kernel), List.mem_of_getElem? (i := 381) (by decide +kernel)⟩
theorem lw_p7 : lw_okq (⟨"BallotWays$Paper", "writeBehind", "(II)V"⟩, 2) := ⟨⟨by decide +kernel, by decide +kernel⟩, List.mem_of_getElem? (i := 153) (by decide +kernel), List.mem_of_getElem? (i := 395) (by decide +kernel), List.mem_of_getElem? (i := 396) (by decide +kernel)⟩
theorem lw_p8 : lw_okq (⟨"BallotWays$Paper", "writeByte", "(I)V"⟩, 2) := ⟨⟨by decide +kernel, by decide +kernel⟩, List.mem_of_getElem? (i := 153) (by decide +kernel), List.mem_of_getElem? (i := 399) (by decide +kernel), List.mem_of_getElem? (i := 400) (by decide +kernel)⟩
theorem lw_p9 : lw_okq (⟨"BallotWays", "lookAtWays", "()V"⟩, 8) := ⟨⟨by decide +kernel, by decide +kernel⟩, List.mem_of_getElem? (i := 13) (by decide +kernel), List.mem_of_getElem? (i := 433) (by decide +kernel), List.mem_of_getElem? (i := 434) (by decide +kernel)⟩
theorem lw_p10 : lw_okq (⟨"BallotWays$Ways", "linkBetween", "(II)J"⟩, 11) := ⟨⟨by decide +kernel, by decide +kernel⟩, List.mem_of_getElem? (i := 72) (by decide +kernel), List.mem_of_getElem? (i := 448) (by decide +kernel), List.mem_of_getElem? (i := 449) (by decide +kernel)⟩
theorem lw_p11 : lw_okq (⟨"BallotWays$Ways", "goThrough", "(II)V"⟩, 11) := ⟨⟨by decide +kernel, by decide +kernel⟩, List.mem_of_getElem? (i := 72) (by decide +kernel), List.mem_of_getElem? (i := 459) (by decide +kernel), List.mem_of_getElem? (i := 460) (by decide +kernel)⟩
theorem lw_p12 : lw_okq (⟨"BallotWays$Ways", "beatersOf", "(I)I"⟩, 11) := ⟨⟨by decide +kernel, by decide +kernel⟩, List.mem_of_getElem? (i := 72) (by decide +kernel), List.mem_of_getElem? (i := 466) (by decide +kernel), List.mem_of_getElem? (i := 467) (by decide +kernel)⟩
theorem lw_p13 : lw_okq (⟨"BallotWays$Ways", "bestStrength", "(II)J"⟩, 11) := ⟨⟨by decide +kernel, by decide +kernel⟩, List.mem_of_getElem? (i := 72) (by decide +kernel), List.mem_of_getElem? (i := 474) (by decide +kernel), List.mem_of_getElem? (i := 475) (by decide +kernel)⟩
theorem lw_p14 : lw_okq (⟨"BallotWays$Ways", "knows", "(II)Z"⟩, 11) := ⟨⟨by decide +kernel, by decide +kernel⟩, List.mem_of_getElem? (i := 72) (by decide +kernel), List.mem_of_getElem? (i := 478) (by decide +kernel), List.mem_of_getElem? (i := 479) (by decide +kernel)⟩
theorem lw_p15 : lw_okq (⟨"BallotWays$Ways", "tellDistances", "(IJ)V"⟩, 11) := ⟨⟨by decide +kernel, by decide +kernel⟩, List.mem_of_getElem? (i := 72) (by decide +kernel), List.mem_of_getElem? (i := 505) (by decide +kernel), List.mem_of_getElem? (i := 506) (by decide +kernel)⟩
def lw_privs_1 : List (MethodName × Nat) := [(⟨"BallotWays$Poll", "drawByNumbers", "()V"⟩, 8), (⟨"BallotWays", "readParts", "()I"⟩, 8), (⟨"BallotWays$Tape", "figure", "()I"⟩, 5), (⟨"BallotWays$Tape", "sign", "()I"⟩, 5), (⟨"BallotWays$Tape", "placeOthers", "(III)V"⟩, 5), (⟨"BallotWays$Poll", "closeUp", "(I)V"⟩, 8), (⟨"BallotWays", "readRankingAlone", "()I"⟩, 8), (⟨"BallotWays$Paper", "writeBehind", "(II)V"⟩, 2), (⟨"BallotWays$Paper", "writeByte", "(I)V"⟩, 2), (⟨"BallotWays", "lookAtWays", "()V"⟩, 8), (⟨"BallotWays$Ways", "linkBetween", "(II)J"⟩, 11), (⟨"BallotWays$Ways", "goThrough", "(II)V"⟩, 11), (⟨"BallotWays$Ways", "beatersOf", "(I)I"⟩, 11), (⟨"BallotWays$Ways", "bestStrength", "(II)J"⟩, 11), (⟨"BallotWays$Ways", "knows", "(II)Z"⟩, 11), (⟨"BallotWays$Ways", "tellDistances", "(IJ)V"⟩, 11)]
theorem lw_r1 : ∀ q ∈ lw_privs_1, lw_okq q := List.forall_mem_cons.mpr ⟨lw_p0, List.forall_mem_cons.mpr ⟨lw_p1, List.forall_mem_cons.mpr ⟨lw_p2, List.forall_mem_cons.mpr ⟨lw_p3, List.forall_mem_cons.mpr ⟨lw_p4, List.forall_mem_cons.mpr ⟨lw_p5, List.forall_mem_cons.mpr ⟨lw_p6, List.forall_mem_cons.mpr ⟨lw_p7, List.forall_mem_cons.mpr ⟨lw_p8, List.forall_mem_cons.mpr ⟨lw_p9, List.forall_mem_cons.mpr ⟨lw_p10, List.forall_mem_cons.mpr ⟨lw_p11, List.forall_mem_cons.mpr ⟨lw_p12, List.forall_mem_cons.mpr ⟨lw_p13, List.forall_mem_cons.mpr ⟨lw_p14, List.forall_mem_cons.mpr ⟨lw_p15, fun _ h => absurd h List.not_mem_nil⟩⟩⟩⟩⟩⟩⟩⟩⟩⟩⟩⟩⟩⟩⟩⟩
theorem lw_p16 : lw_okq (⟨"BallotWays$Ways", "nextStep", "(IIJ)I"⟩, 11) := ⟨⟨by decide +kernel, by decide +kernel⟩, List.mem_of_getElem? (i := 72) (by decide +kernel), List.mem_of_getElem? (i := 509) (by decide +kernel), List.mem_of_getElem? (i := 510) (by decide +kernel)⟩
theorem lw_p17 : lw_okq (⟨"BallotWays$Ways", "firstOf", "(I)I"⟩, 11) := ⟨⟨by decide +kernel, by decide +kernel⟩, List.mem_of_getElem? (i := 72) (by decide +kernel), List.mem_of_getElem? (i := 553) (by decide +kernel), List.mem_of_getElem? (i := 554) (by decide +kernel)⟩
theorem lw_p18 : lw_okq (⟨"BallotWays$Ways", "grow", "(I)I"⟩, 11) := ⟨⟨by decide +kernel, by decide +kernel⟩, List.mem_of_getElem? (i := 72) (by decide +kernel), List.mem_of_getElem? (i := 575) (by decide +kernel), List.mem_of_getElem? (i := 576) (by decide +kernel)⟩
theorem lw_p19 : lw_okq (⟨"BallotWays$Ways", "unlinkedFrom", "(I)I"⟩, 11) := ⟨⟨by decide +kernel, by decide +kernel⟩, List.mem_of_getElem? (i := 72) (by decide +kernel), List.mem_of_getElem? (i := 579) (by decide +kernel), List.mem_of_getElem? (i := 580) (by decide +kernel)⟩
theorem lw_p20 : lw_okq (⟨"BallotWays$Poll", "standTogether", "(II)Z"⟩, 8) := ⟨⟨by decide +kernel, by decide +kernel⟩, List.mem_of_getElem? (i := 21) (by decide +kernel), List.mem_of_getElem? (i := 599) (by decide +kernel), List.mem_of_getElem? (i := 600) (by decide +kernel)⟩
theorem lw_p21 : lw_okq (⟨"BallotWays$Poll", "manyBehind", "(II)I"⟩, 8) := ⟨⟨by decide +kernel, by decide +kernel⟩, List.mem_of_getElem? (i := 21) (by decide +kernel), List.mem_of_getElem? (i := 612) (by decide +kernel), List.mem_of_getElem? (i := 613) (by decide +kernel)⟩
theorem lw_p22 : lw_okq (⟨"BallotWays", "leastTurn", "(II)I"⟩, 8) := ⟨⟨by decide +kernel, by decide +kernel⟩, List.mem_of_getElem? (i := 13) (by decide +kernel), List.mem_of_getElem? (i := 652) (by decide +kernel), List.mem_of_getElem? (i := 653) (by decide +kernel)⟩
theorem lw_p23 : lw_okq (⟨"BallotWays", "isProof", "(IIII)Z"⟩, 8) := ⟨⟨by decide +kernel, by decide +kernel⟩, List.mem_of_getElem? (i := 13) (by decide +kernel), List.mem_of_getElem? (i := 695) (by decide +kernel), List.mem_of_getElem? (i := 696) (by decide +kernel)⟩
theorem lw_p24 : lw_okq (⟨"BallotWays", "strengthOfRow", "(III)J"⟩, 8) := ⟨⟨by decide +kernel, by decide +kernel⟩, List.mem_of_getElem? (i := 13) (by decide +kernel), List.mem_of_getElem? (i := 706) (by decide +kernel), List.mem_of_getElem? (i := 707) (by decide +kernel)⟩
theorem lw_p25 : lw_okq (⟨"BallotWaysModel", "begins", "(I)V"⟩, 23) := ⟨⟨by decide +kernel, by decide +kernel⟩, List.mem_of_getElem? (i := 762) (by decide +kernel), List.mem_of_getElem? (i := 768) (by decide +kernel), List.mem_of_getElem? (i := 769) (by decide +kernel)⟩
theorem lw_p26 : lw_okq (⟨"BallotWaysModel", "isOne", "(I)Z"⟩, 23) := ⟨⟨by decide +kernel, by decide +kernel⟩, List.mem_of_getElem? (i := 762) (by decide +kernel), List.mem_of_getElem? (i := 856) (by decide +kernel), List.mem_of_getElem? (i := 857) (by decide +kernel)⟩
theorem lw_p27 : lw_okq (⟨"BallotWaysModel", "ins", "()I"⟩, 23) := ⟨⟨by decide +kernel, by decide +kernel⟩, List.mem_of_getElem? (i := 762) (by decide +kernel), List.mem_of_getElem? (i := 860) (by decide +kernel), List.mem_of_getElem? (i := 861) (by decide +kernel)⟩
theorem lw_p28 : lw_okq (⟨"BallotWaysModel", "everyone", "()I"⟩, 23) := ⟨⟨by decide +kernel, by decide +kernel⟩, List.mem_of_getElem? (i := 762) (by decide +kernel), List.mem_of_getElem? (i := 864) (by decide +kernel), List.mem_of_getElem? (i := 865) (by decide +kernel)⟩
theorem lw_p29 : lw_okq (⟨"BallotWaysModel", "drawOf", "(I)I"⟩, 23) := ⟨⟨by decide +kernel, by decide +kernel⟩, List.mem_of_getElem? (i := 762) (by decide +kernel), List.mem_of_getElem? (i := 880) (by decide +kernel), List.mem_of_getElem? (i := 881) (by decide +kernel)⟩
theorem lw_p30 : lw_okq (⟨"BallotWaysModel", "reads", "()V"⟩, 23) := ⟨⟨by decide +kernel, by decide +kernel⟩, List.mem_of_getElem? (i := 762) (by decide +kernel), List.mem_of_getElem? (i := 906) (by decide +kernel), List.mem_of_getElem? (i := 907) (by decide +kernel)⟩
theorem lw_p31 : lw_okq (⟨"BallotWaysModel", "isPart", "()Z"⟩, 23) := ⟨⟨by decide +kernel, by decide +kernel⟩, List.mem_of_getElem? (i := 762) (by decide +kernel), List.mem_of_getElem? (i := 913) (by decide +kernel), List.mem_of_getElem? (i := 914) (by decide +kernel)⟩
def lw_privs_2 : List (MethodName × Nat) := [(⟨"BallotWays$Ways", "nextStep", "(IIJ)I"⟩, 11), (⟨"BallotWays$Ways", "firstOf", "(I)I"⟩, 11), (⟨"BallotWays$Ways", "grow", "(I)I"⟩, 11), (⟨"BallotWays$Ways", "unlinkedFrom", "(I)I"⟩, 11), (⟨"BallotWays$Poll", "standTogether", "(II)Z"⟩, 8), (⟨"BallotWays$Poll", "manyBehind", "(II)I"⟩, 8), (⟨"BallotWays", "leastTurn", "(II)I"⟩, 8), (⟨"BallotWays", "isProof", "(IIII)Z"⟩, 8), (⟨"BallotWays", "strengthOfRow", "(III)J"⟩, 8), (⟨"BallotWaysModel", "begins", "(I)V"⟩, 23), (⟨"BallotWaysModel", "isOne", "(I)Z"⟩, 23), (⟨"BallotWaysModel", "ins", "()I"⟩, 23), (⟨"BallotWaysModel", "everyone", "()I"⟩, 23), (⟨"BallotWaysModel", "drawOf", "(I)I"⟩, 23), (⟨"BallotWaysModel", "reads", "()V"⟩, 23), (⟨"BallotWaysModel", "isPart", "()Z"⟩, 23)]
theorem lw_r2 : ∀ q ∈ lw_privs_2, lw_okq q := List.forall_mem_cons.mpr ⟨lw_p16, List.forall_mem_cons.mpr ⟨lw_p17, List.forall_mem_cons.mpr ⟨lw_p18, List.forall_mem_cons.mpr ⟨lw_p19, List.forall_mem_cons.mpr ⟨lw_p20, List.forall_mem_cons.mpr ⟨lw_p21, List.forall_mem_cons.mpr ⟨lw_p22, List.forall_mem_cons.mpr ⟨lw_p23, List.forall_mem_cons.mpr ⟨lw_p24, List.forall_mem_cons.mpr ⟨lw_p25, List.forall_mem_cons.mpr ⟨lw_p26, List.forall_mem_cons.mpr ⟨lw_p27, List.forall_mem_cons.mpr ⟨lw_p28, List.forall_mem_cons.mpr ⟨lw_p29, List.forall_mem_cons.mpr ⟨lw_p30, List.forall_mem_cons.mpr ⟨lw_p31, fun _ h => absurd h List.not_mem_nil⟩⟩⟩⟩⟩⟩⟩⟩⟩⟩⟩⟩⟩⟩⟩⟩
theorem lw_p32 : lw_okq (⟨"BallotWaysModel", "isDigit", "()Z"⟩, 23) := ⟨⟨by decide +kernel, by decide +kernel⟩, List.mem_of_getElem? (i := 762) (by decide +kernel), List.mem_of_getElem? (i := 917) (by decide +kernel), List.mem_of_getElem? (i := 918) (by decide +kernel)⟩
theorem lw_p33 : lw_okq (⟨"BallotWaysModel", "here", "()I"⟩, 23) := ⟨⟨by decide +kernel, by decide +kernel⟩, List.mem_of_getElem? (i := 762) (by decide +kernel), List.mem_of_getElem? (i := 921) (by decide +kernel), List.mem_of_getElem? (i := 922) (by decide +kernel)⟩
theorem lw_p34 : lw_okq (⟨"BallotWaysModel", "fails", "(I)Z"⟩, 23) := ⟨⟨by decide +kernel, by decide +kernel⟩, List.mem_of_getElem? (i := 762) (by decide +kernel), List.mem_of_getElem? (i := 927) (by decide +kernel), List.mem_of_getElem? (i := 928) (by decide +kernel)⟩
theorem lw_p35 : lw_okq (⟨"BallotWaysModel", "isSign", "(I)Z"⟩, 23) := ⟨⟨by decide +kernel, by decide +kernel⟩, List.mem_of_getElem? (i := 762) (by decide +kernel), List.mem_of_getElem? (i := 932) (by decide +kernel), List.mem_of_getElem? (i := 933) (by decide +kernel)⟩
theorem lw_p36 : lw_okq (⟨"BallotWaysModel", "isRanking", "()Z"⟩, 23) := ⟨⟨by decide +kernel, by decide +kernel⟩, List.mem_of_getElem? (i := 762) (by decide +kernel), List.mem_of_getElem? (i := 936) (by decide +kernel), List.mem_of_getElem? (i := 937) (by decide +kernel)⟩
theorem lw_p37 : lw_okq (⟨"BallotWaysModel", "isTold", "(II)Z"⟩, 23) := ⟨⟨by decide +kernel, by decide +kernel⟩, List.mem_of_getElem? (i := 762) (by decide +kernel), List.mem_of_getElem? (i := 940) (by decide +kernel), List.mem_of_getElem? (i := 941) (by decide +kernel)⟩
theorem lw_p38 : lw_okq (⟨"BallotWaysModel", "comes", "(II)Z"⟩, 23) := ⟨⟨by decide +kernel, by decide +kernel⟩, List.mem_of_getElem? (i := 762) (by decide +kernel), List.mem_of_getElem? (i := 944) (by decide +kernel), List.mem_of_getElem? (i := 945) (by decide +kernel)⟩
theorem lw_p39 : lw_okq (⟨"BallotWaysModel", "ballotOfRanking", "()I"⟩, 23) := ⟨⟨by decide +kernel, by decide +kernel⟩, List.mem_of_getElem? (i := 762) (by decide +kernel), List.mem_of_getElem? (i := 948) (by decide +kernel), List.mem_of_getElem? (i := 949) (by decide +kernel)⟩
theorem lw_p40 : lw_okq (⟨"BallotWaysModel", "placeOf", "(II)I"⟩, 23) := ⟨⟨by decide +kernel, by decide +kernel⟩, List.mem_of_getElem? (i := 762) (by decide +kernel), List.mem_of_getElem? (i := 952) (by decide +kernel), List.mem_of_getElem? (i := 953) (by decide +kernel)⟩
theorem lw_p41 : lw_okq (⟨"BallotWaysModel", "isBallot", "(I)Z"⟩, 23) := ⟨⟨by decide +kernel, by decide +kernel⟩, List.mem_of_getElem? (i := 762) (by decide +kernel), List.mem_of_getElem? (i := 961) (by decide +kernel), List.mem_of_getElem? (i := 962) (by decide +kernel)⟩
theorem lw_p42 : lw_okq (⟨"BallotWaysModel", "goes", "(I)V"⟩, 23) := ⟨⟨by decide +kernel, by decide +kernel⟩, List.mem_of_getElem? (i := 762) (by decide +kernel), List.mem_of_getElem? (i := 965) (by decide +kernel), List.mem_of_getElem? (i := 966) (by decide +kernel)⟩
theorem lw_p43 : lw_okq (⟨"BallotWaysModel", "places", "(I)I"⟩, 23) := ⟨⟨by decide +kernel, by decide +kernel⟩, List.mem_of_getElem? (i := 762) (by decide +kernel), List.mem_of_getElem? (i := 973) (by decide +kernel), List.mem_of_getElem? (i := 974) (by decide +kernel)⟩
theorem lw_p44 : lw_okq (⟨"BallotWaysModel", "isWholeRanking", "()Z"⟩, 23) := ⟨⟨by decide +kernel, by decide +kernel⟩, List.mem_of_getElem? (i := 762) (by decide +kernel), List.mem_of_getElem? (i := 983) (by decide +kernel), List.mem_of_getElem? (i := 984) (by decide +kernel)⟩
theorem lw_p45 : lw_okq (⟨"BallotWaysModel", "says", "(I)V"⟩, 23) := ⟨⟨by decide +kernel, by decide +kernel⟩, List.mem_of_getElem? (i := 762) (by decide +kernel), List.mem_of_getElem? (i := 991) (by decide +kernel), List.mem_of_getElem? (i := 992) (by decide +kernel)⟩
theorem lw_p46 : lw_okq (⟨"BallotWaysModel", "saysPlace", "(II)V"⟩, 23) := ⟨⟨by decide +kernel, by decide +kernel⟩, List.mem_of_getElem? (i := 762) (by decide +kernel), List.mem_of_getElem? (i := 995) (by decide +kernel), List.mem_of_getElem? (i := 996) (by decide +kernel)⟩
theorem lw_p47 : lw_okq (⟨"BallotWaysModel", "areTwo", "(II)Z"⟩, 23) := ⟨⟨by decide +kernel, by decide +kernel⟩, List.mem_of_getElem? (i := 762) (by decide +kernel), List.mem_of_getElem? (i := 1007) (by decide +kernel), List.mem_of_getElem? (i := 1008) (by decide +kernel)⟩
def lw_privs_3 : List (MethodName × Nat) := [(⟨"BallotWaysModel", "isDigit", "()Z"⟩, 23), (⟨"BallotWaysModel", "here", "()I"⟩, 23), (⟨"BallotWaysModel", "fails", "(I)Z"⟩, 23), (⟨"BallotWaysModel", "isSign", "(I)Z"⟩, 23), (⟨"BallotWaysModel", "isRanking", "()Z"⟩, 23), (⟨"BallotWaysModel", "isTold", "(II)Z"⟩, 23), (⟨"BallotWaysModel", "comes", "(II)Z"⟩, 23), (⟨"BallotWaysModel", "ballotOfRanking", "()I"⟩, 23), (⟨"BallotWaysModel", "placeOf", "(II)I"⟩, 23), (⟨"BallotWaysModel", "isBallot", "(I)Z"⟩, 23), (⟨"BallotWaysModel", "goes", "(I)V"⟩, 23), (⟨"BallotWaysModel", "places", "(I)I"⟩, 23), (⟨"BallotWaysModel", "isWholeRanking", "()Z"⟩, 23), (⟨"BallotWaysModel", "says", "(I)V"⟩, 23), (⟨"BallotWaysModel", "saysPlace", "(II)V"⟩, 23), (⟨"BallotWaysModel", "areTwo", "(II)Z"⟩, 23)]
theorem lw_r3 : ∀ q ∈ lw_privs_3, lw_okq q := List.forall_mem_cons.mpr ⟨lw_p32, List.forall_mem_cons.mpr ⟨lw_p33, List.forall_mem_cons.mpr ⟨lw_p34, List.forall_mem_cons.mpr ⟨lw_p35, List.forall_mem_cons.mpr ⟨lw_p36, List.forall_mem_cons.mpr ⟨lw_p37, List.forall_mem_cons.mpr ⟨lw_p38, List.forall_mem_cons.mpr ⟨lw_p39, List.forall_mem_cons.mpr ⟨lw_p40, List.forall_mem_cons.mpr ⟨lw_p41, List.forall_mem_cons.mpr ⟨lw_p42, List.forall_mem_cons.mpr ⟨lw_p43, List.forall_mem_cons.mpr ⟨lw_p44, List.forall_mem_cons.mpr ⟨lw_p45, List.forall_mem_cons.mpr ⟨lw_p46, List.forall_mem_cons.mpr ⟨lw_p47, fun _ h => absurd h List.not_mem_nil⟩⟩⟩⟩⟩⟩⟩⟩⟩⟩⟩⟩⟩⟩⟩⟩
theorem lw_p48 : lw_okq (⟨"BallotWaysModel", "countsAll", "()V"⟩, 23) := ⟨⟨by decide +kernel, by decide +kernel⟩, List.mem_of_getElem? (i := 762) (by decide +kernel), List.mem_of_getElem? (i := 1012) (by decide +kernel), List.mem_of_getElem? (i := 1013) (by decide +kernel)⟩
theorem lw_p49 : lw_okq (⟨"BallotWaysModel", "counts", "(II)V"⟩, 23) := ⟨⟨by decide +kernel, by decide +kernel⟩, List.mem_of_getElem? (i := 762) (by decide +kernel), List.mem_of_getElem? (i := 1016) (by decide +kernel), List.mem_of_getElem? (i := 1017) (by decide +kernel)⟩
theorem lw_p50 : lw_okq (⟨"BallotWaysModel", "over", "(II)J"⟩, 23) := ⟨⟨by decide +kernel, by decide +kernel⟩, List.mem_of_getElem? (i := 762) (by decide +kernel), List.mem_of_getElem? (i := 1020) (by decide +kernel), List.mem_of_getElem? (i := 1021) (by decide +kernel)⟩
theorem lw_p51 : lw_okq (⟨"BallotWaysModel", "isLink", "(III)Z"⟩, 23) := ⟨⟨by decide +kernel, by decide +kernel⟩, List.mem_of_getElem? (i := 762) (by decide +kernel), List.mem_of_getElem? (i := 1028) (by decide +kernel), List.mem_of_getElem? (i := 1029) (by decide +kernel)⟩
theorem lw_p52 : lw_okq (⟨"BallotWaysModel", "areIn", "(II)Z"⟩, 23) := ⟨⟨by decide +kernel, by decide +kernel⟩, List.mem_of_getElem? (i := 762) (by decide +kernel), List.mem_of_getElem? (i := 1036) (by decide +kernel), List.mem_of_getElem? (i := 1037) (by decide +kernel)⟩
theorem lw_p53 : lw_okq (⟨"BallotWaysModel", "waysNow", "()V"⟩, 23) := ⟨⟨by decide +kernel, by decide +kernel⟩, List.mem_of_getElem? (i := 762) (by decide +kernel), List.mem_of_getElem? (i := 1040) (by decide +kernel), List.mem_of_getElem? (i := 1041) (by decide +kernel)⟩
theorem lw_p54 : lw_okq (⟨"BallotWaysModel", "ways", "(II)V"⟩, 23) := ⟨⟨by decide +kernel, by decide +kernel⟩, List.mem_of_getElem? (i := 762) (by decide +kernel), List.mem_of_getElem? (i := 1044) (by decide +kernel), List.mem_of_getElem? (i := 1045) (by decide +kernel)⟩
theorem lw_p55 : lw_okq (⟨"BallotWaysModel", "grows", "(III)V"⟩, 23) := ⟨⟨by decide +kernel, by decide +kernel⟩, List.mem_of_getElem? (i := 762) (by decide +kernel), List.mem_of_getElem? (i := 1048) (by decide +kernel), List.mem_of_getElem? (i := 1049) (by decide +kernel)⟩
theorem lw_p56 : lw_okq (⟨"BallotWaysModel", "takes", "(IIJJ)V"⟩, 23) := ⟨⟨by decide +kernel, by decide +kernel⟩, List.mem_of_getElem? (i := 762) (by decide +kernel), List.mem_of_getElem? (i := 1053) (by decide +kernel), List.mem_of_getElem? (i := 1054) (by decide +kernel)⟩
theorem lw_p57 : lw_okq (⟨"BallotWaysModel", "strongestLeft", "(II)I"⟩, 23) := ⟨⟨by decide +kernel, by decide +kernel⟩, List.mem_of_getElem? (i := 762) (by decide +kernel), List.mem_of_getElem? (i := 1060) (by decide +kernel), List.mem_of_getElem? (i := 1061) (by decide +kernel)⟩
theorem lw_p58 : lw_okq (⟨"BallotWaysModel", "isMore", "(III)Z"⟩, 23) := ⟨⟨by decide +kernel, by decide +kernel⟩, List.mem_of_getElem? (i := 762) (by decide +kernel), List.mem_of_getElem? (i := 1064) (by decide +kernel), List.mem_of_getElem? (i := 1065) (by decide +kernel)⟩
theorem lw_p59 : lw_okq (⟨"BallotWaysModel", "goesOn", "(IIII)V"⟩, 23) := ⟨⟨by decide +kernel, by decide +kernel⟩, List.mem_of_getElem? (i := 762) (by decide +kernel), List.mem_of_getElem? (i := 1068) (by decide +kernel), List.mem_of_getElem? (i := 1069) (by decide +kernel)⟩
theorem lw_p60 : lw_okq (⟨"BallotWaysModel", "told", "(II)J"⟩, 23) := ⟨⟨by decide +kernel, by decide +kernel⟩, List.mem_of_getElem? (i := 762) (by decide +kernel), List.mem_of_getElem? (i := 1072) (by decide +kernel), List.mem_of_getElem? (i := 1073) (by decide +kernel)⟩
theorem lw_p61 : lw_okq (⟨"BallotWaysModel", "lowest", "(II)J"⟩, 23) := ⟨⟨by decide +kernel, by decide +kernel⟩, List.mem_of_getElem? (i := 762) (by decide +kernel), List.mem_of_getElem? (i := 1076) (by decide +kernel), List.mem_of_getElem? (i := 1077) (by decide +kernel)⟩
theorem lw_p62 : lw_okq (⟨"BallotWaysModel", "wayOf", "(II)V"⟩, 23) := ⟨⟨by decide +kernel, by decide +kernel⟩, List.mem_of_getElem? (i := 762) (by decide +kernel), List.mem_of_getElem? (i := 1087) (by decide +kernel), List.mem_of_getElem? (i := 1088) (by decide +kernel)⟩
theorem lw_p63 : lw_okq (⟨"BallotWaysModel", "leftTo", "(II)V"⟩, 23) := ⟨⟨by decide +kernel, by decide +kernel⟩, List.mem_of_getElem? (i := 762) (by decide +kernel), List.mem_of_getElem? (i := 1091) (by decide +kernel), List.mem_of_getElem? (i := 1092) (by decide +kernel)⟩
def lw_privs_4 : List (MethodName × Nat) := [(⟨"BallotWaysModel", "countsAll", "()V"⟩, 23), (⟨"BallotWaysModel", "counts", "(II)V"⟩, 23), (⟨"BallotWaysModel", "over", "(II)J"⟩, 23), (⟨"BallotWaysModel", "isLink", "(III)Z"⟩, 23), (⟨"BallotWaysModel", "areIn", "(II)Z"⟩, 23), (⟨"BallotWaysModel", "waysNow", "()V"⟩, 23), (⟨"BallotWaysModel", "ways", "(II)V"⟩, 23), (⟨"BallotWaysModel", "grows", "(III)V"⟩, 23), (⟨"BallotWaysModel", "takes", "(IIJJ)V"⟩, 23), (⟨"BallotWaysModel", "strongestLeft", "(II)I"⟩, 23), (⟨"BallotWaysModel", "isMore", "(III)Z"⟩, 23), (⟨"BallotWaysModel", "goesOn", "(IIII)V"⟩, 23), (⟨"BallotWaysModel", "told", "(II)J"⟩, 23), (⟨"BallotWaysModel", "lowest", "(II)J"⟩, 23), (⟨"BallotWaysModel", "wayOf", "(II)V"⟩, 23), (⟨"BallotWaysModel", "leftTo", "(II)V"⟩, 23)]
theorem lw_r4 : ∀ q ∈ lw_privs_4, lw_okq q := List.forall_mem_cons.mpr ⟨lw_p48, List.forall_mem_cons.mpr ⟨lw_p49, List.forall_mem_cons.mpr ⟨lw_p50, List.forall_mem_cons.mpr ⟨lw_p51, List.forall_mem_cons.mpr ⟨lw_p52, List.forall_mem_cons.mpr ⟨lw_p53, List.forall_mem_cons.mpr ⟨lw_p54, List.forall_mem_cons.mpr ⟨lw_p55, List.forall_mem_cons.mpr ⟨lw_p56, List.forall_mem_cons.mpr ⟨lw_p57, List.forall_mem_cons.mpr ⟨lw_p58, List.forall_mem_cons.mpr ⟨lw_p59, List.forall_mem_cons.mpr ⟨lw_p60, List.forall_mem_cons.mpr ⟨lw_p61, List.forall_mem_cons.mpr ⟨lw_p62, List.forall_mem_cons.mpr ⟨lw_p63, fun _ h => absurd h List.not_mem_nil⟩⟩⟩⟩⟩⟩⟩⟩⟩⟩⟩⟩⟩⟩⟩⟩
theorem lw_p64 : lw_okq (⟨"BallotWaysModel", "isOf", "(III)Z"⟩, 23) := ⟨⟨by decide +kernel, by decide +kernel⟩, List.mem_of_getElem? (i := 762) (by decide +kernel), List.mem_of_getElem? (i := 1095) (by decide +kernel), List.mem_of_getElem? (i := 1096) (by decide +kernel)⟩
theorem lw_p65 : lw_okq (⟨"BallotWaysModel", "barrierOf", "(II)I"⟩, 23) := ⟨⟨by decide +kernel, by decide +kernel⟩, List.mem_of_getElem? (i := 762) (by decide +kernel), List.mem_of_getElem? (i := 1103) (by decide +kernel), List.mem_of_getElem? (i := 1104) (by decide +kernel)⟩
theorem lw_p66 : lw_okq (⟨"BallotWaysModel", "doesBeat", "(III)Z"⟩, 23) := ⟨⟨by decide +kernel, by decide +kernel⟩, List.mem_of_getElem? (i := 762) (by decide +kernel), List.mem_of_getElem? (i := 1111) (by decide +kernel), List.mem_of_getElem? (i := 1112) (by decide +kernel)⟩
theorem lw_p67 : lw_okq (⟨"BallotWaysModel", "unbeaten", "(II)I"⟩, 23) := ⟨⟨by decide +kernel, by decide +kernel⟩, List.mem_of_getElem? (i := 762) (by decide +kernel), List.mem_of_getElem? (i := 1119) (by decide +kernel), List.mem_of_getElem? (i := 1120) (by decide +kernel)⟩
theorem lw_p68 : lw_okq (⟨"BallotWaysModel", "firstDrawn", "(I)I"⟩, 23) := ⟨⟨by decide +kernel, by decide +kernel⟩, List.mem_of_getElem? (i := 762) (by decide +kernel), List.mem_of_getElem? (i := 1130) (by decide +kernel), List.mem_of_getElem? (i := 1131) (by decide +kernel)⟩
theorem lw_p69 : lw_okq (⟨"BallotWaysModel", "linksToAll", "(I)Z"⟩, 23) := ⟨⟨by decide +kernel, by decide +kernel⟩, List.mem_of_getElem? (i := 762) (by decide +kernel), List.mem_of_getElem? (i := 1142) (by decide +kernel), List.mem_of_getElem? (i := 1143) (by decide +kernel)⟩
theorem lw_p70 : lw_okq (⟨"BallotWaysModel", "areClones", "(I)Z"⟩, 23) := ⟨⟨by decide +kernel, by decide +kernel⟩, List.mem_of_getElem? (i := 762) (by decide +kernel), List.mem_of_getElem? (i := 1150) (by decide +kernel), List.mem_of_getElem? (i := 1151) (by decide +kernel)⟩
theorem lw_p71 : lw_okq (⟨"BallotWaysModel", "isAside", "(III)Z"⟩, 23) := ⟨⟨by decide +kernel, by decide +kernel⟩, List.mem_of_getElem? (i := 762) (by decide +kernel), List.mem_of_getElem? (i := 1154) (by decide +kernel), List.mem_of_getElem? (i := 1155) (by decide +kernel)⟩
theorem lw_p72 : lw_okq (⟨"BallotWaysModel", "behindIt", "(II)I"⟩, 23) := ⟨⟨by decide +kernel, by decide +kernel⟩, List.mem_of_getElem? (i := 762) (by decide +kernel), List.mem_of_getElem? (i := 1162) (by decide +kernel), List.mem_of_getElem? (i := 1163) (by decide +kernel)⟩
theorem lw_p73 : lw_okq (⟨"BallotWaysModel", "first", "(II)I"⟩, 23) := ⟨⟨by decide +kernel, by decide +kernel⟩, List.mem_of_getElem? (i := 762) (by decide +kernel), List.mem_of_getElem? (i := 1170) (by decide +kernel), List.mem_of_getElem? (i := 1171) (by decide +kernel)⟩
theorem lw_p74 : lw_okq (⟨"BallotWaysModel", "countsRanking", "(I)V"⟩, 23) := ⟨⟨by decide +kernel, by decide +kernel⟩, List.mem_of_getElem? (i := 762) (by decide +kernel), List.mem_of_getElem? (i := 1178) (by decide +kernel), List.mem_of_getElem? (i := 1179) (by decide +kernel)⟩
theorem lw_p75 : lw_okq (⟨"BallotWaysModel", "firstNow", "()I"⟩, 23) := ⟨⟨by decide +kernel, by decide +kernel⟩, List.mem_of_getElem? (i := 762) (by decide +kernel), List.mem_of_getElem? (i := 1190) (by decide +kernel), List.mem_of_getElem? (i := 1191) (by decide +kernel)⟩
theorem lw_p76 : lw_okq (⟨"BallotWaysModel", "wrong", "(III)I"⟩, 23) := ⟨⟨by decide +kernel, by decide +kernel⟩, List.mem_of_getElem? (i := 762) (by decide +kernel), List.mem_of_getElem? (i := 1206) (by decide +kernel), List.mem_of_getElem? (i := 1207) (by decide +kernel)⟩
theorem lw_p77 : lw_okq (⟨"BallotWaysModel", "laid", "(III)I"⟩, 23) := ⟨⟨by decide +kernel, by decide +kernel⟩, List.mem_of_getElem? (i := 762) (by decide +kernel), List.mem_of_getElem? (i := 1213) (by decide +kernel), List.mem_of_getElem? (i := 1214) (by decide +kernel)⟩
theorem lw_p78 : lw_okq (⟨"BallotWaysModel", "lays", "(IJJ)Z"⟩, 23) := ⟨⟨by decide +kernel, by decide +kernel⟩, List.mem_of_getElem? (i := 762) (by decide +kernel), List.mem_of_getElem? (i := 1217) (by decide +kernel), List.mem_of_getElem? (i := 1218) (by decide +kernel)⟩
theorem lw_p79 : lw_okq (⟨"BallotWaysModel", "isItem", "(IJ)Z"⟩, 23) := ⟨⟨by decide +kernel, by decide +kernel⟩, List.mem_of_getElem? (i := 762) (by decide +kernel), List.mem_of_getElem? (i := 1221) (by decide +kernel), List.mem_of_getElem? (i := 1222) (by decide +kernel)⟩
def lw_privs_5 : List (MethodName × Nat) := [(⟨"BallotWaysModel", "isOf", "(III)Z"⟩, 23), (⟨"BallotWaysModel", "barrierOf", "(II)I"⟩, 23), (⟨"BallotWaysModel", "doesBeat", "(III)Z"⟩, 23), (⟨"BallotWaysModel", "unbeaten", "(II)I"⟩, 23), (⟨"BallotWaysModel", "firstDrawn", "(I)I"⟩, 23), (⟨"BallotWaysModel", "linksToAll", "(I)Z"⟩, 23), (⟨"BallotWaysModel", "areClones", "(I)Z"⟩, 23), (⟨"BallotWaysModel", "isAside", "(III)Z"⟩, 23), (⟨"BallotWaysModel", "behindIt", "(II)I"⟩, 23), (⟨"BallotWaysModel", "first", "(II)I"⟩, 23), (⟨"BallotWaysModel", "countsRanking", "(I)V"⟩, 23), (⟨"BallotWaysModel", "firstNow", "()I"⟩, 23), (⟨"BallotWaysModel", "wrong", "(III)I"⟩, 23), (⟨"BallotWaysModel", "laid", "(III)I"⟩, 23), (⟨"BallotWaysModel", "lays", "(IJJ)Z"⟩, 23), (⟨"BallotWaysModel", "isItem", "(IJ)Z"⟩, 23)]
theorem lw_r5 : ∀ q ∈ lw_privs_5, lw_okq q := List.forall_mem_cons.mpr ⟨lw_p64, List.forall_mem_cons.mpr ⟨lw_p65, List.forall_mem_cons.mpr ⟨lw_p66, List.forall_mem_cons.mpr ⟨lw_p67, List.forall_mem_cons.mpr ⟨lw_p68, List.forall_mem_cons.mpr ⟨lw_p69, List.forall_mem_cons.mpr ⟨lw_p70, List.forall_mem_cons.mpr ⟨lw_p71, List.forall_mem_cons.mpr ⟨lw_p72, List.forall_mem_cons.mpr ⟨lw_p73, List.forall_mem_cons.mpr ⟨lw_p74, List.forall_mem_cons.mpr ⟨lw_p75, List.forall_mem_cons.mpr ⟨lw_p76, List.forall_mem_cons.mpr ⟨lw_p77, List.forall_mem_cons.mpr ⟨lw_p78, List.forall_mem_cons.mpr ⟨lw_p79, fun _ h => absurd h List.not_mem_nil⟩⟩⟩⟩⟩⟩⟩⟩⟩⟩⟩⟩⟩⟩⟩⟩
theorem lw_p80 : lw_okq (⟨"BallotWaysModel", "isToldWay", "(IIIII)Z"⟩, 23) := ⟨⟨by decide +kernel, by decide +kernel⟩, List.mem_of_getElem? (i := 762) (by decide +kernel), List.mem_of_getElem? (i := 1229) (by decide +kernel), List.mem_of_getElem? (i := 1230) (by decide +kernel)⟩
theorem lw_p81 : lw_okq (⟨"BallotWaysModel", "isToldLink", "(IIZ)Z"⟩, 23) := ⟨⟨by decide +kernel, by decide +kernel⟩, List.mem_of_getElem? (i := 762) (by decide +kernel), List.mem_of_getElem? (i := 1233) (by decide +kernel), List.mem_of_getElem? (i := 1234) (by decide +kernel)⟩
theorem lw_p82 : lw_okq (⟨"BallotWaysModel", "isBarrier", "(JII)Z"⟩, 23) := ⟨⟨by decide +kernel, by decide +kernel⟩, List.mem_of_getElem? (i := 762) (by decide +kernel), List.mem_of_getElem? (i := 1237) (by decide +kernel), List.mem_of_getElem? (i := 1238) (by decide +kernel)⟩
theorem lw_p83 : lw_okq (⟨"BallotWaysModel", "allCounts", "()I"⟩, 23) := ⟨⟨by decide +kernel, by decide +kernel⟩, List.mem_of_getElem? (i := 762) (by decide +kernel), List.mem_of_getElem? (i := 1245) (by decide +kernel), List.mem_of_getElem? (i := 1246) (by decide +kernel)⟩
theorem lw_p84 : lw_okq (⟨"BallotWaysModel", "links", "()I"⟩, 23) := ⟨⟨by decide +kernel, by decide +kernel⟩, List.mem_of_getElem? (i := 762) (by decide +kernel), List.mem_of_getElem? (i := 1249) (by decide +kernel), List.mem_of_getElem? (i := 1250) (by decide +kernel)⟩
theorem lw_p85 : lw_okq (⟨"BallotWaysModel", "allBeaten", "()I"⟩, 23) := ⟨⟨by decide +kernel, by decide +kernel⟩, List.mem_of_getElem? (i := 762) (by decide +kernel), List.mem_of_getElem? (i := 1253) (by decide +kernel), List.mem_of_getElem? (i := 1254) (by decide +kernel)⟩
def lw_privs_6 : List (MethodName × Nat) := [(⟨"BallotWaysModel", "isToldWay", "(IIIII)Z"⟩, 23), (⟨"BallotWaysModel", "isToldLink", "(IIZ)Z"⟩, 23), (⟨"BallotWaysModel", "isBarrier", "(JII)Z"⟩, 23), (⟨"BallotWaysModel", "allCounts", "()I"⟩, 23), (⟨"BallotWaysModel", "links", "()I"⟩, 23), (⟨"BallotWaysModel", "allBeaten", "()I"⟩, 23)]
theorem lw_r6 : ∀ q ∈ lw_privs_6, lw_okq q := List.forall_mem_cons.mpr ⟨lw_p80, List.forall_mem_cons.mpr ⟨lw_p81, List.forall_mem_cons.mpr ⟨lw_p82, List.forall_mem_cons.mpr ⟨lw_p83, List.forall_mem_cons.mpr ⟨lw_p84, List.forall_mem_cons.mpr ⟨lw_p85, fun _ h => absurd h List.not_mem_nil⟩⟩⟩⟩⟩⟩
def lw_privs : List (MethodName × Nat) := lw_privs_1 ++ (lw_privs_2 ++ (lw_privs_3 ++ (lw_privs_4 ++ (lw_privs_5 ++ (lw_privs_6)))))
def lw_tbl : List Cond := k2_sels lw_privs ++ tables_1
theorem lw_privs_ok : ∀ q ∈ lw_privs, lw_okq q := by
  show ∀ q ∈ lw_privs_1 ++ (lw_privs_2 ++ (lw_privs_3 ++ (lw_privs_4 ++ (lw_privs_5 ++ (lw_privs_6))))), lw_okq q
  exact List.forall_mem_append.mpr ⟨lw_r1, List.forall_mem_append.mpr ⟨lw_r2, List.forall_mem_append.mpr ⟨lw_r3, List.forall_mem_append.mpr ⟨lw_r4, List.forall_mem_append.mpr ⟨lw_r5, lw_r6⟩⟩⟩⟩⟩
-- ===== names: classes, their fields, codes =====
def RX0 : String := "BallotWays$Lists"
def TX0 : u_T := fun k => match k with
  | 0 => ("BallotWays$Lists", "cells", "[J", true)
  | _ => ("BallotWays$Lists", "sizes", "[I", true)
def tyX0 : Nat → FieldType := fun k => match k with
  | 0 => .array .long
  | _ => .array .int
theorem nmX0 : ∀ a, a < 2 → ∀ b, b < 2 → a ≠ b → (TX0 a).2.1 ≠ (TX0 b).2.1 := by decide +kernel
theorem tyX0_ok : ∀ k, k < 2 → parseFieldDescriptor (TX0 k).2.2.1 = some (tyX0 k) := by decide +kernel
def RX1 : String := "BallotWays$Paper"
def TX1 : u_T := fun k => match k with
  | 0 => ("BallotWays$Paper", "bytes", "[I", true)
  | _ => ("BallotWays$Paper", "length", "I", false)
def tyX1 : Nat → FieldType := fun k => match k with
  | 0 => .array .int
  | _ => .int
theorem nmX1 : ∀ a, a < 2 → ∀ b, b < 2 → a ≠ b → (TX1 a).2.1 ≠ (TX1 b).2.1 := by decide +kernel
theorem tyX1_ok : ∀ k, k < 2 → parseFieldDescriptor (TX1 k).2.2.1 = some (tyX1 k) := by decide +kernel
def RX2 : String := "BallotWays$Poll"
def TX2 : u_T := fun k => match k with
  | 0 => ("BallotWays$Poll", "size", "I", false)
  | 1 => ("BallotWays$Poll", "outs", "I", false)
  | 2 => ("BallotWays$Poll", "rule", "I", false)
  | 3 => ("BallotWays$Poll", "filled", "I", false)
  | 4 => ("BallotWays$Poll", "rankings", "[I", true)
  | 5 => ("BallotWays$Poll", "counts", "[I", true)
  | 6 => ("BallotWays$Poll", "draw", "[I", true)
  | _ => ("BallotWays$Poll", "fors", "[I", true)
def tyX2 : Nat → FieldType := fun k => match k with
  | 0 => .int
  | 1 => .int
  | 2 => .int
  | 3 => .int
  | 4 => .array .int
  | 5 => .array .int
  | 6 => .array .int
  | _ => .array .int
theorem nmX2 : ∀ a, a < 8 → ∀ b, b < 8 → a ≠ b → (TX2 a).2.1 ≠ (TX2 b).2.1 := by decide +kernel
theorem tyX2_ok : ∀ k, k < 8 → parseFieldDescriptor (TX2 k).2.2.1 = some (tyX2 k) := by decide +kernel
def RX3 : String := "BallotWays$Tape"
def TX3 : u_T := fun k => match k with
  | 0 => ("BallotWays$Tape", "bytes", "[I", true)
  | 1 => ("BallotWays$Tape", "length", "I", false)
  | 2 => ("BallotWays$Tape", "next", "I", false)
  | 3 => ("BallotWays$Tape", "ranking", "I", false)
  | _ => ("BallotWays$Tape", "count", "I", false)
def tyX3 : Nat → FieldType := fun k => match k with
  | 0 => .array .int
  | 1 => .int
  | 2 => .int
  | 3 => .int
  | _ => .int
theorem nmX3 : ∀ a, a < 5 → ∀ b, b < 5 → a ≠ b → (TX3 a).2.1 ≠ (TX3 b).2.1 := by decide +kernel
theorem tyX3_ok : ∀ k, k < 5 → parseFieldDescriptor (TX3 k).2.2.1 = some (tyX3 k) := by decide +kernel
def RX4 : String := "BallotWays$Ways"
def TX4 : u_T := fun k => match k with
  | 0 => ("BallotWays$Ways", "size", "I", false)
  | 1 => ("BallotWays$Ways", "ins", "I", false)
  | 2 => ("BallotWays$Ways", "rule", "I", false)
  | 3 => ("BallotWays$Ways", "steps", "I", false)
  | 4 => ("BallotWays$Ways", "fors", "[I", true)
  | 5 => ("BallotWays$Ways", "draw", "[I", true)
  | 6 => ("BallotWays$Ways", "links", "[J", true)
  | 7 => ("BallotWays$Ways", "best", "[J", true)
  | 8 => ("BallotWays$Ways", "beaters", "[I", true)
  | 9 => ("BallotWays$Ways", "distances", "[I", true)
  | _ => ("BallotWays$Ways", "route", "[I", true)
def tyX4 : Nat → FieldType := fun k => match k with
  | 0 => .int
  | 1 => .int
  | 2 => .int
  | 3 => .int
  | 4 => .array .int
  | 5 => .array .int
  | 6 => .array .long
  | 7 => .array .long
  | 8 => .array .int
  | 9 => .array .int
  | _ => .array .int
theorem nmX4 : ∀ a, a < 11 → ∀ b, b < 11 → a ≠ b → (TX4 a).2.1 ≠ (TX4 b).2.1 := by decide +kernel
theorem tyX4_ok : ∀ k, k < 11 → parseFieldDescriptor (TX4 k).2.2.1 = some (tyX4 k) := by decide +kernel
def RX5 : String := "BallotWays"
def TX5 : u_T := fun k => match k with
  | 0 => ("BallotWays", "poll", "LBallotWays$Poll;", true)
  | 1 => ("BallotWays", "kept", "LBallotWays$Poll;", true)
  | 2 => ("BallotWays", "draft", "LBallotWays$Poll;", true)
  | 3 => ("BallotWays", "ways", "LBallotWays$Ways;", true)
  | 4 => ("BallotWays", "tape", "LBallotWays$Tape;", true)
  | 5 => ("BallotWays", "lists", "LBallotWays$Lists;", true)
  | 6 => ("BallotWays", "sheet", "LBallotWays$Paper;", true)
  | _ => ("BallotWays", "keeps", "Z", false)
def tyX5 : Nat → FieldType := fun k => match k with
  | 0 => .object "BallotWays$Poll"
  | 1 => .object "BallotWays$Poll"
  | 2 => .object "BallotWays$Poll"
  | 3 => .object "BallotWays$Ways"
  | 4 => .object "BallotWays$Tape"
  | 5 => .object "BallotWays$Lists"
  | 6 => .object "BallotWays$Paper"
  | _ => .boolean
theorem nmX5 : ∀ a, a < 8 → ∀ b, b < 8 → a ≠ b → (TX5 a).2.1 ≠ (TX5 b).2.1 := by decide +kernel
theorem tyX5_ok : ∀ k, k < 8 → parseFieldDescriptor (TX5 k).2.2.1 = some (tyX5 k) := by decide +kernel
def RX6 : String := "BallotWaysModel"
def TX6 : u_T := fun k => match k with
  | 0 => ("BallotWaysModel", "g", "[I", true)
  | 1 => ("BallotWaysModel", "kept", "[I", true)
  | 2 => ("BallotWaysModel", "was", "[I", true)
  | 3 => ("BallotWaysModel", "isKept", "Z", false)
  | 4 => ("BallotWaysModel", "tape", "[I", true)
  | 5 => ("BallotWaysModel", "fed", "I", false)
  | 6 => ("BallotWaysModel", "at", "I", false)
  | 7 => ("BallotWaysModel", "len", "I", false)
  | 8 => ("BallotWaysModel", "fault", "I", false)
  | 9 => ("BallotWaysModel", "ranking", "[I", true)
  | 10 => ("BallotWaysModel", "paper", "[I", true)
  | 11 => ("BallotWaysModel", "written", "I", false)
  | 12 => ("BallotWaysModel", "pairs", "[J", true)
  | 13 => ("BallotWaysModel", "above", "[J", true)
  | 14 => ("BallotWaysModel", "below", "[J", true)
  | 15 => ("BallotWaysModel", "isDone", "[Z", true)
  | 16 => ("BallotWaysModel", "left", "[I", true)
  | 17 => ("BallotWaysModel", "row", "[I", true)
  | 18 => ("BallotWaysModel", "rowMany", "I", false)
  | 19 => ("BallotWaysModel", "many", "[I", true)
  | 20 => ("BallotWaysModel", "item", "[J", true)
  | 21 => ("BallotWaysModel", "weakAbove", "J", false)
  | _ => ("BallotWaysModel", "weakBelow", "J", false)
def tyX6 : Nat → FieldType := fun k => match k with
  | 0 => .array .int
  | 1 => .array .int
  | 2 => .array .int
  | 3 => .boolean
  | 4 => .array .int
  | 5 => .int
  | 6 => .int
  | 7 => .int
  | 8 => .int
  | 9 => .array .int
  | 10 => .array .int
  | 11 => .int
  | 12 => .array .long
  | 13 => .array .long
  | 14 => .array .long
  | 15 => .array .boolean
  | 16 => .array .int
  | 17 => .array .int
  | 18 => .int
  | 19 => .array .int
  | 20 => .array .long
  | 21 => .long
  | _ => .long
theorem nmX6 : ∀ a, a < 23 → ∀ b, b < 23 → a ≠ b → (TX6 a).2.1 ≠ (TX6 b).2.1 := by decide +kernel
theorem tyX6_ok : ∀ k, k < 23 → parseFieldDescriptor (TX6 k).2.2.1 = some (tyX6 k) := by decide +kernel
def RJ6 : String := "java/lang/Integer"
def RJ9 : String := "java/lang/Math"
def RJ7 : String := "java/util/Arrays"
def RJ10 : String := "java/lang/System"
abbrev cX0_has : ByteArray := prog_2_method_2_code
def yX0_has : MethodName := ⟨RX0, "has", "(I)Z"⟩
abbrev cX0_holds : ByteArray := prog_2_method_3_code
def yX0_holds : MethodName := ⟨RX0, "holds", "(I)Z"⟩
abbrev cX0_start : ByteArray := prog_2_method_4_code
def yX0_start : MethodName := ⟨RX0, "start", "(II)V"⟩
abbrev cX0_reaches : ByteArray := prog_2_method_5_code
def yX0_reaches : MethodName := ⟨RX0, "reaches", "(III)Z"⟩
abbrev cX0_read : ByteArray := prog_2_method_6_code
def yX0_read : MethodName := ⟨RX0, "read", "(III)J"⟩
abbrev cX0_lay : ByteArray := prog_2_method_7_code
def yX0_lay : MethodName := ⟨RX0, "lay", "(IIIJ)Z"⟩
abbrev cX1_byteAt : ByteArray := prog_3_method_2_code
def yX1_byteAt : MethodName := ⟨RX1, "byteAt", "(I)I"⟩
abbrev cX1_write : ByteArray := prog_3_method_3_code
def yX1_write : MethodName := ⟨RX1, "write", "(II)I"⟩
abbrev cX1_writeBehind : ByteArray := prog_3_method_4_code
def yX1_writeBehind : MethodName := ⟨RX1, "writeBehind", "(II)V"⟩
abbrev cX1_writeByte : ByteArray := prog_3_method_5_code
def yX1_writeByte : MethodName := ⟨RX1, "writeByte", "(I)V"⟩
abbrev cX2_start : ByteArray := prog_4_method_2_code
def yX2_start : MethodName := ⟨RX2, "start", "(I)V"⟩
abbrev cX2_become : ByteArray := prog_4_method_3_code
def yX2_become : MethodName := ⟨RX2, "become", "(LBallotWays$Poll;)V"⟩
abbrev cX2_has : ByteArray := prog_4_method_4_code
def yX2_has : MethodName := ⟨RX2, "has", "(I)Z"⟩
abbrev cX2_hasTwo : ByteArray := prog_4_method_5_code
def yX2_hasTwo : MethodName := ⟨RX2, "hasTwo", "(II)Z"⟩
abbrev cX2_hasBallot : ByteArray := prog_4_method_6_code
def yX2_hasBallot : MethodName := ⟨RX2, "hasBallot", "(I)Z"⟩
abbrev cX2_all : ByteArray := prog_4_method_7_code
def yX2_all : MethodName := ⟨RX2, "all", "()I"⟩
abbrev cX2_ins : ByteArray := prog_4_method_8_code
def yX2_ins : MethodName := ⟨RX2, "ins", "()I"⟩
abbrev cX2_isIn : ByteArray := prog_4_method_9_code
def yX2_isIn : MethodName := ⟨RX2, "isIn", "(I)Z"⟩
abbrev cX2_countOf : ByteArray := prog_4_method_10_code
def yX2_countOf : MethodName := ⟨RX2, "countOf", "(I)I"⟩
abbrev cX2_rankingOf : ByteArray := prog_4_method_11_code
def yX2_rankingOf : MethodName := ⟨RX2, "rankingOf", "(I)I"⟩
abbrev cX2_forOver : ByteArray := prog_4_method_12_code
def yX2_forOver : MethodName := ⟨RX2, "forOver", "(II)I"⟩
abbrev cX2_ballotOf : ByteArray := prog_4_method_13_code
def yX2_ballotOf : MethodName := ⟨RX2, "ballotOf", "(I)I"⟩
abbrev cX2_allCounts : ByteArray := prog_4_method_14_code
def yX2_allCounts : MethodName := ⟨RX2, "allCounts", "()I"⟩
abbrev cX2_add : ByteArray := prog_4_method_15_code
def yX2_add : MethodName := ⟨RX2, "add", "(II)Z"⟩
abbrev cX2_lessen : ByteArray := prog_4_method_16_code
def yX2_lessen : MethodName := ⟨RX2, "lessen", "(II)I"⟩
abbrev cX2_closeUp : ByteArray := prog_4_method_17_code
def yX2_closeUp : MethodName := ⟨RX2, "closeUp", "(I)V"⟩
abbrev cX2_drawByNumbers : ByteArray := prog_4_method_18_code
def yX2_drawByNumbers : MethodName := ⟨RX2, "drawByNumbers", "()V"⟩
abbrev cX2_drawnAt : ByteArray := prog_4_method_19_code
def yX2_drawnAt : MethodName := ⟨RX2, "drawnAt", "(I)I"⟩
abbrev cX2_drawBySeed : ByteArray := prog_4_method_20_code
def yX2_drawBySeed : MethodName := ⟨RX2, "drawBySeed", "(I)V"⟩
abbrev cX2_drawFirst : ByteArray := prog_4_method_21_code
def yX2_drawFirst : MethodName := ⟨RX2, "drawFirst", "(I)I"⟩
abbrev cX2_areClones : ByteArray := prog_4_method_22_code
def yX2_areClones : MethodName := ⟨RX2, "areClones", "(I)Z"⟩
abbrev cX2_standTogether : ByteArray := prog_4_method_23_code
def yX2_standTogether : MethodName := ⟨RX2, "standTogether", "(II)Z"⟩
abbrev cX2_sumOfPlaces : ByteArray := prog_4_method_24_code
def yX2_sumOfPlaces : MethodName := ⟨RX2, "sumOfPlaces", "(I)J"⟩
abbrev cX2_leadsOf : ByteArray := prog_4_method_25_code
def yX2_leadsOf : MethodName := ⟨RX2, "leadsOf", "(I)J"⟩
abbrev cX2_manyBehind : ByteArray := prog_4_method_26_code
def yX2_manyBehind : MethodName := ⟨RX2, "manyBehind", "(II)I"⟩
abbrev cX3_takeByte : ByteArray := prog_5_method_2_code
def yX3_takeByte : MethodName := ⟨RX3, "takeByte", "(I)Z"⟩
abbrev cX3_wipe : ByteArray := prog_5_method_3_code
def yX3_wipe : MethodName := ⟨RX3, "wipe", "()I"⟩
abbrev cX3_rewind : ByteArray := prog_5_method_4_code
def yX3_rewind : MethodName := ⟨RX3, "rewind", "()V"⟩
abbrev cX3_isRead : ByteArray := prog_5_method_5_code
def yX3_isRead : MethodName := ⟨RX3, "isRead", "()Z"⟩
abbrev cX3_sign : ByteArray := prog_5_method_6_code
def yX3_sign : MethodName := ⟨RX3, "sign", "()I"⟩
abbrev cX3_passes : ByteArray := prog_5_method_7_code
def yX3_passes : MethodName := ⟨RX3, "passes", "(I)Z"⟩
abbrev cX3_figure : ByteArray := prog_5_method_8_code
def yX3_figure : MethodName := ⟨RX3, "figure", "()I"⟩
abbrev cX3_readCount : ByteArray := prog_5_method_9_code
def yX3_readCount : MethodName := ⟨RX3, "readCount", "()Z"⟩
abbrev cX3_readRanking : ByteArray := prog_5_method_10_code
def yX3_readRanking : MethodName := ⟨RX3, "readRanking", "(I)Z"⟩
abbrev cX3_placeOthers : ByteArray := prog_5_method_11_code
def yX3_placeOthers : MethodName := ⟨RX3, "placeOthers", "(III)V"⟩
abbrev cX4_load : ByteArray := prog_6_method_2_code
def yX4_load : MethodName := ⟨RX4, "load", "(LBallotWays$Poll;)V"⟩
abbrev cX4_leaveOut : ByteArray := prog_6_method_3_code
def yX4_leaveOut : MethodName := ⟨RX4, "leaveOut", "(I)V"⟩
abbrev cX4_count : ByteArray := prog_6_method_4_code
def yX4_count : MethodName := ⟨RX4, "count", "(II)V"⟩
abbrev cX4_goBy : ByteArray := prog_6_method_5_code
def yX4_goBy : MethodName := ⟨RX4, "goBy", "(I)V"⟩
abbrev cX4_reckon : ByteArray := prog_6_method_6_code
def yX4_reckon : MethodName := ⟨RX4, "reckon", "()V"⟩
abbrev cX4_goThrough : ByteArray := prog_6_method_7_code
def yX4_goThrough : MethodName := ⟨RX4, "goThrough", "(II)V"⟩
abbrev cX4_beatersOf : ByteArray := prog_6_method_8_code
def yX4_beatersOf : MethodName := ⟨RX4, "beatersOf", "(I)I"⟩
abbrev cX4_linkBetween : ByteArray := prog_6_method_9_code
def yX4_linkBetween : MethodName := ⟨RX4, "linkBetween", "(II)J"⟩
abbrev cX4_ratioStrength : ByteArray := prog_6_method_10_code
def yX4_ratioStrength : MethodName := ⟨RX4, "ratioStrength", "(II)J"⟩
abbrev cX4_knows : ByteArray := prog_6_method_11_code
def yX4_knows : MethodName := ⟨RX4, "knows", "(II)Z"⟩
abbrev cX4_linkStrength : ByteArray := prog_6_method_12_code
def yX4_linkStrength : MethodName := ⟨RX4, "linkStrength", "(II)J"⟩
abbrev cX4_bestStrength : ByteArray := prog_6_method_13_code
def yX4_bestStrength : MethodName := ⟨RX4, "bestStrength", "(II)J"⟩
abbrev cX4_isOver : ByteArray := prog_6_method_14_code
def yX4_isOver : MethodName := ⟨RX4, "isOver", "(II)Z"⟩
abbrev cX4_cellAsStrongAs : ByteArray := prog_6_method_15_code
def yX4_cellAsStrongAs : MethodName := ⟨RX4, "cellAsStrongAs", "(II)I"⟩
abbrev cX4_strengthTold : ByteArray := prog_6_method_16_code
def yX4_strengthTold : MethodName := ⟨RX4, "strengthTold", "(II)J"⟩
abbrev cX4_commonDivisor : ByteArray := prog_6_method_17_code
def yX4_commonDivisor : MethodName := ⟨RX4, "commonDivisor", "(II)I"⟩
abbrev cX4_walk : ByteArray := prog_6_method_18_code
def yX4_walk : MethodName := ⟨RX4, "walk", "(II)I"⟩
abbrev cX4_tellDistances : ByteArray := prog_6_method_19_code
def yX4_tellDistances : MethodName := ⟨RX4, "tellDistances", "(IJ)V"⟩
abbrev cX4_nextStep : ByteArray := prog_6_method_20_code
def yX4_nextStep : MethodName := ⟨RX4, "nextStep", "(IIJ)I"⟩
abbrev cX4_stepOf : ByteArray := prog_6_method_21_code
def yX4_stepOf : MethodName := ⟨RX4, "stepOf", "(I)I"⟩
abbrev cX4_reachedBetter : ByteArray := prog_6_method_22_code
def yX4_reachedBetter : MethodName := ⟨RX4, "reachedBetter", "(II)I"⟩
abbrev cX4_unbeaten : ByteArray := prog_6_method_23_code
def yX4_unbeaten : MethodName := ⟨RX4, "unbeaten", "(I)I"⟩
abbrev cX4_firstOf : ByteArray := prog_6_method_24_code
def yX4_firstOf : MethodName := ⟨RX4, "firstOf", "(I)I"⟩
abbrev cX4_first : ByteArray := prog_6_method_25_code
def yX4_first : MethodName := ⟨RX4, "first", "()I"⟩
abbrev cX4_rankedAt : ByteArray := prog_6_method_26_code
def yX4_rankedAt : MethodName := ⟨RX4, "rankedAt", "(I)I"⟩
abbrev cX4_placeByRanks : ByteArray := prog_6_method_27_code
def yX4_placeByRanks : MethodName := ⟨RX4, "placeByRanks", "(I)I"⟩
abbrev cX4_leastTopSet : ByteArray := prog_6_method_28_code
def yX4_leastTopSet : MethodName := ⟨RX4, "leastTopSet", "()I"⟩
abbrev cX4_grow : ByteArray := prog_6_method_29_code
def yX4_grow : MethodName := ⟨RX4, "grow", "(I)I"⟩
abbrev cX4_unlinkedFrom : ByteArray := prog_6_method_30_code
def yX4_unlinkedFrom : MethodName := ⟨RX4, "unlinkedFrom", "(I)I"⟩
abbrev cX4_strongestOutOf : ByteArray := prog_6_method_31_code
def yX4_strongestOutOf : MethodName := ⟨RX4, "strongestOutOf", "(I)J"⟩
abbrev cX4_manyLinks : ByteArray := prog_6_method_32_code
def yX4_manyLinks : MethodName := ⟨RX4, "manyLinks", "()I"⟩
abbrev cX4_manyOver : ByteArray := prog_6_method_33_code
def yX4_manyOver : MethodName := ⟨RX4, "manyOver", "()I"⟩
abbrev cX5_begin : ByteArray := prog_1_method_2_code
def yX5_begin : MethodName := ⟨RX5, "begin", "(I)I"⟩
abbrev cX5_out : ByteArray := prog_1_method_3_code
def yX5_out : MethodName := ⟨RX5, "out", "(II)I"⟩
abbrev cX5_measure : ByteArray := prog_1_method_4_code
def yX5_measure : MethodName := ⟨RX5, "measure", "(I)I"⟩
abbrev cX5_ahead : ByteArray := prog_1_method_5_code
def yX5_ahead : MethodName := ⟨RX5, "ahead", "(I)I"⟩
abbrev cX5_shuffle : ByteArray := prog_1_method_6_code
def yX5_shuffle : MethodName := ⟨RX5, "shuffle", "(I)I"⟩
abbrev cX5_drawn : ByteArray := prog_1_method_7_code
def yX5_drawn : MethodName := ⟨RX5, "drawn", "(I)I"⟩
abbrev cX5_feed : ByteArray := prog_1_method_8_code
def yX5_feed : MethodName := ⟨RX5, "feed", "(I)I"⟩
abbrev cX5_clear : ByteArray := prog_1_method_9_code
def yX5_clear : MethodName := ⟨RX5, "clear", "()I"⟩
abbrev cX5_ballots : ByteArray := prog_1_method_10_code
def yX5_ballots : MethodName := ⟨RX5, "ballots", "()I"⟩
abbrev cX5_remove : ByteArray := prog_1_method_11_code
def yX5_remove : MethodName := ⟨RX5, "remove", "(II)I"⟩
abbrev cX5_ballot : ByteArray := prog_1_method_12_code
def yX5_ballot : MethodName := ⟨RX5, "ballot", "(II)I"⟩
abbrev cX5_find : ByteArray := prog_1_method_13_code
def yX5_find : MethodName := ⟨RX5, "find", "()I"⟩
abbrev cX5_spell : ByteArray := prog_1_method_14_code
def yX5_spell : MethodName := ⟨RX5, "spell", "(I)I"⟩
abbrev cX5_paper : ByteArray := prog_1_method_15_code
def yX5_paper : MethodName := ⟨RX5, "paper", "(I)I"⟩
abbrev cX5_pair : ByteArray := prog_1_method_16_code
def yX5_pair : MethodName := ⟨RX5, "pair", "(II)J"⟩
abbrev cX5_link : ByteArray := prog_1_method_17_code
def yX5_link : MethodName := ⟨RX5, "link", "(II)I"⟩
abbrev cX5_strength : ByteArray := prog_1_method_18_code
def yX5_strength : MethodName := ⟨RX5, "strength", "(III)J"⟩
abbrev cX5_way : ByteArray := prog_1_method_19_code
def yX5_way : MethodName := ⟨RX5, "way", "(III)I"⟩
abbrev cX5_barrier : ByteArray := prog_1_method_20_code
def yX5_barrier : MethodName := ⟨RX5, "barrier", "(II)I"⟩
abbrev cX5_beats : ByteArray := prog_1_method_21_code
def yX5_beats : MethodName := ⟨RX5, "beats", "(II)I"⟩
abbrev cX5_winners : ByteArray := prog_1_method_22_code
def yX5_winners : MethodName := ⟨RX5, "winners", "()I"⟩
abbrev cX5_ranked : ByteArray := prog_1_method_23_code
def yX5_ranked : MethodName := ⟨RX5, "ranked", "(I)I"⟩
abbrev cX5_rank : ByteArray := prog_1_method_24_code
def yX5_rank : MethodName := ⟨RX5, "rank", "(I)I"⟩
abbrev cX5_smith : ByteArray := prog_1_method_25_code
def yX5_smith : MethodName := ⟨RX5, "smith", "()I"⟩
abbrev cX5_clones : ByteArray := prog_1_method_26_code
def yX5_clones : MethodName := ⟨RX5, "clones", "(I)I"⟩
abbrev cX5_sum : ByteArray := prog_1_method_27_code
def yX5_sum : MethodName := ⟨RX5, "sum", "(II)J"⟩
abbrev cX5_without : ByteArray := prog_1_method_28_code
def yX5_without : MethodName := ⟨RX5, "without", "(I)I"⟩
abbrev cX5_would : ByteArray := prog_1_method_29_code
def yX5_would : MethodName := ⟨RX5, "would", "(I)I"⟩
abbrev cX5_needs : ByteArray := prog_1_method_30_code
def yX5_needs : MethodName := ⟨RX5, "needs", "(I)I"⟩
abbrev cX5_turners : ByteArray := prog_1_method_31_code
def yX5_turners : MethodName := ⟨RX5, "turners", "()J"⟩
abbrev cX5_agree : ByteArray := prog_1_method_32_code
def yX5_agree : MethodName := ⟨RX5, "agree", "()I"⟩
abbrev cX5_flips : ByteArray := prog_1_method_33_code
def yX5_flips : MethodName := ⟨RX5, "flips", "(I)I"⟩
abbrev cX5_prove : ByteArray := prog_1_method_34_code
def yX5_prove : MethodName := ⟨RX5, "prove", "(IIII)I"⟩
abbrev cX5_proves : ByteArray := prog_1_method_35_code
def yX5_proves : MethodName := ⟨RX5, "proves", "(IIII)I"⟩
abbrev cX5_told : ByteArray := prog_1_method_36_code
def yX5_told : MethodName := ⟨RX5, "told", "(I)I"⟩
abbrev cX5_list : ByteArray := prog_1_method_37_code
def yX5_list : MethodName := ⟨RX5, "list", "(II)I"⟩
abbrev cX5_set : ByteArray := prog_1_method_38_code
def yX5_set : MethodName := ⟨RX5, "set", "(IIJ)I"⟩
abbrev cX5_get : ByteArray := prog_1_method_39_code
def yX5_get : MethodName := ⟨RX5, "get", "(II)J"⟩
abbrev cX5_image : ByteArray := prog_1_method_40_code
def yX5_image : MethodName := ⟨RX5, "image", "()I"⟩
abbrev cX5_undo : ByteArray := prog_1_method_41_code
def yX5_undo : MethodName := ⟨RX5, "undo", "()I"⟩
abbrev cX5_lookAtWays : ByteArray := prog_1_method_42_code
def yX5_lookAtWays : MethodName := ⟨RX5, "lookAtWays", "()V"⟩
abbrev cX5_readRankingAlone : ByteArray := prog_1_method_43_code
def yX5_readRankingAlone : MethodName := ⟨RX5, "readRankingAlone", "()I"⟩
abbrev cX5_readParts : ByteArray := prog_1_method_44_code
def yX5_readParts : MethodName := ⟨RX5, "readParts", "()I"⟩
abbrev cX5_leastTurn : ByteArray := prog_1_method_45_code
def yX5_leastTurn : MethodName := ⟨RX5, "leastTurn", "(II)I"⟩
abbrev cX5_isProof : ByteArray := prog_1_method_46_code
def yX5_isProof : MethodName := ⟨RX5, "isProof", "(IIII)Z"⟩
abbrev cX5_strengthOfRow : ByteArray := prog_1_method_47_code
def yX5_strengthOfRow : MethodName := ⟨RX5, "strengthOfRow", "(III)J"⟩
abbrev cX5_hasBit : ByteArray := prog_1_method_48_code
def yX5_hasBit : MethodName := ⟨RX5, "hasBit", "(II)Z"⟩
abbrev cX5_placeOf : ByteArray := prog_1_method_49_code
def yX5_placeOf : MethodName := ⟨RX5, "placeOf", "(II)I"⟩
abbrev cX5_withPlace : ByteArray := prog_1_method_50_code
def yX5_withPlace : MethodName := ⟨RX5, "withPlace", "(III)I"⟩
abbrev cX5_placesIn : ByteArray := prog_1_method_51_code
def yX5_placesIn : MethodName := ⟨RX5, "placesIn", "(I)I"⟩
abbrev cX5_cell : ByteArray := prog_1_method_52_code
def yX5_cell : MethodName := ⟨RX5, "cell", "(II)I"⟩
abbrev cX5_countPairs : ByteArray := prog_1_method_53_code
def yX5_countPairs : MethodName := ⟨RX5, "countPairs", "([IIII)V"⟩
abbrev cX6_isIn : ByteArray := prog_8_method_2_code
def yX6_isIn : MethodName := ⟨RX6, "isIn", "(JJJ)Z"⟩
abbrev cX6_copies : ByteArray := prog_8_method_3_code
def yX6_copies : MethodName := ⟨RX6, "copies", "([I[I)V"⟩
abbrev cX6_has : ByteArray := prog_8_method_4_code
def yX6_has : MethodName := ⟨RX6, "has", "(II)Z"⟩
abbrev cX6_bits : ByteArray := prog_8_method_5_code
def yX6_bits : MethodName := ⟨RX6, "bits", "(I)I"⟩
abbrev cX6_everyone : ByteArray := prog_8_method_6_code
def yX6_everyone : MethodName := ⟨RX6, "everyone", "()I"⟩
abbrev cX6_ins : ByteArray := prog_8_method_7_code
def yX6_ins : MethodName := ⟨RX6, "ins", "()I"⟩
abbrev cX6_isOne : ByteArray := prog_8_method_8_code
def yX6_isOne : MethodName := ⟨RX6, "isOne", "(I)Z"⟩
abbrev cX6_areTwo : ByteArray := prog_8_method_9_code
def yX6_areTwo : MethodName := ⟨RX6, "areTwo", "(II)Z"⟩
abbrev cX6_areIn : ByteArray := prog_8_method_10_code
def yX6_areIn : MethodName := ⟨RX6, "areIn", "(II)Z"⟩
abbrev cX6_isBallot : ByteArray := prog_8_method_11_code
def yX6_isBallot : MethodName := ⟨RX6, "isBallot", "(I)Z"⟩
abbrev cX6_placeOf : ByteArray := prog_8_method_12_code
def yX6_placeOf : MethodName := ⟨RX6, "placeOf", "(II)I"⟩
abbrev cX6_begins : ByteArray := prog_8_method_13_code
def yX6_begins : MethodName := ⟨RX6, "begins", "(I)V"⟩
abbrev cX6_begin : ByteArray := prog_8_method_14_code
def yX6_begin : MethodName := ⟨RX6, "begin", "(I)I"⟩
abbrev cX6_out : ByteArray := prog_8_method_15_code
def yX6_out : MethodName := ⟨RX6, "out", "(II)I"⟩
abbrev cX6_measure : ByteArray := prog_8_method_16_code
def yX6_measure : MethodName := ⟨RX6, "measure", "(I)I"⟩
abbrev cX6_drawOf : ByteArray := prog_8_method_17_code
def yX6_drawOf : MethodName := ⟨RX6, "drawOf", "(I)I"⟩
abbrev cX6_ahead : ByteArray := prog_8_method_18_code
def yX6_ahead : MethodName := ⟨RX6, "ahead", "(I)I"⟩
abbrev cX6_shuffle : ByteArray := prog_8_method_19_code
def yX6_shuffle : MethodName := ⟨RX6, "shuffle", "(I)I"⟩
abbrev cX6_drawn : ByteArray := prog_8_method_20_code
def yX6_drawn : MethodName := ⟨RX6, "drawn", "(I)I"⟩
abbrev cX6_feed : ByteArray := prog_8_method_21_code
def yX6_feed : MethodName := ⟨RX6, "feed", "(I)I"⟩
abbrev cX6_clear : ByteArray := prog_8_method_22_code
def yX6_clear : MethodName := ⟨RX6, "clear", "()I"⟩
abbrev cX6_reads : ByteArray := prog_8_method_23_code
def yX6_reads : MethodName := ⟨RX6, "reads", "()V"⟩
abbrev cX6_here : ByteArray := prog_8_method_24_code
def yX6_here : MethodName := ⟨RX6, "here", "()I"⟩
abbrev cX6_isDigit : ByteArray := prog_8_method_25_code
def yX6_isDigit : MethodName := ⟨RX6, "isDigit", "()Z"⟩
abbrev cX6_fails : ByteArray := prog_8_method_26_code
def yX6_fails : MethodName := ⟨RX6, "fails", "(I)Z"⟩
abbrev cX6_isSign : ByteArray := prog_8_method_27_code
def yX6_isSign : MethodName := ⟨RX6, "isSign", "(I)Z"⟩
abbrev cX6_isTold : ByteArray := prog_8_method_28_code
def yX6_isTold : MethodName := ⟨RX6, "isTold", "(II)Z"⟩
abbrev cX6_isRanking : ByteArray := prog_8_method_29_code
def yX6_isRanking : MethodName := ⟨RX6, "isRanking", "()Z"⟩
abbrev cX6_isWholeRanking : ByteArray := prog_8_method_30_code
def yX6_isWholeRanking : MethodName := ⟨RX6, "isWholeRanking", "()Z"⟩
abbrev cX6_ballotOfRanking : ByteArray := prog_8_method_31_code
def yX6_ballotOfRanking : MethodName := ⟨RX6, "ballotOfRanking", "()I"⟩
abbrev cX6_comes : ByteArray := prog_8_method_32_code
def yX6_comes : MethodName := ⟨RX6, "comes", "(II)Z"⟩
abbrev cX6_isPart : ByteArray := prog_8_method_33_code
def yX6_isPart : MethodName := ⟨RX6, "isPart", "()Z"⟩
abbrev cX6_ballots : ByteArray := prog_8_method_34_code
def yX6_ballots : MethodName := ⟨RX6, "ballots", "()I"⟩
abbrev cX6_goes : ByteArray := prog_8_method_35_code
def yX6_goes : MethodName := ⟨RX6, "goes", "(I)V"⟩
abbrev cX6_remove : ByteArray := prog_8_method_36_code
def yX6_remove : MethodName := ⟨RX6, "remove", "(II)I"⟩
abbrev cX6_places : ByteArray := prog_8_method_37_code
def yX6_places : MethodName := ⟨RX6, "places", "(I)I"⟩
abbrev cX6_ballot : ByteArray := prog_8_method_38_code
def yX6_ballot : MethodName := ⟨RX6, "ballot", "(II)I"⟩
abbrev cX6_find : ByteArray := prog_8_method_39_code
def yX6_find : MethodName := ⟨RX6, "find", "()I"⟩
abbrev cX6_says : ByteArray := prog_8_method_40_code
def yX6_says : MethodName := ⟨RX6, "says", "(I)V"⟩
abbrev cX6_saysPlace : ByteArray := prog_8_method_41_code
def yX6_saysPlace : MethodName := ⟨RX6, "saysPlace", "(II)V"⟩
abbrev cX6_spell : ByteArray := prog_8_method_42_code
def yX6_spell : MethodName := ⟨RX6, "spell", "(I)I"⟩
abbrev cX6_paper : ByteArray := prog_8_method_43_code
def yX6_paper : MethodName := ⟨RX6, "paper", "(I)I"⟩
abbrev cX6_counts : ByteArray := prog_8_method_44_code
def yX6_counts : MethodName := ⟨RX6, "counts", "(II)V"⟩
abbrev cX6_countsAll : ByteArray := prog_8_method_45_code
def yX6_countsAll : MethodName := ⟨RX6, "countsAll", "()V"⟩
abbrev cX6_countsRanking : ByteArray := prog_8_method_46_code
def yX6_countsRanking : MethodName := ⟨RX6, "countsRanking", "(I)V"⟩
abbrev cX6_over : ByteArray := prog_8_method_47_code
def yX6_over : MethodName := ⟨RX6, "over", "(II)J"⟩
abbrev cX6_pair : ByteArray := prog_8_method_48_code
def yX6_pair : MethodName := ⟨RX6, "pair", "(II)J"⟩
abbrev cX6_isLink : ByteArray := prog_8_method_49_code
def yX6_isLink : MethodName := ⟨RX6, "isLink", "(III)Z"⟩
abbrev cX6_link : ByteArray := prog_8_method_50_code
def yX6_link : MethodName := ⟨RX6, "link", "(II)I"⟩
abbrev cX6_isStronger : ByteArray := prog_8_method_51_code
def yX6_isStronger : MethodName := ⟨RX6, "isStronger", "(IJJJJ)Z"⟩
abbrev cX6_isMore : ByteArray := prog_8_method_52_code
def yX6_isMore : MethodName := ⟨RX6, "isMore", "(III)Z"⟩
abbrev cX6_takes : ByteArray := prog_8_method_53_code
def yX6_takes : MethodName := ⟨RX6, "takes", "(IIJJ)V"⟩
abbrev cX6_strongestLeft : ByteArray := prog_8_method_54_code
def yX6_strongestLeft : MethodName := ⟨RX6, "strongestLeft", "(II)I"⟩
abbrev cX6_goesOn : ByteArray := prog_8_method_55_code
def yX6_goesOn : MethodName := ⟨RX6, "goesOn", "(IIII)V"⟩
abbrev cX6_grows : ByteArray := prog_8_method_56_code
def yX6_grows : MethodName := ⟨RX6, "grows", "(III)V"⟩
abbrev cX6_ways : ByteArray := prog_8_method_57_code
def yX6_ways : MethodName := ⟨RX6, "ways", "(II)V"⟩
abbrev cX6_waysNow : ByteArray := prog_8_method_58_code
def yX6_waysNow : MethodName := ⟨RX6, "waysNow", "()V"⟩
abbrev cX6_common : ByteArray := prog_8_method_59_code
def yX6_common : MethodName := ⟨RX6, "common", "(JJ)J"⟩
abbrev cX6_lowest : ByteArray := prog_8_method_60_code
def yX6_lowest : MethodName := ⟨RX6, "lowest", "(II)J"⟩
abbrev cX6_told : ByteArray := prog_8_method_61_code
def yX6_told : MethodName := ⟨RX6, "told", "(II)J"⟩
abbrev cX6_strength : ByteArray := prog_8_method_62_code
def yX6_strength : MethodName := ⟨RX6, "strength", "(III)J"⟩
abbrev cX6_isOf : ByteArray := prog_8_method_63_code
def yX6_isOf : MethodName := ⟨RX6, "isOf", "(III)Z"⟩
abbrev cX6_leftTo : ByteArray := prog_8_method_64_code
def yX6_leftTo : MethodName := ⟨RX6, "leftTo", "(II)V"⟩
abbrev cX6_wayOf : ByteArray := prog_8_method_65_code
def yX6_wayOf : MethodName := ⟨RX6, "wayOf", "(II)V"⟩
abbrev cX6_way : ByteArray := prog_8_method_66_code
def yX6_way : MethodName := ⟨RX6, "way", "(III)I"⟩
abbrev cX6_barrierOf : ByteArray := prog_8_method_67_code
def yX6_barrierOf : MethodName := ⟨RX6, "barrierOf", "(II)I"⟩
abbrev cX6_barrier : ByteArray := prog_8_method_68_code
def yX6_barrier : MethodName := ⟨RX6, "barrier", "(II)I"⟩
abbrev cX6_doesBeat : ByteArray := prog_8_method_69_code
def yX6_doesBeat : MethodName := ⟨RX6, "doesBeat", "(III)Z"⟩
abbrev cX6_beats : ByteArray := prog_8_method_70_code
def yX6_beats : MethodName := ⟨RX6, "beats", "(II)I"⟩
abbrev cX6_unbeaten : ByteArray := prog_8_method_71_code
def yX6_unbeaten : MethodName := ⟨RX6, "unbeaten", "(II)I"⟩
abbrev cX6_winners : ByteArray := prog_8_method_72_code
def yX6_winners : MethodName := ⟨RX6, "winners", "()I"⟩
abbrev cX6_firstDrawn : ByteArray := prog_8_method_73_code
def yX6_firstDrawn : MethodName := ⟨RX6, "firstDrawn", "(I)I"⟩
abbrev cX6_ranked : ByteArray := prog_8_method_74_code
def yX6_ranked : MethodName := ⟨RX6, "ranked", "(I)I"⟩
abbrev cX6_rank : ByteArray := prog_8_method_75_code
def yX6_rank : MethodName := ⟨RX6, "rank", "(I)I"⟩
abbrev cX6_linksToAll : ByteArray := prog_8_method_76_code
def yX6_linksToAll : MethodName := ⟨RX6, "linksToAll", "(I)Z"⟩
abbrev cX6_smith : ByteArray := prog_8_method_77_code
def yX6_smith : MethodName := ⟨RX6, "smith", "()I"⟩
abbrev cX6_isAside : ByteArray := prog_8_method_78_code
def yX6_isAside : MethodName := ⟨RX6, "isAside", "(III)Z"⟩
abbrev cX6_areClones : ByteArray := prog_8_method_79_code
def yX6_areClones : MethodName := ⟨RX6, "areClones", "(I)Z"⟩
abbrev cX6_clones : ByteArray := prog_8_method_80_code
def yX6_clones : MethodName := ⟨RX6, "clones", "(I)I"⟩
abbrev cX6_behindIt : ByteArray := prog_8_method_81_code
def yX6_behindIt : MethodName := ⟨RX6, "behindIt", "(II)I"⟩
abbrev cX6_sum : ByteArray := prog_8_method_82_code
def yX6_sum : MethodName := ⟨RX6, "sum", "(II)J"⟩
abbrev cX6_first : ByteArray := prog_8_method_83_code
def yX6_first : MethodName := ⟨RX6, "first", "(II)I"⟩
abbrev cX6_firstNow : ByteArray := prog_8_method_84_code
def yX6_firstNow : MethodName := ⟨RX6, "firstNow", "()I"⟩
abbrev cX6_without : ByteArray := prog_8_method_85_code
def yX6_without : MethodName := ⟨RX6, "without", "(I)I"⟩
abbrev cX6_would : ByteArray := prog_8_method_86_code
def yX6_would : MethodName := ⟨RX6, "would", "(I)I"⟩
abbrev cX6_needs : ByteArray := prog_8_method_87_code
def yX6_needs : MethodName := ⟨RX6, "needs", "(I)I"⟩
abbrev cX6_turners : ByteArray := prog_8_method_88_code
def yX6_turners : MethodName := ⟨RX6, "turners", "()J"⟩
abbrev cX6_agree : ByteArray := prog_8_method_89_code
def yX6_agree : MethodName := ⟨RX6, "agree", "()I"⟩
abbrev cX6_flips : ByteArray := prog_8_method_90_code
def yX6_flips : MethodName := ⟨RX6, "flips", "(I)I"⟩
abbrev cX6_isList : ByteArray := prog_8_method_91_code
def yX6_isList : MethodName := ⟨RX6, "isList", "(I)Z"⟩
abbrev cX6_isItem : ByteArray := prog_8_method_92_code
def yX6_isItem : MethodName := ⟨RX6, "isItem", "(IJ)Z"⟩
abbrev cX6_wrong : ByteArray := prog_8_method_93_code
def yX6_wrong : MethodName := ⟨RX6, "wrong", "(III)I"⟩
abbrev cX6_lays : ByteArray := prog_8_method_94_code
def yX6_lays : MethodName := ⟨RX6, "lays", "(IJJ)Z"⟩
abbrev cX6_laid : ByteArray := prog_8_method_95_code
def yX6_laid : MethodName := ⟨RX6, "laid", "(III)I"⟩
abbrev cX6_prove : ByteArray := prog_8_method_96_code
def yX6_prove : MethodName := ⟨RX6, "prove", "(IIII)I"⟩
abbrev cX6_isToldWay : ByteArray := prog_8_method_97_code
def yX6_isToldWay : MethodName := ⟨RX6, "isToldWay", "(IIIII)Z"⟩
abbrev cX6_isToldLink : ByteArray := prog_8_method_98_code
def yX6_isToldLink : MethodName := ⟨RX6, "isToldLink", "(IIZ)Z"⟩
abbrev cX6_isBarrier : ByteArray := prog_8_method_99_code
def yX6_isBarrier : MethodName := ⟨RX6, "isBarrier", "(JII)Z"⟩
abbrev cX6_proves : ByteArray := prog_8_method_100_code
def yX6_proves : MethodName := ⟨RX6, "proves", "(IIII)I"⟩
abbrev cX6_allCounts : ByteArray := prog_8_method_101_code
def yX6_allCounts : MethodName := ⟨RX6, "allCounts", "()I"⟩
abbrev cX6_links : ByteArray := prog_8_method_102_code
def yX6_links : MethodName := ⟨RX6, "links", "()I"⟩
abbrev cX6_allBeaten : ByteArray := prog_8_method_103_code
def yX6_allBeaten : MethodName := ⟨RX6, "allBeaten", "()I"⟩
abbrev cX6_told_ : ByteArray := prog_8_method_104_code
def yX6_told_ : MethodName := ⟨RX6, "told", "(I)I"⟩
abbrev cX6_list : ByteArray := prog_8_method_105_code
def yX6_list : MethodName := ⟨RX6, "list", "(II)I"⟩
abbrev cX6_set : ByteArray := prog_8_method_106_code
def yX6_set : MethodName := ⟨RX6, "set", "(IIJ)I"⟩
abbrev cX6_get : ByteArray := prog_8_method_107_code
def yX6_get : MethodName := ⟨RX6, "get", "(II)J"⟩
abbrev cX6_image : ByteArray := prog_8_method_108_code
def yX6_image : MethodName := ⟨RX6, "image", "()I"⟩
abbrev cX6_undo : ByteArray := prog_8_method_109_code
def yX6_undo : MethodName := ⟨RX6, "undo", "()I"⟩
abbrev cJ6_bitCount_0f7a4 : ByteArray := prog_9_method_49_code
def yJ6_bitCount_0f7a4 : MethodName := ⟨RJ6, "bitCount", "(I)I"⟩
abbrev cJ9_floorDiv_7cf53 : ByteArray := prog_10_method_47_code
def yJ9_floorDiv_7cf53 : MethodName := ⟨RJ9, "floorDiv", "(II)I"⟩
abbrev cJ9_floorMod_7cf53 : ByteArray := prog_10_method_50_code
def yJ9_floorMod_7cf53 : MethodName := ⟨RJ9, "floorMod", "(II)I"⟩
abbrev cJ9_max_7cf53 : ByteArray := prog_10_method_65_code
def yJ9_max_7cf53 : MethodName := ⟨RJ9, "max", "(II)I"⟩
abbrev cJ9_max_f86c9 : ByteArray := prog_10_method_66_code
def yJ9_max_f86c9 : MethodName := ⟨RJ9, "max", "(JJ)J"⟩
abbrev cJ9_min_7cf53 : ByteArray := prog_10_method_69_code
def yJ9_min_7cf53 : MethodName := ⟨RJ9, "min", "(II)I"⟩
abbrev cJ9_min_f86c9 : ByteArray := prog_10_method_70_code
def yJ9_min_f86c9 : MethodName := ⟨RJ9, "min", "(JJ)J"⟩
abbrev cJ7_fill_53178 : ByteArray := prog_12_method_103_code
def yJ7_fill_53178 : MethodName := ⟨RJ7, "fill", "([II)V"⟩

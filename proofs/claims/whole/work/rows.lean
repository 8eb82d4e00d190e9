section
-- ===== PART A: goes FIRST, ahead of the names: the tables' words, and 'selects' of the private methods out of them =====
/-- a private method of a class that the tables say can be made, by its rows of tables_1 -/
def lw_okq (q : MethodName × Nat) : Prop := (q.1.cls ≠ "java/lang/invoke/MethodHandle" ∧ q.1.cls ≠ "java/lang/invoke/VarHandle") ∧ Cond.instantiable q.1.cls q.2 ∈ tables_1 ∧ Cond.privateMethod q.1 ∈ tables_1 ∧ Cond.instanceMethod q.1 ∈ tables_1
theorem lw_p0 : lw_okq (⟨"ScreenVotes$Panel", "place", "(II)V"⟩, 6) := ⟨⟨by decide +kernel, by decide +kernel⟩, List.mem_of_getElem? (i := 48) (by decide +kernel), List.mem_of_getElem? (i := 261) (by decide +kernel), List.mem_of_getElem? (i := 262) (by decide +kernel)⟩
theorem lw_p1 : lw_okq (⟨"ScreenVotes", "isPlayer", "(I)Z"⟩, 9) := ⟨⟨by decide +kernel, by decide +kernel⟩, List.mem_of_getElem? (i := 16) (by decide +kernel), List.mem_of_getElem? (i := 282) (by decide +kernel), List.mem_of_getElem? (i := 283) (by decide +kernel)⟩
theorem lw_p2 : lw_okq (⟨"ScreenVotes$Bylaw", "readText", "()V"⟩, 9) := ⟨⟨by decide +kernel, by decide +kernel⟩, List.mem_of_getElem? (i := 82) (by decide +kernel), List.mem_of_getElem? (i := 317) (by decide +kernel), List.mem_of_getElem? (i := 318) (by decide +kernel)⟩
theorem lw_p3 : lw_okq (⟨"ScreenVotes$Bylaw", "readRounds", "()Z"⟩, 9) := ⟨⟨by decide +kernel, by decide +kernel⟩, List.mem_of_getElem? (i := 82) (by decide +kernel), List.mem_of_getElem? (i := 321) (by decide +kernel), List.mem_of_getElem? (i := 322) (by decide +kernel)⟩
theorem lw_p4 : lw_okq (⟨"ScreenVotes$Bylaw", "readRound", "(I)Z"⟩, 9) := ⟨⟨by decide +kernel, by decide +kernel⟩, List.mem_of_getElem? (i := 82) (by decide +kernel), List.mem_of_getElem? (i := 325) (by decide +kernel), List.mem_of_getElem? (i := 326) (by decide +kernel)⟩
theorem lw_p5 : lw_okq (⟨"ScreenVotes$Bylaw", "readByte", "(I)Z"⟩, 9) := ⟨⟨by decide +kernel, by decide +kernel⟩, List.mem_of_getElem? (i := 82) (by decide +kernel), List.mem_of_getElem? (i := 329) (by decide +kernel), List.mem_of_getElem? (i := 330) (by decide +kernel)⟩
theorem lw_p6 : lw_okq (⟨"ScreenVotes$Bylaw", "readNumber", "(I)Z"⟩, 9) := ⟨⟨by decide +kernel, by decide +kernel⟩, List.mem_of_getElem? (i := 82) (by decide +kernel), List.mem_of_getElem? (i := 333) (by decide +kernel), List.mem_of_getElem? (i := 334) (by decide +kernel)⟩
theorem lw_p7 : lw_okq (⟨"ScreenVotes$Bylaw", "isFigure", "(I)Z"⟩, 9) := ⟨⟨by decide +kernel, by decide +kernel⟩, List.mem_of_getElem? (i := 82) (by decide +kernel), List.mem_of_getElem? (i := 337) (by decide +kernel), List.mem_of_getElem? (i := 338) (by decide +kernel)⟩
theorem lw_p8 : lw_okq (⟨"ScreenVotes$Bylaw", "readLetter", "(I)Z"⟩, 9) := ⟨⟨by decide +kernel, by decide +kernel⟩, List.mem_of_getElem? (i := 82) (by decide +kernel), List.mem_of_getElem? (i := 341) (by decide +kernel), List.mem_of_getElem? (i := 342) (by decide +kernel)⟩
theorem lw_p9 : lw_okq (⟨"ScreenVotes", "refusalOfRound", "(I)I"⟩, 9) := ⟨⟨by decide +kernel, by decide +kernel⟩, List.mem_of_getElem? (i := 16) (by decide +kernel), List.mem_of_getElem? (i := 361) (by decide +kernel), List.mem_of_getElem? (i := 362) (by decide +kernel)⟩
theorem lw_p10 : lw_okq (⟨"ScreenVotes$Contest", "tally", "(I)V"⟩, 5) := ⟨⟨by decide +kernel, by decide +kernel⟩, List.mem_of_getElem? (i := 127) (by decide +kernel), List.mem_of_getElem? (i := 377) (by decide +kernel), List.mem_of_getElem? (i := 378) (by decide +kernel)⟩
theorem lw_p11 : lw_okq (⟨"ScreenVotes$Contest", "whoPass", "(II)I"⟩, 5) := ⟨⟨by decide +kernel, by decide +kernel⟩, List.mem_of_getElem? (i := 127) (by decide +kernel), List.mem_of_getElem? (i := 383) (by decide +kernel), List.mem_of_getElem? (i := 384) (by decide +kernel)⟩
theorem lw_p12 : lw_okq (⟨"ScreenVotes$Contest", "whoAdvance", "(II)I"⟩, 5) := ⟨⟨by decide +kernel, by decide +kernel⟩, List.mem_of_getElem? (i := 127) (by decide +kernel), List.mem_of_getElem? (i := 390) (by decide +kernel), List.mem_of_getElem? (i := 391) (by decide +kernel)⟩
theorem lw_p13 : lw_okq (⟨"ScreenVotes$Contest", "withShare", "(III)I"⟩, 5) := ⟨⟨by decide +kernel, by decide +kernel⟩, List.mem_of_getElem? (i := 127) (by decide +kernel), List.mem_of_getElem? (i := 394) (by decide +kernel), List.mem_of_getElem? (i := 395) (by decide +kernel)⟩
theorem lw_p14 : lw_okq (⟨"ScreenVotes$Contest", "compareShares", "(II)I"⟩, 5) := ⟨⟨by decide +kernel, by decide +kernel⟩, List.mem_of_getElem? (i := 127) (by decide +kernel), List.mem_of_getElem? (i := 398) (by decide +kernel), List.mem_of_getElem? (i := 399) (by decide +kernel)⟩
theorem lw_p15 : lw_okq (⟨"ScreenVotes$Contest", "outOfTie", "(III)I"⟩, 5) := ⟨⟨by decide +kernel, by decide +kernel⟩, List.mem_of_getElem? (i := 127) (by decide +kernel), List.mem_of_getElem? (i := 405) (by decide +kernel), List.mem_of_getElem? (i := 406) (by decide +kernel)⟩
def lw_privs_1 : List (MethodName × Nat) := [(⟨"ScreenVotes$Panel", "place", "(II)V"⟩, 6), (⟨"ScreenVotes", "isPlayer", "(I)Z"⟩, 9), (⟨"ScreenVotes$Bylaw", "readText", "()V"⟩, 9), (⟨"ScreenVotes$Bylaw", "readRounds", "()Z"⟩, 9), (⟨"ScreenVotes$Bylaw", "readRound", "(I)Z"⟩, 9), (⟨"ScreenVotes$Bylaw", "readByte", "(I)Z"⟩, 9), (⟨"ScreenVotes$Bylaw", "readNumber", "(I)Z"⟩, 9), (⟨"ScreenVotes$Bylaw", "isFigure", "(I)Z"⟩, 9), (⟨"ScreenVotes$Bylaw", "readLetter", "(I)Z"⟩, 9), (⟨"ScreenVotes", "refusalOfRound", "(I)I"⟩, 9), (⟨"ScreenVotes$Contest", "tally", "(I)V"⟩, 5), (⟨"ScreenVotes$Contest", "whoPass", "(II)I"⟩, 5), (⟨"ScreenVotes$Contest", "whoAdvance", "(II)I"⟩, 5), (⟨"ScreenVotes$Contest", "withShare", "(III)I"⟩, 5), (⟨"ScreenVotes$Contest", "compareShares", "(II)I"⟩, 5), (⟨"ScreenVotes$Contest", "outOfTie", "(III)I"⟩, 5)]
theorem lw_r1 : ∀ q ∈ lw_privs_1, lw_okq q := List.forall_mem_cons.mpr ⟨lw_p0, List.forall_mem_cons.mpr ⟨lw_p1, List.forall_mem_cons.mpr ⟨lw_p2, List.forall_mem_cons.mpr ⟨lw_p3, List.forall_mem_cons.mpr ⟨lw_p4, List.forall_mem_cons.mpr ⟨lw_p5, List.forall_mem_cons.mpr ⟨lw_p6, List.forall_mem_cons.mpr ⟨lw_p7, List.forall_mem_cons.mpr ⟨lw_p8, List.forall_mem_cons.mpr ⟨lw_p9, List.forall_mem_cons.mpr ⟨lw_p10, List.forall_mem_cons.mpr ⟨lw_p11, List.forall_mem_cons.mpr ⟨lw_p12, List.forall_mem_cons.mpr ⟨lw_p13, List.forall_mem_cons.mpr ⟨lw_p14, List.forall_mem_cons.mpr ⟨lw_p15, fun _ h => absurd h List.not_mem_nil⟩⟩⟩⟩⟩⟩⟩⟩⟩⟩⟩⟩⟩⟩⟩⟩
theorem lw_p16 : lw_okq (⟨"ScreenVotes$Contest", "firstOf", "(IIZ)I"⟩, 5) := ⟨⟨by decide +kernel, by decide +kernel⟩, List.mem_of_getElem? (i := 127) (by decide +kernel), List.mem_of_getElem? (i := 409) (by decide +kernel), List.mem_of_getElem? (i := 410) (by decide +kernel)⟩
theorem lw_p17 : lw_okq (⟨"ScreenVotes$Contest", "ahead", "(IIZ)I"⟩, 5) := ⟨⟨by decide +kernel, by decide +kernel⟩, List.mem_of_getElem? (i := 127) (by decide +kernel), List.mem_of_getElem? (i := 413) (by decide +kernel), List.mem_of_getElem? (i := 414) (by decide +kernel)⟩
theorem lw_p18 : lw_okq (⟨"ScreenVotes$Contest", "isBefore", "(IIZ)Z"⟩, 5) := ⟨⟨by decide +kernel, by decide +kernel⟩, List.mem_of_getElem? (i := 127) (by decide +kernel), List.mem_of_getElem? (i := 417) (by decide +kernel), List.mem_of_getElem? (i := 418) (by decide +kernel)⟩
theorem lw_p19 : lw_okq (⟨"ScreenVotes$OtherRules", "winsAllPairs", "(I)Z"⟩, 2) := ⟨⟨by decide +kernel, by decide +kernel⟩, List.mem_of_getElem? (i := 149) (by decide +kernel), List.mem_of_getElem? (i := 443) (by decide +kernel), List.mem_of_getElem? (i := 444) (by decide +kernel)⟩
theorem lw_p20 : lw_okq (⟨"ScreenVotes$OtherRules", "yesInAll", "(I)I"⟩, 2) := ⟨⟨by decide +kernel, by decide +kernel⟩, List.mem_of_getElem? (i := 149) (by decide +kernel), List.mem_of_getElem? (i := 455) (by decide +kernel), List.mem_of_getElem? (i := 456) (by decide +kernel)⟩
theorem lw_p21 : lw_okq (⟨"ScreenVotes$OtherRules", "votesInAll", "(I)I"⟩, 2) := ⟨⟨by decide +kernel, by decide +kernel⟩, List.mem_of_getElem? (i := 149) (by decide +kernel), List.mem_of_getElem? (i := 464) (by decide +kernel), List.mem_of_getElem? (i := 465) (by decide +kernel)⟩
theorem lw_p22 : lw_okq (⟨"ScreenVotes", "isSkill", "(I)Z"⟩, 9) := ⟨⟨by decide +kernel, by decide +kernel⟩, List.mem_of_getElem? (i := 16) (by decide +kernel), List.mem_of_getElem? (i := 473) (by decide +kernel), List.mem_of_getElem? (i := 474) (by decide +kernel)⟩
theorem lw_p23 : lw_okq (⟨"ScreenVotes$Mornings", "fill", "(I)V"⟩, 3) := ⟨⟨by decide +kernel, by decide +kernel⟩, List.mem_of_getElem? (i := 162) (by decide +kernel), List.mem_of_getElem? (i := 521) (by decide +kernel), List.mem_of_getElem? (i := 522) (by decide +kernel)⟩
theorem lw_p24 : lw_okq (⟨"ScreenVotes", "isPlace", "(I)Z"⟩, 9) := ⟨⟨by decide +kernel, by decide +kernel⟩, List.mem_of_getElem? (i := 16) (by decide +kernel), List.mem_of_getElem? (i := 544) (by decide +kernel), List.mem_of_getElem? (i := 545) (by decide +kernel)⟩
theorem lw_p25 : lw_okq (⟨"ScreenVotes$Trials", "leadsAll", "(I)Z"⟩, 4) := ⟨⟨by decide +kernel, by decide +kernel⟩, List.mem_of_getElem? (i := 178) (by decide +kernel), List.mem_of_getElem? (i := 569) (by decide +kernel), List.mem_of_getElem? (i := 570) (by decide +kernel)⟩
theorem lw_p26 : lw_okq (⟨"ScreenVotesModel", "isPlayer", "(I)Z"⟩, 28) := ⟨⟨by decide +kernel, by decide +kernel⟩, List.mem_of_getElem? (i := 676) (by decide +kernel), List.mem_of_getElem? (i := 792) (by decide +kernel), List.mem_of_getElem? (i := 793) (by decide +kernel)⟩
theorem lw_p27 : lw_okq (⟨"ScreenVotesModel", "counted", "(II)I"⟩, 28) := ⟨⟨by decide +kernel, by decide +kernel⟩, List.mem_of_getElem? (i := 676) (by decide +kernel), List.mem_of_getElem? (i := 796) (by decide +kernel), List.mem_of_getElem? (i := 797) (by decide +kernel)⟩
theorem lw_p28 : lw_okq (⟨"ScreenVotesModel", "vote", "(III)I"⟩, 28) := ⟨⟨by decide +kernel, by decide +kernel⟩, List.mem_of_getElem? (i := 676) (by decide +kernel), List.mem_of_getElem? (i := 800) (by decide +kernel), List.mem_of_getElem? (i := 801) (by decide +kernel)⟩
theorem lw_p29 : lw_okq (⟨"ScreenVotesModel", "yes", "(II)I"⟩, 28) := ⟨⟨by decide +kernel, by decide +kernel⟩, List.mem_of_getElem? (i := 676) (by decide +kernel), List.mem_of_getElem? (i := 804) (by decide +kernel), List.mem_of_getElem? (i := 805) (by decide +kernel)⟩
theorem lw_p30 : lw_okq (⟨"ScreenVotesModel", "read", "()V"⟩, 28) := ⟨⟨by decide +kernel, by decide +kernel⟩, List.mem_of_getElem? (i := 676) (by decide +kernel), List.mem_of_getElem? (i := 820) (by decide +kernel), List.mem_of_getElem? (i := 821) (by decide +kernel)⟩
theorem lw_p31 : lw_okq (⟨"ScreenVotesModel", "expect", "(I)V"⟩, 28) := ⟨⟨by decide +kernel, by decide +kernel⟩, List.mem_of_getElem? (i := 676) (by decide +kernel), List.mem_of_getElem? (i := 824) (by decide +kernel), List.mem_of_getElem? (i := 825) (by decide +kernel)⟩
def lw_privs_2 : List (MethodName × Nat) := [(⟨"ScreenVotes$Contest", "firstOf", "(IIZ)I"⟩, 5), (⟨"ScreenVotes$Contest", "ahead", "(IIZ)I"⟩, 5), (⟨"ScreenVotes$Contest", "isBefore", "(IIZ)Z"⟩, 5), (⟨"ScreenVotes$OtherRules", "winsAllPairs", "(I)Z"⟩, 2), (⟨"ScreenVotes$OtherRules", "yesInAll", "(I)I"⟩, 2), (⟨"ScreenVotes$OtherRules", "votesInAll", "(I)I"⟩, 2), (⟨"ScreenVotes", "isSkill", "(I)Z"⟩, 9), (⟨"ScreenVotes$Mornings", "fill", "(I)V"⟩, 3), (⟨"ScreenVotes", "isPlace", "(I)Z"⟩, 9), (⟨"ScreenVotes$Trials", "leadsAll", "(I)Z"⟩, 4), (⟨"ScreenVotesModel", "isPlayer", "(I)Z"⟩, 28), (⟨"ScreenVotesModel", "counted", "(II)I"⟩, 28), (⟨"ScreenVotesModel", "vote", "(III)I"⟩, 28), (⟨"ScreenVotesModel", "yes", "(II)I"⟩, 28), (⟨"ScreenVotesModel", "read", "()V"⟩, 28), (⟨"ScreenVotesModel", "expect", "(I)V"⟩, 28)]
theorem lw_r2 : ∀ q ∈ lw_privs_2, lw_okq q := List.forall_mem_cons.mpr ⟨lw_p16, List.forall_mem_cons.mpr ⟨lw_p17, List.forall_mem_cons.mpr ⟨lw_p18, List.forall_mem_cons.mpr ⟨lw_p19, List.forall_mem_cons.mpr ⟨lw_p20, List.forall_mem_cons.mpr ⟨lw_p21, List.forall_mem_cons.mpr ⟨lw_p22, List.forall_mem_cons.mpr ⟨lw_p23, List.forall_mem_cons.mpr ⟨lw_p24, List.forall_mem_cons.mpr ⟨lw_p25, List.forall_mem_cons.mpr ⟨lw_p26, List.forall_mem_cons.mpr ⟨lw_p27, List.forall_mem_cons.mpr ⟨lw_p28, List.forall_mem_cons.mpr ⟨lw_p29, List.forall_mem_cons.mpr ⟨lw_p30, List.forall_mem_cons.mpr ⟨lw_p31, fun _ h => absurd h List.not_mem_nil⟩⟩⟩⟩⟩⟩⟩⟩⟩⟩⟩⟩⟩⟩⟩⟩
theorem lw_p32 : lw_okq (⟨"ScreenVotesModel", "byteAt", "(I)I"⟩, 28) := ⟨⟨by decide +kernel, by decide +kernel⟩, List.mem_of_getElem? (i := 676) (by decide +kernel), List.mem_of_getElem? (i := 828) (by decide +kernel), List.mem_of_getElem? (i := 829) (by decide +kernel)⟩
theorem lw_p33 : lw_okq (⟨"ScreenVotesModel", "number", "(I)I"⟩, 28) := ⟨⟨by decide +kernel, by decide +kernel⟩, List.mem_of_getElem? (i := 676) (by decide +kernel), List.mem_of_getElem? (i := 832) (by decide +kernel), List.mem_of_getElem? (i := 833) (by decide +kernel)⟩
theorem lw_p34 : lw_okq (⟨"ScreenVotesModel", "refuses", "(I)I"⟩, 28) := ⟨⟨by decide +kernel, by decide +kernel⟩, List.mem_of_getElem? (i := 676) (by decide +kernel), List.mem_of_getElem? (i := 840) (by decide +kernel), List.mem_of_getElem? (i := 841) (by decide +kernel)⟩
theorem lw_p35 : lw_okq (⟨"ScreenVotesModel", "out", "(I)I"⟩, 28) := ⟨⟨by decide +kernel, by decide +kernel⟩, List.mem_of_getElem? (i := 676) (by decide +kernel), List.mem_of_getElem? (i := 848) (by decide +kernel), List.mem_of_getElem? (i := 849) (by decide +kernel)⟩
theorem lw_p36 : lw_okq (⟨"ScreenVotesModel", "advances", "(II)I"⟩, 28) := ⟨⟨by decide +kernel, by decide +kernel⟩, List.mem_of_getElem? (i := 676) (by decide +kernel), List.mem_of_getElem? (i := 852) (by decide +kernel), List.mem_of_getElem? (i := 853) (by decide +kernel)⟩
theorem lw_p37 : lw_okq (⟨"ScreenVotesModel", "passesIn", "(II)Z"⟩, 28) := ⟨⟨by decide +kernel, by decide +kernel⟩, List.mem_of_getElem? (i := 676) (by decide +kernel), List.mem_of_getElem? (i := 856) (by decide +kernel), List.mem_of_getElem? (i := 857) (by decide +kernel)⟩
theorem lw_p38 : lw_okq (⟨"ScreenVotesModel", "dearer", "(III)I"⟩, 28) := ⟨⟨by decide +kernel, by decide +kernel⟩, List.mem_of_getElem? (i := 676) (by decide +kernel), List.mem_of_getElem? (i := 860) (by decide +kernel), List.mem_of_getElem? (i := 861) (by decide +kernel)⟩
theorem lw_p39 : lw_okq (⟨"ScreenVotesModel", "isAhead", "(III)Z"⟩, 28) := ⟨⟨by decide +kernel, by decide +kernel⟩, List.mem_of_getElem? (i := 676) (by decide +kernel), List.mem_of_getElem? (i := 864) (by decide +kernel), List.mem_of_getElem? (i := 865) (by decide +kernel)⟩
theorem lw_p40 : lw_okq (⟨"ScreenVotesModel", "yesSoFar", "(II)I"⟩, 28) := ⟨⟨by decide +kernel, by decide +kernel⟩, List.mem_of_getElem? (i := 676) (by decide +kernel), List.mem_of_getElem? (i := 868) (by decide +kernel), List.mem_of_getElem? (i := 869) (by decide +kernel)⟩
theorem lw_p41 : lw_okq (⟨"ScreenVotesModel", "placeOf", "(I)I"⟩, 28) := ⟨⟨by decide +kernel, by decide +kernel⟩, List.mem_of_getElem? (i := 676) (by decide +kernel), List.mem_of_getElem? (i := 872) (by decide +kernel), List.mem_of_getElem? (i := 873) (by decide +kernel)⟩
theorem lw_p42 : lw_okq (⟨"ScreenVotesModel", "chosenOne", "()I"⟩, 28) := ⟨⟨by decide +kernel, by decide +kernel⟩, List.mem_of_getElem? (i := 676) (by decide +kernel), List.mem_of_getElem? (i := 887) (by decide +kernel), List.mem_of_getElem? (i := 888) (by decide +kernel)⟩
theorem lw_p43 : lw_okq (⟨"ScreenVotesModel", "beatsAll", "(I)Z"⟩, 28) := ⟨⟨by decide +kernel, by decide +kernel⟩, List.mem_of_getElem? (i := 676) (by decide +kernel), List.mem_of_getElem? (i := 895) (by decide +kernel), List.mem_of_getElem? (i := 896) (by decide +kernel)⟩
theorem lw_p44 : lw_okq (⟨"ScreenVotesModel", "parts", "(II)I"⟩, 28) := ⟨⟨by decide +kernel, by decide +kernel⟩, List.mem_of_getElem? (i := 676) (by decide +kernel), List.mem_of_getElem? (i := 899) (by decide +kernel), List.mem_of_getElem? (i := 900) (by decide +kernel)⟩
theorem lw_p45 : lw_okq (⟨"ScreenVotesModel", "allVotes", "(IZ)I"⟩, 28) := ⟨⟨by decide +kernel, by decide +kernel⟩, List.mem_of_getElem? (i := 676) (by decide +kernel), List.mem_of_getElem? (i := 903) (by decide +kernel), List.mem_of_getElem? (i := 904) (by decide +kernel)⟩
theorem lw_p46 : lw_okq (⟨"ScreenVotesModel", "comes", "(II)I"⟩, 28) := ⟨⟨by decide +kernel, by decide +kernel⟩, List.mem_of_getElem? (i := 676) (by decide +kernel), List.mem_of_getElem? (i := 915) (by decide +kernel), List.mem_of_getElem? (i := 916) (by decide +kernel)⟩
theorem lw_p47 : lw_okq (⟨"ScreenVotesModel", "betterOf", "(II)I"⟩, 28) := ⟨⟨by decide +kernel, by decide +kernel⟩, List.mem_of_getElem? (i := 676) (by decide +kernel), List.mem_of_getElem? (i := 955) (by decide +kernel), List.mem_of_getElem? (i := 956) (by decide +kernel)⟩
def lw_privs_3 : List (MethodName × Nat) := [(⟨"ScreenVotesModel", "byteAt", "(I)I"⟩, 28), (⟨"ScreenVotesModel", "number", "(I)I"⟩, 28), (⟨"ScreenVotesModel", "refuses", "(I)I"⟩, 28), (⟨"ScreenVotesModel", "out", "(I)I"⟩, 28), (⟨"ScreenVotesModel", "advances", "(II)I"⟩, 28), (⟨"ScreenVotesModel", "passesIn", "(II)Z"⟩, 28), (⟨"ScreenVotesModel", "dearer", "(III)I"⟩, 28), (⟨"ScreenVotesModel", "isAhead", "(III)Z"⟩, 28), (⟨"ScreenVotesModel", "yesSoFar", "(II)I"⟩, 28), (⟨"ScreenVotesModel", "placeOf", "(I)I"⟩, 28), (⟨"ScreenVotesModel", "chosenOne", "()I"⟩, 28), (⟨"ScreenVotesModel", "beatsAll", "(I)Z"⟩, 28), (⟨"ScreenVotesModel", "parts", "(II)I"⟩, 28), (⟨"ScreenVotesModel", "allVotes", "(IZ)I"⟩, 28), (⟨"ScreenVotesModel", "comes", "(II)I"⟩, 28), (⟨"ScreenVotesModel", "betterOf", "(II)I"⟩, 28)]
theorem lw_r3 : ∀ q ∈ lw_privs_3, lw_okq q := List.forall_mem_cons.mpr ⟨lw_p32, List.forall_mem_cons.mpr ⟨lw_p33, List.forall_mem_cons.mpr ⟨lw_p34, List.forall_mem_cons.mpr ⟨lw_p35, List.forall_mem_cons.mpr ⟨lw_p36, List.forall_mem_cons.mpr ⟨lw_p37, List.forall_mem_cons.mpr ⟨lw_p38, List.forall_mem_cons.mpr ⟨lw_p39, List.forall_mem_cons.mpr ⟨lw_p40, List.forall_mem_cons.mpr ⟨lw_p41, List.forall_mem_cons.mpr ⟨lw_p42, List.forall_mem_cons.mpr ⟨lw_p43, List.forall_mem_cons.mpr ⟨lw_p44, List.forall_mem_cons.mpr ⟨lw_p45, List.forall_mem_cons.mpr ⟨lw_p46, List.forall_mem_cons.mpr ⟨lw_p47, fun _ h => absurd h List.not_mem_nil⟩⟩⟩⟩⟩⟩⟩⟩⟩⟩⟩⟩⟩⟩⟩⟩
theorem lw_p48 : lw_okq (⟨"ScreenVotesModel", "meets", "(I)I"⟩, 28) := ⟨⟨by decide +kernel, by decide +kernel⟩, List.mem_of_getElem? (i := 676) (by decide +kernel), List.mem_of_getElem? (i := 979) (by decide +kernel), List.mem_of_getElem? (i := 980) (by decide +kernel)⟩
theorem lw_p49 : lw_okq (⟨"ScreenVotesModel", "lacks", "(III)I"⟩, 28) := ⟨⟨by decide +kernel, by decide +kernel⟩, List.mem_of_getElem? (i := 676) (by decide +kernel), List.mem_of_getElem? (i := 991) (by decide +kernel), List.mem_of_getElem? (i := 992) (by decide +kernel)⟩
def lw_privs_4 : List (MethodName × Nat) := [(⟨"ScreenVotesModel", "meets", "(I)I"⟩, 28), (⟨"ScreenVotesModel", "lacks", "(III)I"⟩, 28)]
theorem lw_r4 : ∀ q ∈ lw_privs_4, lw_okq q := List.forall_mem_cons.mpr ⟨lw_p48, List.forall_mem_cons.mpr ⟨lw_p49, fun _ h => absurd h List.not_mem_nil⟩⟩
def lw_privs : List (MethodName × Nat) := lw_privs_1 ++ (lw_privs_2 ++ (lw_privs_3 ++ (lw_privs_4)))
def lw_tbl : List Cond := k2_sels lw_privs ++ tables_1
theorem lw_privs_ok : ∀ q ∈ lw_privs, lw_okq q := by
  show ∀ q ∈ lw_privs_1 ++ (lw_privs_2 ++ (lw_privs_3 ++ (lw_privs_4))), lw_okq q
  exact List.forall_mem_append.mpr ⟨lw_r1, List.forall_mem_append.mpr ⟨lw_r2, List.forall_mem_append.mpr ⟨lw_r3, lw_r4⟩⟩⟩
-- ===== end of PART A; then your names; then what follows =====
end
section
def RX0 : String := "ScreenVotes$Bylaw"
def TX0 : u_T := fun k => match k with
  | 0 => ("ScreenVotes$Bylaw", "text", "[I", true)
  | 1 => ("ScreenVotes$Bylaw", "hundredths", "[I", true)
  | 2 => ("ScreenVotes$Bylaw", "seats", "[I", true)
  | 3 => ("ScreenVotes$Bylaw", "letters", "[I", true)
  | 4 => ("ScreenVotes$Bylaw", "length", "I", false)
  | 5 => ("ScreenVotes$Bylaw", "rounds", "I", false)
  | 6 => ("ScreenVotes$Bylaw", "faultPlace", "I", false)
  | 7 => ("ScreenVotes$Bylaw", "cursor", "I", false)
  | _ => ("ScreenVotes$Bylaw", "number", "I", false)
def tyX0 : Nat → FieldType := fun k => match k with
  | 0 => .array .int
  | 1 => .array .int
  | 2 => .array .int
  | 3 => .array .int
  | 4 => .int
  | 5 => .int
  | 6 => .int
  | 7 => .int
  | _ => .int
abbrev wsX00 : List Cond := u_ws RX0 TX0 9
theorem nmX0 : ∀ a, a < 9 → ∀ b, b < 9 → a ≠ b → (TX0 a).2.1 ≠ (TX0 b).2.1 := by decide +kernel
theorem tyX0_ok : ∀ k, k < 9 → parseFieldDescriptor (TX0 k).2.2.1 = some (tyX0 k) := by decide +kernel
abbrev cX0_init : ByteArray := prog_2_method_1_code
def yX0_init : MethodName := ⟨RX0, "<init>", "()V"⟩
abbrev cX0_append : ByteArray := prog_2_method_2_code
def yX0_append : MethodName := ⟨RX0, "append", "(I)I"⟩
abbrev cX0_clear : ByteArray := prog_2_method_3_code
def yX0_clear : MethodName := ⟨RX0, "clear", "()I"⟩
abbrev cX0_readText : ByteArray := prog_2_method_4_code
def yX0_readText : MethodName := ⟨RX0, "readText", "()V"⟩
abbrev cX0_readRounds : ByteArray := prog_2_method_5_code
def yX0_readRounds : MethodName := ⟨RX0, "readRounds", "()Z"⟩
abbrev cX0_readRound : ByteArray := prog_2_method_6_code
def yX0_readRound : MethodName := ⟨RX0, "readRound", "(I)Z"⟩
abbrev cX0_readByte : ByteArray := prog_2_method_7_code
def yX0_readByte : MethodName := ⟨RX0, "readByte", "(I)Z"⟩
abbrev cX0_readLetter : ByteArray := prog_2_method_8_code
def yX0_readLetter : MethodName := ⟨RX0, "readLetter", "(I)Z"⟩
abbrev cX0_readNumber : ByteArray := prog_2_method_9_code
def yX0_readNumber : MethodName := ⟨RX0, "readNumber", "(I)Z"⟩
abbrev cX0_isFigure : ByteArray := prog_2_method_10_code
def yX0_isFigure : MethodName := ⟨RX0, "isFigure", "(I)Z"⟩
def RX1 : String := "ScreenVotes$Contest"
def TX1 : u_T := fun k => match k with
  | 0 => ("ScreenVotes$Contest", "panel", "LScreenVotes$Panel;", true)
  | 1 => ("ScreenVotes$Contest", "bylaw", "LScreenVotes$Bylaw;", true)
  | 2 => ("ScreenVotes$Contest", "votes", "[I", true)
  | 3 => ("ScreenVotes$Contest", "yes", "[I", true)
  | _ => ("ScreenVotes$Contest", "yesSoFar", "[I", true)
def tyX1 : Nat → FieldType := fun k => match k with
  | 0 => .object "ScreenVotes$Panel"
  | 1 => .object "ScreenVotes$Bylaw"
  | 2 => .array .int
  | 3 => .array .int
  | _ => .array .int
abbrev wsX10 : List Cond := u_ws RX1 TX1 5
theorem nmX1 : ∀ a, a < 5 → ∀ b, b < 5 → a ≠ b → (TX1 a).2.1 ≠ (TX1 b).2.1 := by decide +kernel
theorem tyX1_ok : ∀ k, k < 5 → parseFieldDescriptor (TX1 k).2.2.1 = some (tyX1 k) := by decide +kernel
abbrev cX1_init : ByteArray := prog_3_method_1_code
def yX1_init : MethodName := ⟨RX1, "<init>", "(LScreenVotes$Panel;LScreenVotes$Bylaw;)V"⟩
abbrev cX1_advancedOutOf : ByteArray := prog_3_method_2_code
def yX1_advancedOutOf : MethodName := ⟨RX1, "advancedOutOf", "(I)I"⟩
abbrev cX1_tally : ByteArray := prog_3_method_3_code
def yX1_tally : MethodName := ⟨RX1, "tally", "(I)V"⟩
abbrev cX1_whoPass : ByteArray := prog_3_method_4_code
def yX1_whoPass : MethodName := ⟨RX1, "whoPass", "(II)I"⟩
abbrev cX1_whoAdvance : ByteArray := prog_3_method_5_code
def yX1_whoAdvance : MethodName := ⟨RX1, "whoAdvance", "(II)I"⟩
abbrev cX1_withShare : ByteArray := prog_3_method_6_code
def yX1_withShare : MethodName := ⟨RX1, "withShare", "(III)I"⟩
abbrev cX1_compareShares : ByteArray := prog_3_method_7_code
def yX1_compareShares : MethodName := ⟨RX1, "compareShares", "(II)I"⟩
abbrev cX1_outOfTie : ByteArray := prog_3_method_8_code
def yX1_outOfTie : MethodName := ⟨RX1, "outOfTie", "(III)I"⟩
abbrev cX1_firstOf : ByteArray := prog_3_method_9_code
def yX1_firstOf : MethodName := ⟨RX1, "firstOf", "(IIZ)I"⟩
abbrev cX1_ahead : ByteArray := prog_3_method_10_code
def yX1_ahead : MethodName := ⟨RX1, "ahead", "(IIZ)I"⟩
abbrev cX1_isBefore : ByteArray := prog_3_method_11_code
def yX1_isBefore : MethodName := ⟨RX1, "isBefore", "(IIZ)Z"⟩
abbrev cX1_has : ByteArray := prog_3_method_12_code
def yX1_has : MethodName := ⟨RX1, "has", "(II)Z"⟩
def RX2 : String := "ScreenVotes$Heard"
def TX2 : u_T := fun k => match k with
  | 0 => ("ScreenVotes$Heard", "numbers", "[I", true)
  | 1 => ("ScreenVotes$Heard", "years", "[I", true)
  | 2 => ("ScreenVotes$Heard", "rounds", "[I", true)
  | _ => ("ScreenVotes$Heard", "kept", "I", false)
def tyX2 : Nat → FieldType := fun k => match k with
  | 0 => .array .int
  | 1 => .array .int
  | 2 => .array .int
  | _ => .int
abbrev wsX20 : List Cond := u_ws RX2 TX2 4
theorem nmX2 : ∀ a, a < 4 → ∀ b, b < 4 → a ≠ b → (TX2 a).2.1 ≠ (TX2 b).2.1 := by decide +kernel
theorem tyX2_ok : ∀ k, k < 4 → parseFieldDescriptor (TX2 k).2.2.1 = some (tyX2 k) := by decide +kernel
abbrev cX2_init : ByteArray := prog_4_method_1_code
def yX2_init : MethodName := ⟨RX2, "<init>", "()V"⟩
abbrev cX2_keep : ByteArray := prog_4_method_2_code
def yX2_keep : MethodName := ⟨RX2, "keep", "(III)I"⟩
abbrev cX2_howOften : ByteArray := prog_4_method_3_code
def yX2_howOften : MethodName := ⟨RX2, "howOften", "(I)I"⟩
abbrev cX2_greatest : ByteArray := prog_4_method_4_code
def yX2_greatest : MethodName := ⟨RX2, "greatest", "(I[I)I"⟩
def RX3 : String := "ScreenVotes$Mornings"
def TX3 : u_T := fun k => match k with
  | 0 => ("ScreenVotes$Mornings", "panel", "LScreenVotes$Panel;", true)
  | 1 => ("ScreenVotes$Mornings", "bylaw", "LScreenVotes$Bylaw;", true)
  | _ => ("ScreenVotes$Mornings", "table", "[I", true)
def tyX3 : Nat → FieldType := fun k => match k with
  | 0 => .object "ScreenVotes$Panel"
  | 1 => .object "ScreenVotes$Bylaw"
  | _ => .array .int
abbrev wsX30 : List Cond := u_ws RX3 TX3 3
theorem nmX3 : ∀ a, a < 3 → ∀ b, b < 3 → a ≠ b → (TX3 a).2.1 ≠ (TX3 b).2.1 := by decide +kernel
theorem tyX3_ok : ∀ k, k < 3 → parseFieldDescriptor (TX3 k).2.2.1 = some (tyX3 k) := by decide +kernel
abbrev cX3_init : ByteArray := prog_5_method_1_code
def yX3_init : MethodName := ⟨RX3, "<init>", "(LScreenVotes$Panel;LScreenVotes$Bylaw;)V"⟩
abbrev cX3_tell : ByteArray := prog_5_method_2_code
def yX3_tell : MethodName := ⟨RX3, "tell", "(II)I"⟩
abbrev cX3_fill : ByteArray := prog_5_method_3_code
def yX3_fill : MethodName := ⟨RX3, "fill", "(I)V"⟩
def RX4 : String := "ScreenVotes$Odds"
def TX4 : u_T := fun k => match k with
  | _ => ("", "", "", false)
def tyX4 : Nat → FieldType := fun k => match k with
  | _ => .int
abbrev wsX40 : List Cond := u_ws RX4 TX4 0
theorem nmX4 : ∀ a, a < 0 → ∀ b, b < 0 → a ≠ b → (TX4 a).2.1 ≠ (TX4 b).2.1 := by decide +kernel
theorem tyX4_ok : ∀ k, k < 0 → parseFieldDescriptor (TX4 k).2.2.1 = some (tyX4 k) := by decide +kernel
abbrev cX4_ofPassing : ByteArray := prog_6_method_2_code
def yX4_ofPassing : MethodName := ⟨RX4, "ofPassing", "(III)I"⟩
abbrev cX4_falseShare : ByteArray := prog_6_method_3_code
def yX4_falseShare : MethodName := ⟨RX4, "falseShare", "(IIII)I"⟩
abbrev cX4_isNotBelow : ByteArray := prog_6_method_4_code
def yX4_isNotBelow : MethodName := ⟨RX4, "isNotBelow", "(IIII)Z"⟩
abbrev cX4_millionths : ByteArray := prog_6_method_5_code
def yX4_millionths : MethodName := ⟨RX4, "millionths", "(JJ)I"⟩
abbrev cX4_choose : ByteArray := prog_6_method_6_code
def yX4_choose : MethodName := ⟨RX4, "choose", "(II)J"⟩
abbrev cX4_power : ByteArray := prog_6_method_7_code
def yX4_power : MethodName := ⟨RX4, "power", "(II)J"⟩
def RX5 : String := "ScreenVotes$OtherRules"
def TX5 : u_T := fun k => match k with
  | 0 => ("ScreenVotes$OtherRules", "panel", "LScreenVotes$Panel;", true)
  | _ => ("ScreenVotes$OtherRules", "bylaw", "LScreenVotes$Bylaw;", true)
def tyX5 : Nat → FieldType := fun k => match k with
  | 0 => .object "ScreenVotes$Panel"
  | _ => .object "ScreenVotes$Bylaw"
abbrev wsX50 : List Cond := u_ws RX5 TX5 2
theorem nmX5 : ∀ a, a < 2 → ∀ b, b < 2 → a ≠ b → (TX5 a).2.1 ≠ (TX5 b).2.1 := by decide +kernel
theorem tyX5_ok : ∀ k, k < 2 → parseFieldDescriptor (TX5 k).2.2.1 = some (tyX5 k) := by decide +kernel
abbrev cX5_init : ByteArray := prog_7_method_1_code
def yX5_init : MethodName := ⟨RX5, "<init>", "(LScreenVotes$Panel;LScreenVotes$Bylaw;)V"⟩
abbrev cX5_mostYes : ByteArray := prog_7_method_2_code
def yX5_mostYes : MethodName := ⟨RX5, "mostYes", "()I"⟩
abbrev cX5_greatestShare : ByteArray := prog_7_method_3_code
def yX5_greatestShare : MethodName := ⟨RX5, "greatestShare", "()I"⟩
abbrev cX5_winnerOfAllPairs : ByteArray := prog_7_method_4_code
def yX5_winnerOfAllPairs : MethodName := ⟨RX5, "winnerOfAllPairs", "()I"⟩
abbrev cX5_winsAllPairs : ByteArray := prog_7_method_5_code
def yX5_winsAllPairs : MethodName := ⟨RX5, "winsAllPairs", "(I)Z"⟩
abbrev cX5_yesInAll : ByteArray := prog_7_method_6_code
def yX5_yesInAll : MethodName := ⟨RX5, "yesInAll", "(I)I"⟩
abbrev cX5_votesInAll : ByteArray := prog_7_method_7_code
def yX5_votesInAll : MethodName := ⟨RX5, "votesInAll", "(I)I"⟩
def RX6 : String := "ScreenVotes$Panel"
def TX6 : u_T := fun k => match k with
  | 0 => ("ScreenVotes$Panel", "sheets", "LScreenVotes$Sheets;", true)
  | 1 => ("ScreenVotes$Panel", "kin", "[I", true)
  | 2 => ("ScreenVotes$Panel", "row", "[I", true)
  | 3 => ("ScreenVotes$Panel", "placeInRow", "[I", true)
  | 4 => ("ScreenVotes$Panel", "players", "I", false)
  | _ => ("ScreenVotes$Panel", "voting", "I", false)
def tyX6 : Nat → FieldType := fun k => match k with
  | 0 => .object "ScreenVotes$Sheets"
  | 1 => .array .int
  | 2 => .array .int
  | 3 => .array .int
  | 4 => .int
  | _ => .int
abbrev wsX60 : List Cond := u_ws RX6 TX6 6
theorem nmX6 : ∀ a, a < 6 → ∀ b, b < 6 → a ≠ b → (TX6 a).2.1 ≠ (TX6 b).2.1 := by decide +kernel
theorem tyX6_ok : ∀ k, k < 6 → parseFieldDescriptor (TX6 k).2.2.1 = some (tyX6 k) := by decide +kernel
abbrev cX6_init : ByteArray := prog_8_method_1_code
def yX6_init : MethodName := ⟨RX6, "<init>", "(LScreenVotes$Sheets;)V"⟩
abbrev cX6_addPlayer : ByteArray := prog_8_method_2_code
def yX6_addPlayer : MethodName := ⟨RX6, "addPlayer", "(I)I"⟩
abbrev cX6_shuffle : ByteArray := prog_8_method_3_code
def yX6_shuffle : MethodName := ⟨RX6, "shuffle", "(I)V"⟩
abbrev cX6_place : ByteArray := prog_8_method_4_code
def yX6_place : MethodName := ⟨RX6, "place", "(II)V"⟩
abbrev cX6_everyone : ByteArray := prog_8_method_5_code
def yX6_everyone : MethodName := ⟨RX6, "everyone", "()I"⟩
abbrev cX6_countingVote : ByteArray := prog_8_method_6_code
def yX6_countingVote : MethodName := ⟨RX6, "countingVote", "(III)I"⟩
abbrev cX6_countingVotes : ByteArray := prog_8_method_7_code
def yX6_countingVotes : MethodName := ⟨RX6, "countingVotes", "(II)I"⟩
abbrev cX6_yesVotes : ByteArray := prog_8_method_8_code
def yX6_yesVotes : MethodName := ⟨RX6, "yesVotes", "(II)I"⟩
abbrev cX6_jurorsOnPart : ByteArray := prog_8_method_9_code
def yX6_jurorsOnPart : MethodName := ⟨RX6, "jurorsOnPart", "(III)I"⟩
def RX7 : String := "ScreenVotes$Sheets"
def TX7 : u_T := fun k => match k with
  | 0 => ("ScreenVotes$Sheets", "items", "[[I", true)
  | 1 => ("ScreenVotes$Sheets", "forms", "[I", true)
  | 2 => ("ScreenVotes$Sheets", "sizes", "[I", true)
  | _ => ("ScreenVotes$Sheets", "latestFinding", "I", false)
def tyX7 : Nat → FieldType := fun k => match k with
  | 0 => .array (.array .int)
  | 1 => .array .int
  | 2 => .array .int
  | _ => .int
abbrev wsX70 : List Cond := u_ws RX7 TX7 4
theorem nmX7 : ∀ a, a < 4 → ∀ b, b < 4 → a ≠ b → (TX7 a).2.1 ≠ (TX7 b).2.1 := by decide +kernel
theorem tyX7_ok : ∀ k, k < 4 → parseFieldDescriptor (TX7 k).2.2.1 = some (tyX7 k) := by decide +kernel
abbrev cX7_init : ByteArray := prog_9_method_1_code
def yX7_init : MethodName := ⟨RX7, "<init>", "()V"⟩
abbrev cX7_isLost : ByteArray := prog_9_method_2_code
def yX7_isLost : MethodName := ⟨RX7, "isLost", "(I)Z"⟩
abbrev cX7_found : ByteArray := prog_9_method_3_code
def yX7_found : MethodName := ⟨RX7, "found", "(I)I"⟩
abbrev cX7_lay : ByteArray := prog_9_method_4_code
def yX7_lay : MethodName := ⟨RX7, "lay", "(III)I"⟩
abbrev cX7_drop : ByteArray := prog_9_method_5_code
def yX7_drop : MethodName := ⟨RX7, "drop", "(I)I"⟩
abbrev cX7_findingOfItem : ByteArray := prog_9_method_6_code
def yX7_findingOfItem : MethodName := ⟨RX7, "findingOfItem", "(III)I"⟩
abbrev cX7_findingOfSheets : ByteArray := prog_9_method_7_code
def yX7_findingOfSheets : MethodName := ⟨RX7, "findingOfSheets", "(II)I"⟩
abbrev cX7_hasSpan : ByteArray := prog_9_method_8_code
def yX7_hasSpan : MethodName := ⟨RX7, "hasSpan", "(III)Z"⟩
abbrev cX7_lowestBits : ByteArray := prog_9_method_9_code
def yX7_lowestBits : MethodName := ⟨RX7, "lowestBits", "(II)I"⟩
abbrev cX7_voteAt : ByteArray := prog_9_method_10_code
def yX7_voteAt : MethodName := ⟨RX7, "voteAt", "(II)I"⟩
def RX8 : String := "ScreenVotes$Trials"
def TX8 : u_T := fun k => match k with
  | 0 => ("ScreenVotes$Trials", "onTrial", "[I", true)
  | 1 => ("ScreenVotes$Trials", "weeks", "[I", true)
  | 2 => ("ScreenVotes$Trials", "marks", "[[I", true)
  | _ => ("ScreenVotes$Trials", "places", "I", false)
def tyX8 : Nat → FieldType := fun k => match k with
  | 0 => .array .int
  | 1 => .array .int
  | 2 => .array (.array .int)
  | _ => .int
abbrev wsX80 : List Cond := u_ws RX8 TX8 4
theorem nmX8 : ∀ a, a < 4 → ∀ b, b < 4 → a ≠ b → (TX8 a).2.1 ≠ (TX8 b).2.1 := by decide +kernel
theorem tyX8_ok : ∀ k, k < 4 → parseFieldDescriptor (TX8 k).2.2.1 = some (tyX8 k) := by decide +kernel
abbrev cX8_init : ByteArray := prog_10_method_1_code
def yX8_init : MethodName := ⟨RX8, "<init>", "()V"⟩
abbrev cX8_has : ByteArray := prog_10_method_2_code
def yX8_has : MethodName := ⟨RX8, "has", "(I)Z"⟩
abbrev cX8_open : ByteArray := prog_10_method_3_code
def yX8_open : MethodName := ⟨RX8, "open", "(I)I"⟩
abbrev cX8_addMark : ByteArray := prog_10_method_4_code
def yX8_addMark : MethodName := ⟨RX8, "addMark", "(II)I"⟩
abbrev cX8_lead : ByteArray := prog_10_method_5_code
def yX8_lead : MethodName := ⟨RX8, "lead", "(II)I"⟩
abbrev cX8_seated : ByteArray := prog_10_method_6_code
def yX8_seated : MethodName := ⟨RX8, "seated", "()I"⟩
abbrev cX8_leadsAll : ByteArray := prog_10_method_7_code
def yX8_leadsAll : MethodName := ⟨RX8, "leadsAll", "(I)Z"⟩
def RX9 : String := "ScreenVotes"
def TX9 : u_T := fun k => match k with
  | 0 => ("ScreenVotes", "sheets", "LScreenVotes$Sheets;", true)
  | 1 => ("ScreenVotes", "panel", "LScreenVotes$Panel;", true)
  | 2 => ("ScreenVotes", "bylaw", "LScreenVotes$Bylaw;", true)
  | 3 => ("ScreenVotes", "contest", "LScreenVotes$Contest;", true)
  | 4 => ("ScreenVotes", "otherRules", "LScreenVotes$OtherRules;", true)
  | 5 => ("ScreenVotes", "mornings", "LScreenVotes$Mornings;", true)
  | 6 => ("ScreenVotes", "trials", "LScreenVotes$Trials;", true)
  | 7 => ("ScreenVotes", "heard", "LScreenVotes$Heard;", true)
  | _ => ("ScreenVotes", "chances", "[I", true)
def tyX9 : Nat → FieldType := fun k => match k with
  | 0 => .object "ScreenVotes$Sheets"
  | 1 => .object "ScreenVotes$Panel"
  | 2 => .object "ScreenVotes$Bylaw"
  | 3 => .object "ScreenVotes$Contest"
  | 4 => .object "ScreenVotes$OtherRules"
  | 5 => .object "ScreenVotes$Mornings"
  | 6 => .object "ScreenVotes$Trials"
  | 7 => .object "ScreenVotes$Heard"
  | _ => .array .int
abbrev wsX90 : List Cond := u_ws RX9 TX9 9
theorem nmX9 : ∀ a, a < 9 → ∀ b, b < 9 → a ≠ b → (TX9 a).2.1 ≠ (TX9 b).2.1 := by decide +kernel
theorem tyX9_ok : ∀ k, k < 9 → parseFieldDescriptor (TX9 k).2.2.1 = some (tyX9 k) := by decide +kernel
abbrev cX9_init : ByteArray := prog_1_method_1_code
def yX9_init : MethodName := ⟨RX9, "<init>", "()V"⟩
abbrev cX9_player : ByteArray := prog_1_method_2_code
def yX9_player : MethodName := ⟨RX9, "player", "(I)I"⟩
abbrev cX9_jurors : ByteArray := prog_1_method_3_code
def yX9_jurors : MethodName := ⟨RX9, "jurors", "(I)I"⟩
abbrev cX9_draw : ByteArray := prog_1_method_4_code
def yX9_draw : MethodName := ⟨RX9, "draw", "(I)I"⟩
abbrev cX9_order : ByteArray := prog_1_method_5_code
def yX9_order : MethodName := ⟨RX9, "order", "(I)I"⟩
abbrev cX9_votes : ByteArray := prog_1_method_6_code
def yX9_votes : MethodName := ⟨RX9, "votes", "(III)I"⟩
abbrev cX9_type : ByteArray := prog_1_method_7_code
def yX9_type : MethodName := ⟨RX9, "type", "(I)I"⟩
abbrev cX9_repeal : ByteArray := prog_1_method_8_code
def yX9_repeal : MethodName := ⟨RX9, "repeal", "()I"⟩
abbrev cX9_fault : ByteArray := prog_1_method_9_code
def yX9_fault : MethodName := ⟨RX9, "fault", "()I"⟩
abbrev cX9_law : ByteArray := prog_1_method_10_code
def yX9_law : MethodName := ⟨RX9, "law", "(II)I"⟩
abbrev cX9_advance : ByteArray := prog_1_method_11_code
def yX9_advance : MethodName := ⟨RX9, "advance", "(I)I"⟩
abbrev cX9_through : ByteArray := prog_1_method_12_code
def yX9_through : MethodName := ⟨RX9, "through", "(I)I"⟩
abbrev cX9_chosen : ByteArray := prog_1_method_13_code
def yX9_chosen : MethodName := ⟨RX9, "chosen", "()I"⟩
abbrev cX9_other : ByteArray := prog_1_method_14_code
def yX9_other : MethodName := ⟨RX9, "other", "(I)I"⟩
abbrev cX9_chance : ByteArray := prog_1_method_15_code
def yX9_chance : MethodName := ⟨RX9, "chance", "(II)I"⟩
abbrev cX9_passes : ByteArray := prog_1_method_16_code
def yX9_passes : MethodName := ⟨RX9, "passes", "(II)I"⟩
abbrev cX9_all : ByteArray := prog_1_method_17_code
def yX9_all : MethodName := ⟨RX9, "all", "(I)I"⟩
abbrev cX9_doubt : ByteArray := prog_1_method_18_code
def yX9_doubt : MethodName := ⟨RX9, "doubt", "(IIII)I"⟩
abbrev cX9_morning : ByteArray := prog_1_method_19_code
def yX9_morning : MethodName := ⟨RX9, "morning", "(II)I"⟩
abbrev cX9_trial : ByteArray := prog_1_method_20_code
def yX9_trial : MethodName := ⟨RX9, "trial", "(I)I"⟩
abbrev cX9_week : ByteArray := prog_1_method_21_code
def yX9_week : MethodName := ⟨RX9, "week", "(II)I"⟩
abbrev cX9_better : ByteArray := prog_1_method_22_code
def yX9_better : MethodName := ⟨RX9, "better", "(II)I"⟩
abbrev cX9_seat : ByteArray := prog_1_method_23_code
def yX9_seat : MethodName := ⟨RX9, "seat", "()I"⟩
abbrev cX9_hear : ByteArray := prog_1_method_24_code
def yX9_hear : MethodName := ⟨RX9, "hear", "(III)I"⟩
abbrev cX9_known : ByteArray := prog_1_method_25_code
def yX9_known : MethodName := ⟨RX9, "known", "(II)I"⟩
abbrev cX9_sheet : ByteArray := prog_1_method_26_code
def yX9_sheet : MethodName := ⟨RX9, "sheet", "(III)I"⟩
abbrev cX9_lose : ByteArray := prog_1_method_27_code
def yX9_lose : MethodName := ⟨RX9, "lose", "(I)I"⟩
abbrev cX9_put : ByteArray := prog_1_method_28_code
def yX9_put : MethodName := ⟨RX9, "put", "(IIII)I"⟩
abbrev cX9_get : ByteArray := prog_1_method_29_code
def yX9_get : MethodName := ⟨RX9, "get", "(III)I"⟩
abbrev cX9_copy : ByteArray := prog_1_method_30_code
def yX9_copy : MethodName := ⟨RX9, "copy", "(IIIII)I"⟩
abbrev cX9_count : ByteArray := prog_1_method_31_code
def yX9_count : MethodName := ⟨RX9, "count", "(I)I"⟩
abbrev cX9_digest : ByteArray := prog_1_method_32_code
def yX9_digest : MethodName := ⟨RX9, "digest", "()J"⟩
abbrev cX9_within : ByteArray := prog_1_method_33_code
def yX9_within : MethodName := ⟨RX9, "within", "(III)Z"⟩
abbrev cX9_isRound : ByteArray := prog_1_method_34_code
def yX9_isRound : MethodName := ⟨RX9, "isRound", "(I)Z"⟩
abbrev cX9_isSheet : ByteArray := prog_1_method_35_code
def yX9_isSheet : MethodName := ⟨RX9, "isSheet", "(I)Z"⟩
abbrev cX9_isForm : ByteArray := prog_1_method_36_code
def yX9_isForm : MethodName := ⟨RX9, "isForm", "(I)Z"⟩
abbrev cX9_inTable : ByteArray := prog_1_method_37_code
def yX9_inTable : MethodName := ⟨RX9, "inTable", "(I)Z"⟩
abbrev cX9_isNumber : ByteArray := prog_1_method_38_code
def yX9_isNumber : MethodName := ⟨RX9, "isNumber", "(I)Z"⟩
abbrev cX9_isSkill : ByteArray := prog_1_method_39_code
def yX9_isSkill : MethodName := ⟨RX9, "isSkill", "(I)Z"⟩
abbrev cX9_isPlayer : ByteArray := prog_1_method_40_code
def yX9_isPlayer : MethodName := ⟨RX9, "isPlayer", "(I)Z"⟩
abbrev cX9_isPlace : ByteArray := prog_1_method_41_code
def yX9_isPlace : MethodName := ⟨RX9, "isPlace", "(I)Z"⟩
abbrev cX9_refusalOfRound : ByteArray := prog_1_method_42_code
def yX9_refusalOfRound : MethodName := ⟨RX9, "refusalOfRound", "(I)I"⟩
def RX10 : String := "ScreenVotesModel"
def TX10 : u_T := fun k => match k with
  | 0 => ("ScreenVotesModel", "players", "I", false)
  | 1 => ("ScreenVotesModel", "kin", "[I", true)
  | 2 => ("ScreenVotesModel", "line", "[I", true)
  | 3 => ("ScreenVotesModel", "jurors", "I", false)
  | 4 => ("ScreenVotesModel", "typed", "I", false)
  | 5 => ("ScreenVotesModel", "text", "[I", true)
  | 6 => ("ScreenVotesModel", "rounds", "I", false)
  | 7 => ("ScreenVotesModel", "shares", "[I", true)
  | 8 => ("ScreenVotesModel", "places", "[I", true)
  | 9 => ("ScreenVotesModel", "letters", "[I", true)
  | 10 => ("ScreenVotesModel", "at", "I", false)
  | 11 => ("ScreenVotesModel", "fault", "I", false)
  | 12 => ("ScreenVotesModel", "chances", "[I", true)
  | 13 => ("ScreenVotesModel", "half", "[I", true)
  | 14 => ("ScreenVotesModel", "trials", "I", false)
  | 15 => ("ScreenVotesModel", "tried", "[I", true)
  | 16 => ("ScreenVotesModel", "weeks", "[I", true)
  | 17 => ("ScreenVotesModel", "marks", "[I", true)
  | 18 => ("ScreenVotesModel", "heard", "I", false)
  | 19 => ("ScreenVotesModel", "numbers", "[I", true)
  | 20 => ("ScreenVotesModel", "years", "[I", true)
  | 21 => ("ScreenVotesModel", "reached", "[I", true)
  | 22 => ("ScreenVotesModel", "isThere", "[Z", true)
  | 23 => ("ScreenVotesModel", "forms", "[I", true)
  | 24 => ("ScreenVotesModel", "sizes", "[I", true)
  | 25 => ("ScreenVotesModel", "items", "[I", true)
  | 26 => ("ScreenVotesModel", "moved", "[I", true)
  | _ => ("ScreenVotesModel", "finding", "I", false)
def tyX10 : Nat → FieldType := fun k => match k with
  | 0 => .int
  | 1 => .array .int
  | 2 => .array .int
  | 3 => .int
  | 4 => .int
  | 5 => .array .int
  | 6 => .int
  | 7 => .array .int
  | 8 => .array .int
  | 9 => .array .int
  | 10 => .int
  | 11 => .int
  | 12 => .array .int
  | 13 => .array .int
  | 14 => .int
  | 15 => .array .int
  | 16 => .array .int
  | 17 => .array .int
  | 18 => .int
  | 19 => .array .int
  | 20 => .array .int
  | 21 => .array .int
  | 22 => .array .boolean
  | 23 => .array .int
  | 24 => .array .int
  | 25 => .array .int
  | 26 => .array .int
  | _ => .int
abbrev wsX100 : List Cond := u_ws RX10 TX10 28
theorem nmX10 : ∀ a, a < 28 → ∀ b, b < 28 → a ≠ b → (TX10 a).2.1 ≠ (TX10 b).2.1 := by decide +kernel
theorem tyX10_ok : ∀ k, k < 28 → parseFieldDescriptor (TX10 k).2.2.1 = some (tyX10 k) := by decide +kernel
abbrev cX10_init : ByteArray := prog_12_method_1_code
def yX10_init : MethodName := ⟨RX10, "<init>", "()V"⟩
abbrev cX10_in : ByteArray := prog_12_method_3_code
def yX10_in : MethodName := ⟨RX10, "in", "(III)Z"⟩
abbrev cX10_isPlayer : ByteArray := prog_12_method_4_code
def yX10_isPlayer : MethodName := ⟨RX10, "isPlayer", "(I)Z"⟩
abbrev cX10_player : ByteArray := prog_12_method_5_code
def yX10_player : MethodName := ⟨RX10, "player", "(I)I"⟩
abbrev cX10_jurors : ByteArray := prog_12_method_6_code
def yX10_jurors : MethodName := ⟨RX10, "jurors", "(I)I"⟩
abbrev cX10_draw : ByteArray := prog_12_method_7_code
def yX10_draw : MethodName := ⟨RX10, "draw", "(I)I"⟩
abbrev cX10_order : ByteArray := prog_12_method_8_code
def yX10_order : MethodName := ⟨RX10, "order", "(I)I"⟩
abbrev cX10_vote : ByteArray := prog_12_method_9_code
def yX10_vote : MethodName := ⟨RX10, "vote", "(III)I"⟩
abbrev cX10_counted : ByteArray := prog_12_method_10_code
def yX10_counted : MethodName := ⟨RX10, "counted", "(II)I"⟩
abbrev cX10_yes : ByteArray := prog_12_method_11_code
def yX10_yes : MethodName := ⟨RX10, "yes", "(II)I"⟩
abbrev cX10_votes : ByteArray := prog_12_method_12_code
def yX10_votes : MethodName := ⟨RX10, "votes", "(III)I"⟩
abbrev cX10_type : ByteArray := prog_12_method_13_code
def yX10_type : MethodName := ⟨RX10, "type", "(I)I"⟩
abbrev cX10_repeal : ByteArray := prog_12_method_14_code
def yX10_repeal : MethodName := ⟨RX10, "repeal", "()I"⟩
abbrev cX10_byteAt : ByteArray := prog_12_method_15_code
def yX10_byteAt : MethodName := ⟨RX10, "byteAt", "(I)I"⟩
abbrev cX10_expect : ByteArray := prog_12_method_16_code
def yX10_expect : MethodName := ⟨RX10, "expect", "(I)V"⟩
abbrev cX10_number : ByteArray := prog_12_method_17_code
def yX10_number : MethodName := ⟨RX10, "number", "(I)I"⟩
abbrev cX10_read : ByteArray := prog_12_method_18_code
def yX10_read : MethodName := ⟨RX10, "read", "()V"⟩
abbrev cX10_fault : ByteArray := prog_12_method_19_code
def yX10_fault : MethodName := ⟨RX10, "fault", "()I"⟩
abbrev cX10_refuses : ByteArray := prog_12_method_20_code
def yX10_refuses : MethodName := ⟨RX10, "refuses", "(I)I"⟩
abbrev cX10_law : ByteArray := prog_12_method_21_code
def yX10_law : MethodName := ⟨RX10, "law", "(II)I"⟩
abbrev cX10_dearer : ByteArray := prog_12_method_22_code
def yX10_dearer : MethodName := ⟨RX10, "dearer", "(III)I"⟩
abbrev cX10_yesSoFar : ByteArray := prog_12_method_23_code
def yX10_yesSoFar : MethodName := ⟨RX10, "yesSoFar", "(II)I"⟩
abbrev cX10_placeOf : ByteArray := prog_12_method_24_code
def yX10_placeOf : MethodName := ⟨RX10, "placeOf", "(I)I"⟩
abbrev cX10_isAhead : ByteArray := prog_12_method_25_code
def yX10_isAhead : MethodName := ⟨RX10, "isAhead", "(III)Z"⟩
abbrev cX10_passesIn : ByteArray := prog_12_method_26_code
def yX10_passesIn : MethodName := ⟨RX10, "passesIn", "(II)Z"⟩
abbrev cX10_advances : ByteArray := prog_12_method_27_code
def yX10_advances : MethodName := ⟨RX10, "advances", "(II)I"⟩
abbrev cX10_out : ByteArray := prog_12_method_28_code
def yX10_out : MethodName := ⟨RX10, "out", "(I)I"⟩
abbrev cX10_ones : ByteArray := prog_12_method_29_code
def yX10_ones : MethodName := ⟨RX10, "ones", "(I)I"⟩
abbrev cX10_advance : ByteArray := prog_12_method_30_code
def yX10_advance : MethodName := ⟨RX10, "advance", "(I)I"⟩
abbrev cX10_through : ByteArray := prog_12_method_31_code
def yX10_through : MethodName := ⟨RX10, "through", "(I)I"⟩
abbrev cX10_chosenOne : ByteArray := prog_12_method_32_code
def yX10_chosenOne : MethodName := ⟨RX10, "chosenOne", "()I"⟩
abbrev cX10_chosen : ByteArray := prog_12_method_33_code
def yX10_chosen : MethodName := ⟨RX10, "chosen", "()I"⟩
abbrev cX10_allVotes : ByteArray := prog_12_method_34_code
def yX10_allVotes : MethodName := ⟨RX10, "allVotes", "(IZ)I"⟩
abbrev cX10_parts : ByteArray := prog_12_method_35_code
def yX10_parts : MethodName := ⟨RX10, "parts", "(II)I"⟩
abbrev cX10_beatsAll : ByteArray := prog_12_method_36_code
def yX10_beatsAll : MethodName := ⟨RX10, "beatsAll", "(I)Z"⟩
abbrev cX10_other : ByteArray := prog_12_method_37_code
def yX10_other : MethodName := ⟨RX10, "other", "(I)I"⟩
abbrev cX10_chance : ByteArray := prog_12_method_38_code
def yX10_chance : MethodName := ⟨RX10, "chance", "(II)I"⟩
abbrev cX10_choose : ByteArray := prog_12_method_39_code
def yX10_choose : MethodName := ⟨RX10, "choose", "(II)J"⟩
abbrev cX10_toThe : ByteArray := prog_12_method_40_code
def yX10_toThe : MethodName := ⟨RX10, "toThe", "(JI)J"⟩
abbrev cX10_comes : ByteArray := prog_12_method_41_code
def yX10_comes : MethodName := ⟨RX10, "comes", "(II)I"⟩
abbrev cX10_passes : ByteArray := prog_12_method_42_code
def yX10_passes : MethodName := ⟨RX10, "passes", "(II)I"⟩
abbrev cX10_all : ByteArray := prog_12_method_43_code
def yX10_all : MethodName := ⟨RX10, "all", "(I)I"⟩
abbrev cX10_falseShare : ByteArray := prog_12_method_44_code
def yX10_falseShare : MethodName := ⟨RX10, "falseShare", "(IIII)I"⟩
abbrev cX10_doubt : ByteArray := prog_12_method_45_code
def yX10_doubt : MethodName := ⟨RX10, "doubt", "(IIII)I"⟩
abbrev cX10_morning : ByteArray := prog_12_method_46_code
def yX10_morning : MethodName := ⟨RX10, "morning", "(II)I"⟩
abbrev cX10_trial : ByteArray := prog_12_method_47_code
def yX10_trial : MethodName := ⟨RX10, "trial", "(I)I"⟩
abbrev cX10_week : ByteArray := prog_12_method_48_code
def yX10_week : MethodName := ⟨RX10, "week", "(II)I"⟩
abbrev cX10_betterOf : ByteArray := prog_12_method_49_code
def yX10_betterOf : MethodName := ⟨RX10, "betterOf", "(II)I"⟩
abbrev cX10_better : ByteArray := prog_12_method_50_code
def yX10_better : MethodName := ⟨RX10, "better", "(II)I"⟩
abbrev cX10_seat : ByteArray := prog_12_method_51_code
def yX10_seat : MethodName := ⟨RX10, "seat", "()I"⟩
abbrev cX10_hear : ByteArray := prog_12_method_52_code
def yX10_hear : MethodName := ⟨RX10, "hear", "(III)I"⟩
abbrev cX10_known : ByteArray := prog_12_method_53_code
def yX10_known : MethodName := ⟨RX10, "known", "(II)I"⟩
abbrev cX10_meets : ByteArray := prog_12_method_54_code
def yX10_meets : MethodName := ⟨RX10, "meets", "(I)I"⟩
abbrev cX10_isSheet : ByteArray := prog_12_method_55_code
def yX10_isSheet : MethodName := ⟨RX10, "isSheet", "(I)Z"⟩
abbrev cX10_sheet : ByteArray := prog_12_method_56_code
def yX10_sheet : MethodName := ⟨RX10, "sheet", "(III)I"⟩
abbrev cX10_lose : ByteArray := prog_12_method_57_code
def yX10_lose : MethodName := ⟨RX10, "lose", "(I)I"⟩
abbrev cX10_lacks : ByteArray := prog_12_method_58_code
def yX10_lacks : MethodName := ⟨RX10, "lacks", "(III)I"⟩
abbrev cX10_put : ByteArray := prog_12_method_59_code
def yX10_put : MethodName := ⟨RX10, "put", "(IIII)I"⟩
abbrev cX10_get : ByteArray := prog_12_method_60_code
def yX10_get : MethodName := ⟨RX10, "get", "(III)I"⟩
abbrev cX10_copy : ByteArray := prog_12_method_61_code
def yX10_copy : MethodName := ⟨RX10, "copy", "(IIIII)I"⟩
abbrev cX10_count : ByteArray := prog_12_method_62_code
def yX10_count : MethodName := ⟨RX10, "count", "(I)I"⟩
abbrev cX10_digest : ByteArray := prog_12_method_63_code
def yX10_digest : MethodName := ⟨RX10, "digest", "()J"⟩
def RJ6 : String := "java/lang/Integer"
def TJ6 : u_T := fun k => match k with
  | _ => ("", "", "", false)
def tyJ6 : Nat → FieldType := fun k => match k with
  | _ => .int
abbrev wsJ60 : List Cond := u_ws RJ6 TJ6 0
theorem nmJ6 : ∀ a, a < 0 → ∀ b, b < 0 → a ≠ b → (TJ6 a).2.1 ≠ (TJ6 b).2.1 := by decide +kernel
theorem tyJ6_ok : ∀ k, k < 0 → parseFieldDescriptor (TJ6 k).2.2.1 = some (tyJ6 k) := by decide +kernel
abbrev cJ6_compare_7cf53 : ByteArray := prog_13_method_40_code
def yJ6_compare_7cf53 : MethodName := ⟨RJ6, "compare", "(II)I"⟩
abbrev cJ6_bitCount_0f7a4 : ByteArray := prog_13_method_49_code
def yJ6_bitCount_0f7a4 : MethodName := ⟨RJ6, "bitCount", "(I)I"⟩
def RJ9 : String := "java/lang/Math"
def TJ9 : u_T := fun k => match k with
  | _ => ("", "", "", false)
def tyJ9 : Nat → FieldType := fun k => match k with
  | _ => .int
abbrev wsJ90 : List Cond := u_ws RJ9 TJ9 0
theorem nmJ9 : ∀ a, a < 0 → ∀ b, b < 0 → a ≠ b → (TJ9 a).2.1 ≠ (TJ9 b).2.1 := by decide +kernel
theorem tyJ9_ok : ∀ k, k < 0 → parseFieldDescriptor (TJ9 k).2.2.1 = some (tyJ9 k) := by decide +kernel
abbrev cJ9_max_7cf53 : ByteArray := prog_14_method_65_code
def yJ9_max_7cf53 : MethodName := ⟨RJ9, "max", "(II)I"⟩
def RJ10 : String := "java/lang/System"
def TJ10 : u_T := fun k => match k with
  | _ => ("", "", "", false)
def tyJ10 : Nat → FieldType := fun k => match k with
  | _ => .int
abbrev wsJ100 : List Cond := u_ws RJ10 TJ10 0
theorem nmJ10 : ∀ a, a < 0 → ∀ b, b < 0 → a ≠ b → (TJ10 a).2.1 ≠ (TJ10 b).2.1 := by decide +kernel
theorem tyJ10_ok : ∀ k, k < 0 → parseFieldDescriptor (TJ10 k).2.2.1 = some (tyJ10 k) := by decide +kernel
def RL : String := "ScreenVotesLaw"
abbrev cL_law : ByteArray := code
def yL_law : MethodName := ⟨RL, "law", "([I)Z"⟩
abbrev vwCl : List vw_C := [(RX0, TX0, 9), (RX1, TX1, 5), (RX2, TX2, 4), (RX3, TX3, 3), (RX5, TX5, 2), (RX6, TX6, 6), (RX7, TX7, 4), (RX8, TX8, 4), (RX9, TX9, 9), (RX10, TX10, 28)]
end
section
/-! ===== the words that every method may use; the nest words ride in the world ===== -/
def sv_GT : List Cond := lw_tbl.filter goodWord
theorem sv_mem {w : Cond} (i : Nat) (h : lw_tbl[i]? = some w) (hg : goodWord w = true) : w ∈ sv_GT := List.mem_filter.mpr ⟨List.mem_of_getElem? h, hg⟩
/-- the nest links of fields: they aren't among the good words -/
def sv_isN (w : Cond) : Bool := match w with
  | .fieldLinkNest _ _ _ _ _ _ => true
  | _ => false
def sv_NW : List Cond := lw_tbl.filter sv_isN
theorem sv_memN {w : Cond} (i : Nat) (h : lw_tbl[i]? = some w) (hg : sv_isN w = true) : w ∈ sv_NW := List.mem_filter.mpr ⟨List.mem_of_getElem? h, hg⟩
def sv_Nw (U : State) : Prop := ∀ w ∈ sv_NW, va_Nw w U
theorem sv_Nw.warm {s U : State} (hW : s.WarmedH U.vm) (h : sv_Nw s) : sv_Nw U := by
  intro w hw
  have h1 := h w hw
  have h2 := (List.mem_filter.mp hw).2
  cases w <;> first | (exact va_Nw.warmF hW h1) | (exact absurd h2 (by decide)) | (simp [sv_isN] at h2)
theorem sv_Nw.same {u U : State} (hv : u.vm = U.vm) (h : sv_Nw u) : sv_Nw U := by
  intro w hw
  have h1 := h w hw
  have h2 := (List.mem_filter.mp hw).2
  cases w <;> first | (exact va_Nw.same rfl hv h1) | (exact absurd h2 (by decide)) | (simp [sv_isN] at h2)
/-! ===== the memory: ints by place and index; what is at a place is fixed ===== -/
abbrev sv_Mem : Type := Nat → Nat → Int32
/-- what stands at a place: an object (its class's number, its slots: none an int, some r the place r), or an array (kind: 0 int, 1 boolean, 2 rows; length; a grid's first row's place) -/
abbrev sv_D : Type := (Nat × List (Option Nat)) ⊕ (Nat × Nat × Nat)
abbrev sv_G : Type := va_G × (Nat → Nat) × ClassId × ClassId × ClassId
def sv_up (μ : sv_Mem) (a i : Nat) (x : Int32) : sv_Mem := fun b => if b = a then upd (μ b) i x else μ b
def sv_st (μ : sv_Mem) (a : Nat) (f : Nat → Int32) : sv_Mem := fun b => if b = a then f else μ b
theorem sv_up_st (μ : sv_Mem) (a i : Nat) (x : Int32) : sv_up μ a i x = sv_st μ a (upd (μ a) i x) := by
  funext b
  unfold sv_up sv_st
  by_cases h : b = a
  · subst h; simp
  · simp [h]
def sv_fl (ad : Nat → Nat) (f : Nat → Int32) : Nat → List (Option Nat) → List Value
  | _, [] => []
  | j, none :: t => .int (f j) :: sv_fl ad f (j + 1) t
  | j, some r :: t => .ref (ad r) :: sv_fl ad f (j + 1) t
def sv_ce (g : sv_G) (f : Nat → Int32) (d : sv_D) : va_E := match d with
  | .inl o => .inr (o.1, sv_fl g.2.1 f 0 o.2)
  | .inr (0, n, _) => .inl (g.2.2.1, n, .inl f)
  | .inr (1, n, _) => .inl (g.2.2.2.1, n, .inl f)
  | .inr (_, n, r) => .inl (g.2.2.2.2, n, .inr (.inr (.inr (.inr (fun i => if i < n then some (g.2.1 (r + i)) else none)))))
def sv_wl (g : sv_G) (μ : sv_Mem) : Nat → List sv_D → va_W
  | _, [] => []
  | k, d :: t => (g.2.1 k, sv_ce g (μ k) d) :: sv_wl g μ (k + 1) t
theorem sv_wl_get (g : sv_G) (μ : sv_Mem) : ∀ (L : List sv_D) (b k : Nat), (sv_wl g μ b L)[k]? = (L[k]?).map (fun d => (g.2.1 (b + k), sv_ce g (μ (b + k)) d))
  | [], b, k => by simp [sv_wl]
  | d :: t, b, 0 => by simp [sv_wl]
  | d :: t, b, k + 1 => by
    simp only [sv_wl, List.getElem?_cons_succ]
    rw [sv_wl_get g μ t (b + 1) k]
    simp only [show b + 1 + k = b + (k + 1) by omega]
theorem sv_fl_get (ad : Nat → Nat) (f : Nat → Int32) : ∀ (L : List (Option Nat)) (j k : Nat), (sv_fl ad f j L)[k]? = (L[k]?).map (fun o => match o with | none => .int (f (j + k)) | some r => .ref (ad r))
  | [], j, k => by simp [sv_fl]
  | none :: t, j, 0 => by simp [sv_fl]
  | some r :: t, j, 0 => by simp [sv_fl]
  | none :: t, j, k + 1 => by
    simp only [sv_fl, List.getElem?_cons_succ]
    rw [sv_fl_get ad f t (j + 1) k]
    simp only [show j + 1 + k = j + (k + 1) by omega]
  | some r :: t, j, k + 1 => by
    simp only [sv_fl, List.getElem?_cons_succ]
    rw [sv_fl_get ad f t (j + 1) k]
    simp only [show j + 1 + k = j + (k + 1) by omega]
theorem sv_fl_len (ad : Nat → Nat) (f : Nat → Int32) : ∀ (L : List (Option Nat)) (j : Nat), (sv_fl ad f j L).length = L.length
  | [], j => rfl
  | none :: t, j => by simp [sv_fl, sv_fl_len ad f t]
  | some r :: t, j => by simp [sv_fl, sv_fl_len ad f t]
theorem sv_fl_set (ad : Nat → Nat) (f : Nat → Int32) (L : List (Option Nat)) (k : Nat) (x : Int32) (h : L[k]? = some none) : (sv_fl ad f 0 L).set k (.int x) = sv_fl ad (upd f k x) 0 L := by
  apply List.ext_getElem?
  intro i
  have hl : k < L.length := (List.getElem?_eq_some_iff.mp h).1
  by_cases e : i = k
  · subst e
    rw [List.getElem?_set_self (by rw [sv_fl_len]; exact hl), sv_fl_get, h]
    simp [upd]
  · rw [List.getElem?_set_ne (Ne.symm e), sv_fl_get, sv_fl_get]
    cases L[i]? with
    | none => rfl
    | some o => cases o <;> simp [upd, e]
/-- the places -/
def sv_LT : List sv_D := [
  .inl (8, [some 1, some 9, some 13, some 18, some 22, some 23, some 25, some 35, some 39]),
  .inl (6, [some 2, some 7, some 8, none]), .inr (2, 4, 3), .inr (0, 240, 0), .inr (0, 240, 0), .inr (0, 240, 0), .inr (0, 240, 0), .inr (0, 4, 0), .inr (0, 4, 0),
  .inl (5, [some 1, some 10, some 11, some 12, none, none]), .inr (0, 24, 0), .inr (0, 24, 0), .inr (0, 24, 0),
  .inl (0, [some 14, some 15, some 16, some 17, none, none, none, none, none]), .inr (0, 60, 0), .inr (0, 4, 0), .inr (0, 4, 0), .inr (0, 4, 0),
  .inl (1, [some 9, some 13, some 19, some 20, some 21]), .inr (0, 24, 0), .inr (0, 24, 0), .inr (0, 24, 0),
  .inl (4, [some 9, some 13]),
  .inl (3, [some 9, some 13, some 24]), .inr (0, 4, 0),
  .inl (7, [some 26, some 27, some 28, none]), .inr (0, 6, 0), .inr (0, 6, 0), .inr (2, 6, 29), .inr (0, 10, 0), .inr (0, 10, 0), .inr (0, 10, 0), .inr (0, 10, 0), .inr (0, 10, 0), .inr (0, 10, 0),
  .inl (2, [some 36, some 37, some 38, none]), .inr (0, 60, 0), .inr (0, 60, 0), .inr (0, 60, 0),
  .inr (0, 5, 0),
  .inl (9, [none, some 41, some 42, none, none, some 43, none, some 44, some 45, some 46, none, none, some 47, some 48, none, some 49, some 50, some 51, none, some 52, some 53, some 54, some 55, some 56, some 57, some 58, some 59, none]),
  .inr (0, 24, 0), .inr (0, 24, 0), .inr (0, 60, 0), .inr (0, 4, 0), .inr (0, 4, 0), .inr (0, 4, 0), .inr (0, 5, 0), .inr (0, 4, 0), .inr (0, 6, 0), .inr (0, 6, 0), .inr (0, 60, 0), .inr (0, 60, 0), .inr (0, 60, 0), .inr (0, 60, 0), .inr (1, 4, 0), .inr (0, 4, 0), .inr (0, 4, 0), .inr (0, 960, 0), .inr (0, 240, 0)]
def sv_ws (g : sv_G) (μ : sv_Mem) : va_W := sv_wl g μ 0 sv_LT
theorem sv_ws_get (g : sv_G) (μ : sv_Mem) {k : Nat} {d : sv_D} (h : sv_LT[k]? = some d) : (sv_ws g μ)[k]? = some (g.2.1 k, sv_ce g (μ k) d) := by
  unfold sv_ws
  rw [sv_wl_get, h]
  simp
theorem sv_ws_set (g : sv_G) (μ : sv_Mem) {k : Nat} {d : sv_D} (h : sv_LT[k]? = some d) (f : Nat → Int32) : (sv_ws g μ).set k (g.2.1 k, sv_ce g f d) = sv_ws g (sv_st μ k f) := by
  apply List.ext_getElem?
  intro i
  unfold sv_ws
  by_cases e : i = k
  · subst e
    have hl : i < (sv_wl g μ 0 sv_LT).length := by
      have h1 : (sv_wl g μ 0 sv_LT)[i]? = some (g.2.1 i, sv_ce g (μ i) d) := sv_ws_get g μ h
      exact (List.getElem?_eq_some_iff.mp h1).1
    rw [List.getElem?_set_self hl, sv_wl_get, h]
    simp [sv_st]
  · rw [List.getElem?_set_ne (Ne.symm e), sv_wl_get, sv_wl_get]
    simp [sv_st, e]
/-! ===== values, locals ===== -/
abbrev sv_L : Type := List (Nat × Value)
def sv_tr (ad : Nat → Nat) (v : Value) : Value := match v with
  | .ref k => .ref (ad k)
  | v => v
theorem sv_tr_cat (ad : Nat → Nat) (v : Value) : (sv_tr ad v).category = v.category := by cases v <;> rfl
def sv_tl (ad : Nat → Nat) (lv : sv_L) : sv_L := lv.map (fun q => (q.1, sv_tr ad q.2))
def sv_get : sv_L → Nat → Option Value
  | [], _ => none
  | q :: t, i => bif Nat.beq q.1 i then some q.2 else sv_get t i
theorem sv_get_mem : ∀ {lv : sv_L} {i : Nat} {v : Value}, sv_get lv i = some v → (i, v) ∈ lv
  | [], i, v, h => by simp [sv_get] at h
  | q :: t, i, v, h => by
    unfold sv_get at h
    cases hb : Nat.beq q.1 i with
    | true =>
      rw [hb] at h
      have h1 : q.1 = i := Nat.eq_of_beq_eq_true hb
      have h2 : q.2 = v := Option.some.inj h
      rw [← h1, ← h2]
      exact List.mem_cons_self
    | false =>
      rw [hb] at h
      exact List.mem_cons_of_mem _ (sv_get_mem h)
theorem sv_ld {ls : Array Slot} {nL : Nat} {ad : Nat → Nat} {lv : sv_L} {i : Nat} {v : Value} (h : lv_has ls nL (sv_tl ad lv)) (hg : sv_get lv i = some v) : ls[i]? = some (.val (sv_tr ad v)) :=
  h.2.2 (i, sv_tr ad v) (List.mem_map.mpr ⟨(i, v), sv_get_mem hg, rfl⟩)
/-- may q stay when a value of category c is put at i -/
def sv_ok (i c : Nat) (q : Nat × Value) : Bool := !(Nat.beq q.1 i) && (!(Nat.beq q.1 (i + 1) && Nat.beq c 2) && !(Nat.beq (q.1 + 1) i && Nat.beq q.2.category 2))
def sv_set (i c : Nat) (v : Value) : sv_L → sv_L
  | [] => [(i, v)]
  | q :: t => bif Nat.beq q.1 i then (i, v) :: t.filter (sv_ok i c) else bif sv_ok i c q then q :: sv_set i c v t else sv_set i c v t
theorem sv_set_mem {i c : Nat} {v : Value} : ∀ {lv : sv_L} {q : Nat × Value}, q ∈ sv_set i c v lv → q = (i, v) ∨ (q ∈ lv ∧ sv_ok i c q = true)
  | [], q, h => by
    simp [sv_set] at h
    exact Or.inl h
  | r :: t, q, h => by
    unfold sv_set at h
    cases hb : Nat.beq r.1 i with
    | true =>
      rw [hb] at h
      rcases List.mem_cons.mp h with h | h
      · exact Or.inl h
      · have h2 := List.mem_filter.mp h
        exact Or.inr ⟨List.mem_cons_of_mem _ h2.1, h2.2⟩
    | false =>
      rw [hb] at h
      cases ho : sv_ok i c r with
      | true =>
        rw [ho] at h
        rcases List.mem_cons.mp h with h | h
        · exact Or.inr ⟨by rw [h]; exact List.mem_cons_self, by rw [h]; exact ho⟩
        · rcases sv_set_mem h with h | h
          · exact Or.inl h
          · exact Or.inr ⟨List.mem_cons_of_mem _ h.1, h.2⟩
      | false =>
        rw [ho] at h
        rcases sv_set_mem h with h | h
        · exact Or.inl h
        · exact Or.inr ⟨List.mem_cons_of_mem _ h.1, h.2⟩
theorem sv_bf {a b : Nat} (h : Nat.beq a b = false) : ¬ a = b := fun e => by
  rw [e] at h
  simp at h
theorem sv_ok_spec {i c : Nat} {q : Nat × Value} (h : sv_ok i c q = true) : ¬ q.1 = i ∧ (c = 2 → ¬ q.1 = i + 1) ∧ (q.1 + 1 = i → ¬ q.2.category = 2) := by
  unfold sv_ok at h
  cases h1 : Nat.beq q.1 i with
  | true => rw [h1] at h; simp at h
  | false =>
    refine ⟨sv_bf h1, fun hc e => ?_, fun e hc => ?_⟩
    · rw [e, hc] at h
      simp at h
    · rw [e, hc] at h
      simp at h
theorem sv_tl_set1 {ls : Array Slot} {nL : Nat} {ad : Nat → Nat} {lv : sv_L} {i : Nat} {v : Value} (h : lv_has ls nL ((i, sv_tr ad v) :: (sv_tl ad lv).filter (fun q => !(q.1 == i) && !(q.1 + 1 == i && q.2.category == 2)))) : lv_has ls nL (sv_tl ad (sv_set i 1 v lv)) := by
  refine ⟨h.1, h.2.1, fun q hq => ?_⟩
  obtain ⟨r, hr, rfl⟩ := List.mem_map.mp hq
  rcases sv_set_mem hr with e | ⟨hm, ho⟩
  · subst e
    exact h.2.2 _ List.mem_cons_self
  · refine h.2.2 _ (List.mem_cons_of_mem _ (List.mem_filter.mpr ⟨List.mem_map.mpr ⟨r, hm, rfl⟩, ?_⟩))
    obtain ⟨h1, -, h3⟩ := sv_ok_spec ho
    by_cases e : r.1 + 1 = i
    · have h4 := h3 e
      simp [sv_tr_cat, h1, h4]
    · simp [h1, e]
theorem sv_tl_set2 {ls : Array Slot} {nL : Nat} {ad : Nat → Nat} {lv : sv_L} {i : Nat} {v : Value} (h : lv_has ls nL ((i, sv_tr ad v) :: (sv_tl ad lv).filter (fun q => !(q.1 == i) && (!(q.1 == i + 1) && !(q.1 + 1 == i && q.2.category == 2))))) : lv_has ls nL (sv_tl ad (sv_set i 2 v lv)) := by
  refine ⟨h.1, h.2.1, fun q hq => ?_⟩
  obtain ⟨r, hr, rfl⟩ := List.mem_map.mp hq
  rcases sv_set_mem hr with e | ⟨hm, ho⟩
  · subst e
    exact h.2.2 _ List.mem_cons_self
  · refine h.2.2 _ (List.mem_cons_of_mem _ (List.mem_filter.mpr ⟨List.mem_map.mpr ⟨r, hm, rfl⟩, ?_⟩))
    obtain ⟨h1, h2, h3⟩ := sv_ok_spec ho
    have h2 := h2 rfl
    by_cases e : r.1 + 1 = i
    · have h4 := h3 e
      simp [sv_tr_cat, h1, h2, h4]
    · simp [h1, h2, e]
theorem sv_has_sub {ls : Array Slot} {nL : Nat} {ad : Nat → Nat} {lv lv' : sv_L} (h : lv_has ls nL (sv_tl ad lv)) (hs : ∀ q ∈ lv', q ∈ lv) : lv_has ls nL (sv_tl ad lv') := by
  refine ⟨h.1, h.2.1, fun q hq => ?_⟩
  obtain ⟨r, hr, rfl⟩ := List.mem_map.mp hq
  exact h.2.2 _ (List.mem_map.mpr ⟨r, hs r hr, rfl⟩)
end
section
/-! ===== methods, worlds, the judgement wp ===== -/
/-- name, code, locals, what it returns, frames and locals of its room -/
abbrev sv_M : Type := MethodName × ByteArray × Nat × Option FieldType × Nat × Nat
def sv_tys (g : sv_G) : List (ClassId × FieldType) := [(g.2.2.1, .int), (g.2.2.2.1, .boolean), (g.2.2.2.2, .array .int)]
def sv_rt (M : sv_M) (pc : Nat) (v : Value) : Prop := match v with
  | .int x => decode M.2.1 pc = .ok (.ireturn, 1) ∧ ∃ ty, M.2.2.2.1 = some ty ∧ narrow ty (.int x) = .int x
  | .long _ => decode M.2.1 pc = .ok (.lreturn, 1) ∧ M.2.2.2.1 = some .long
  | .null => decode M.2.1 pc = .ok (.return_, 1) ∧ M.2.2.2.1 = none
  | _ => False
def sv_ro (v : Value) : Option Value := match v with
  | .null => none
  | v => some v
def sv_Wd (g : sv_G) (A : Nat → Prop) (s : State) (H : Heap) (locs : List Loc) (μ : sv_Mem) : Prop := va_P g.1 vwCl (sv_ws g μ) H ∧ va_D A (sv_ws g μ) ∧ va_S A s.heap H locs
def sv_Cx (M : sv_M) (l : Launch) (p : Program) (e : Env) (R : Room) (s : State) (m : MethodId) (args : Array Value) (below : List Frame) (meth : Method) (c : Code) (cells slots : Nat) (Z : State → Prop) (A : Nat → Prop) (g : sv_G) (Q : Value → sv_Mem → Prop) : Prop :=
  p.tables.exec = Jvm.exec ∧ c.code = M.2.1 ∧ c.maxLocals = M.2.2.1 ∧ s.vm.findClass M.1.cls = some m.cls ∧ (∀ w ∈ sv_GT, w.before args s = true) ∧ sv_Nw s ∧ (M.2.2.2.2.1 ≤ R.frames ∧ M.2.2.2.2.2 ≤ R.locals) ∧ va_K g.1 vwCl (sv_tys g) s ∧ (∀ q : Nat, s.heap.size ≤ q → A q) ∧ (cells ≤ R.cells ∧ slots ≤ R.slots) ∧
  (∀ (v : Value) (μ' : sv_Mem) (H' : Heap) (locs' : List Loc) (pc' : Nat) (ls' : Array Slot), sv_rt M pc' v → Q v μ' → sv_Wd g A s H' locs' μ' → W p l e R s m args below meth c H' locs' cells slots Z (F0 m pc' ls' (sv_ro v).toList))
def wp (M : sv_M) (pc : Nat) (lv : sv_L) (st : List Value) (μ : sv_Mem) (Q : Value → sv_Mem → Prop) : Prop :=
  ∀ (l : Launch) (p : Program) (e : Env) (R : Room) (s : State) (m : MethodId) (args : Array Value) (below : List Frame) (meth : Method) (c : Code) (cells slots : Nat) (Z : State → Prop) (A : Nat → Prop) (g : sv_G), sv_Cx M l p e R s m args below meth c cells slots Z A g Q →
    ∀ (H : Heap) (locs : List Loc) (ls : Array Slot), sv_Wd g A s H locs μ → lv_has ls M.2.2.1 (sv_tl g.2.1 lv) → W p l e R s m args below meth c H locs cells slots Z (F0 m pc ls (st.map (sv_tr g.2.1)))
theorem wp_mono {M : sv_M} {pc : Nat} {lv : sv_L} {st : List Value} {μ : sv_Mem} {Q Q' : Value → sv_Mem → Prop} (h : wp M pc lv st μ Q) (hq : ∀ v μ', Q v μ' → Q' v μ') : wp M pc lv st μ Q' := by
  intro l p e R s m args below meth c cells slots Z A g C H locs ls hW hl
  obtain ⟨c1, c2, c3, c4, c5, c6, c7, c8, c9, c10, RH⟩ := C
  exact h l p e R s m args below meth c cells slots Z A g ⟨c1, c2, c3, c4, c5, c6, c7, c8, c9, c10, fun v μ' H' locs' pc' ls' a1 a2 a3 => RH v μ' H' locs' pc' ls' a1 (hq v μ' a2) a3⟩ H locs ls hW hl
theorem wp_sub {M : sv_M} {pc : Nat} {lv lv' : sv_L} {st : List Value} {μ : sv_Mem} {Q : Value → sv_Mem → Prop} (h : wp M pc lv' st μ Q) (hs : ∀ q ∈ lv', q ∈ lv) : wp M pc lv st μ Q :=
  fun l p e R s m args below meth c cells slots Z A g C H locs ls hW hl => h l p e R s m args below meth c cells slots Z A g C H locs ls hW (sv_has_sub hl hs)
/-! ===== a method's contract out of wp at its entry ===== -/
def sv_wd (M : sv_M) : List Cond := Cond.code M.1 M.2.1 M.2.2.1 M.2.2.2.1 :: sv_GT
def sv_rm (M : sv_M) : Room := { frames := M.2.2.2.2.1, cells := 0, slots := 0, locals := M.2.2.2.2.2 }
def sv_B (g : sv_G) (μ : sv_Mem) (sz : Nat) (U : State) : Prop := U.heap.size = sz ∧ va_P g.1 vwCl (sv_ws g μ) U.heap ∧ va_K g.1 vwCl (sv_tys g) U ∧ va_D (fun _ => True) (sv_ws g μ) ∧ sv_Nw U
def sv_Qc (g : sv_G) (A : Nat → Prop) (Q : Value → sv_Mem → Prop) : Array Value → State → Outcome → State → Prop := fun _ st oc t =>
  (∃ (v : Value) (μ' : sv_Mem), oc = .returned (sv_ro v) ∧ Q v μ' ∧ va_P g.1 vwCl (sv_ws g μ') t.heap ∧ va_K g.1 vwCl (sv_tys g) t ∧ va_D A (sv_ws g μ')) ∧ va_F A st t
def sv_wn : List Value → Nat
  | [] => 0
  | v :: t => v.category + sv_wn t
theorem sv_wn_map (ad : Nat → Nat) : ∀ (vs : List Value), (lg_sl (vs.map (sv_tr ad))).length = sv_wn vs
  | [] => rfl
  | v :: t => by
    have ih := sv_wn_map ad t
    unfold lg_sl at ih ⊢
    rw [List.map_cons, List.flatMap_cons, List.length_append, ih, sv_tr_cat]
    rcases lv_cat v with h | h <;> simp [h, sv_wn]
theorem sv_wn_sum (ad : Nat → Nat) : ∀ (vs : List Value), ((vs.map (sv_tr ad)).map fun v => v.category).sum = sv_wn vs
  | [] => rfl
  | v :: t => by
    have ih := sv_wn_sum ad t
    simp only [List.map_cons, List.sum_cons, sv_tr_cat, sv_wn]
    rw [ih]
theorem sv_args_tl (ad : Nat → Nat) : ∀ (vs : List Value) (i : Nat), lv_args i (vs.map (sv_tr ad)) = sv_tl ad (lv_args i vs)
  | [], i => rfl
  | v :: t, i => by
    simp only [List.map_cons, lv_args, sv_tr_cat]
    rw [sv_args_tl ad t]
    rfl
theorem sv_met {l : Launch} {g : sv_G} {M : sv_M} {as : List Value} {μ : sv_Mem} {Q : Value → sv_Mem → Prop} (hwp : wp M 0 (lv_args 0 as) [] μ Q) (hn : plainName M.1.cls = true) (hwn : sv_wn as ≤ M.2.2.1) (sz : Nat) :
    Met l M.1 (sv_wd M) (sv_rm M) (va_Pc (as.map (sv_tr g.2.1)) (sv_B g μ sz)) (sv_Qc g (va_A (sv_ws g μ) sz) Q) 0 0 (va_A (sv_ws g μ) sz) := by
  refine Met.ofW (cc := M.2.1) (maxL := M.2.2.1) (ret := M.2.2.2.1) hn rfl ?_
  intro p e s m args below meth c s₁ B hml hv
  obtain ⟨rfl, hsz, hP, hK, hD0, hN⟩ := hv
  have hx := B.exec
  have hb := B.bytes
  have hr := B.returns
  have hts := atoms_spec (ws := sv_wd M) B.pre
  have hown : s.vm.findClass M.1.cls = some m.cls := findClass_of_methodNamed B.named
  have hlocks := B.notSynchronized
  subst hsz
  have hD := hD0.self (sz := s.heap.size)
  generalize hAe : va_A (sv_ws g μ) s.heap.size = A at hD ⊢
  have hA : ∀ q : Nat, s.heap.size ≤ q → A q := fun q h => by rw [← hAe]; exact Or.inr h
  have hS : va_S A s.heap s.heap [] := va_S.rf
  have hl := lv_entry (as.map (sv_tr g.2.1)) (n := M.2.2.1) (by rw [sv_wn_map]; exact hwn)
  rw [lg_entry_eq]
  generalize (lg_sl (as.map (sv_tr g.2.1)) ++ List.replicate (M.2.2.1 - (lg_sl (as.map (sv_tr g.2.1))).length) Slot.unset).toArray = ls at hl ⊢
  rw [sv_args_tl] at hl
  refine hwp l p e _ s m _ below meth c 0 0 _ A g ⟨hx, hb, hml, hown, fun w h => hts w (List.mem_cons_of_mem _ h), hN, ⟨Nat.le_refl _, Nat.le_refl _⟩, hK, hA, ⟨Nat.zero_le _, Nat.zero_le _⟩, ?_⟩ _ _ ls ⟨hP, hD, hS⟩ hl
  intro v μ' H' locs' pc' ls' hrt hq hWd
  obtain ⟨hP', hD', hS'⟩ := hWd
  have fin : ∀ t : State, t.heap = H' → s.WarmedH t.vm → sv_Qc g A Q (as.map (sv_tr g.2.1)).toArray s (.returned (sv_ro v)) t := fun t ht hW => ⟨⟨v, μ', rfl, hq, by rw [ht]; exact hP', va_K.moved hW.alike hK, hD'⟩, hS'.F ht⟩
  cases v with
  | int x =>
    obtain ⟨h1, ty, h2, h3⟩ := hrt
    exact W.zret hx hb (hr.trans h2) h3 fin hS'.2.2 h1
  | long x =>
    obtain ⟨h1, h2⟩ := hrt
    exact W.lret hx hb (hr.trans h2) fin hS'.2.2 h1
  | null =>
    obtain ⟨h1, h2⟩ := hrt
    exact W.vret hx hb (hr.trans h2) fin hS'.2.2 h1
  | _ => exact hrt.elim
/-! ===== behind a call ===== -/
section SVC
variable {p : Program} {l : Launch} {e : Env} {R : Room} {s : State} {m : MethodId} {args : Array Value} {below : List Frame} {meth : Method} {c : Code} {H : Heap} {locs : List Loc} {cells slots : Nat} {Z : State → Prop}
theorem sv_call {g : sv_G} {A A1 : Nat → Prop} {Q : Value → sv_Mem → Prop} {a : Array Value} {pc : Nat} {ls : Array Slot} {st0 rest : List Value}
    (hr : va_Run p l e R s m args below meth c H locs cells slots 0 0 (F0 m pc ls st0) rest (sv_Qc g A1 Q a) A1) (hS : va_S A s.heap H locs) (hF : ∀ q, A1 q → A q)
    (kk : ∀ (v : Value) (μ' : sv_Mem) (H1 : Heap) (locs1 : List Loc), Q v μ' → sv_Wd g A s H1 locs1 μ' → W p l e R s m args below meth c H1 locs1 cells slots Z (F0 m (pc + 3) ls ((sv_ro v).toList ++ rest))) : W p l e R s m args below meth c H locs cells slots Z (F0 m pc ls st0) := by
  intro T hT X
  obtain ⟨w, st₀, t, T', L, h0, X', hL, e1, e2, ⟨⟨v, μ', hv, hq, hP, hK, hD⟩, hz, hk⟩, st⟩ := hr T hT X
  cases hv
  rw [h0] at hz hk
  obtain ⟨t2, a1, b1⟩ := kk v μ' T'.heap (locs ++ L) hq ⟨by rw [e1]; exact hP, hD.weaken (fun _ q _ h => hF q.1 h), ⟨Nat.le_trans hS.1 (by rw [e1]; exact hz), fun q h1 h2 => by rw [e1, hk q (Nat.lt_of_lt_of_le h1 hS.1) (fun z => h2 (hF q z))]; exact hS.2.1 q h1 h2, fun q hq => by
      rcases List.mem_append.mp hq with h | h
      · exact hS.2.2 q h
      · exact hF _ (hL q h)⟩⟩ T' rfl X'
  exact ⟨t2, st t2 a1, b1⟩
theorem sv_free {g : sv_G} {A : Nat → Prop} {μ : sv_Mem} (hD : va_D A (sv_ws g μ)) (hS : va_S A s.heap H locs) (hA : ∀ q, s.heap.size ≤ q → A q) : ∀ q, va_A (sv_ws g μ) H.size q → A q := by
  intro q h
  rcases h with ⟨k, e, h⟩ | h
  · exact hD.2 k (q, e) h
  · exact hA q (Nat.le_trans hS.1 h)
theorem sv_blind {g : sv_G} {μ : sv_Mem} {sz : Nat} {as : List Value} : FrameBlind (va_Pc as (sv_B g μ sz)) :=
  fun a U gg mk q => ⟨q.1, q.2.1, q.2.2.1, va_K.moved (u := U) (U := U.calling gg mk a) (Vm.Alike.refl U.vm) q.2.2.2.1, q.2.2.2.2.1, sv_Nw.same (u := U) (U := U.calling gg mk a) rfl q.2.2.2.2.2⟩
theorem sv_pre {g : sv_G} {A : Nat → Prop} {μ : sv_Mem} {as : List Value} (hP : va_P g.1 vwCl (sv_ws g μ) H) (hK : va_K g.1 vwCl (sv_tys g) s) (hD : va_D A (sv_ws g μ)) (hN : sv_Nw s) : ∀ U : State, U.heap = H → s.WarmedH U.vm → va_Pc as (sv_B g μ H.size) as.toArray U :=
  fun U hU hW => ⟨rfl, by rw [hU], by rw [hU]; exact hP, va_K.moved hW.alike hK, hD.weaken (fun _ _ _ _ => trivial), hN.warm hW⟩
end SVC
theorem sv_good {w : Cond} (h : w ∈ sv_GT) : w ∈ sv_GT ∧ ((w.onTables && w.keeps) = true ∨ ∃ ty, w = .arrayClass ty) := ⟨h, good_of_word (List.mem_filter.mp h).2⟩
theorem sv_goodM {M : sv_M} (h : Cond.code M.1 M.2.1 M.2.2.1 M.2.2.2.1 ∈ sv_GT) : GoodIn sv_GT (sv_wd M) := fun w hw => by
  rcases List.mem_cons.mp hw with h1 | h1
  · rw [h1]; exact sv_good h
  · exact sv_good h1
/-- what is asked once of a method that is called: its words -/
def sv_cal (M : sv_M) (n : Nat) : Prop := plainName M.1.cls = true ∧ Cond.code M.1 M.2.1 M.2.2.1 M.2.2.2.1 ∈ sv_GT ∧ Cond.initialized M.1.cls ∈ sv_GT ∧ (M.1.cls ≠ "java/lang/invoke/MethodHandle" ∧ M.1.cls ≠ "java/lang/invoke/VarHandle") ∧ (parseMethodDescriptor M.1.desc).map (fun d => d.parameters.length) = some n
theorem sv_goodS {M : sv_M} {own : String} {idx n : Nat} (h : sv_cal M n) (h1 : Cond.methodLink own idx M.1 ∈ sv_GT) (h2 : Cond.static M.1 ∈ sv_GT) : GoodIn sv_GT (va_wsS own idx M.1 (sv_wd M)) := fun w hw => by
  rcases List.mem_append.mp hw with hw | hw
  · simp only [List.mem_cons, List.not_mem_nil, or_false] at hw
    rcases hw with rfl | rfl | rfl
    · exact sv_good h1
    · exact sv_good h2
    · exact sv_good h.2.2.1
  · exact sv_goodM h.2.1 w hw
theorem sv_goodV {M : sv_M} {own : String} {idx n : Nat} (h : sv_cal M n) (h1 : Cond.methodLink own idx M.1 ∈ sv_GT) (h2 : Cond.instanceMethod M.1 ∈ sv_GT) (h3 : Cond.selects M.1.cls M.1 M.1 ∈ sv_GT) : GoodIn sv_GT (wsV own idx M.1.cls M.1 (sv_wd M)) := fun w hw => by
  rcases List.mem_append.mp hw with hw | hw
  · simp only [List.mem_cons, List.not_mem_nil, or_false] at hw
    rcases hw with rfl | rfl | rfl | rfl
    · exact sv_good h1
    · exact sv_good h2
    · exact sv_good h3
    · exact sv_good h.2.2.1
  · exact sv_goodM h.2.1 w hw
/-- room for a call -/
def sv_fit (M : sv_M) (R : Room) : Prop := M.2.2.2.2.1 + 1 ≤ R.frames ∧ 8 + (M.2.2.1 + 11) + M.2.2.2.2.2 ≤ R.locals
section SVR
variable {p : Program} {l : Launch} {e : Env} {R : Room} {s : State} {m : MethodId} {args : Array Value} {below : List Frame} {meth : Method} {c : Code} {H : Heap} {locs : List Loc} {cells slots : Nat} {Z : State → Prop}
/-- a static call, at the machine -/
theorem sv_runS {own : String} {cc : ByteArray} {nL idx n pc : Nat} {ls : Array Slot} {M : sv_M} {as rest : List Value} {g : sv_G} {A : Nat → Prop} {μ : sv_Mem} {Q : Value → sv_Mem → Prop} {st0 : List Value}
    (F : CallFix p m c cc nL s args sv_GT own) (hc : sv_cal M n) (h1 : Cond.methodLink own idx M.1 ∈ sv_GT) (h2 : Cond.static M.1 ∈ sv_GT) (hR : sv_fit M R) (hcs : cells ≤ R.cells ∧ slots ≤ R.slots) (hK : va_K g.1 vwCl (sv_tys g) s) (hN : sv_Nw s) (hA : ∀ q, s.heap.size ≤ q → A q) (hW : sv_Wd g A s H locs μ)
    (hls : ls.size = nL) (hn : as.length = n) (hst : st0 = (as.map (sv_tr g.2.1)).reverse ++ rest) (hrm : (rest.map fun v => v.category).sum ≤ 8) (hw : sv_wn as ≤ M.2.2.1) (hd : decode cc pc = .ok (.invokestatic idx, 3)) (hwp : wp M 0 (lv_args 0 as) [] μ Q)
    (kk : ∀ (v : Value) (μ' : sv_Mem) (H1 : Heap) (locs1 : List Loc), Q v μ' → sv_Wd g A s H1 locs1 μ' → W p l e R s m args below meth c H1 locs1 cells slots Z (F0 m (pc + 3) ls ((sv_ro v).toList ++ rest))) : W p l e R s m args below meth c H locs cells slots Z (F0 m pc ls st0) := by
  obtain ⟨hP, hD, hS⟩ := hW
  exact sv_call (va_runS F (sv_met (l := l) (g := g) hwp hc.1 hw H.size) (va_cwS n F.2.2.2.2 (sv_goodS hc h1 h2) rfl rfl rfl ⟨hc.2.2.2.1.1, hc.2.2.2.1.2, hc.2.2.2.2⟩ hR) ⟨sv_blind, sv_pre hP hK hD hN⟩ rfl (by rw [List.length_map]; exact hn) hls hst (lv_room hrm) hd hcs) hS (sv_free hD hS hA) kk
/-- a virtual call, at the machine -/
theorem sv_runV {own : String} {cc : ByteArray} {nL idx n pc : Nat} {ls : Array Slot} {M : sv_M} {as rest : List Value} {g : sv_G} {A : Nat → Prop} {μ : sv_Mem} {Q : Value → sv_Mem → Prop} {st0 : List Value} {r ci : Nat} {sl : List (Option Nat)} {q : vw_C}
    (F : CallFix p m c cc nL s args sv_GT own) (hc : sv_cal M n) (h1 : Cond.methodLink own idx M.1 ∈ sv_GT) (h2 : Cond.instanceMethod M.1 ∈ sv_GT) (h3 : Cond.selects M.1.cls M.1 M.1 ∈ sv_GT) (hR : sv_fit M R) (hcs : cells ≤ R.cells ∧ slots ≤ R.slots) (hK : va_K g.1 vwCl (sv_tys g) s) (hN : sv_Nw s) (hA : ∀ q, s.heap.size ≤ q → A q) (hW : sv_Wd g A s H locs μ)
    (hr : sv_LT[r]? = some (.inl (ci, sl))) (hq : vwCl[ci]? = some q) (hqc : q.1 = M.1.cls) (hls : ls.size = nL) (hn : as.length = n) (hst : st0 = (as.map (sv_tr g.2.1)).reverse ++ .ref (g.2.1 r) :: rest) (hrm : (rest.map fun v => v.category).sum ≤ 8) (hw : sv_wn (.ref r :: as) ≤ M.2.2.1) (hd : decode cc pc = .ok (.invokevirtual idx, 3)) (hwp : wp M 0 (lv_args 0 (.ref r :: as)) [] μ Q)
    (kk : ∀ (v : Value) (μ' : sv_Mem) (H1 : Heap) (locs1 : List Loc), Q v μ' → sv_Wd g A s H1 locs1 μ' → W p l e R s m args below meth c H1 locs1 cells slots Z (F0 m (pc + 3) ls ((sv_ro v).toList ++ rest))) : W p l e R s m args below meth c H locs cells slots Z (F0 m pc ls st0) := by
  obtain ⟨hP, hD, hS⟩ := hW
  have hrv := va_recv hK hP hq (q0 := r) (sv_ws_get g μ hr)
  rw [hqc] at hrv
  exact sv_call (va_runV F (sv_met (l := l) (g := g) hwp hc.1 hw H.size) (cwV n F.2.2.2.2 (sv_goodV hc h1 h2 h3) rfl rfl rfl ⟨rfl, hc.2.2.2.1.1, hc.2.2.2.1.2, hc.2.2.2.2⟩ hR) ⟨sv_blind, hrv, sv_pre hP hK hD hN⟩ rfl (by rw [List.length_map]; exact hn) hls hst (lv_room hrm) hd hcs) hS (sv_free hD hS hA) kk
end SVR
end
section
/-! ===== what an instruction asks: predicate transformers; sv_Snd: they are sound ===== -/
abbrev sv_K : Type := Nat → sv_L → List Value → sv_Mem → Prop
abbrev sv_Po : Type := Value → sv_Mem → Prop
abbrev sv_O : Type := sv_K → sv_Po → sv_L → List Value → sv_Mem → Prop
def sv_Snd (M : sv_M) (pc : Nat) (o : sv_O) : Prop := ∀ (k : sv_K) (Q : sv_Po) (lv : sv_L) (st : List Value) (μ : sv_Mem), (∀ pc' lv' st' μ', k pc' lv' st' μ' → wp M pc' lv' st' μ' Q) → o k Q lv st μ → wp M pc lv st μ Q
def sv_p1 (st : List Value) (f : Int32 → List Value → Prop) : Prop := match st with
  | .int x :: t => f x t
  | _ => False
def sv_p2 (st : List Value) (f : Int32 → Int32 → List Value → Prop) : Prop := match st with
  | .int y :: .int x :: t => f x y t
  | _ => False
def sv_l1 (st : List Value) (f : Int64 → List Value → Prop) : Prop := match st with
  | .long x :: t => f x t
  | _ => False
def sv_l2 (st : List Value) (f : Int64 → Int64 → List Value → Prop) : Prop := match st with
  | .long y :: .long x :: t => f x y t
  | _ => False
def sv_r1 (st : List Value) (f : Nat → List Value → Prop) : Prop := match st with
  | .ref r :: t => f r t
  | _ => False
def sv_ri (st : List Value) (f : Nat → Int32 → List Value → Prop) : Prop := match st with
  | .int i :: .ref r :: t => f r i t
  | _ => False
def sv_rii (st : List Value) (f : Nat → Int32 → Int32 → List Value → Prop) : Prop := match st with
  | .int x :: .int i :: .ref r :: t => f r i x t
  | _ => False
def sv_v1 (st : List Value) (f : Value → List Value → Prop) : Prop := match st with
  | v :: t => bif Nat.beq v.category 1 then f v t else False
  | _ => False
def sv_v2 (st : List Value) (f : Value → Value → List Value → Prop) : Prop := match st with
  | v :: w :: t => bif Nat.beq v.category 1 && Nat.beq w.category 1 then f v w t else False
  | _ => False
def sv_gi (o : Option Value) (f : Int32 → Prop) : Prop := match o with
  | some (.int x) => f x
  | _ => False
def sv_gl (o : Option Value) (f : Int64 → Prop) : Prop := match o with
  | some (.long x) => f x
  | _ => False
def sv_gr (o : Option Value) (f : Nat → Prop) : Prop := match o with
  | some (.ref x) => f x
  | _ => False
theorem sv_p1_e {st : List Value} {f : Int32 → List Value → Prop} (h : sv_p1 st f) : ∃ x t, st = .int x :: t ∧ f x t := by
  unfold sv_p1 at h
  split at h
  · exact ⟨_, _, rfl, h⟩
  · exact h.elim
theorem sv_p2_e {st : List Value} {f : Int32 → Int32 → List Value → Prop} (h : sv_p2 st f) : ∃ x y t, st = .int y :: .int x :: t ∧ f x y t := by
  unfold sv_p2 at h
  split at h
  · exact ⟨_, _, _, rfl, h⟩
  · exact h.elim
theorem sv_l1_e {st : List Value} {f : Int64 → List Value → Prop} (h : sv_l1 st f) : ∃ x t, st = .long x :: t ∧ f x t := by
  unfold sv_l1 at h
  split at h
  · exact ⟨_, _, rfl, h⟩
  · exact h.elim
theorem sv_l2_e {st : List Value} {f : Int64 → Int64 → List Value → Prop} (h : sv_l2 st f) : ∃ x y t, st = .long y :: .long x :: t ∧ f x y t := by
  unfold sv_l2 at h
  split at h
  · exact ⟨_, _, _, rfl, h⟩
  · exact h.elim
theorem sv_r1_e {st : List Value} {f : Nat → List Value → Prop} (h : sv_r1 st f) : ∃ r t, st = .ref r :: t ∧ f r t := by
  unfold sv_r1 at h
  split at h
  · exact ⟨_, _, rfl, h⟩
  · exact h.elim
theorem sv_ri_e {st : List Value} {f : Nat → Int32 → List Value → Prop} (h : sv_ri st f) : ∃ r i t, st = .int i :: .ref r :: t ∧ f r i t := by
  unfold sv_ri at h
  split at h
  · exact ⟨_, _, _, rfl, h⟩
  · exact h.elim
theorem sv_rii_e {st : List Value} {f : Nat → Int32 → Int32 → List Value → Prop} (h : sv_rii st f) : ∃ r i x t, st = .int x :: .int i :: .ref r :: t ∧ f r i x t := by
  unfold sv_rii at h
  split at h
  · exact ⟨_, _, _, _, rfl, h⟩
  · exact h.elim
theorem sv_bif {b : Bool} {A : Prop} (h : bif b then A else False) : b = true ∧ A := by
  cases b
  · exact h.elim
  · exact ⟨rfl, h⟩
theorem sv_v1_e {st : List Value} {f : Value → List Value → Prop} (h : sv_v1 st f) : ∃ v t, st = v :: t ∧ v.category = 1 ∧ f v t := by
  unfold sv_v1 at h
  split at h
  · obtain ⟨h1, h2⟩ := sv_bif h
    exact ⟨_, _, rfl, Nat.eq_of_beq_eq_true h1, h2⟩
  · exact h.elim
theorem sv_v2_e {st : List Value} {f : Value → Value → List Value → Prop} (h : sv_v2 st f) : ∃ v w t, st = v :: w :: t ∧ v.category = 1 ∧ w.category = 1 ∧ f v w t := by
  unfold sv_v2 at h
  split at h
  · obtain ⟨h1, h2⟩ := sv_bif h
    have h3 := (Bool.and_eq_true _ _).mp h1
    exact ⟨_, _, _, rfl, Nat.eq_of_beq_eq_true h3.1, Nat.eq_of_beq_eq_true h3.2, h2⟩
  · exact h.elim
theorem sv_gi_e {o : Option Value} {f : Int32 → Prop} (h : sv_gi o f) : ∃ x, o = some (.int x) ∧ f x := by
  unfold sv_gi at h
  split at h
  · exact ⟨_, rfl, h⟩
  · exact h.elim
theorem sv_gl_e {o : Option Value} {f : Int64 → Prop} (h : sv_gl o f) : ∃ x, o = some (.long x) ∧ f x := by
  unfold sv_gl at h
  split at h
  · exact ⟨_, rfl, h⟩
  · exact h.elim
theorem sv_gr_e {o : Option Value} {f : Nat → Prop} (h : sv_gr o f) : ∃ x, o = some (.ref x) ∧ f x := by
  unfold sv_gr at h
  split at h
  · exact ⟨_, rfl, h⟩
  · exact h.elim
/-- a step that touches the stack alone -/
theorem sv_pure {M : sv_M} {pc pc' : Nat} {lv : sv_L} {st st' : List Value} {μ : sv_Mem} {Q : sv_Po} (hw : wp M pc' lv st' μ Q)
    (hs : ∀ {l : Launch} {p : Program} {e : Env} {R : Room} {s : State} {m : MethodId} {args : Array Value} {below : List Frame} {meth : Method} {c : Code} {cells slots : Nat} {Z : State → Prop} {H : Heap} {locs : List Loc} {ls : Array Slot} (g : sv_G), p.tables.exec = Jvm.exec → c.code = M.2.1 → s.vm.findClass M.1.cls = some m.cls → (∀ w ∈ sv_GT, w.before args s = true) → lv_has ls M.2.2.1 (sv_tl g.2.1 lv) →
      W p l e R s m args below meth c H locs cells slots Z (F0 m pc' ls (st'.map (sv_tr g.2.1))) → W p l e R s m args below meth c H locs cells slots Z (F0 m pc ls (st.map (sv_tr g.2.1)))) : wp M pc lv st μ Q := by
  intro l p e R s m args below meth c cells slots Z A g C H locs ls hW hl
  exact hs g C.1 C.2.1 C.2.2.2.1 C.2.2.2.2.1 hl (hw l p e R s m args below meth c cells slots Z A g C H locs ls hW hl)
section SVO
variable {M : sv_M} {pc : Nat}
def o_il (i nx : Nat) : sv_O := fun k _ lv st μ => sv_gi (sv_get lv i) (fun x => k nx lv (.int x :: st) μ)
def o_ll (i nx : Nat) : sv_O := fun k _ lv st μ => sv_gl (sv_get lv i) (fun x => k nx lv (.long x :: st) μ)
def o_al (i nx : Nat) : sv_O := fun k _ lv st μ => sv_gr (sv_get lv i) (fun x => k nx lv (.ref x :: st) μ)
theorem s_iload_n {n : Fin 4} {i : Nat} (hd : decode M.2.1 pc = .ok (.iload_n n, 1)) (hi : (n : Nat) = i) : sv_Snd M pc (o_il i (pc + 1)) := by
  intro k Q lv st μ hk h
  obtain ⟨x, hg, h⟩ := sv_gi_e h
  exact sv_pure (hk _ _ _ _ h) (fun g hx hb _ _ hl K => lv_iload_n hx hb hd hi (sv_ld hl hg) K)
theorem s_iload {i : Nat} (hd : decode M.2.1 pc = .ok (.iload i, 2)) : sv_Snd M pc (o_il i (pc + 2)) := by
  intro k Q lv st μ hk h
  obtain ⟨x, hg, h⟩ := sv_gi_e h
  exact sv_pure (hk _ _ _ _ h) (fun g hx hb _ _ hl K => lv_iload hx hb hd (sv_ld hl hg) K)
theorem s_lload_n {n : Fin 4} {i : Nat} (hd : decode M.2.1 pc = .ok (.lload_n n, 1)) (hi : (n : Nat) = i) : sv_Snd M pc (o_ll i (pc + 1)) := by
  intro k Q lv st μ hk h
  obtain ⟨x, hg, h⟩ := sv_gl_e h
  exact sv_pure (hk _ _ _ _ h) (fun g hx hb _ _ hl K => lv_lload_n hx hb hd hi (sv_ld hl hg) K)
theorem s_lload {i : Nat} (hd : decode M.2.1 pc = .ok (.lload i, 2)) : sv_Snd M pc (o_ll i (pc + 2)) := by
  intro k Q lv st μ hk h
  obtain ⟨x, hg, h⟩ := sv_gl_e h
  exact sv_pure (hk _ _ _ _ h) (fun g hx hb _ _ hl K => lv_lload hx hb hd (sv_ld hl hg) K)
theorem s_aload_n {n : Fin 4} {i : Nat} (hd : decode M.2.1 pc = .ok (.aload_n n, 1)) (hi : (n : Nat) = i) : sv_Snd M pc (o_al i (pc + 1)) := by
  intro k Q lv st μ hk h
  obtain ⟨x, hg, h⟩ := sv_gr_e h
  exact sv_pure (hk _ _ _ _ h) (fun g hx hb _ _ hl K => lv_aload_n hx hb hd hi (sv_ld hl hg) K)
theorem s_aload {i : Nat} (hd : decode M.2.1 pc = .ok (.aload i, 2)) : sv_Snd M pc (o_al i (pc + 2)) := by
  intro k Q lv st μ hk h
  obtain ⟨x, hg, h⟩ := sv_gr_e h
  exact sv_pure (hk _ _ _ _ h) (fun g hx hb _ _ hl K => lv_aload hx hb hd (sv_ld hl hg) K)
def o_is (i nx : Nat) : sv_O := fun k _ lv st μ => sv_p1 st (fun x t => k nx (sv_set i 1 (.int x) lv) t μ)
def o_ls (i nx : Nat) : sv_O := fun k _ lv st μ => sv_l1 st (fun x t => k nx (sv_set i 2 (.long x) lv) t μ)
def o_in (i : Nat) (v : Int32) (nx : Nat) : sv_O := fun k _ lv st μ => sv_gi (sv_get lv i) (fun x => k nx (sv_set i 1 (.int (x + v)) lv) st μ)
theorem s_istore_n {n : Fin 4} {i : Nat} (hd : decode M.2.1 pc = .ok (.istore_n n, 1)) (hi : (n : Nat) = i) (hn : i < M.2.2.1) : sv_Snd M pc (o_is i (pc + 1)) := by
  intro k Q lv st μ hk h
  obtain ⟨x, t, rfl, h⟩ := sv_p1_e h
  intro l p e R s m args below meth c cells slots Z A g C H locs ls hW hl
  exact lv_istore_n C.1 C.2.1 hd hi hl hn rfl (fun ls hl => hk _ _ _ _ h l p e R s m args below meth c cells slots Z A g C H locs ls hW (sv_tl_set1 (v := .int x) hl))
theorem s_istore {i : Nat} (hd : decode M.2.1 pc = .ok (.istore i, 2)) (hn : i < M.2.2.1) : sv_Snd M pc (o_is i (pc + 2)) := by
  intro k Q lv st μ hk h
  obtain ⟨x, t, rfl, h⟩ := sv_p1_e h
  intro l p e R s m args below meth c cells slots Z A g C H locs ls hW hl
  exact lv_istore C.1 C.2.1 hd hl hn rfl (fun ls hl => hk _ _ _ _ h l p e R s m args below meth c cells slots Z A g C H locs ls hW (sv_tl_set1 (v := .int x) hl))
theorem s_lstore_n {n : Fin 4} {i : Nat} (hd : decode M.2.1 pc = .ok (.lstore_n n, 1)) (hi : (n : Nat) = i) (hn : i + 1 < M.2.2.1) : sv_Snd M pc (o_ls i (pc + 1)) := by
  intro k Q lv st μ hk h
  obtain ⟨x, t, rfl, h⟩ := sv_l1_e h
  intro l p e R s m args below meth c cells slots Z A g C H locs ls hW hl
  exact lv_lstore_n C.1 C.2.1 hd hi hl hn rfl (fun ls hl => hk _ _ _ _ h l p e R s m args below meth c cells slots Z A g C H locs ls hW (sv_tl_set2 (v := .long x) hl))
theorem s_lstore {i : Nat} (hd : decode M.2.1 pc = .ok (.lstore i, 2)) (hn : i + 1 < M.2.2.1) : sv_Snd M pc (o_ls i (pc + 2)) := by
  intro k Q lv st μ hk h
  obtain ⟨x, t, rfl, h⟩ := sv_l1_e h
  intro l p e R s m args below meth c cells slots Z A g C H locs ls hW hl
  exact lv_lstore C.1 C.2.1 hd hl hn rfl (fun ls hl => hk _ _ _ _ h l p e R s m args below meth c cells slots Z A g C H locs ls hW (sv_tl_set2 (v := .long x) hl))
theorem s_iinc {i : Nat} {n : Int} {v : Int32} (hd : decode M.2.1 pc = .ok (.iinc i n, 3)) (hv : Int32.ofInt n = v) (hn : i < M.2.2.1) : sv_Snd M pc (o_in i v (pc + 3)) := by
  intro k Q lv st μ hk h
  obtain ⟨x, hg, h⟩ := sv_gi_e h
  intro l p e R s m args below meth c cells slots Z A g C H locs ls hW hl
  have hm : (i, Value.int x) ∈ sv_tl g.2.1 lv := List.mem_map.mpr ⟨(i, .int x), sv_get_mem hg, rfl⟩
  obtain ⟨j, hj⟩ := List.getElem?_of_mem hm
  subst hv
  exact lv_iinc C.1 C.2.1 hd hl hj rfl hn rfl (fun ls hl => hk _ _ _ _ h l p e R s m args below meth c cells slots Z A g C H locs ls hW (sv_tl_set1 (v := .int (x + Int32.ofInt n)) hl))
def o_ic (v : Int32) (nx : Nat) : sv_O := fun k _ lv st μ => k nx lv (.int v :: st) μ
def o_lc (v : Int64) (nx : Nat) : sv_O := fun k _ lv st μ => k nx lv (.long v :: st) μ
theorem s_iconst {n : Int} {v : Int32} (hd : decode M.2.1 pc = .ok (.iconst n, 1)) (hv : Int32.ofInt n = v) : sv_Snd M pc (o_ic v (pc + 1)) :=
  fun k Q lv st μ hk h => sv_pure (hk _ _ _ _ h) (fun g hx hb _ _ hl K => lv_iconst hx hb hd hv K)
theorem s_bipush {n : Int} {v : Int32} (hd : decode M.2.1 pc = .ok (.bipush n, 2)) (hv : (Int8.ofInt n).toInt32 = v) : sv_Snd M pc (o_ic v (pc + 2)) :=
  fun k Q lv st μ hk h => sv_pure (hk _ _ _ _ h) (fun g hx hb _ _ hl K => lv_bipush hx hb hd hv K)
theorem s_sipush {n : Int} {v : Int32} (hd : decode M.2.1 pc = .ok (.sipush n, 3)) (hv : (Int16.ofInt n).toInt32 = v) : sv_Snd M pc (o_ic v (pc + 3)) :=
  fun k Q lv st μ hk h => sv_pure (hk _ _ _ _ h) (fun g hx hb _ _ hl K => lv_sipush hx hb hd hv K)
theorem s_lconst {n : Fin 2} {v : Int64} (hd : decode M.2.1 pc = .ok (.lconst n, 1)) (hv : Int64.ofNat (n : Nat) = v) : sv_Snd M pc (o_lc v (pc + 1)) :=
  fun k Q lv st μ hk h => sv_pure (hk _ _ _ _ h) (fun g hx hb _ _ hl K => lv_lconst hx hb hd hv K)
theorem s_ldc {i : Nat} {v : Int32} (hd : decode M.2.1 pc = .ok (.ldc i, 2)) (hc : Cond.constant M.1.cls i v ∈ sv_GT) : sv_Snd M pc (o_ic v (pc + 2)) :=
  fun k Q lv st μ hk h => sv_pure (hk _ _ _ _ h) (fun g hx hb ho ht hl K => lv_ldc hx hb ho (ht _ hc) hd K)
theorem s_ldcw {i : Nat} {v : Int32} (hd : decode M.2.1 pc = .ok (.ldc_w i, 3)) (hc : Cond.constant M.1.cls i v ∈ sv_GT) : sv_Snd M pc (o_ic v (pc + 3)) :=
  fun k Q lv st μ hk h => sv_pure (hk _ _ _ _ h) (fun g hx hb ho ht hl K => lv_ldcw hx hb ho (ht _ hc) hd K)
theorem s_ldc2 {i : Nat} {v : Int64} (hd : decode M.2.1 pc = .ok (.ldc2_w i, 3)) (hc : Cond.constantLong M.1.cls i v ∈ sv_GT) : sv_Snd M pc (o_lc v (pc + 3)) :=
  fun k Q lv st μ hk h => sv_pure (hk _ _ _ _ h) (fun g hx hb ho ht hl K => lv_ldc2 hx hb ho (ht _ hc) hd K)
def o_b (f : Int32 → Int32 → Int32) (nx : Nat) : sv_O := fun k _ lv st μ => sv_p2 st (fun x y t => k nx lv (.int (f x y) :: t) μ)
def o_bd (f : Int32 → Int32 → Int32) (nx : Nat) : sv_O := fun k _ lv st μ => sv_p2 st (fun x y t => ¬ y = 0 ∧ k nx lv (.int (f x y) :: t) μ)
def o_u (f : Int32 → Int32) (nx : Nat) : sv_O := fun k _ lv st μ => sv_p1 st (fun x t => k nx lv (.int (f x) :: t) μ)
def o_lb (f : Int64 → Int64 → Int64) (nx : Nat) : sv_O := fun k _ lv st μ => sv_l2 st (fun x y t => k nx lv (.long (f x y) :: t) μ)
def o_ld (f : Int64 → Int64 → Int64) (nx : Nat) : sv_O := fun k _ lv st μ => sv_l2 st (fun x y t => ¬ y = 0 ∧ k nx lv (.long (f x y) :: t) μ)
def o_i2l (nx : Nat) : sv_O := fun k _ lv st μ => sv_p1 st (fun x t => k nx lv (.long x.toInt64 :: t) μ)
def o_l2i (nx : Nat) : sv_O := fun k _ lv st μ => sv_l1 st (fun x t => k nx lv (.int x.toInt32 :: t) μ)
def o_lcmp (nx : Nat) : sv_O := fun k _ lv st μ => sv_l2 st (fun x y t => k nx lv (.int (lg_cmp x y) :: t) μ)
def o_dup (nx : Nat) : sv_O := fun k _ lv st μ => sv_v1 st (fun v t => k nx lv (v :: v :: t) μ)
def o_pop (nx : Nat) : sv_O := fun k _ lv st μ => sv_v1 st (fun _ t => k nx lv t μ)
def o_dup2 (nx : Nat) : sv_O := fun k _ lv st μ => sv_v2 st (fun v w t => k nx lv (v :: w :: v :: w :: t) μ)
theorem s_iadd (hd : decode M.2.1 pc = .ok (.iadd, 1)) : sv_Snd M pc (o_b (fun x y => x + y) (pc + 1)) := by
  intro k Q lv st μ hk h
  obtain ⟨x, y, t, rfl, h⟩ := sv_p2_e h
  exact sv_pure (hk _ _ _ _ h) (fun g hx hb _ _ hl K => lv_iadd hx hb hd K)
theorem s_isub (hd : decode M.2.1 pc = .ok (.isub, 1)) : sv_Snd M pc (o_b (fun x y => x - y) (pc + 1)) := by
  intro k Q lv st μ hk h
  obtain ⟨x, y, t, rfl, h⟩ := sv_p2_e h
  exact sv_pure (hk _ _ _ _ h) (fun g hx hb _ _ hl K => lv_isub hx hb hd K)
theorem s_imul (hd : decode M.2.1 pc = .ok (.imul, 1)) : sv_Snd M pc (o_b (fun x y => x * y) (pc + 1)) := by
  intro k Q lv st μ hk h
  obtain ⟨x, y, t, rfl, h⟩ := sv_p2_e h
  exact sv_pure (hk _ _ _ _ h) (fun g hx hb _ _ hl K => lv_imul hx hb hd K)
theorem s_iand (hd : decode M.2.1 pc = .ok (.iand, 1)) : sv_Snd M pc (o_b (fun x y => x &&& y) (pc + 1)) := by
  intro k Q lv st μ hk h
  obtain ⟨x, y, t, rfl, h⟩ := sv_p2_e h
  exact sv_pure (hk _ _ _ _ h) (fun g hx hb _ _ hl K => lv_iand hx hb hd K)
theorem s_ior (hd : decode M.2.1 pc = .ok (.ior, 1)) : sv_Snd M pc (o_b (fun x y => x ||| y) (pc + 1)) := by
  intro k Q lv st μ hk h
  obtain ⟨x, y, t, rfl, h⟩ := sv_p2_e h
  exact sv_pure (hk _ _ _ _ h) (fun g hx hb _ _ hl K => lv_ior hx hb hd K)
theorem s_ishl (hd : decode M.2.1 pc = .ok (.ishl, 1)) : sv_Snd M pc (o_b (fun x y => x <<< (y &&& 31)) (pc + 1)) := by
  intro k Q lv st μ hk h
  obtain ⟨x, y, t, rfl, h⟩ := sv_p2_e h
  exact sv_pure (hk _ _ _ _ h) (fun g hx hb _ _ hl K => lv_ishl hx hb hd K)
theorem s_ishr (hd : decode M.2.1 pc = .ok (.ishr, 1)) : sv_Snd M pc (o_b (fun x y => x >>> (y &&& 31)) (pc + 1)) := by
  intro k Q lv st μ hk h
  obtain ⟨x, y, t, rfl, h⟩ := sv_p2_e h
  exact sv_pure (hk _ _ _ _ h) (fun g hx hb _ _ hl K => lv_ishr hx hb hd K)
theorem s_iushr (hd : decode M.2.1 pc = .ok (.iushr, 1)) : sv_Snd M pc (o_b (fun x y => (x.toUInt32 >>> (y.toUInt32 &&& Int32.toUInt32 31)).toInt32) (pc + 1)) := by
  intro k Q lv st μ hk h
  obtain ⟨x, y, t, rfl, h⟩ := sv_p2_e h
  exact sv_pure (hk _ _ _ _ h) (fun g hx hb _ _ hl K => lv_iushr hx hb hd rfl K)
theorem s_idiv (hd : decode M.2.1 pc = .ok (.idiv, 1)) : sv_Snd M pc (o_bd (fun x y => x / y) (pc + 1)) := by
  intro k Q lv st μ hk h
  obtain ⟨x, y, t, rfl, h0, h⟩ := sv_p2_e h
  exact sv_pure (hk _ _ _ _ h) (fun g hx hb _ _ hl K => lv_idiv hx hb hd h0 K)
theorem s_irem (hd : decode M.2.1 pc = .ok (.irem, 1)) : sv_Snd M pc (o_bd (fun x y => x - x / y * y) (pc + 1)) := by
  intro k Q lv st μ hk h
  obtain ⟨x, y, t, rfl, h0, h⟩ := sv_p2_e h
  exact sv_pure (hk _ _ _ _ h) (fun g hx hb _ _ hl K => lv_irem hx hb hd h0 K)
theorem s_ineg (hd : decode M.2.1 pc = .ok (.ineg, 1)) : sv_Snd M pc (o_u (fun x => -x) (pc + 1)) := by
  intro k Q lv st μ hk h
  obtain ⟨x, t, rfl, h⟩ := sv_p1_e h
  exact sv_pure (hk _ _ _ _ h) (fun g hx hb _ _ hl K => lv_ineg hx hb hd K)
theorem s_i2b (hd : decode M.2.1 pc = .ok (.i2b, 1)) : sv_Snd M pc (o_u (fun x => x.toInt8.toInt32) (pc + 1)) := by
  intro k Q lv st μ hk h
  obtain ⟨x, t, rfl, h⟩ := sv_p1_e h
  exact sv_pure (hk _ _ _ _ h) (fun g hx hb _ _ hl K => lv_i2b hx hb hd rfl K)
theorem s_i2s (hd : decode M.2.1 pc = .ok (.i2s, 1)) : sv_Snd M pc (o_u (fun x => x.toInt16.toInt32) (pc + 1)) := by
  intro k Q lv st μ hk h
  obtain ⟨x, t, rfl, h⟩ := sv_p1_e h
  exact sv_pure (hk _ _ _ _ h) (fun g hx hb _ _ hl K => lv_i2s hx hb hd rfl K)
theorem s_ladd (hd : decode M.2.1 pc = .ok (.ladd, 1)) : sv_Snd M pc (o_lb (fun x y => x + y) (pc + 1)) := by
  intro k Q lv st μ hk h
  obtain ⟨x, y, t, rfl, h⟩ := sv_l2_e h
  exact sv_pure (hk _ _ _ _ h) (fun g hx hb _ _ hl K => lv_ladd hx hb hd K)
theorem s_lmul (hd : decode M.2.1 pc = .ok (.lmul, 1)) : sv_Snd M pc (o_lb (fun x y => x * y) (pc + 1)) := by
  intro k Q lv st μ hk h
  obtain ⟨x, y, t, rfl, h⟩ := sv_l2_e h
  exact sv_pure (hk _ _ _ _ h) (fun g hx hb _ _ hl K => lv_lmul hx hb hd K)
theorem s_lsub (hd : decode M.2.1 pc = .ok (.lsub, 1)) : sv_Snd M pc (o_lb (fun x y => x - y) (pc + 1)) := by
  intro k Q lv st μ hk h
  obtain ⟨x, y, t, rfl, h⟩ := sv_l2_e h
  exact sv_pure (hk _ _ _ _ h) (fun g hx hb _ _ hl K => lv_lsub hx hb hd K)
theorem s_ldiv (hd : decode M.2.1 pc = .ok (.ldiv, 1)) : sv_Snd M pc (o_ld (fun x y => x / y) (pc + 1)) := by
  intro k Q lv st μ hk h
  obtain ⟨x, y, t, rfl, h0, h⟩ := sv_l2_e h
  exact sv_pure (hk _ _ _ _ h) (fun g hx hb _ _ hl K => lv_ldiv hx hb hd h0 K)
theorem s_lrem (hd : decode M.2.1 pc = .ok (.lrem, 1)) : sv_Snd M pc (o_ld (fun x y => x - x / y * y) (pc + 1)) := by
  intro k Q lv st μ hk h
  obtain ⟨x, y, t, rfl, h0, h⟩ := sv_l2_e h
  exact sv_pure (hk _ _ _ _ h) (fun g hx hb _ _ hl K => lv_lrem hx hb hd h0 K)
theorem s_i2l (hd : decode M.2.1 pc = .ok (.i2l, 1)) : sv_Snd M pc (o_i2l (pc + 1)) := by
  intro k Q lv st μ hk h
  obtain ⟨x, t, rfl, h⟩ := sv_p1_e h
  exact sv_pure (hk _ _ _ _ h) (fun g hx hb _ _ hl K => lv_i2l hx hb hd rfl K)
theorem s_l2i (hd : decode M.2.1 pc = .ok (.l2i, 1)) : sv_Snd M pc (o_l2i (pc + 1)) := by
  intro k Q lv st μ hk h
  obtain ⟨x, t, rfl, h⟩ := sv_l1_e h
  exact sv_pure (hk _ _ _ _ h) (fun g hx hb _ _ hl K => lv_l2i hx hb hd rfl K)
theorem s_lcmp (hd : decode M.2.1 pc = .ok (.lcmp, 1)) : sv_Snd M pc (o_lcmp (pc + 1)) := by
  intro k Q lv st μ hk h
  obtain ⟨x, y, t, rfl, h⟩ := sv_l2_e h
  exact sv_pure (hk _ _ _ _ h) (fun g hx hb _ _ hl K => W.lcmp hx hb hd K)
theorem s_dup (hd : decode M.2.1 pc = .ok (.dup, 1)) : sv_Snd M pc (o_dup (pc + 1)) := by
  intro k Q lv st μ hk h
  obtain ⟨v, t, rfl, hv, h⟩ := sv_v1_e h
  exact sv_pure (hk _ _ _ _ h) (fun g hx hb _ _ hl K => lv_dup hx hb hd ((sv_tr_cat _ v).trans hv) K)
theorem s_pop (hd : decode M.2.1 pc = .ok (.pop, 1)) : sv_Snd M pc (o_pop (pc + 1)) := by
  intro k Q lv st μ hk h
  obtain ⟨v, t, rfl, hv, h⟩ := sv_v1_e h
  exact sv_pure (hk _ _ _ _ h) (fun g hx hb _ _ hl K => lv_pop hx hb hd ((sv_tr_cat _ v).trans hv) K)
theorem s_dup2 (hd : decode M.2.1 pc = .ok (.dup2, 1)) : sv_Snd M pc (o_dup2 (pc + 1)) := by
  intro k Q lv st μ hk h
  obtain ⟨v, w, t, rfl, hv, hw, h⟩ := sv_v2_e h
  exact sv_pure (hk _ _ _ _ h) (fun g hx hb _ _ hl K => lv_dup2_11 hx hb hd ((sv_tr_cat _ v).trans hv) ((sv_tr_cat _ w).trans hw) K)
def o_if (q : Int32 → Prop) (t e : Nat) : sv_O := fun k _ lv st μ => sv_p1 st (fun x r => (q x → k t lv r μ) ∧ (¬ q x → k e lv r μ))
def o_ic2 (q : Int32 → Int32 → Prop) (t e : Nat) : sv_O := fun k _ lv st μ => sv_p2 st (fun x y r => (q x y → k t lv r μ) ∧ (¬ q x y → k e lv r μ))
def o_go (t : Nat) : sv_O := fun k _ lv st μ => k t lv st μ
theorem s_goto {off : Int} {t : Nat} (hd : decode M.2.1 pc = .ok (.goto off, 3)) (ht : (pc : Int) + off = (t : Int)) : sv_Snd M pc (o_go t) :=
  fun k Q lv st μ hk h => sv_pure (hk _ _ _ _ h) (fun g hx hb _ _ hl K => lv_goto hx hb hd ht K)
theorem s_if_eq {off : Int} {t : Nat} (hd : decode M.2.1 pc = .ok (.ifCond .eq off, 3)) (ht : (pc : Int) + off = (t : Int)) : sv_Snd M pc (o_if (fun x => x = 0) t (pc + 3)) := by
  intro k Q lv st μ hk h
  obtain ⟨x, r, rfl, h1, h2⟩ := sv_p1_e h
  intro l p e R s m args below meth c cells slots Z A g C H locs ls hW hl
  exact lv_if_eq C.1 C.2.1 hd ht (fun q => hk _ _ _ _ (h1 q) l p e R s m args below meth c cells slots Z A g C H locs ls hW hl) (fun q => hk _ _ _ _ (h2 q) l p e R s m args below meth c cells slots Z A g C H locs ls hW hl)
theorem s_icmp_eq {off : Int} {t : Nat} (hd : decode M.2.1 pc = .ok (.if_icmp .eq off, 3)) (ht : (pc : Int) + off = (t : Int)) : sv_Snd M pc (o_ic2 (fun x y => x = y) t (pc + 3)) := by
  intro k Q lv st μ hk h
  obtain ⟨x, y, r, rfl, h1, h2⟩ := sv_p2_e h
  intro l p e R s m args below meth c cells slots Z A g C H locs ls hW hl
  exact lv_icmp_eq C.1 C.2.1 hd ht (fun q => hk _ _ _ _ (h1 q) l p e R s m args below meth c cells slots Z A g C H locs ls hW hl) (fun q => hk _ _ _ _ (h2 q) l p e R s m args below meth c cells slots Z A g C H locs ls hW hl)
theorem s_if_lt {off : Int} {t : Nat} (hd : decode M.2.1 pc = .ok (.ifCond .lt off, 3)) (ht : (pc : Int) + off = (t : Int)) : sv_Snd M pc (o_if (fun x => x < 0) t (pc + 3)) := by
  intro k Q lv st μ hk h
  obtain ⟨x, r, rfl, h1, h2⟩ := sv_p1_e h
  intro l p e R s m args below meth c cells slots Z A g C H locs ls hW hl
  exact lv_if_lt C.1 C.2.1 hd ht (fun q => hk _ _ _ _ (h1 q) l p e R s m args below meth c cells slots Z A g C H locs ls hW hl) (fun q => hk _ _ _ _ (h2 q) l p e R s m args below meth c cells slots Z A g C H locs ls hW hl)
theorem s_icmp_lt {off : Int} {t : Nat} (hd : decode M.2.1 pc = .ok (.if_icmp .lt off, 3)) (ht : (pc : Int) + off = (t : Int)) : sv_Snd M pc (o_ic2 (fun x y => x < y) t (pc + 3)) := by
  intro k Q lv st μ hk h
  obtain ⟨x, y, r, rfl, h1, h2⟩ := sv_p2_e h
  intro l p e R s m args below meth c cells slots Z A g C H locs ls hW hl
  exact lv_icmp_lt C.1 C.2.1 hd ht (fun q => hk _ _ _ _ (h1 q) l p e R s m args below meth c cells slots Z A g C H locs ls hW hl) (fun q => hk _ _ _ _ (h2 q) l p e R s m args below meth c cells slots Z A g C H locs ls hW hl)
theorem s_if_ge {off : Int} {t : Nat} (hd : decode M.2.1 pc = .ok (.ifCond .ge off, 3)) (ht : (pc : Int) + off = (t : Int)) : sv_Snd M pc (o_if (fun x => 0 ≤ x) t (pc + 3)) := by
  intro k Q lv st μ hk h
  obtain ⟨x, r, rfl, h1, h2⟩ := sv_p1_e h
  intro l p e R s m args below meth c cells slots Z A g C H locs ls hW hl
  exact lv_if_ge C.1 C.2.1 hd ht (fun q => hk _ _ _ _ (h1 q) l p e R s m args below meth c cells slots Z A g C H locs ls hW hl) (fun q => hk _ _ _ _ (h2 q) l p e R s m args below meth c cells slots Z A g C H locs ls hW hl)
theorem s_icmp_ge {off : Int} {t : Nat} (hd : decode M.2.1 pc = .ok (.if_icmp .ge off, 3)) (ht : (pc : Int) + off = (t : Int)) : sv_Snd M pc (o_ic2 (fun x y => y ≤ x) t (pc + 3)) := by
  intro k Q lv st μ hk h
  obtain ⟨x, y, r, rfl, h1, h2⟩ := sv_p2_e h
  intro l p e R s m args below meth c cells slots Z A g C H locs ls hW hl
  exact lv_icmp_ge C.1 C.2.1 hd ht (fun q => hk _ _ _ _ (h1 q) l p e R s m args below meth c cells slots Z A g C H locs ls hW hl) (fun q => hk _ _ _ _ (h2 q) l p e R s m args below meth c cells slots Z A g C H locs ls hW hl)
theorem s_if_gt {off : Int} {t : Nat} (hd : decode M.2.1 pc = .ok (.ifCond .gt off, 3)) (ht : (pc : Int) + off = (t : Int)) : sv_Snd M pc (o_if (fun x => 0 < x) t (pc + 3)) := by
  intro k Q lv st μ hk h
  obtain ⟨x, r, rfl, h1, h2⟩ := sv_p1_e h
  intro l p e R s m args below meth c cells slots Z A g C H locs ls hW hl
  exact lv_if_gt C.1 C.2.1 hd ht (fun q => hk _ _ _ _ (h1 q) l p e R s m args below meth c cells slots Z A g C H locs ls hW hl) (fun q => hk _ _ _ _ (h2 q) l p e R s m args below meth c cells slots Z A g C H locs ls hW hl)
theorem s_icmp_gt {off : Int} {t : Nat} (hd : decode M.2.1 pc = .ok (.if_icmp .gt off, 3)) (ht : (pc : Int) + off = (t : Int)) : sv_Snd M pc (o_ic2 (fun x y => y < x) t (pc + 3)) := by
  intro k Q lv st μ hk h
  obtain ⟨x, y, r, rfl, h1, h2⟩ := sv_p2_e h
  intro l p e R s m args below meth c cells slots Z A g C H locs ls hW hl
  exact lv_icmp_gt C.1 C.2.1 hd ht (fun q => hk _ _ _ _ (h1 q) l p e R s m args below meth c cells slots Z A g C H locs ls hW hl) (fun q => hk _ _ _ _ (h2 q) l p e R s m args below meth c cells slots Z A g C H locs ls hW hl)
theorem s_if_le {off : Int} {t : Nat} (hd : decode M.2.1 pc = .ok (.ifCond .le off, 3)) (ht : (pc : Int) + off = (t : Int)) : sv_Snd M pc (o_if (fun x => x ≤ 0) t (pc + 3)) := by
  intro k Q lv st μ hk h
  obtain ⟨x, r, rfl, h1, h2⟩ := sv_p1_e h
  intro l p e R s m args below meth c cells slots Z A g C H locs ls hW hl
  exact lv_if_le C.1 C.2.1 hd ht (fun q => hk _ _ _ _ (h1 q) l p e R s m args below meth c cells slots Z A g C H locs ls hW hl) (fun q => hk _ _ _ _ (h2 q) l p e R s m args below meth c cells slots Z A g C H locs ls hW hl)
theorem s_icmp_le {off : Int} {t : Nat} (hd : decode M.2.1 pc = .ok (.if_icmp .le off, 3)) (ht : (pc : Int) + off = (t : Int)) : sv_Snd M pc (o_ic2 (fun x y => x ≤ y) t (pc + 3)) := by
  intro k Q lv st μ hk h
  obtain ⟨x, y, r, rfl, h1, h2⟩ := sv_p2_e h
  intro l p e R s m args below meth c cells slots Z A g C H locs ls hW hl
  exact lv_icmp_le C.1 C.2.1 hd ht (fun q => hk _ _ _ _ (h1 q) l p e R s m args below meth c cells slots Z A g C H locs ls hW hl) (fun q => hk _ _ _ _ (h2 q) l p e R s m args below meth c cells slots Z A g C H locs ls hW hl)
theorem s_if_ne {off : Int} {t : Nat} (hd : decode M.2.1 pc = .ok (.ifCond .ne off, 3)) (ht : (pc : Int) + off = (t : Int)) : sv_Snd M pc (o_if (fun x => x = 0) (pc + 3) t) := by
  intro k Q lv st μ hk h
  obtain ⟨x, r, rfl, h1, h2⟩ := sv_p1_e h
  intro l p e R s m args below meth c cells slots Z A g C H locs ls hW hl
  exact lv_if_ne C.1 C.2.1 hd ht (fun q => hk _ _ _ _ (h2 q) l p e R s m args below meth c cells slots Z A g C H locs ls hW hl) (fun q => hk _ _ _ _ (h1 q) l p e R s m args below meth c cells slots Z A g C H locs ls hW hl)
theorem s_icmp_ne {off : Int} {t : Nat} (hd : decode M.2.1 pc = .ok (.if_icmp .ne off, 3)) (ht : (pc : Int) + off = (t : Int)) : sv_Snd M pc (o_ic2 (fun x y => x = y) (pc + 3) t) := by
  intro k Q lv st μ hk h
  obtain ⟨x, y, r, rfl, h1, h2⟩ := sv_p2_e h
  intro l p e R s m args below meth c cells slots Z A g C H locs ls hW hl
  exact lv_icmp_ne C.1 C.2.1 hd ht (fun q => hk _ _ _ _ (h2 q) l p e R s m args below meth c cells slots Z A g C H locs ls hW hl) (fun q => hk _ _ _ _ (h1 q) l p e R s m args below meth c cells slots Z A g C H locs ls hW hl)
end SVO
end
section
/-! ===== fields, arrays ===== -/
def sv_cf (ci r0 : Nat) (C : String) (T : u_T) (N : Nat) (sl : List (Option Nat)) : Prop := vwCl[ci]? = some (C, T, N) ∧ (∀ w ∈ u_ws C T N, w ∈ sv_GT) ∧ sv_LT[r0]? = some (.inl (ci, sl)) ∧ ∃ ty0 : Nat → FieldType, (∀ k, k < N → parseFieldDescriptor (T k).2.2.1 = some (ty0 k)) ∧ ∀ a, a < N → ∀ b, b < N → a ≠ b → (T a).2.1 ≠ (T b).2.1
section SVM
variable {M : sv_M} {pc : Nat}
def o_gI (r0 j nx : Nat) : sv_O := fun k _ lv st μ => sv_r1 st (fun r t => bif Nat.beq r r0 then k nx lv (.int (μ r0 j) :: t) μ else False)
def o_gR (r0 q nx : Nat) : sv_O := fun k _ lv st μ => sv_r1 st (fun r t => bif Nat.beq r r0 then k nx lv (.ref q :: t) μ else False)
def o_pI (r0 j nx : Nat) : sv_O := fun k _ lv st μ => match st with
  | .int x :: .ref r :: t => bif Nat.beq r r0 then k nx lv t (sv_up μ r0 j x) else False
  | _ => False
theorem s_getI {ci r0 N j idx : Nat} {C : String} {T : u_T} {sl : List (Option Nat)} (cf : sv_cf ci r0 C T N sl) (hj : j < N) (hs : sl[j]? = some none) (hw : Cond.fieldLink M.1.cls idx (T j).1 (T j).2.1 (T j).2.2.1 ∈ sv_GT) (hd : decode M.2.1 pc = .ok (.getfield idx, 3)) : sv_Snd M pc (o_gI r0 j (pc + 3)) := by
  intro k Q lv st μ hk h
  obtain ⟨r, t, rfl, h⟩ := sv_r1_e h
  obtain ⟨hr, h⟩ := sv_bif h
  have hr := Nat.eq_of_beq_eq_true hr
  subst hr
  intro l p e R s m args below meth c cells slots Z A g CC H locs ls hW hl
  obtain ⟨hc, hin, hLT, -⟩ := cf
  exact va_get (v := .int (μ r j)) CC.1 CC.2.1 CC.2.2.2.2.1 hin CC.2.2.2.1 CC.2.2.2.2.2.2.2.1 hW.1 r (sv_ws_get g μ hLT) hc j hj (CC.2.2.2.2.1 _ hw) (fun _ h9 => h9) (by rw [sv_fl_get, hs]; simp) hd (hk _ _ _ _ h l p e R s m args below meth c cells slots Z A g CC H locs ls hW hl)
theorem s_getR {ci r0 N j q idx : Nat} {C : String} {T : u_T} {sl : List (Option Nat)} (cf : sv_cf ci r0 C T N sl) (hj : j < N) (hs : sl[j]? = some (some q)) (hw : Cond.fieldLink M.1.cls idx (T j).1 (T j).2.1 (T j).2.2.1 ∈ sv_GT) (hd : decode M.2.1 pc = .ok (.getfield idx, 3)) : sv_Snd M pc (o_gR r0 q (pc + 3)) := by
  intro k Q lv st μ hk h
  obtain ⟨r, t, rfl, h0⟩ := sv_r1_e h
  obtain ⟨hr, h1⟩ := sv_bif h0
  have hr := Nat.eq_of_beq_eq_true hr
  subst hr
  intro l p e R s m args below meth c cells slots Z A g CC H locs ls hW hl
  obtain ⟨hc, hin, hLT, -⟩ := cf
  exact va_get (v := .ref (g.2.1 q)) CC.1 CC.2.1 CC.2.2.2.2.1 hin CC.2.2.2.1 CC.2.2.2.2.2.2.2.1 hW.1 r (sv_ws_get g μ hLT) hc j hj (CC.2.2.2.2.1 _ hw) (fun _ h9 => h9) (by rw [sv_fl_get, hs]; simp) hd (hk _ _ _ _ h1 l p e R s m args below meth c cells slots Z A g CC H locs ls hW hl)
theorem s_getIN {ci r0 N j idx : Nat} {C host : String} {T : u_T} {sl : List (Option Nat)} (cf : sv_cf ci r0 C T N sl) (hj : j < N) (hs : sl[j]? = some none) (hw : Cond.fieldLinkNest M.1.cls idx (T j).1 (T j).2.1 (T j).2.2.1 host ∈ sv_NW) (hd : decode M.2.1 pc = .ok (.getfield idx, 3)) : sv_Snd M pc (o_gI r0 j (pc + 3)) := by
  intro k Q lv st μ hk h
  obtain ⟨r, t, rfl, h⟩ := sv_r1_e h
  obtain ⟨hr, h⟩ := sv_bif h
  have hr := Nat.eq_of_beq_eq_true hr
  subst hr
  intro l p e R s m args below meth c cells slots Z A g CC H locs ls hW hl
  obtain ⟨hc, hin, hLT, -⟩ := cf
  exact va_getN (v := .int (μ r j)) CC.1 CC.2.1 CC.2.2.2.2.1 hin CC.2.2.2.1 CC.2.2.2.2.2.2.2.1 hW.1 r (sv_ws_get g μ hLT) hc j hj (va_Nw.use rfl (CC.2.2.2.2.2.1 _ hw)) (fun _ h9 => h9) (by rw [sv_fl_get, hs]; simp) hd (hk _ _ _ _ h l p e R s m args below meth c cells slots Z A g CC H locs ls hW hl)
theorem s_getRN {ci r0 N j q idx : Nat} {C host : String} {T : u_T} {sl : List (Option Nat)} (cf : sv_cf ci r0 C T N sl) (hj : j < N) (hs : sl[j]? = some (some q)) (hw : Cond.fieldLinkNest M.1.cls idx (T j).1 (T j).2.1 (T j).2.2.1 host ∈ sv_NW) (hd : decode M.2.1 pc = .ok (.getfield idx, 3)) : sv_Snd M pc (o_gR r0 q (pc + 3)) := by
  intro k Q lv st μ hk h
  obtain ⟨r, t, rfl, h0⟩ := sv_r1_e h
  obtain ⟨hr, h1⟩ := sv_bif h0
  have hr := Nat.eq_of_beq_eq_true hr
  subst hr
  intro l p e R s m args below meth c cells slots Z A g CC H locs ls hW hl
  obtain ⟨hc, hin, hLT, -⟩ := cf
  exact va_getN (v := .ref (g.2.1 q)) CC.1 CC.2.1 CC.2.2.2.2.1 hin CC.2.2.2.1 CC.2.2.2.2.2.2.2.1 hW.1 r (sv_ws_get g μ hLT) hc j hj (va_Nw.use rfl (CC.2.2.2.2.2.1 _ hw)) (fun _ h9 => h9) (by rw [sv_fl_get, hs]; simp) hd (hk _ _ _ _ h1 l p e R s m args below meth c cells slots Z A g CC H locs ls hW hl)
theorem sv_pI_e {k : sv_K} {Q : sv_Po} {lv : sv_L} {st : List Value} {μ : sv_Mem} {r0 j nx : Nat} (h : o_pI r0 j nx k Q lv st μ) : ∃ x t, st = .int x :: .ref r0 :: t ∧ k nx lv t (sv_up μ r0 j x) := by
  unfold o_pI at h
  split at h
  · obtain ⟨hr, h⟩ := sv_bif h
    have hr := Nat.eq_of_beq_eq_true hr
    subst hr
    exact ⟨_, _, rfl, h⟩
  · exact h.elim
theorem sv_put_w {g : sv_G} {μ : sv_Mem} {r j ci : Nat} {sl : List (Option Nat)} {x : Int32} (hLT : sv_LT[r]? = some (.inl (ci, sl))) (hs : sl[j]? = some none) : (sv_ws g μ).set r (g.2.1 r, .inr (ci, (sv_fl g.2.1 (μ r) 0 sl).set j (.int x))) = sv_ws g (sv_up μ r j x) := by
  rw [sv_fl_set _ _ _ _ _ hs, sv_up_st]
  exact sv_ws_set g μ hLT (upd (μ r) j x)
theorem s_put {ci r0 N j idx : Nat} {C : String} {T : u_T} {sl : List (Option Nat)} (cf : sv_cf ci r0 C T N sl) (hj : j < N) (hs : sl[j]? = some none) (hw : Cond.fieldLink M.1.cls idx (T j).1 (T j).2.1 (T j).2.2.1 ∈ sv_GT) (hfin : (T j).2.2.2 = false) (hp : parseFieldDescriptor (T j).2.2.1 = some .int) (hd : decode M.2.1 pc = .ok (.putfield idx, 3)) : sv_Snd M pc (o_pI r0 j (pc + 3)) := by
  intro k Q lv st μ hk h
  obtain ⟨x, t, rfl, h1⟩ := sv_pI_e h
  intro l p e R s m args below meth c cells slots Z A g CC H locs ls hW hl
  obtain ⟨hc, hin, hLT, ty0, hty, hnm⟩ := cf
  refine va_put (v := .int x) (ty := .int) CC.1 CC.2.1 CC.2.2.2.2.1 hin ty0 hty hnm CC.2.2.2.1 CC.2.2.2.2.2.2.2.1 hW.1 hW.2.1 hW.2.2 r0 (sv_ws_get g μ hLT) hc j hj (CC.2.2.2.2.1 _ hw) (fun _ h9 => h9) hfin hp rfl rfl (by rw [sv_fl_len]; exact (List.getElem?_eq_some_iff.mp hs).1) hd (fun H1 locs1 hP hD hS => ?_)
  rw [sv_put_w hLT hs] at hP hD
  exact hk _ _ _ _ h1 l p e R s m args below meth c cells slots Z A g CC H1 locs1 ls ⟨hP, hD, hS⟩ hl
theorem s_putN {ci r0 N j idx : Nat} {C host : String} {T : u_T} {sl : List (Option Nat)} (cf : sv_cf ci r0 C T N sl) (hj : j < N) (hs : sl[j]? = some none) (hw : Cond.fieldLinkNest M.1.cls idx (T j).1 (T j).2.1 (T j).2.2.1 host ∈ sv_NW) (hfin : (T j).2.2.2 = false) (hp : parseFieldDescriptor (T j).2.2.1 = some .int) (hd : decode M.2.1 pc = .ok (.putfield idx, 3)) : sv_Snd M pc (o_pI r0 j (pc + 3)) := by
  intro k Q lv st μ hk h
  obtain ⟨x, t, rfl, h1⟩ := sv_pI_e h
  intro l p e R s m args below meth c cells slots Z A g CC H locs ls hW hl
  obtain ⟨hc, hin, hLT, ty0, hty, hnm⟩ := cf
  refine va_putN (v := .int x) (ty := .int) CC.1 CC.2.1 CC.2.2.2.2.1 hin ty0 hty hnm CC.2.2.2.1 CC.2.2.2.2.2.2.2.1 hW.1 hW.2.1 hW.2.2 r0 (sv_ws_get g μ hLT) hc j hj (va_Nw.use rfl (CC.2.2.2.2.2.1 _ hw)) (fun _ h9 => h9) hfin hp rfl rfl (by rw [sv_fl_len]; exact (List.getElem?_eq_some_iff.mp hs).1) hd (fun H1 locs1 hP hD hS => ?_)
  rw [sv_put_w hLT hs] at hP hD
  exact hk _ _ _ _ h1 l p e R s m args below meth c cells slots Z A g CC H1 locs1 ls ⟨hP, hD, hS⟩ hl
def sv_ln (r : Nat) (f : Nat → Prop) : Prop := match sv_LT[r]? with
  | some (.inr (0, n, _)) => f n
  | _ => False
def sv_lz (r : Nat) (f : Nat → Prop) : Prop := match sv_LT[r]? with
  | some (.inr (1, n, _)) => f n
  | _ => False
def sv_lg (r : Nat) (f : Nat → Nat → Prop) : Prop := match sv_LT[r]? with
  | some (.inr (2, n, q)) => f n q
  | _ => False
theorem sv_ln_e {r : Nat} {f : Nat → Prop} (h : sv_ln r f) : ∃ n q, sv_LT[r]? = some (.inr (0, n, q)) ∧ f n := by
  unfold sv_ln at h
  split at h
  · exact ⟨_, _, by assumption, h⟩
  · exact h.elim
theorem sv_lz_e {r : Nat} {f : Nat → Prop} (h : sv_lz r f) : ∃ n q, sv_LT[r]? = some (.inr (1, n, q)) ∧ f n := by
  unfold sv_lz at h
  split at h
  · exact ⟨_, _, by assumption, h⟩
  · exact h.elim
theorem sv_lg_e {r : Nat} {f : Nat → Nat → Prop} (h : sv_lg r f) : ∃ n q, sv_LT[r]? = some (.inr (2, n, q)) ∧ f n q := by
  unfold sv_lg at h
  split at h
  · exact ⟨_, _, by assumption, h⟩
  · exact h.elim
def o_ia (nx : Nat) : sv_O := fun k _ lv st μ => sv_ri st (fun r i t => sv_ln r (fun n => vp_in i n ∧ k nx lv (.int (μ r i.toNatClampNeg) :: t) μ))
def o_za (nx : Nat) : sv_O := fun k _ lv st μ => sv_ri st (fun r i t => sv_lz r (fun n => vp_in i n ∧ k nx lv (.int (μ r i.toNatClampNeg) :: t) μ))
def o_aa (nx : Nat) : sv_O := fun k _ lv st μ => sv_ri st (fun r i t => sv_lg r (fun n q => vp_in i n ∧ k nx lv (.ref (q + i.toNatClampNeg) :: t) μ))
def o_is3 (nx : Nat) : sv_O := fun k _ lv st μ => sv_rii st (fun r i x t => sv_ln r (fun n => vp_in i n ∧ k nx lv t (sv_up μ r i.toNatClampNeg x)))
def o_zs (nx : Nat) : sv_O := fun k _ lv st μ => sv_rii st (fun r i x t => sv_lz r (fun n => vp_in i n ∧ k nx lv t (sv_up μ r i.toNatClampNeg (vp_nar .boolean x))))
def o_len (nx : Nat) : sv_O := fun k _ lv st μ => sv_r1 st (fun r t => sv_ln r (fun n => k nx lv (.int (nI n) :: t) μ))
theorem s_iaload (hd : decode M.2.1 pc = .ok (.iaload, 1)) : sv_Snd M pc (o_ia (pc + 1)) := by
  intro k Q lv st μ hk h
  obtain ⟨r, i, t, rfl, h⟩ := sv_ri_e h
  obtain ⟨n, q, hLT, hin, h⟩ := sv_ln_e h
  intro l p e R s m args below meth c cells slots Z A g CC H locs ls hW hl
  exact va_iald CC.1 CC.2.1 CC.2.2.2.2.2.2.2.1 hW.1 r 0 (sv_ws_get g μ hLT) rfl hin hd (hk _ _ _ _ h l p e R s m args below meth c cells slots Z A g CC H locs ls hW hl)
theorem s_baload (hd : decode M.2.1 pc = .ok (.baload, 1)) : sv_Snd M pc (o_za (pc + 1)) := by
  intro k Q lv st μ hk h
  obtain ⟨r, i, t, rfl, h⟩ := sv_ri_e h
  obtain ⟨n, q, hLT, hin, h⟩ := sv_lz_e h
  intro l p e R s m args below meth c cells slots Z A g CC H locs ls hW hl
  exact va_zald CC.1 CC.2.1 CC.2.2.2.2.2.2.2.1 hW.1 r 1 (sv_ws_get g μ hLT) rfl hin hd (hk _ _ _ _ h l p e R s m args below meth c cells slots Z A g CC H locs ls hW hl)
theorem s_aaload (hd : decode M.2.1 pc = .ok (.aaload, 1)) : sv_Snd M pc (o_aa (pc + 1)) := by
  intro k Q lv st μ hk h
  obtain ⟨r, i, t, rfl, h⟩ := sv_ri_e h
  obtain ⟨n, q, hLT, hin, h⟩ := sv_lg_e h
  intro l p e R s m args below meth c cells slots Z A g CC H locs ls hW hl
  have hlt : i.toNatClampNeg < n := Nat.not_le.mp fun z => hin (Or.inr z)
  have ha := sv_ws_get g μ hLT
  have hK := CC.2.2.2.2.2.2.2.1
  have hv : va_rf (if i.toNatClampNeg < n then some (g.2.1 (q + i.toNatClampNeg)) else none) = .ref (g.2.1 (q + i.toNatClampNeg)) := by rw [if_pos hlt]; rfl
  exact W.aald (v := .ref (g.2.1 (q + i.toNatClampNeg))) (ty := .array .int) CC.1 CC.2.1 (hW.1 r _ ha) ((hK.2 2 _ rfl).1 n (fun j => va_rf (if j < n then some (g.2.1 (q + j)) else none))) rfl (fun z => by cases z) (by show ¬ (i < 0 ∨ (arrV _ _ _).slots.size ≤ _); rw [arrV_size]; exact hin) (by show (arrV _ _ _).slots[_]? = _; rw [arrV_read _ _ hlt, hv]) rfl rfl hd (hk _ _ _ _ h l p e R s m args below meth c cells slots Z A g CC H locs ls hW hl)
theorem s_iastore (hd : decode M.2.1 pc = .ok (.iastore, 1)) : sv_Snd M pc (o_is3 (pc + 1)) := by
  intro k Q lv st μ hk h
  obtain ⟨r, i, x, t, rfl, h⟩ := sv_rii_e h
  obtain ⟨n, q, hLT, hin, h⟩ := sv_ln_e h
  intro l p e R s m args below meth c cells slots Z A g CC H locs ls hW hl
  refine va_iast CC.1 CC.2.1 CC.2.2.2.2.2.2.2.1 hW.1 hW.2.1 hW.2.2 r 0 (sv_ws_get g μ hLT) rfl hin hd (fun H1 locs1 hP hD hS => ?_)
  have e1 := sv_ws_set g μ hLT (upd (μ r) i.toNatClampNeg x)
  rw [← sv_up_st] at e1
  exact hk _ _ _ _ h l p e R s m args below meth c cells slots Z A g CC H1 locs1 ls ⟨e1 ▸ hP, e1 ▸ hD, hS⟩ hl
theorem s_bastore (hd : decode M.2.1 pc = .ok (.bastore, 1)) : sv_Snd M pc (o_zs (pc + 1)) := by
  intro k Q lv st μ hk h
  obtain ⟨r, i, x, t, rfl, h⟩ := sv_rii_e h
  obtain ⟨n, q, hLT, hin, h⟩ := sv_lz_e h
  intro l p e R s m args below meth c cells slots Z A g CC H locs ls hW hl
  refine va_zast CC.1 CC.2.1 CC.2.2.2.2.2.2.2.1 hW.1 hW.2.1 hW.2.2 r 1 (sv_ws_get g μ hLT) rfl hin hd (fun H1 locs1 hP hD hS => ?_)
  have e1 := sv_ws_set g μ hLT (upd (μ r) i.toNatClampNeg (vp_nar .boolean x))
  rw [← sv_up_st] at e1
  exact hk _ _ _ _ h l p e R s m args below meth c cells slots Z A g CC H1 locs1 ls ⟨e1 ▸ hP, e1 ▸ hD, hS⟩ hl
theorem s_arraylength (hd : decode M.2.1 pc = .ok (.arraylength, 1)) : sv_Snd M pc (o_len (pc + 1)) := by
  intro k Q lv st μ hk h
  obtain ⟨r, t, rfl, h⟩ := sv_r1_e h
  obtain ⟨n, q, hLT, h⟩ := sv_ln_e h
  intro l p e R s m args below meth c cells slots Z A g CC H locs ls hW hl
  exact va_alen CC.1 CC.2.1 CC.2.2.2.2.2.2.2.1 hW.1 r 0 (sv_ws_get g μ hLT) rfl rfl hd (hk _ _ _ _ h l p e R s m args below meth c cells slots Z A g CC H locs ls hW hl)
/-! ===== returns ===== -/
def sv_zb (x : Int32) : Prop := narrow .boolean (.int x) = .int x
def o_ir : sv_O := fun _ Q _ st μ => match st with
  | [.int x] => Q (.int x) μ
  | _ => False
def o_zr : sv_O := fun _ Q _ st μ => match st with
  | [.int x] => sv_zb x ∧ Q (.int x) μ
  | _ => False
def o_lr : sv_O := fun _ Q _ st μ => match st with
  | [.long x] => Q (.long x) μ
  | _ => False
def o_vr : sv_O := fun _ Q _ st μ => match st with
  | [] => Q .null μ
  | _ => False
theorem s_ireturn (hd : decode M.2.1 pc = .ok (.ireturn, 1)) (hr : M.2.2.2.1 = some .int) : sv_Snd M pc o_ir := by
  intro k Q lv st μ hk h
  unfold o_ir at h
  split at h
  · rename_i x
    intro l p e R s m args below meth c cells slots Z A g CC H locs ls hW hl
    exact CC.2.2.2.2.2.2.2.2.2.2 (.int x) μ H locs pc ls ⟨hd, .int, hr, vp_nar_int x⟩ h hW
  · exact h.elim
theorem s_zreturn (hd : decode M.2.1 pc = .ok (.ireturn, 1)) (hr : M.2.2.2.1 = some .boolean) : sv_Snd M pc o_zr := by
  intro k Q lv st μ hk h
  unfold o_zr at h
  split at h
  · rename_i x
    intro l p e R s m args below meth c cells slots Z A g CC H locs ls hW hl
    exact CC.2.2.2.2.2.2.2.2.2.2 (.int x) μ H locs pc ls ⟨hd, .boolean, hr, h.1⟩ h.2 hW
  · exact h.elim
theorem s_lreturn (hd : decode M.2.1 pc = .ok (.lreturn, 1)) (hr : M.2.2.2.1 = some .long) : sv_Snd M pc o_lr := by
  intro k Q lv st μ hk h
  unfold o_lr at h
  split at h
  · rename_i x
    intro l p e R s m args below meth c cells slots Z A g CC H locs ls hW hl
    exact CC.2.2.2.2.2.2.2.2.2.2 (.long x) μ H locs pc ls ⟨hd, hr⟩ h hW
  · exact h.elim
theorem s_vreturn (hd : decode M.2.1 pc = .ok (.return_, 1)) (hr : M.2.2.2.1 = none) : sv_Snd M pc o_vr := by
  intro k Q lv st μ hk h
  unfold o_vr at h
  split at h
  · intro l p e R s m args below meth c cells slots Z A g CC H locs ls hW hl
    exact CC.2.2.2.2.2.2.2.2.2.2 .null μ H locs pc ls ⟨hd, hr⟩ h hW
  · exact h.elim
/-! ===== calls ===== -/
def sv_QI (K : Int32 → sv_Mem → Prop) : sv_Po := fun v μ => match v with
  | .int x => K x μ
  | _ => False
def sv_QL (K : Int64 → sv_Mem → Prop) : sv_Po := fun v μ => match v with
  | .long x => K x μ
  | _ => False
def sv_QV (K : sv_Mem → Prop) : sv_Po := fun v μ => match v with
  | .null => K μ
  | _ => False
/-- the method answers, and then K of the answer and the memory behind it -/
def sv_cI (M : sv_M) (as : List Value) (μ : sv_Mem) (K : Int32 → sv_Mem → Prop) : Prop := wp M 0 (lv_args 0 as) [] μ (sv_QI K)
def sv_cL (M : sv_M) (as : List Value) (μ : sv_Mem) (K : Int64 → sv_Mem → Prop) : Prop := wp M 0 (lv_args 0 as) [] μ (sv_QL K)
def sv_cV (M : sv_M) (as : List Value) (μ : sv_Mem) (K : sv_Mem → Prop) : Prop := wp M 0 (lv_args 0 as) [] μ (sv_QV K)
def sv_okS (M' : sv_M) (n : Nat) (st : List Value) : Bool := Nat.beq (st.take n).reverse.length n && (Nat.ble (sv_wn (st.take n).reverse) M'.2.2.1 && Nat.ble (sv_wn (st.drop n)) 8)
def sv_okV (M' : sv_M) (n r0 r : Nat) (st rest : List Value) : Bool := Nat.beq r r0 && (Nat.beq (st.take n).reverse.length n && (Nat.ble (sv_wn (.ref r0 :: (st.take n).reverse)) M'.2.2.1 && Nat.ble (sv_wn rest) 8))
def o_sI (M' : sv_M) (n nx : Nat) : sv_O := fun k _ lv st μ => bif sv_okS M' n st then sv_cI M' (st.take n).reverse μ (fun x μ' => k nx lv (.int x :: st.drop n) μ') else False
def o_sL (M' : sv_M) (n nx : Nat) : sv_O := fun k _ lv st μ => bif sv_okS M' n st then sv_cL M' (st.take n).reverse μ (fun x μ' => k nx lv (.long x :: st.drop n) μ') else False
def o_vI (M' : sv_M) (n r0 nx : Nat) : sv_O := fun k _ lv st μ => sv_r1 (st.drop n) (fun r rest => bif sv_okV M' n r0 r st rest then sv_cI M' (.ref r0 :: (st.take n).reverse) μ (fun x μ' => k nx lv (.int x :: rest) μ') else False)
def o_vL (M' : sv_M) (n r0 nx : Nat) : sv_O := fun k _ lv st μ => sv_r1 (st.drop n) (fun r rest => bif sv_okV M' n r0 r st rest then sv_cL M' (.ref r0 :: (st.take n).reverse) μ (fun x μ' => k nx lv (.long x :: rest) μ') else False)
def o_vV (M' : sv_M) (n r0 nx : Nat) : sv_O := fun k _ lv st μ => sv_r1 (st.drop n) (fun r rest => bif sv_okV M' n r0 r st rest then sv_cV M' (.ref r0 :: (st.take n).reverse) μ (fun μ' => k nx lv rest μ') else False)
def sv_in (M M' : sv_M) : Prop := M'.2.2.2.2.1 + 1 ≤ M.2.2.2.2.1 ∧ 8 + (M'.2.2.1 + 11) + M'.2.2.2.2.2 ≤ M.2.2.2.2.2
theorem sv_stS (ad : Nat → Nat) (n : Nat) (st : List Value) : st.map (sv_tr ad) = ((st.take n).reverse.map (sv_tr ad)).reverse ++ (st.drop n).map (sv_tr ad) := by
  rw [List.map_reverse, List.reverse_reverse, ← List.map_append, List.take_append_drop]
theorem sv_stV (ad : Nat → Nat) (n r : Nat) (st rest : List Value) (h : st.drop n = .ref r :: rest) : st.map (sv_tr ad) = ((st.take n).reverse.map (sv_tr ad)).reverse ++ .ref (ad r) :: rest.map (sv_tr ad) := by
  rw [sv_stS ad n st, h]
  rfl
theorem sv_genS {M' : sv_M} {n idx : Nat} {st : List Value} {lv : sv_L} {μ : sv_Mem} {Q Q' : sv_Po} (hc : sv_cal M' n) (h1 : Cond.methodLink M.1.cls idx M'.1 ∈ sv_GT) (h2 : Cond.static M'.1 ∈ sv_GT) (hf : sv_in M M') (hd : decode M.2.1 pc = .ok (.invokestatic idx, 3)) (ok : sv_okS M' n st = true) (hwp : wp M' 0 (lv_args 0 (st.take n).reverse) [] μ Q')
    (hk : ∀ v μ', Q' v μ' → wp M (pc + 3) lv ((sv_ro v).toList ++ st.drop n) μ' Q ∧ ∀ ad, ((sv_ro v).toList).map (sv_tr ad) = (sv_ro v).toList) : wp M pc lv st μ Q := by
  have o1 := (Bool.and_eq_true _ _).mp ok
  have o2 := (Bool.and_eq_true _ _).mp o1.2
  intro l p e R s m args below meth c cells slots Z A g CC H locs ls hW hl
  refine sv_runS (own := M.1.cls) (nL := M.2.2.1) ⟨CC.1, CC.2.1, CC.2.2.1, CC.2.2.2.1, CC.2.2.2.2.1⟩ hc h1 h2 ⟨Nat.le_trans hf.1 CC.2.2.2.2.2.2.1.1, Nat.le_trans hf.2 CC.2.2.2.2.2.2.1.2⟩ CC.2.2.2.2.2.2.2.2.2.1 CC.2.2.2.2.2.2.2.1 CC.2.2.2.2.2.1 CC.2.2.2.2.2.2.2.2.1 hW hl.1 (Nat.eq_of_beq_eq_true o1.1) (sv_stS g.2.1 n st) (by rw [sv_wn_sum]; exact Nat.le_of_ble_eq_true o2.2) (Nat.le_of_ble_eq_true o2.1) hd hwp (fun v μ' H1 locs1 hq hW1 => ?_)
  obtain ⟨h3, h4⟩ := hk v μ' hq
  have h5 := h3 l p e R s m args below meth c cells slots Z A g CC H1 locs1 ls hW1 hl
  rw [List.map_append, h4] at h5
  exact h5
theorem sv_genV {M' : sv_M} {n idx r0 ci : Nat} {sl : List (Option Nat)} {q : vw_C} {st rest : List Value} {lv : sv_L} {μ : sv_Mem} {Q Q' : sv_Po} (hc : sv_cal M' n) (h1 : Cond.methodLink M.1.cls idx M'.1 ∈ sv_GT) (h2 : Cond.instanceMethod M'.1 ∈ sv_GT) (h3 : Cond.selects M'.1.cls M'.1 M'.1 ∈ sv_GT) (hf : sv_in M M') (hLT : sv_LT[r0]? = some (.inl (ci, sl))) (hq : vwCl[ci]? = some q) (hqc : q.1 = M'.1.cls) (hd : decode M.2.1 pc = .ok (.invokevirtual idx, 3)) (hst : st.drop n = .ref r0 :: rest) (ok : sv_okV M' n r0 r0 st rest = true) (hwp : wp M' 0 (lv_args 0 (.ref r0 :: (st.take n).reverse)) [] μ Q')
    (hk : ∀ v μ', Q' v μ' → wp M (pc + 3) lv ((sv_ro v).toList ++ rest) μ' Q ∧ ∀ ad, ((sv_ro v).toList).map (sv_tr ad) = (sv_ro v).toList) : wp M pc lv st μ Q := by
  have o0 := (Bool.and_eq_true _ _).mp ok
  have o1 := (Bool.and_eq_true _ _).mp o0.2
  have o2 := (Bool.and_eq_true _ _).mp o1.2
  intro l p e R s m args below meth c cells slots Z A g CC H locs ls hW hl
  refine sv_runV (own := M.1.cls) (nL := M.2.2.1) ⟨CC.1, CC.2.1, CC.2.2.1, CC.2.2.2.1, CC.2.2.2.2.1⟩ hc h1 h2 h3 ⟨Nat.le_trans hf.1 CC.2.2.2.2.2.2.1.1, Nat.le_trans hf.2 CC.2.2.2.2.2.2.1.2⟩ CC.2.2.2.2.2.2.2.2.2.1 CC.2.2.2.2.2.2.2.1 CC.2.2.2.2.2.1 CC.2.2.2.2.2.2.2.2.1 hW hLT hq hqc hl.1 (Nat.eq_of_beq_eq_true o1.1) (sv_stV g.2.1 n r0 st rest hst) (by rw [sv_wn_sum]; exact Nat.le_of_ble_eq_true o2.2) (Nat.le_of_ble_eq_true o2.1) hd hwp (fun v μ' H1 locs1 hq hW1 => ?_)
  obtain ⟨h3, h4⟩ := hk v μ' hq
  have h5 := h3 l p e R s m args below meth c cells slots Z A g CC H1 locs1 ls hW1 hl
  rw [List.map_append, h4] at h5
  exact h5
theorem s_callSI {M' : sv_M} {n idx : Nat} (hc : sv_cal M' n) (h1 : Cond.methodLink M.1.cls idx M'.1 ∈ sv_GT) (h2 : Cond.static M'.1 ∈ sv_GT) (hf : sv_in M M') (hd : decode M.2.1 pc = .ok (.invokestatic idx, 3)) : sv_Snd M pc (o_sI M' n (pc + 3)) := by
  intro k Q lv st μ hk h
  obtain ⟨ok, h⟩ := sv_bif h
  refine sv_genS hc h1 h2 hf hd ok h (fun v μ' hq => ?_)
  cases v <;> first | exact hq.elim | exact ⟨hk _ _ _ _ hq, fun _ => rfl⟩
theorem s_callSL {M' : sv_M} {n idx : Nat} (hc : sv_cal M' n) (h1 : Cond.methodLink M.1.cls idx M'.1 ∈ sv_GT) (h2 : Cond.static M'.1 ∈ sv_GT) (hf : sv_in M M') (hd : decode M.2.1 pc = .ok (.invokestatic idx, 3)) : sv_Snd M pc (o_sL M' n (pc + 3)) := by
  intro k Q lv st μ hk h
  obtain ⟨ok, h⟩ := sv_bif h
  refine sv_genS hc h1 h2 hf hd ok h (fun v μ' hq => ?_)
  cases v <;> first | exact hq.elim | exact ⟨hk _ _ _ _ hq, fun _ => rfl⟩
theorem s_callVI {M' : sv_M} {n idx r0 ci N : Nat} {sl : List (Option Nat)} {C : String} {T : u_T} (cf : sv_cf ci r0 C T N sl) (hC : C = M'.1.cls) (hc : sv_cal M' n) (h1 : Cond.methodLink M.1.cls idx M'.1 ∈ sv_GT) (h2 : Cond.instanceMethod M'.1 ∈ sv_GT) (h3 : Cond.selects M'.1.cls M'.1 M'.1 ∈ sv_GT) (hf : sv_in M M') (hd : decode M.2.1 pc = .ok (.invokevirtual idx, 3)) : sv_Snd M pc (o_vI M' n r0 (pc + 3)) := by
  intro k Q lv st μ hk h
  obtain ⟨r, rest, hst, h⟩ := sv_r1_e h
  obtain ⟨ok, h⟩ := sv_bif h
  have hr := Nat.eq_of_beq_eq_true ((Bool.and_eq_true _ _).mp ok).1
  subst hr
  refine sv_genV hc h1 h2 h3 hf cf.2.2.1 cf.1 hC hd hst ok h (fun v μ' hq => ?_)
  cases v <;> first | exact hq.elim | exact ⟨hk _ _ _ _ hq, fun _ => rfl⟩
theorem s_callVL {M' : sv_M} {n idx r0 ci N : Nat} {sl : List (Option Nat)} {C : String} {T : u_T} (cf : sv_cf ci r0 C T N sl) (hC : C = M'.1.cls) (hc : sv_cal M' n) (h1 : Cond.methodLink M.1.cls idx M'.1 ∈ sv_GT) (h2 : Cond.instanceMethod M'.1 ∈ sv_GT) (h3 : Cond.selects M'.1.cls M'.1 M'.1 ∈ sv_GT) (hf : sv_in M M') (hd : decode M.2.1 pc = .ok (.invokevirtual idx, 3)) : sv_Snd M pc (o_vL M' n r0 (pc + 3)) := by
  intro k Q lv st μ hk h
  obtain ⟨r, rest, hst, h⟩ := sv_r1_e h
  obtain ⟨ok, h⟩ := sv_bif h
  have hr := Nat.eq_of_beq_eq_true ((Bool.and_eq_true _ _).mp ok).1
  subst hr
  refine sv_genV hc h1 h2 h3 hf cf.2.2.1 cf.1 hC hd hst ok h (fun v μ' hq => ?_)
  cases v <;> first | exact hq.elim | exact ⟨hk _ _ _ _ hq, fun _ => rfl⟩
theorem s_callVV {M' : sv_M} {n idx r0 ci N : Nat} {sl : List (Option Nat)} {C : String} {T : u_T} (cf : sv_cf ci r0 C T N sl) (hC : C = M'.1.cls) (hc : sv_cal M' n) (h1 : Cond.methodLink M.1.cls idx M'.1 ∈ sv_GT) (h2 : Cond.instanceMethod M'.1 ∈ sv_GT) (h3 : Cond.selects M'.1.cls M'.1 M'.1 ∈ sv_GT) (hf : sv_in M M') (hd : decode M.2.1 pc = .ok (.invokevirtual idx, 3)) : sv_Snd M pc (o_vV M' n r0 (pc + 3)) := by
  intro k Q lv st μ hk h
  obtain ⟨r, rest, hst, h⟩ := sv_r1_e h
  obtain ⟨ok, h⟩ := sv_bif h
  have hr := Nat.eq_of_beq_eq_true ((Bool.and_eq_true _ _).mp ok).1
  subst hr
  refine sv_genV hc h1 h2 h3 hf cf.2.2.1 cf.1 hC hd hst ok h (fun v μ' hq => ?_)
  cases v <;> first | exact hq.elim | exact ⟨hk _ _ _ _ hq, fun _ => rfl⟩
/-- System.arraycopy of int arrays -/
def o_cp (nx : Nat) : sv_O := fun k _ lv st μ => match st with
  | .int n :: .int dp :: .ref t :: .int sp :: .ref s :: rest => bif Nat.ble (sv_wn rest) 8 then sv_ln s (fun n0 => sv_ln t (fun n1 => ¬ sp < 0 ∧ ¬ dp < 0 ∧ ¬ n < 0 ∧ sp.toNatClampNeg + n.toNatClampNeg ≤ n0 ∧ dp.toNatClampNeg + n.toNatClampNeg ≤ n1 ∧ k nx lv rest (sv_st μ t (va_cpy (μ s) (μ t) sp.toNatClampNeg dp.toNatClampNeg n.toNatClampNeg)))) else False
  | _ => False
theorem s_copy {idx : Nat} (h1 : Cond.methodLink M.1.cls idx arraycopyName ∈ sv_GT) (h2 : Cond.native arraycopyName ∈ sv_GT) (h3 : Cond.static arraycopyName ∈ sv_GT) (h4 : Cond.initialized "java/lang/System" ∈ sv_GT) (hf : 1 ≤ M.2.2.2.2.1) (hl0 : 8 + (nativeFrameWords "java/lang/System" "arraycopy" 5 + 11) ≤ M.2.2.2.2.2) (hd : decode M.2.1 pc = .ok (.invokestatic idx, 3)) : sv_Snd M pc (o_cp (pc + 3)) := by
  intro k Q lv st μ hk h
  unfold o_cp at h
  split at h
  · rename_i n dp t sp s0 rest
    obtain ⟨hw, h⟩ := sv_bif h
    obtain ⟨n0, q0, hs, h⟩ := sv_ln_e h
    obtain ⟨n1, q1, ht, a1, a2, a3, a4, a5, h⟩ := sv_ln_e h
    intro l p e R s m args below meth c cells slots Z A g CC H locs ls hW hl
    have hts := CC.2.2.2.2.1
    have hsum := sv_wn_sum g.2.1 rest
    have hle := Nat.le_of_ble_eq_true hw
    refine va_copyi CC.1 CC.2.1 (CC.2.2.1.trans hl.1.symm) CC.2.2.2.1 (hts _ h1) (hts _ h2) (hts _ h3) (hts _ h4) CC.2.2.2.2.2.2.2.1 hW.1 hW.2.1 hW.2.2 s0 t 0 0 (sv_ws_get g μ hs) (sv_ws_get g μ ht) rfl rfl rfl a1 a2 a3 a4 a5 (fun _ _ => rfl) (Nat.le_trans hf CC.2.2.2.2.2.2.1.1) (Nat.le_trans (Nat.add_le_add_right (by rw [hsum]; exact hle) _) (Nat.le_trans hl0 CC.2.2.2.2.2.2.1.2)) hd (fun H1 locs1 hP hD hS => ?_)
    have e1 := sv_ws_set g μ ht (va_cpy (μ s0) (μ t) sp.toNatClampNeg dp.toNatClampNeg n.toNatClampNeg)
    exact hk _ _ _ _ h l p e R s m args below meth c cells slots Z A g CC H1 locs1 ls ⟨e1 ▸ hP, e1 ▸ hD, hS⟩ hl
  · exact h.elim
/-! ===== switches ===== -/
def sv_swc : List (Int32 × Nat) → Nat → Int32 → (Nat → Prop) → Prop
  | [], d, _, f => f d
  | q :: r, d, x, f => (x = q.1 → f q.2) ∧ (¬ x = q.1 → sv_swc r d x f)
def sv_tgt : List (Int32 × Nat) → Nat → Int32 → Nat
  | [], d, _ => d
  | q :: r, d, x => if x = q.1 then q.2 else sv_tgt r d x
theorem sv_swc_e {d : Nat} {x : Int32} {f : Nat → Prop} : ∀ {cs : List (Int32 × Nat)}, sv_swc cs d x f → f (sv_tgt cs d x)
  | [], h => h
  | q :: r, h => by
    unfold sv_tgt
    by_cases e : x = q.1
    · rw [if_pos e]; exact h.1 e
    · rw [if_neg e]; exact sv_swc_e (h.2 e)
def o_sw (cs : List (Int32 × Nat)) (d : Nat) : sv_O := fun k _ lv st μ => sv_p1 st (fun x t => sv_swc cs d x (fun pc' => k pc' lv t μ))
theorem s_table {dflt lo hi : Int} {offs : Array Int} {len : Nat} {cs : List (Int32 × Nat)} {d : Nat} (hd : decode M.2.1 pc = .ok (.tableswitch dflt lo hi offs, len))
    (H1 : ∀ x : Int32, x.toInt < lo ∨ hi < x.toInt → (pc : Int) + dflt = (sv_tgt cs d x : Nat)) (H2 : ∀ x : Int32, ¬ x.toInt < lo → ¬ hi < x.toInt → ∃ off, offs[(x.toInt - lo).toNat]? = some off ∧ (pc : Int) + off = (sv_tgt cs d x : Nat)) : sv_Snd M pc (o_sw cs d) := by
  intro k Q lv st μ hk h
  obtain ⟨x, t, rfl, h⟩ := sv_p1_e h
  have h := sv_swc_e h
  by_cases e : x.toInt < lo ∨ hi < x.toInt
  · exact sv_pure (hk _ _ _ _ h) (fun g hx hb _ _ hl K => lv_tableOut hx hb hd e (H1 x e) K)
  · obtain ⟨off, h1, h2⟩ := H2 x (fun z => e (Or.inl z)) (fun z => e (Or.inr z))
    exact sv_pure (hk _ _ _ _ h) (fun g hx hb _ _ hl K => lv_tableIn hx hb hd (fun z => e (Or.inl z)) (fun z => e (Or.inr z)) h1 h2 K)
theorem s_lookup {dflt : Int} {ps : Array (Int × Int)} {len : Nat} {cs : List (Int32 × Nat)} {d : Nat} (hd : decode M.2.1 pc = .ok (.lookupswitch dflt ps, len)) (hp : (ps.toList.zip (ps.toList.drop 1)).all (fun (a, next) => a.1 < next.1) = true)
    (H1 : ∀ x : Int32, (pc : Int) + Op.lookupswitch.offset ps.toList dflt x.toInt = (sv_tgt cs d x : Nat)) : sv_Snd M pc (o_sw cs d) := by
  intro k Q lv st μ hk h
  obtain ⟨x, t, rfl, h⟩ := sv_p1_e h
  have h := sv_swc_e h
  exact sv_pure (hk _ _ _ _ h) (fun g hx hb _ _ hl K => lv_lookup hx hb hd hp rfl (H1 x) K)
end SVM
/-! ===== many instructions at once ===== -/
abbrev sv_Cd : Type := List (Nat × sv_O)
def sv_fe : sv_Cd → Nat → Option sv_O
  | [], _ => none
  | q :: t, i => bif Nat.beq q.1 i then some q.2 else sv_fe t i
theorem sv_fe_mem : ∀ {cd : sv_Cd} {i : Nat} {o : sv_O}, sv_fe cd i = some o → (i, o) ∈ cd
  | [], i, v, h => by simp [sv_fe] at h
  | q :: t, i, v, h => by
    unfold sv_fe at h
    cases hb : Nat.beq q.1 i with
    | true =>
      rw [hb] at h
      have h1 : q.1 = i := Nat.eq_of_beq_eq_true hb
      have h2 : q.2 = v := Option.some.inj h
      rw [← h1, ← h2]
      exact List.mem_cons_self
    | false =>
      rw [hb] at h
      exact List.mem_cons_of_mem _ (sv_fe_mem h)
def sv_ct : List (Nat × Nat) → Nat → Option Nat
  | [], _ => none
  | q :: t, i => bif Nat.beq q.1 i then some q.2 else sv_ct t i
def sv_tk (b : Nat) : sv_L → sv_L
  | [] => []
  | q :: t => bif Nat.blt q.1 b then q :: sv_tk b t else sv_tk b t
theorem sv_tk_mem {b : Nat} : ∀ {lv : sv_L} {q : Nat × Value}, q ∈ sv_tk b lv → q ∈ lv
  | [], q, h => h
  | r :: t, q, h => by
    unfold sv_tk at h
    cases hb : Nat.blt r.1 b with
    | true =>
      rw [hb] at h
      rcases List.mem_cons.mp h with h | h
      · rw [h]; exact List.mem_cons_self
      · exact List.mem_cons_of_mem _ (sv_tk_mem h)
    | false =>
      rw [hb] at h
      exact List.mem_cons_of_mem _ (sv_tk_mem h)
/-- the next of it, or what an instruction asks -/
def sv_1 (cd : sv_Cd) (Q : sv_Po) (k : sv_K) : sv_K := fun pc lv st μ => match sv_fe cd pc with
  | some o => o k Q lv st μ
  | none => False
def sv_2 (M : sv_M) (cuts : List (Nat × Nat)) (Q : sv_Po) (k : sv_K) : sv_K := fun pc lv st μ => match sv_ct cuts pc with
  | some b => wp M pc (sv_tk b lv) st μ Q
  | none => k pc lv st μ
def sv_vc (M : sv_M) (cd : sv_Cd) (cuts : List (Nat × Nat)) (Q : sv_Po) : Nat → sv_K
  | 0 => fun pc lv st μ => wp M pc lv st μ Q
  | n + 1 => sv_2 M cuts Q (sv_1 cd Q (sv_vc M cd cuts Q n))
theorem sv_1_s {M : sv_M} {cd : sv_Cd} {Q : sv_Po} {k : sv_K} (hcd : ∀ q ∈ cd, sv_Snd M q.1 q.2) (hk : ∀ pc' lv' st' μ', k pc' lv' st' μ' → wp M pc' lv' st' μ' Q) {pc : Nat} {lv : sv_L} {st : List Value} {μ : sv_Mem} (h : sv_1 cd Q k pc lv st μ) : wp M pc lv st μ Q := by
  unfold sv_1 at h
  split at h
  · rename_i o ho
    exact hcd _ (sv_fe_mem ho) k Q lv st μ hk h
  · exact h.elim
theorem sv_vc_s {M : sv_M} {cd : sv_Cd} {cuts : List (Nat × Nat)} {Q : sv_Po} (hcd : ∀ q ∈ cd, sv_Snd M q.1 q.2) : ∀ (n : Nat) (pc : Nat) (lv : sv_L) (st : List Value) (μ : sv_Mem), sv_vc M cd cuts Q n pc lv st μ → wp M pc lv st μ Q
  | 0, _, _, _, _, h => h
  | n + 1, pc, lv, st, μ, h => by
    have h : sv_2 M cuts Q (sv_1 cd Q (sv_vc M cd cuts Q n)) pc lv st μ := h
    unfold sv_2 at h
    split at h
    · exact wp_sub h (fun q hq => sv_tk_mem hq)
    · exact sv_1_s hcd (sv_vc_s hcd n) h
/-- from a place of a method on: what the instructions ask, up to the cuts -/
theorem sv_go {M : sv_M} {cd : sv_Cd} {Q : sv_Po} (hcd : ∀ q ∈ cd, sv_Snd M q.1 q.2) (cuts : List (Nat × Nat)) (n : Nat) {pc : Nat} {lv : sv_L} {st : List Value} {μ : sv_Mem} (h : sv_1 cd Q (sv_vc M cd cuts Q n) pc lv st μ) : wp M pc lv st μ Q := sv_1_s hcd (sv_vc_s hcd n) h
end
section
/-- Math.max of two ints -/
def o_mx (nx : Nat) : sv_O := fun k _ lv st μ => sv_p2 st (fun x y t => bif Nat.ble (sv_wn t) 8 then k nx lv (.int (if x < y then y else x) :: t) μ else False)
theorem s_max {M : sv_M} {pc idx : Nat} (h1 : Cond.methodLink M.1.cls idx Lib.Math.max.name ∈ sv_GT) (h2 : Cond.static Lib.Math.max.name ∈ sv_GT) (h3 : Cond.initialized "java/lang/Math" ∈ sv_GT) (h4 : Cond.code Lib.Math.max.name Lib.Math.max.code 2 (some .int) ∈ sv_GT) (hf : 1 ≤ M.2.2.2.2.1) (hl0 : 8 + 13 ≤ M.2.2.2.2.2) (hd : decode M.2.1 pc = .ok (.invokestatic idx, 3)) : sv_Snd M pc (o_mx (pc + 3)) := by
  intro k Q lv st μ hk h
  obtain ⟨x, y, t, rfl, h0⟩ := sv_p2_e h
  obtain ⟨hw, h5⟩ := sv_bif h0
  intro l p e R s m args below meth c cells slots Z A g CC H locs ls hW hl
  have hts := CC.2.2.2.2.1
  have hsum := sv_wn_sum g.2.1 t
  have hle := Nat.le_of_ble_eq_true hw
  exact va_mmax CC.1 CC.2.1 (CC.2.2.1.trans hl.1.symm) CC.2.2.2.1 (hts _ h1) (hts _ h2) (hts _ h3) (hts _ h4) (Nat.le_trans hf CC.2.2.2.2.2.2.1.1) (Nat.le_trans (Nat.add_le_add_right (by rw [hsum]; exact hle) _) (Nat.le_trans hl0 CC.2.2.2.2.2.2.1.2)) CC.2.2.2.2.2.2.2.2.2.1.1 CC.2.2.2.2.2.2.2.2.2.1.2 hd (hk _ _ _ _ h5 l p e R s m args below meth c cells slots Z A g CC H locs ls hW hl)
end
section
/-! ===== the methods; the words that their instructions use, by their places in the tables ===== -/
theorem sv_uws {C : String} {T : u_T} {N : Nat} (ix : List Nat) (h : ∀ k, k < N → lw_tbl[ix.getD k 0]? = some (u_lay C T k) ∧ goodWord (u_lay C T k) = true) : ∀ w ∈ u_ws C T N, w ∈ sv_GT := by
  intro w hw
  unfold u_ws at hw
  obtain ⟨k, hk, rfl⟩ := List.mem_map.mp hw
  have h1 := h k (List.mem_range.mp hk)
  exact sv_mem _ h1.1 h1.2
def m_X0_append : sv_M := (yX0_append, cX0_append, 2, (some .int), 5, 106)
def m_X0_clear : sv_M := (yX0_clear, cX0_clear, 2, (some .int), 5, 106)
def m_X0_readText : sv_M := (yX0_readText, cX0_readText, 1, none, 4, 86)
def m_X0_readRounds : sv_M := (yX0_readRounds, cX0_readRounds, 2, (some .boolean), 3, 65)
def m_X0_readRound : sv_M := (yX0_readRound, cX0_readRound, 2, (some .boolean), 2, 44)
def m_X0_readByte : sv_M := (yX0_readByte, cX0_readByte, 2, (some .boolean), 0, 0)
def m_X0_readLetter : sv_M := (yX0_readLetter, cX0_readLetter, 2, (some .boolean), 1, 21)
def m_X0_readNumber : sv_M := (yX0_readNumber, cX0_readNumber, 4, (some .boolean), 1, 21)
def m_X0_isFigure : sv_M := (yX0_isFigure, cX0_isFigure, 2, (some .boolean), 0, 0)
def m_X1_advancedOutOf : sv_M := (yX1_advancedOutOf, cX1_advancedOutOf, 4, (some .int), 5, 123)
def m_X1_tally : sv_M := (yX1_tally, cX1_tally, 3, none, 3, 69)
def m_X1_whoPass : sv_M := (yX1_whoPass, cX1_whoPass, 6, (some .int), 1, 21)
def m_X1_whoAdvance : sv_M := (yX1_whoAdvance, cX1_whoAdvance, 8, (some .int), 4, 96)
def m_X1_withShare : sv_M := (yX1_withShare, cX1_withShare, 6, (some .int), 2, 43)
def m_X1_compareShares : sv_M := (yX1_compareShares, cX1_compareShares, 3, (some .int), 1, 21)
def m_X1_outOfTie : sv_M := (yX1_outOfTie, cX1_outOfTie, 4, (some .int), 3, 73)
def m_X1_firstOf : sv_M := (yX1_firstOf, cX1_firstOf, 6, (some .int), 2, 48)
def m_X1_ahead : sv_M := (yX1_ahead, cX1_ahead, 6, (some .int), 1, 23)
def m_X1_isBefore : sv_M := (yX1_isBefore, cX1_isBefore, 4, (some .boolean), 0, 0)
def m_X1_has : sv_M := (yX1_has, cX1_has, 2, (some .boolean), 0, 0)
def m_X2_keep : sv_M := (yX2_keep, cX2_keep, 4, (some .int), 0, 0)
def m_X2_howOften : sv_M := (yX2_howOften, cX2_howOften, 4, (some .int), 0, 0)
def m_X2_greatest : sv_M := (yX2_greatest, cX2_greatest, 5, (some .int), 1, 21)
def m_X3_tell : sv_M := (yX3_tell, cX3_tell, 3, (some .int), 4, 94)
def m_X3_fill : sv_M := (yX3_fill, cX3_fill, 6, none, 3, 69)
def m_X4_ofPassing : sv_M := (yX4_ofPassing, cX4_ofPassing, 6, (some .int), 1, 24)
def m_X4_falseShare : sv_M := (yX4_falseShare, cX4_falseShare, 12, (some .int), 1, 28)
def m_X4_isNotBelow : sv_M := (yX4_isNotBelow, cX4_isNotBelow, 4, (some .boolean), 0, 0)
def m_X4_millionths : sv_M := (yX4_millionths, cX4_millionths, 9, (some .int), 0, 0)
def m_X4_choose : sv_M := (yX4_choose, cX4_choose, 5, (some .long), 0, 0)
def m_X4_power : sv_M := (yX4_power, cX4_power, 5, (some .long), 0, 0)
def m_X5_mostYes : sv_M := (yX5_mostYes, cX5_mostYes, 5, (some .int), 4, 92)
def m_X5_greatestShare : sv_M := (yX5_greatestShare, cX5_greatestShare, 8, (some .int), 4, 92)
def m_X5_winnerOfAllPairs : sv_M := (yX5_winnerOfAllPairs, cX5_winnerOfAllPairs, 2, (some .int), 4, 93)
def m_X5_winsAllPairs : sv_M := (yX5_winsAllPairs, cX5_winsAllPairs, 3, (some .boolean), 3, 71)
def m_X5_yesInAll : sv_M := (yX5_yesInAll, cX5_yesInAll, 4, (some .int), 3, 69)
def m_X5_votesInAll : sv_M := (yX5_votesInAll, cX5_votesInAll, 4, (some .int), 3, 69)
def m_X6_addPlayer : sv_M := (yX6_addPlayer, cX6_addPlayer, 3, (some .int), 1, 22)
def m_X6_shuffle : sv_M := (yX6_shuffle, cX6_shuffle, 6, none, 1, 22)
def m_X6_place : sv_M := (yX6_place, cX6_place, 3, none, 0, 0)
def m_X6_everyone : sv_M := (yX6_everyone, cX6_everyone, 1, (some .int), 0, 0)
def m_X6_countingVote : sv_M := (yX6_countingVote, cX6_countingVote, 4, (some .int), 1, 22)
def m_X6_countingVotes : sv_M := (yX6_countingVotes, cX6_countingVotes, 5, (some .int), 2, 45)
def m_X6_yesVotes : sv_M := (yX6_yesVotes, cX6_yesVotes, 5, (some .int), 2, 45)
def m_X6_jurorsOnPart : sv_M := (yX6_jurorsOnPart, cX6_jurorsOnPart, 7, (some .int), 2, 45)
def m_X7_isLost : sv_M := (yX7_isLost, cX7_isLost, 2, (some .boolean), 0, 0)
def m_X7_found : sv_M := (yX7_found, cX7_found, 2, (some .int), 0, 0)
def m_X7_lay : sv_M := (yX7_lay, cX7_lay, 5, (some .int), 0, 0)
def m_X7_drop : sv_M := (yX7_drop, cX7_drop, 3, (some .int), 0, 0)
def m_X7_findingOfItem : sv_M := (yX7_findingOfItem, cX7_findingOfItem, 4, (some .int), 1, 21)
def m_X7_findingOfSheets : sv_M := (yX7_findingOfSheets, cX7_findingOfSheets, 3, (some .int), 1, 21)
def m_X7_hasSpan : sv_M := (yX7_hasSpan, cX7_hasSpan, 4, (some .boolean), 0, 0)
def m_X7_lowestBits : sv_M := (yX7_lowestBits, cX7_lowestBits, 2, (some .int), 0, 0)
def m_X7_voteAt : sv_M := (yX7_voteAt, cX7_voteAt, 3, (some .int), 0, 0)
def m_X8_has : sv_M := (yX8_has, cX8_has, 3, (some .boolean), 0, 0)
def m_X8_open : sv_M := (yX8_open, cX8_open, 3, (some .int), 0, 0)
def m_X8_addMark : sv_M := (yX8_addMark, cX8_addMark, 3, (some .int), 0, 0)
def m_X8_lead : sv_M := (yX8_lead, cX8_lead, 6, (some .int), 1, 21)
def m_X8_seated : sv_M := (yX8_seated, cX8_seated, 2, (some .int), 3, 68)
def m_X8_leadsAll : sv_M := (yX8_leadsAll, cX8_leadsAll, 3, (some .boolean), 2, 46)
def m_X9_player : sv_M := (yX9_player, cX9_player, 2, (some .int), 2, 44)
def m_X9_jurors : sv_M := (yX9_jurors, cX9_jurors, 3, (some .int), 1, 22)
def m_X9_draw : sv_M := (yX9_draw, cX9_draw, 2, (some .int), 2, 47)
def m_X9_order : sv_M := (yX9_order, cX9_order, 2, (some .int), 2, 43)
def m_X9_votes : sv_M := (yX9_votes, cX9_votes, 4, (some .int), 3, 69)
def m_X9_type : sv_M := (yX9_type, cX9_type, 2, (some .int), 6, 127)
def m_X9_repeal : sv_M := (yX9_repeal, cX9_repeal, 1, (some .int), 6, 127)
def m_X9_fault : sv_M := (yX9_fault, cX9_fault, 1, (some .int), 0, 0)
def m_X9_law : sv_M := (yX9_law, cX9_law, 4, (some .int), 3, 63)
def m_X9_advance : sv_M := (yX9_advance, cX9_advance, 3, (some .int), 6, 146)
def m_X9_through : sv_M := (yX9_through, cX9_through, 3, (some .int), 6, 146)
def m_X9_chosen : sv_M := (yX9_chosen, cX9_chosen, 3, (some .int), 6, 146)
def m_X9_other : sv_M := (yX9_other, cX9_other, 2, (some .int), 5, 119)
def m_X9_chance : sv_M := (yX9_chance, cX9_chance, 4, (some .int), 2, 43)
def m_X9_passes : sv_M := (yX9_passes, cX9_passes, 3, (some .int), 2, 49)
def m_X9_all : sv_M := (yX9_all, cX9_all, 5, (some .int), 2, 49)
def m_X9_doubt : sv_M := (yX9_doubt, cX9_doubt, 5, (some .int), 2, 59)
def m_X9_morning : sv_M := (yX9_morning, cX9_morning, 4, (some .int), 5, 116)
def m_X9_trial : sv_M := (yX9_trial, cX9_trial, 2, (some .int), 2, 43)
def m_X9_week : sv_M := (yX9_week, cX9_week, 3, (some .int), 2, 43)
def m_X9_better : sv_M := (yX9_better, cX9_better, 4, (some .int), 2, 46)
def m_X9_seat : sv_M := (yX9_seat, cX9_seat, 1, (some .int), 4, 89)
def m_X9_hear : sv_M := (yX9_hear, cX9_hear, 4, (some .int), 2, 42)
def m_X9_known : sv_M := (yX9_known, cX9_known, 3, (some .int), 2, 45)
def m_X9_sheet : sv_M := (yX9_sheet, cX9_sheet, 4, (some .int), 2, 42)
def m_X9_lose : sv_M := (yX9_lose, cX9_lose, 2, (some .int), 2, 42)
def m_X9_put : sv_M := (yX9_put, cX9_put, 6, (some .int), 2, 44)
def m_X9_get : sv_M := (yX9_get, cX9_get, 5, (some .int), 2, 44)
def m_X9_copy : sv_M := (yX9_copy, cX9_copy, 7, (some .int), 2, 60)
def m_X9_count : sv_M := (yX9_count, cX9_count, 2, (some .int), 0, 0)
def m_X9_digest : sv_M := (yX9_digest, cX9_digest, 5, (some .long), 7, 168)
def m_X9_within : sv_M := (yX9_within, cX9_within, 3, (some .boolean), 0, 0)
def m_X9_isRound : sv_M := (yX9_isRound, cX9_isRound, 1, (some .boolean), 1, 22)
def m_X9_isSheet : sv_M := (yX9_isSheet, cX9_isSheet, 1, (some .boolean), 1, 22)
def m_X9_isForm : sv_M := (yX9_isForm, cX9_isForm, 1, (some .boolean), 1, 22)
def m_X9_inTable : sv_M := (yX9_inTable, cX9_inTable, 1, (some .boolean), 1, 22)
def m_X9_isNumber : sv_M := (yX9_isNumber, cX9_isNumber, 1, (some .boolean), 1, 22)
def m_X9_isSkill : sv_M := (yX9_isSkill, cX9_isSkill, 2, (some .boolean), 1, 22)
def m_X9_isPlayer : sv_M := (yX9_isPlayer, cX9_isPlayer, 2, (some .boolean), 1, 22)
def m_X9_isPlace : sv_M := (yX9_isPlace, cX9_isPlace, 2, (some .boolean), 1, 22)
def m_X9_refusalOfRound : sv_M := (yX9_refusalOfRound, cX9_refusalOfRound, 2, (some .int), 2, 42)
def m_X10_in : sv_M := (yX10_in, cX10_in, 3, (some .boolean), 0, 0)
def m_X10_isPlayer : sv_M := (yX10_isPlayer, cX10_isPlayer, 2, (some .boolean), 1, 22)
def m_X10_player : sv_M := (yX10_player, cX10_player, 2, (some .int), 1, 22)
def m_X10_jurors : sv_M := (yX10_jurors, cX10_jurors, 3, (some .int), 1, 22)
def m_X10_draw : sv_M := (yX10_draw, cX10_draw, 6, (some .int), 0, 0)
def m_X10_order : sv_M := (yX10_order, cX10_order, 2, (some .int), 1, 22)
def m_X10_vote : sv_M := (yX10_vote, cX10_vote, 7, (some .int), 0, 0)
def m_X10_counted : sv_M := (yX10_counted, cX10_counted, 5, (some .int), 1, 26)
def m_X10_yes : sv_M := (yX10_yes, cX10_yes, 5, (some .int), 1, 26)
def m_X10_votes : sv_M := (yX10_votes, cX10_votes, 4, (some .int), 2, 50)
def m_X10_type : sv_M := (yX10_type, cX10_type, 2, (some .int), 1, 22)
def m_X10_repeal : sv_M := (yX10_repeal, cX10_repeal, 2, (some .int), 0, 0)
def m_X10_byteAt : sv_M := (yX10_byteAt, cX10_byteAt, 2, (some .int), 0, 0)
def m_X10_expect : sv_M := (yX10_expect, cX10_expect, 2, none, 1, 21)
def m_X10_number : sv_M := (yX10_number, cX10_number, 4, (some .int), 1, 22)
def m_X10_read : sv_M := (yX10_read, cX10_read, 3, none, 2, 45)
def m_X10_fault : sv_M := (yX10_fault, cX10_fault, 1, (some .int), 3, 67)
def m_X10_refuses : sv_M := (yX10_refuses, cX10_refuses, 2, (some .int), 3, 67)
def m_X10_law : sv_M := (yX10_law, cX10_law, 4, (some .int), 4, 88)
def m_X10_dearer : sv_M := (yX10_dearer, cX10_dearer, 4, (some .int), 2, 50)
def m_X10_yesSoFar : sv_M := (yX10_yesSoFar, cX10_yesSoFar, 5, (some .int), 2, 50)
def m_X10_placeOf : sv_M := (yX10_placeOf, cX10_placeOf, 3, (some .int), 0, 0)
def m_X10_isAhead : sv_M := (yX10_isAhead, cX10_isAhead, 5, (some .boolean), 3, 74)
def m_X10_passesIn : sv_M := (yX10_passesIn, cX10_passesIn, 4, (some .boolean), 2, 50)
def m_X10_advances : sv_M := (yX10_advances, cX10_advances, 13, (some .int), 4, 98)
def m_X10_out : sv_M := (yX10_out, cX10_out, 4, (some .int), 5, 130)
def m_X10_ones : sv_M := (yX10_ones, cX10_ones, 3, (some .int), 0, 0)
def m_X10_advance : sv_M := (yX10_advance, cX10_advance, 3, (some .int), 6, 153)
def m_X10_through : sv_M := (yX10_through, cX10_through, 3, (some .int), 6, 153)
def m_X10_chosenOne : sv_M := (yX10_chosenOne, cX10_chosenOne, 3, (some .int), 6, 153)
def m_X10_chosen : sv_M := (yX10_chosen, cX10_chosen, 1, (some .int), 7, 175)
def m_X10_allVotes : sv_M := (yX10_allVotes, cX10_allVotes, 5, (some .int), 2, 50)
def m_X10_parts : sv_M := (yX10_parts, cX10_parts, 5, (some .int), 1, 26)
def m_X10_beatsAll : sv_M := (yX10_beatsAll, cX10_beatsAll, 3, (some .boolean), 2, 50)
def m_X10_other : sv_M := (yX10_other, cX10_other, 6, (some .int), 3, 74)
def m_X10_chance : sv_M := (yX10_chance, cX10_chance, 4, (some .int), 1, 22)
def m_X10_choose : sv_M := (yX10_choose, cX10_choose, 5, (some .long), 0, 0)
def m_X10_toThe : sv_M := (yX10_toThe, cX10_toThe, 6, (some .long), 0, 0)
def m_X10_comes : sv_M := (yX10_comes, cX10_comes, 6, (some .int), 1, 25)
def m_X10_passes : sv_M := (yX10_passes, cX10_passes, 3, (some .int), 2, 50)
def m_X10_all : sv_M := (yX10_all, cX10_all, 5, (some .int), 3, 67)
def m_X10_falseShare : sv_M := (yX10_falseShare, cX10_falseShare, 15, (some .int), 1, 24)
def m_X10_doubt : sv_M := (yX10_doubt, cX10_doubt, 5, (some .int), 2, 58)
def m_X10_morning : sv_M := (yX10_morning, cX10_morning, 6, (some .int), 4, 88)
def m_X10_trial : sv_M := (yX10_trial, cX10_trial, 3, (some .int), 2, 43)
def m_X10_week : sv_M := (yX10_week, cX10_week, 3, (some .int), 1, 22)
def m_X10_betterOf : sv_M := (yX10_betterOf, cX10_betterOf, 7, (some .int), 0, 0)
def m_X10_better : sv_M := (yX10_better, cX10_better, 3, (some .int), 1, 26)
def m_X10_seat : sv_M := (yX10_seat, cX10_seat, 4, (some .int), 1, 26)
def m_X10_hear : sv_M := (yX10_hear, cX10_hear, 4, (some .int), 1, 22)
def m_X10_known : sv_M := (yX10_known, cX10_known, 7, (some .int), 1, 22)
def m_X10_meets : sv_M := (yX10_meets, cX10_meets, 2, (some .int), 0, 0)
def m_X10_isSheet : sv_M := (yX10_isSheet, cX10_isSheet, 1, (some .boolean), 1, 22)
def m_X10_sheet : sv_M := (yX10_sheet, cX10_sheet, 5, (some .int), 2, 42)
def m_X10_lose : sv_M := (yX10_lose, cX10_lose, 2, (some .int), 2, 42)
def m_X10_lacks : sv_M := (yX10_lacks, cX10_lacks, 4, (some .int), 1, 22)
def m_X10_put : sv_M := (yX10_put, cX10_put, 6, (some .int), 2, 45)
def m_X10_get : sv_M := (yX10_get, cX10_get, 5, (some .int), 2, 45)
def m_X10_copy : sv_M := (yX10_copy, cX10_copy, 7, (some .int), 2, 42)
def m_X10_count : sv_M := (yX10_count, cX10_count, 2, (some .int), 3, 67)
def m_X10_digest : sv_M := (yX10_digest, cX10_digest, 5, (some .long), 8, 195)
def m_J6_compare_7cf53 : sv_M := (yJ6_compare_7cf53, cJ6_compare_7cf53, 2, (some .int), 0, 0)
def m_J6_bitCount_0f7a4 : sv_M := (yJ6_bitCount_0f7a4, cJ6_bitCount_0f7a4, 1, (some .int), 0, 0)
theorem cf_X9 : sv_cf 8 0 RX9 TX9 9 [some 1, some 9, some 13, some 18, some 22, some 23, some 25, some 35, some 39] := ⟨rfl, sv_uws [280, 282, 284, 286, 288, 290, 292, 294, 296] (by decide +kernel), rfl, tyX9, tyX9_ok, nmX9⟩
theorem cf_X7 : sv_cf 6 1 RX7 TX7 4 [some 2, some 7, some 8, none] := ⟨rfl, sv_uws [87, 89, 91, 93] (by decide +kernel), rfl, tyX7, tyX7_ok, nmX7⟩
theorem cf_X6 : sv_cf 5 9 RX6 TX6 6 [some 1, some 10, some 11, some 12, none, none] := ⟨rfl, sv_uws [118, 120, 122, 124, 126, 128] (by decide +kernel), rfl, tyX6, tyX6_ok, nmX6⟩
theorem cf_X0 : sv_cf 0 13 RX0 TX0 9 [some 14, some 15, some 16, some 17, none, none, none, none, none] := ⟨rfl, sv_uws [157, 159, 161, 163, 165, 167, 169, 171, 173] (by decide +kernel), rfl, tyX0, tyX0_ok, nmX0⟩
theorem cf_X1 : sv_cf 1 18 RX1 TX1 5 [some 9, some 13, some 19, some 20, some 21] := ⟨rfl, sv_uws [187, 189, 191, 193, 195] (by decide +kernel), rfl, tyX1, tyX1_ok, nmX1⟩
theorem cf_X5 : sv_cf 4 22 RX5 TX5 2 [some 9, some 13] := ⟨rfl, sv_uws [206, 208] (by decide +kernel), rfl, tyX5, tyX5_ok, nmX5⟩
theorem cf_X3 : sv_cf 3 23 RX3 TX3 3 [some 9, some 13, some 24] := ⟨rfl, sv_uws [220, 222, 224] (by decide +kernel), rfl, tyX3, tyX3_ok, nmX3⟩
theorem cf_X8 : sv_cf 7 25 RX8 TX8 4 [some 26, some 27, some 28, none] := ⟨rfl, sv_uws [240, 242, 244, 246] (by decide +kernel), rfl, tyX8, tyX8_ok, nmX8⟩
theorem cf_X2 : sv_cf 2 35 RX2 TX2 4 [some 36, some 37, some 38, none] := ⟨rfl, sv_uws [262, 264, 266, 268] (by decide +kernel), rfl, tyX2, tyX2_ok, nmX2⟩
theorem cf_X10 : sv_cf 9 40 RX10 TX10 28 [none, some 41, some 42, none, none, some 43, none, some 44, some 45, some 46, none, none, some 47, some 48, none, some 49, some 50, some 51, none, some 52, some 53, some 54, some 55, some 56, some 57, some 58, some 59, none] := ⟨rfl, sv_uws [759, 761, 763, 765, 767, 769, 771, 773, 775, 777, 779, 781, 783, 785, 787, 789, 791, 793, 795, 797, 799, 801, 803, 805, 807, 809, 811, 813] (by decide +kernel), rfl, tyX10, tyX10_ok, nmX10⟩
theorem fl_X9_10 : Cond.fieldLink RX9 10 "ScreenVotes" "sheets" "LScreenVotes$Sheets;" ∈ sv_GT := sv_mem 271 (by decide +kernel) (by decide +kernel)
theorem fl_X9_21 : Cond.fieldLink RX9 21 "ScreenVotes" "panel" "LScreenVotes$Panel;" ∈ sv_GT := sv_mem 272 (by decide +kernel) (by decide +kernel)
theorem fl_X9_28 : Cond.fieldLink RX9 28 "ScreenVotes" "bylaw" "LScreenVotes$Bylaw;" ∈ sv_GT := sv_mem 273 (by decide +kernel) (by decide +kernel)
theorem fl_X9_37 : Cond.fieldLink RX9 37 "ScreenVotes" "contest" "LScreenVotes$Contest;" ∈ sv_GT := sv_mem 274 (by decide +kernel) (by decide +kernel)
theorem fl_X9_44 : Cond.fieldLink RX9 44 "ScreenVotes" "otherRules" "LScreenVotes$OtherRules;" ∈ sv_GT := sv_mem 275 (by decide +kernel) (by decide +kernel)
theorem fl_X9_51 : Cond.fieldLink RX9 51 "ScreenVotes" "mornings" "LScreenVotes$Mornings;" ∈ sv_GT := sv_mem 276 (by decide +kernel) (by decide +kernel)
theorem fl_X9_58 : Cond.fieldLink RX9 58 "ScreenVotes" "trials" "LScreenVotes$Trials;" ∈ sv_GT := sv_mem 277 (by decide +kernel) (by decide +kernel)
theorem fl_X9_65 : Cond.fieldLink RX9 65 "ScreenVotes" "heard" "LScreenVotes$Heard;" ∈ sv_GT := sv_mem 278 (by decide +kernel) (by decide +kernel)
theorem fl_X9_69 : Cond.fieldLink RX9 69 "ScreenVotes" "chances" "[I" ∈ sv_GT := sv_mem 279 (by decide +kernel) (by decide +kernel)
theorem fl_X9_77 : Cond.fieldLinkNest RX9 77 "ScreenVotes$Panel" "players" "I" "ScreenVotes" ∈ sv_NW := sv_memN 114 (by decide +kernel) (by decide +kernel)
theorem fl_X9_85 : Cond.fieldLinkNest RX9 85 "ScreenVotes$Panel" "voting" "I" "ScreenVotes" ∈ sv_NW := sv_memN 117 (by decide +kernel) (by decide +kernel)
theorem fl_X9_92 : Cond.fieldLinkNest RX9 92 "ScreenVotes$Panel" "row" "[I" "ScreenVotes" ∈ sv_NW := sv_memN 108 (by decide +kernel) (by decide +kernel)
theorem fl_X9_109 : Cond.fieldLinkNest RX9 109 "ScreenVotes$Bylaw" "length" "I" "ScreenVotes" ∈ sv_NW := sv_memN 149 (by decide +kernel) (by decide +kernel)
theorem fl_X9_119 : Cond.fieldLinkNest RX9 119 "ScreenVotes$Bylaw" "faultPlace" "I" "ScreenVotes" ∈ sv_NW := sv_memN 154 (by decide +kernel) (by decide +kernel)
theorem fl_X9_125 : Cond.fieldLinkNest RX9 125 "ScreenVotes$Bylaw" "hundredths" "[I" "ScreenVotes" ∈ sv_NW := sv_memN 141 (by decide +kernel) (by decide +kernel)
theorem fl_X9_128 : Cond.fieldLinkNest RX9 128 "ScreenVotes$Bylaw" "seats" "[I" "ScreenVotes" ∈ sv_NW := sv_memN 144 (by decide +kernel) (by decide +kernel)
theorem fl_X9_131 : Cond.fieldLinkNest RX9 131 "ScreenVotes$Bylaw" "letters" "[I" "ScreenVotes" ∈ sv_NW := sv_memN 147 (by decide +kernel) (by decide +kernel)
theorem fl_X9_142 : Cond.fieldLinkNest RX9 142 "ScreenVotes$Bylaw" "rounds" "I" "ScreenVotes" ∈ sv_NW := sv_memN 152 (by decide +kernel) (by decide +kernel)
theorem fl_X9_178 : Cond.fieldLinkNest RX9 178 "ScreenVotes$Trials" "places" "I" "ScreenVotes" ∈ sv_NW := sv_memN 239 (by decide +kernel) (by decide +kernel)
theorem fl_X9_187 : Cond.fieldLinkNest RX9 187 "ScreenVotes$Trials" "weeks" "[I" "ScreenVotes" ∈ sv_NW := sv_memN 236 (by decide +kernel) (by decide +kernel)
theorem fl_X9_202 : Cond.fieldLinkNest RX9 202 "ScreenVotes$Heard" "kept" "I" "ScreenVotes" ∈ sv_NW := sv_memN 261 (by decide +kernel) (by decide +kernel)
theorem fl_X9_211 : Cond.fieldLinkNest RX9 211 "ScreenVotes$Heard" "rounds" "[I" "ScreenVotes" ∈ sv_NW := sv_memN 259 (by decide +kernel) (by decide +kernel)
theorem fl_X9_213 : Cond.fieldLinkNest RX9 213 "ScreenVotes$Heard" "years" "[I" "ScreenVotes" ∈ sv_NW := sv_memN 257 (by decide +kernel) (by decide +kernel)
theorem fl_X9_241 : Cond.fieldLinkNest RX9 241 "ScreenVotes$Sheets" "items" "[[I" "ScreenVotes" ∈ sv_NW := sv_memN 82 (by decide +kernel) (by decide +kernel)
theorem fl_X9_261 : Cond.fieldLinkNest RX9 261 "ScreenVotes$Sheets" "latestFinding" "I" "ScreenVotes" ∈ sv_NW := sv_memN 86 (by decide +kernel) (by decide +kernel)
theorem fl_X0_11 : Cond.fieldLink RX0 11 "ScreenVotes$Bylaw" "text" "[I" ∈ sv_GT := sv_mem 137 (by decide +kernel) (by decide +kernel)
theorem fl_X0_15 : Cond.fieldLink RX0 15 "ScreenVotes$Bylaw" "hundredths" "[I" ∈ sv_GT := sv_mem 138 (by decide +kernel) (by decide +kernel)
theorem fl_X0_18 : Cond.fieldLink RX0 18 "ScreenVotes$Bylaw" "seats" "[I" ∈ sv_GT := sv_mem 142 (by decide +kernel) (by decide +kernel)
theorem fl_X0_21 : Cond.fieldLink RX0 21 "ScreenVotes$Bylaw" "letters" "[I" ∈ sv_GT := sv_mem 145 (by decide +kernel) (by decide +kernel)
theorem fl_X0_24 : Cond.fieldLink RX0 24 "ScreenVotes$Bylaw" "length" "I" ∈ sv_GT := sv_mem 148 (by decide +kernel) (by decide +kernel)
theorem fl_X0_31 : Cond.fieldLink RX0 31 "ScreenVotes$Bylaw" "rounds" "I" ∈ sv_GT := sv_mem 150 (by decide +kernel) (by decide +kernel)
theorem fl_X0_34 : Cond.fieldLink RX0 34 "ScreenVotes$Bylaw" "cursor" "I" ∈ sv_GT := sv_mem 155 (by decide +kernel) (by decide +kernel)
theorem fl_X0_41 : Cond.fieldLink RX0 41 "ScreenVotes$Bylaw" "faultPlace" "I" ∈ sv_GT := sv_mem 153 (by decide +kernel) (by decide +kernel)
theorem fl_X0_54 : Cond.fieldLink RX0 54 "ScreenVotes$Bylaw" "number" "I" ∈ sv_GT := sv_mem 156 (by decide +kernel) (by decide +kernel)
theorem fl_X1_9 : Cond.fieldLink RX1 9 "ScreenVotes$Contest" "votes" "[I" ∈ sv_GT := sv_mem 184 (by decide +kernel) (by decide +kernel)
theorem fl_X1_15 : Cond.fieldLink RX1 15 "ScreenVotes$Contest" "yes" "[I" ∈ sv_GT := sv_mem 185 (by decide +kernel) (by decide +kernel)
theorem fl_X1_18 : Cond.fieldLink RX1 18 "ScreenVotes$Contest" "yesSoFar" "[I" ∈ sv_GT := sv_mem 186 (by decide +kernel) (by decide +kernel)
theorem fl_X1_21 : Cond.fieldLink RX1 21 "ScreenVotes$Contest" "panel" "LScreenVotes$Panel;" ∈ sv_GT := sv_mem 182 (by decide +kernel) (by decide +kernel)
theorem fl_X1_25 : Cond.fieldLink RX1 25 "ScreenVotes$Contest" "bylaw" "LScreenVotes$Bylaw;" ∈ sv_GT := sv_mem 183 (by decide +kernel) (by decide +kernel)
theorem fl_X1_29 : Cond.fieldLinkNest RX1 29 "ScreenVotes$Panel" "players" "I" "ScreenVotes" ∈ sv_NW := sv_memN 112 (by decide +kernel) (by decide +kernel)
theorem fl_X1_58 : Cond.fieldLinkNest RX1 58 "ScreenVotes$Bylaw" "hundredths" "[I" "ScreenVotes" ∈ sv_NW := sv_memN 140 (by decide +kernel) (by decide +kernel)
theorem fl_X1_67 : Cond.fieldLinkNest RX1 67 "ScreenVotes$Bylaw" "seats" "[I" "ScreenVotes" ∈ sv_NW := sv_memN 143 (by decide +kernel) (by decide +kernel)
theorem fl_X1_70 : Cond.fieldLinkNest RX1 70 "ScreenVotes$Bylaw" "letters" "[I" "ScreenVotes" ∈ sv_NW := sv_memN 146 (by decide +kernel) (by decide +kernel)
theorem fl_X1_95 : Cond.fieldLinkNest RX1 95 "ScreenVotes$Panel" "placeInRow" "[I" "ScreenVotes" ∈ sv_NW := sv_memN 110 (by decide +kernel) (by decide +kernel)
theorem fl_X2_11 : Cond.fieldLink RX2 11 "ScreenVotes$Heard" "numbers" "[I" ∈ sv_GT := sv_mem 255 (by decide +kernel) (by decide +kernel)
theorem fl_X2_15 : Cond.fieldLink RX2 15 "ScreenVotes$Heard" "years" "[I" ∈ sv_GT := sv_mem 256 (by decide +kernel) (by decide +kernel)
theorem fl_X2_18 : Cond.fieldLink RX2 18 "ScreenVotes$Heard" "rounds" "[I" ∈ sv_GT := sv_mem 258 (by decide +kernel) (by decide +kernel)
theorem fl_X2_21 : Cond.fieldLink RX2 21 "ScreenVotes$Heard" "kept" "I" ∈ sv_GT := sv_mem 260 (by decide +kernel) (by decide +kernel)
theorem fl_X3_7 : Cond.fieldLink RX3 7 "ScreenVotes$Mornings" "table" "[I" ∈ sv_GT := sv_mem 219 (by decide +kernel) (by decide +kernel)
theorem fl_X3_13 : Cond.fieldLink RX3 13 "ScreenVotes$Mornings" "panel" "LScreenVotes$Panel;" ∈ sv_GT := sv_mem 217 (by decide +kernel) (by decide +kernel)
theorem fl_X3_17 : Cond.fieldLink RX3 17 "ScreenVotes$Mornings" "bylaw" "LScreenVotes$Bylaw;" ∈ sv_GT := sv_mem 218 (by decide +kernel) (by decide +kernel)
theorem fl_X3_31 : Cond.fieldLinkNest RX3 31 "ScreenVotes$Panel" "players" "I" "ScreenVotes" ∈ sv_NW := sv_memN 115 (by decide +kernel) (by decide +kernel)
theorem fl_X3_37 : Cond.fieldLinkNest RX3 37 "ScreenVotes$Panel" "row" "[I" "ScreenVotes" ∈ sv_NW := sv_memN 107 (by decide +kernel) (by decide +kernel)
theorem fl_X3_47 : Cond.fieldLinkNest RX3 47 "ScreenVotes$Bylaw" "hundredths" "[I" "ScreenVotes" ∈ sv_NW := sv_memN 139 (by decide +kernel) (by decide +kernel)
theorem fl_X5_9 : Cond.fieldLink RX5 9 "ScreenVotes$OtherRules" "panel" "LScreenVotes$Panel;" ∈ sv_GT := sv_mem 204 (by decide +kernel) (by decide +kernel)
theorem fl_X5_15 : Cond.fieldLink RX5 15 "ScreenVotes$OtherRules" "bylaw" "LScreenVotes$Bylaw;" ∈ sv_GT := sv_mem 205 (by decide +kernel) (by decide +kernel)
theorem fl_X5_19 : Cond.fieldLinkNest RX5 19 "ScreenVotes$Panel" "players" "I" "ScreenVotes" ∈ sv_NW := sv_memN 113 (by decide +kernel) (by decide +kernel)
theorem fl_X5_25 : Cond.fieldLinkNest RX5 25 "ScreenVotes$Panel" "row" "[I" "ScreenVotes" ∈ sv_NW := sv_memN 106 (by decide +kernel) (by decide +kernel)
theorem fl_X5_44 : Cond.fieldLinkNest RX5 44 "ScreenVotes$Bylaw" "rounds" "I" "ScreenVotes" ∈ sv_NW := sv_memN 151 (by decide +kernel) (by decide +kernel)
theorem fl_X6_9 : Cond.fieldLink RX6 9 "ScreenVotes$Panel" "kin" "[I" ∈ sv_GT := sv_mem 104 (by decide +kernel) (by decide +kernel)
theorem fl_X6_13 : Cond.fieldLink RX6 13 "ScreenVotes$Panel" "row" "[I" ∈ sv_GT := sv_mem 105 (by decide +kernel) (by decide +kernel)
theorem fl_X6_16 : Cond.fieldLink RX6 16 "ScreenVotes$Panel" "placeInRow" "[I" ∈ sv_GT := sv_mem 109 (by decide +kernel) (by decide +kernel)
theorem fl_X6_19 : Cond.fieldLink RX6 19 "ScreenVotes$Panel" "voting" "I" ∈ sv_GT := sv_mem 116 (by decide +kernel) (by decide +kernel)
theorem fl_X6_23 : Cond.fieldLink RX6 23 "ScreenVotes$Panel" "sheets" "LScreenVotes$Sheets;" ∈ sv_GT := sv_mem 103 (by decide +kernel) (by decide +kernel)
theorem fl_X6_27 : Cond.fieldLink RX6 27 "ScreenVotes$Panel" "players" "I" ∈ sv_GT := sv_mem 111 (by decide +kernel) (by decide +kernel)
theorem fl_X7_13 : Cond.fieldLink RX7 13 "ScreenVotes$Sheets" "items" "[[I" ∈ sv_GT := sv_mem 81 (by decide +kernel) (by decide +kernel)
theorem fl_X7_16 : Cond.fieldLink RX7 16 "ScreenVotes$Sheets" "forms" "[I" ∈ sv_GT := sv_mem 83 (by decide +kernel) (by decide +kernel)
theorem fl_X7_20 : Cond.fieldLink RX7 20 "ScreenVotes$Sheets" "sizes" "[I" ∈ sv_GT := sv_mem 84 (by decide +kernel) (by decide +kernel)
theorem fl_X7_23 : Cond.fieldLink RX7 23 "ScreenVotes$Sheets" "latestFinding" "I" ∈ sv_GT := sv_mem 85 (by decide +kernel) (by decide +kernel)
theorem fl_X8_11 : Cond.fieldLink RX8 11 "ScreenVotes$Trials" "onTrial" "[I" ∈ sv_GT := sv_mem 234 (by decide +kernel) (by decide +kernel)
theorem fl_X8_15 : Cond.fieldLink RX8 15 "ScreenVotes$Trials" "weeks" "[I" ∈ sv_GT := sv_mem 235 (by decide +kernel) (by decide +kernel)
theorem fl_X8_20 : Cond.fieldLink RX8 20 "ScreenVotes$Trials" "marks" "[[I" ∈ sv_GT := sv_mem 237 (by decide +kernel) (by decide +kernel)
theorem fl_X8_23 : Cond.fieldLink RX8 23 "ScreenVotes$Trials" "places" "I" ∈ sv_GT := sv_mem 238 (by decide +kernel) (by decide +kernel)
theorem fl_X10_7 : Cond.fieldLink RX10 7 "ScreenVotesModel" "kin" "[I" ∈ sv_GT := sv_mem 732 (by decide +kernel) (by decide +kernel)
theorem fl_X10_13 : Cond.fieldLink RX10 13 "ScreenVotesModel" "line" "[I" ∈ sv_GT := sv_mem 733 (by decide +kernel) (by decide +kernel)
theorem fl_X10_16 : Cond.fieldLink RX10 16 "ScreenVotesModel" "jurors" "I" ∈ sv_GT := sv_mem 734 (by decide +kernel) (by decide +kernel)
theorem fl_X10_20 : Cond.fieldLink RX10 20 "ScreenVotesModel" "text" "[I" ∈ sv_GT := sv_mem 736 (by decide +kernel) (by decide +kernel)
theorem fl_X10_23 : Cond.fieldLink RX10 23 "ScreenVotesModel" "shares" "[I" ∈ sv_GT := sv_mem 738 (by decide +kernel) (by decide +kernel)
theorem fl_X10_26 : Cond.fieldLink RX10 26 "ScreenVotesModel" "places" "[I" ∈ sv_GT := sv_mem 739 (by decide +kernel) (by decide +kernel)
theorem fl_X10_29 : Cond.fieldLink RX10 29 "ScreenVotesModel" "letters" "[I" ∈ sv_GT := sv_mem 740 (by decide +kernel) (by decide +kernel)
theorem fl_X10_32 : Cond.fieldLink RX10 32 "ScreenVotesModel" "chances" "[I" ∈ sv_GT := sv_mem 743 (by decide +kernel) (by decide +kernel)
theorem fl_X10_35 : Cond.fieldLink RX10 35 "ScreenVotesModel" "half" "[I" ∈ sv_GT := sv_mem 744 (by decide +kernel) (by decide +kernel)
theorem fl_X10_38 : Cond.fieldLink RX10 38 "ScreenVotesModel" "tried" "[I" ∈ sv_GT := sv_mem 746 (by decide +kernel) (by decide +kernel)
theorem fl_X10_41 : Cond.fieldLink RX10 41 "ScreenVotesModel" "weeks" "[I" ∈ sv_GT := sv_mem 747 (by decide +kernel) (by decide +kernel)
theorem fl_X10_44 : Cond.fieldLink RX10 44 "ScreenVotesModel" "marks" "[I" ∈ sv_GT := sv_mem 748 (by decide +kernel) (by decide +kernel)
theorem fl_X10_47 : Cond.fieldLink RX10 47 "ScreenVotesModel" "numbers" "[I" ∈ sv_GT := sv_mem 750 (by decide +kernel) (by decide +kernel)
theorem fl_X10_50 : Cond.fieldLink RX10 50 "ScreenVotesModel" "years" "[I" ∈ sv_GT := sv_mem 751 (by decide +kernel) (by decide +kernel)
theorem fl_X10_53 : Cond.fieldLink RX10 53 "ScreenVotesModel" "reached" "[I" ∈ sv_GT := sv_mem 752 (by decide +kernel) (by decide +kernel)
theorem fl_X10_56 : Cond.fieldLink RX10 56 "ScreenVotesModel" "isThere" "[Z" ∈ sv_GT := sv_mem 753 (by decide +kernel) (by decide +kernel)
theorem fl_X10_60 : Cond.fieldLink RX10 60 "ScreenVotesModel" "forms" "[I" ∈ sv_GT := sv_mem 754 (by decide +kernel) (by decide +kernel)
theorem fl_X10_63 : Cond.fieldLink RX10 63 "ScreenVotesModel" "sizes" "[I" ∈ sv_GT := sv_mem 755 (by decide +kernel) (by decide +kernel)
theorem fl_X10_66 : Cond.fieldLink RX10 66 "ScreenVotesModel" "items" "[I" ∈ sv_GT := sv_mem 756 (by decide +kernel) (by decide +kernel)
theorem fl_X10_69 : Cond.fieldLink RX10 69 "ScreenVotesModel" "moved" "[I" ∈ sv_GT := sv_mem 757 (by decide +kernel) (by decide +kernel)
theorem fl_X10_72 : Cond.fieldLink RX10 72 "ScreenVotesModel" "players" "I" ∈ sv_GT := sv_mem 731 (by decide +kernel) (by decide +kernel)
theorem fl_X10_95 : Cond.fieldLink RX10 95 "ScreenVotesModel" "typed" "I" ∈ sv_GT := sv_mem 735 (by decide +kernel) (by decide +kernel)
theorem fl_X10_98 : Cond.fieldLink RX10 98 "ScreenVotesModel" "fault" "I" ∈ sv_GT := sv_mem 742 (by decide +kernel) (by decide +kernel)
theorem fl_X10_101 : Cond.fieldLink RX10 101 "ScreenVotesModel" "at" "I" ∈ sv_GT := sv_mem 741 (by decide +kernel) (by decide +kernel)
theorem fl_X10_108 : Cond.fieldLink RX10 108 "ScreenVotesModel" "rounds" "I" ∈ sv_GT := sv_mem 737 (by decide +kernel) (by decide +kernel)
theorem fl_X10_184 : Cond.fieldLink RX10 184 "ScreenVotesModel" "trials" "I" ∈ sv_GT := sv_mem 745 (by decide +kernel) (by decide +kernel)
theorem fl_X10_191 : Cond.fieldLink RX10 191 "ScreenVotesModel" "heard" "I" ∈ sv_GT := sv_mem 749 (by decide +kernel) (by decide +kernel)
theorem fl_X10_194 : Cond.fieldLink RX10 194 "ScreenVotesModel" "finding" "I" ∈ sv_GT := sv_mem 758 (by decide +kernel) (by decide +kernel)
theorem ml_X9_73 : Cond.methodLink RX9 73 yX9_within ∈ sv_GT := sv_mem 303 (by decide +kernel) (by decide +kernel)
theorem ml_X9_81 : Cond.methodLink RX9 81 yX6_addPlayer ∈ sv_GT := sv_mem 306 (by decide +kernel) (by decide +kernel)
theorem ml_X9_88 : Cond.methodLink RX9 88 yX6_shuffle ∈ sv_GT := sv_mem 322 (by decide +kernel) (by decide +kernel)
theorem ml_X9_95 : Cond.methodLink RX9 95 yX9_isPlayer ∈ sv_GT := sv_mem 331 (by decide +kernel) (by decide +kernel)
theorem ml_X9_99 : Cond.methodLink RX9 99 yX9_isRound ∈ sv_GT := sv_mem 339 (by decide +kernel) (by decide +kernel)
theorem ml_X9_102 : Cond.methodLink RX9 102 yX6_countingVotes ∈ sv_GT := sv_mem 342 (by decide +kernel) (by decide +kernel)
theorem ml_X9_106 : Cond.methodLink RX9 106 yX6_yesVotes ∈ sv_GT := sv_mem 354 (by decide +kernel) (by decide +kernel)
theorem ml_X9_112 : Cond.methodLink RX9 112 yX0_append ∈ sv_GT := sv_mem 362 (by decide +kernel) (by decide +kernel)
theorem ml_X9_115 : Cond.methodLink RX9 115 yX0_clear ∈ sv_GT := sv_mem 398 (by decide +kernel) (by decide +kernel)
theorem ml_X9_122 : Cond.methodLink RX9 122 yX9_refusalOfRound ∈ sv_GT := sv_mem 410 (by decide +kernel) (by decide +kernel)
theorem ml_X9_134 : Cond.methodLink RX9 134 yX1_advancedOutOf ∈ sv_GT := sv_mem 418 (by decide +kernel) (by decide +kernel)
theorem ml_X9_137 : Cond.methodLink RX9 137 yJ6_bitCount_0f7a4 ∈ sv_GT := sv_mem 470 (by decide +kernel) (by decide +kernel)
theorem ml_X9_145 : Cond.methodLink RX9 145 yX5_winnerOfAllPairs ∈ sv_GT := sv_mem 488 (by decide +kernel) (by decide +kernel)
theorem ml_X9_148 : Cond.methodLink RX9 148 yX5_mostYes ∈ sv_GT := sv_mem 500 (by decide +kernel) (by decide +kernel)
theorem ml_X9_151 : Cond.methodLink RX9 151 yX5_greatestShare ∈ sv_GT := sv_mem 509 (by decide +kernel) (by decide +kernel)
theorem ml_X9_154 : Cond.methodLink RX9 154 yX9_isSkill ∈ sv_GT := sv_mem 522 (by decide +kernel) (by decide +kernel)
theorem ml_X9_157 : Cond.methodLink RX9 157 yX4_ofPassing ∈ sv_GT := sv_mem 530 (by decide +kernel) (by decide +kernel)
theorem ml_X9_165 : Cond.methodLink RX9 165 yX9_inTable ∈ sv_GT := sv_mem 549 (by decide +kernel) (by decide +kernel)
theorem ml_X9_168 : Cond.methodLink RX9 168 yX4_falseShare ∈ sv_GT := sv_mem 552 (by decide +kernel) (by decide +kernel)
theorem ml_X9_172 : Cond.methodLink RX9 172 yX3_tell ∈ sv_GT := sv_mem 566 (by decide +kernel) (by decide +kernel)
theorem ml_X9_175 : Cond.methodLink RX9 175 yX8_has ∈ sv_GT := sv_mem 581 (by decide +kernel) (by decide +kernel)
theorem ml_X9_181 : Cond.methodLink RX9 181 yX8_open ∈ sv_GT := sv_mem 585 (by decide +kernel) (by decide +kernel)
theorem ml_X9_184 : Cond.methodLink RX9 184 yX9_isPlace ∈ sv_GT := sv_mem 593 (by decide +kernel) (by decide +kernel)
theorem ml_X9_190 : Cond.methodLink RX9 190 yX8_addMark ∈ sv_GT := sv_mem 597 (by decide +kernel) (by decide +kernel)
theorem ml_X9_193 : Cond.methodLink RX9 193 yX8_lead ∈ sv_GT := sv_mem 605 (by decide +kernel) (by decide +kernel)
theorem ml_X9_196 : Cond.methodLink RX9 196 yX8_seated ∈ sv_GT := sv_mem 614 (by decide +kernel) (by decide +kernel)
theorem ml_X9_199 : Cond.methodLink RX9 199 yX9_isNumber ∈ sv_GT := sv_mem 627 (by decide +kernel) (by decide +kernel)
theorem ml_X9_205 : Cond.methodLink RX9 205 yX2_keep ∈ sv_GT := sv_mem 631 (by decide +kernel) (by decide +kernel)
theorem ml_X9_208 : Cond.methodLink RX9 208 yX2_howOften ∈ sv_GT := sv_mem 639 (by decide +kernel) (by decide +kernel)
theorem ml_X9_216 : Cond.methodLink RX9 216 yX2_greatest ∈ sv_GT := sv_mem 643 (by decide +kernel) (by decide +kernel)
theorem ml_X9_220 : Cond.methodLink RX9 220 yX9_isSheet ∈ sv_GT := sv_mem 654 (by decide +kernel) (by decide +kernel)
theorem ml_X9_223 : Cond.methodLink RX9 223 yX9_isForm ∈ sv_GT := sv_mem 657 (by decide +kernel) (by decide +kernel)
theorem ml_X9_226 : Cond.methodLink RX9 226 yX7_found ∈ sv_GT := sv_mem 660 (by decide +kernel) (by decide +kernel)
theorem ml_X9_229 : Cond.methodLink RX9 229 yX7_lay ∈ sv_GT := sv_mem 664 (by decide +kernel) (by decide +kernel)
theorem ml_X9_232 : Cond.methodLink RX9 232 yX7_isLost ∈ sv_GT := sv_mem 672 (by decide +kernel) (by decide +kernel)
theorem ml_X9_235 : Cond.methodLink RX9 235 yX7_drop ∈ sv_GT := sv_mem 676 (by decide +kernel) (by decide +kernel)
theorem ml_X9_238 : Cond.methodLink RX9 238 yX7_findingOfItem ∈ sv_GT := sv_mem 684 (by decide +kernel) (by decide +kernel)
theorem ml_X9_245 : Cond.methodLink RX9 245 yX7_lowestBits ∈ sv_GT := sv_mem 689 (by decide +kernel) (by decide +kernel)
theorem ml_X9_249 : Cond.methodLink RX9 249 yX7_findingOfSheets ∈ sv_GT := sv_mem 701 (by decide +kernel) (by decide +kernel)
theorem ml_X9_252 : Cond.methodLink RX9 252 yX7_hasSpan ∈ sv_GT := sv_mem 705 (by decide +kernel) (by decide +kernel)
theorem ml_X9_255 : Cond.methodLink RX9 255 arraycopyName ∈ sv_GT := sv_mem 709 (by decide +kernel) (by decide +kernel)
theorem ml_X9_268 : Cond.methodLink RX9 268 yX9_count ∈ sv_GT := sv_mem 722 (by decide +kernel) (by decide +kernel)
theorem ml_X9_271 : Cond.methodLink RX9 271 yX9_chosen ∈ sv_GT := sv_mem 723 (by decide +kernel) (by decide +kernel)
theorem ml_X9_274 : Cond.methodLink RX9 274 yX9_seat ∈ sv_GT := sv_mem 724 (by decide +kernel) (by decide +kernel)
theorem ml_X0_28 : Cond.methodLink RX0 28 yX0_readText ∈ sv_GT := sv_mem 366 (by decide +kernel) (by decide +kernel)
theorem ml_X0_37 : Cond.methodLink RX0 37 yX0_readRounds ∈ sv_GT := sv_mem 370 (by decide +kernel) (by decide +kernel)
theorem ml_X0_44 : Cond.methodLink RX0 44 yX0_readRound ∈ sv_GT := sv_mem 374 (by decide +kernel) (by decide +kernel)
theorem ml_X0_48 : Cond.methodLink RX0 48 yX0_readByte ∈ sv_GT := sv_mem 378 (by decide +kernel) (by decide +kernel)
theorem ml_X0_51 : Cond.methodLink RX0 51 yX0_readNumber ∈ sv_GT := sv_mem 382 (by decide +kernel) (by decide +kernel)
theorem ml_X0_57 : Cond.methodLink RX0 57 yX0_readLetter ∈ sv_GT := sv_mem 390 (by decide +kernel) (by decide +kernel)
theorem ml_X0_60 : Cond.methodLink RX0 60 yX0_isFigure ∈ sv_GT := sv_mem 386 (by decide +kernel) (by decide +kernel)
theorem ml_X1_33 : Cond.methodLink RX1 33 yX6_everyone ∈ sv_GT := sv_mem 422 (by decide +kernel) (by decide +kernel)
theorem ml_X1_37 : Cond.methodLink RX1 37 yX1_tally ∈ sv_GT := sv_mem 426 (by decide +kernel) (by decide +kernel)
theorem ml_X1_41 : Cond.methodLink RX1 41 yX1_whoPass ∈ sv_GT := sv_mem 432 (by decide +kernel) (by decide +kernel)
theorem ml_X1_45 : Cond.methodLink RX1 45 yX1_whoAdvance ∈ sv_GT := sv_mem 439 (by decide +kernel) (by decide +kernel)
theorem ml_X1_48 : Cond.methodLink RX1 48 yX6_countingVotes ∈ sv_GT := sv_mem 430 (by decide +kernel) (by decide +kernel)
theorem ml_X1_51 : Cond.methodLink RX1 51 yX6_yesVotes ∈ sv_GT := sv_mem 431 (by decide +kernel) (by decide +kernel)
theorem ml_X1_54 : Cond.methodLink RX1 54 yX1_has ∈ sv_GT := sv_mem 436 (by decide +kernel) (by decide +kernel)
theorem ml_X1_63 : Cond.methodLink RX1 63 yX1_withShare ∈ sv_GT := sv_mem 443 (by decide +kernel) (by decide +kernel)
theorem ml_X1_73 : Cond.methodLink RX1 73 yX1_outOfTie ∈ sv_GT := sv_mem 454 (by decide +kernel) (by decide +kernel)
theorem ml_X1_76 : Cond.methodLink RX1 76 yX1_compareShares ∈ sv_GT := sv_mem 447 (by decide +kernel) (by decide +kernel)
theorem ml_X1_79 : Cond.methodLink RX1 79 yJ6_compare_7cf53 ∈ sv_GT := sv_mem 451 (by decide +kernel) (by decide +kernel)
theorem ml_X1_84 : Cond.methodLink RX1 84 yX1_firstOf ∈ sv_GT := sv_mem 458 (by decide +kernel) (by decide +kernel)
theorem ml_X1_88 : Cond.methodLink RX1 88 yX1_ahead ∈ sv_GT := sv_mem 462 (by decide +kernel) (by decide +kernel)
theorem ml_X1_91 : Cond.methodLink RX1 91 yX1_isBefore ∈ sv_GT := sv_mem 466 (by decide +kernel) (by decide +kernel)
theorem ml_X2_25 : Cond.methodLink RX2 25 Lib.Math.max.name ∈ sv_GT := sv_mem 647 (by decide +kernel) (by decide +kernel)
theorem ml_X3_21 : Cond.methodLink RX3 21 yX3_fill ∈ sv_GT := sv_mem 570 (by decide +kernel) (by decide +kernel)
theorem ml_X3_25 : Cond.methodLink RX3 25 yX4_falseShare ∈ sv_GT := sv_mem 576 (by decide +kernel) (by decide +kernel)
theorem ml_X3_40 : Cond.methodLink RX3 40 yX6_countingVotes ∈ sv_GT := sv_mem 574 (by decide +kernel) (by decide +kernel)
theorem ml_X3_44 : Cond.methodLink RX3 44 yX6_yesVotes ∈ sv_GT := sv_mem 575 (by decide +kernel) (by decide +kernel)
theorem ml_X4_7 : Cond.methodLink RX4 7 yX4_choose ∈ sv_GT := sv_mem 533 (by decide +kernel) (by decide +kernel)
theorem ml_X4_13 : Cond.methodLink RX4 13 yX4_power ∈ sv_GT := sv_mem 536 (by decide +kernel) (by decide +kernel)
theorem ml_X4_18 : Cond.methodLink RX4 18 yX4_isNotBelow ∈ sv_GT := sv_mem 555 (by decide +kernel) (by decide +kernel)
theorem ml_X4_22 : Cond.methodLink RX4 22 yX4_millionths ∈ sv_GT := sv_mem 558 (by decide +kernel) (by decide +kernel)
theorem ml_X5_29 : Cond.methodLink RX5 29 yX5_yesInAll ∈ sv_GT := sv_mem 504 (by decide +kernel) (by decide +kernel)
theorem ml_X5_33 : Cond.methodLink RX5 33 yX5_votesInAll ∈ sv_GT := sv_mem 513 (by decide +kernel) (by decide +kernel)
theorem ml_X5_36 : Cond.methodLink RX5 36 yX5_winsAllPairs ∈ sv_GT := sv_mem 492 (by decide +kernel) (by decide +kernel)
theorem ml_X5_40 : Cond.methodLink RX5 40 yX6_jurorsOnPart ∈ sv_GT := sv_mem 496 (by decide +kernel) (by decide +kernel)
theorem ml_X5_49 : Cond.methodLink RX5 49 yX6_yesVotes ∈ sv_GT := sv_mem 508 (by decide +kernel) (by decide +kernel)
theorem ml_X5_53 : Cond.methodLink RX5 53 yX6_countingVotes ∈ sv_GT := sv_mem 517 (by decide +kernel) (by decide +kernel)
theorem ml_X6_30 : Cond.methodLink RX6 30 yX6_place ∈ sv_GT := sv_mem 310 (by decide +kernel) (by decide +kernel)
theorem ml_X6_37 : Cond.methodLink RX6 37 yX7_voteAt ∈ sv_GT := sv_mem 350 (by decide +kernel) (by decide +kernel)
theorem ml_X6_41 : Cond.methodLink RX6 41 yX6_countingVote ∈ sv_GT := sv_mem 346 (by decide +kernel) (by decide +kernel)
theorem ml_X7_27 : Cond.methodLink RX7 27 yX7_isLost ∈ sv_GT := sv_mem 688 (by decide +kernel) (by decide +kernel)
theorem ml_X8_27 : Cond.methodLink RX8 27 yJ6_compare_7cf53 ∈ sv_GT := sv_mem 609 (by decide +kernel) (by decide +kernel)
theorem ml_X8_33 : Cond.methodLink RX8 33 yX8_leadsAll ∈ sv_GT := sv_mem 618 (by decide +kernel) (by decide +kernel)
theorem ml_X8_37 : Cond.methodLink RX8 37 yX8_lead ∈ sv_GT := sv_mem 622 (by decide +kernel) (by decide +kernel)
theorem ml_X10_75 : Cond.methodLink RX10 75 yX10_in ∈ sv_GT := sv_mem 821 (by decide +kernel) (by decide +kernel)
theorem ml_X10_80 : Cond.methodLink RX10 80 yX10_vote ∈ sv_GT := sv_mem 849 (by decide +kernel) (by decide +kernel)
theorem ml_X10_84 : Cond.methodLink RX10 84 yX10_isPlayer ∈ sv_GT := sv_mem 841 (by decide +kernel) (by decide +kernel)
theorem ml_X10_88 : Cond.methodLink RX10 88 yX10_counted ∈ sv_GT := sv_mem 845 (by decide +kernel) (by decide +kernel)
theorem ml_X10_92 : Cond.methodLink RX10 92 yX10_yes ∈ sv_GT := sv_mem 853 (by decide +kernel) (by decide +kernel)
theorem ml_X10_104 : Cond.methodLink RX10 104 yX10_byteAt ∈ sv_GT := sv_mem 877 (by decide +kernel) (by decide +kernel)
theorem ml_X10_111 : Cond.methodLink RX10 111 yX10_expect ∈ sv_GT := sv_mem 873 (by decide +kernel) (by decide +kernel)
theorem ml_X10_115 : Cond.methodLink RX10 115 yX10_number ∈ sv_GT := sv_mem 881 (by decide +kernel) (by decide +kernel)
theorem ml_X10_118 : Cond.methodLink RX10 118 yX10_read ∈ sv_GT := sv_mem 869 (by decide +kernel) (by decide +kernel)
theorem ml_X10_121 : Cond.methodLink RX10 121 yX10_refuses ∈ sv_GT := sv_mem 889 (by decide +kernel) (by decide +kernel)
theorem ml_X10_124 : Cond.methodLink RX10 124 yX10_yesSoFar ∈ sv_GT := sv_mem 917 (by decide +kernel) (by decide +kernel)
theorem ml_X10_127 : Cond.methodLink RX10 127 yX10_placeOf ∈ sv_GT := sv_mem 921 (by decide +kernel) (by decide +kernel)
theorem ml_X10_130 : Cond.methodLink RX10 130 yX10_passesIn ∈ sv_GT := sv_mem 905 (by decide +kernel) (by decide +kernel)
theorem ml_X10_134 : Cond.methodLink RX10 134 yX10_dearer ∈ sv_GT := sv_mem 909 (by decide +kernel) (by decide +kernel)
theorem ml_X10_137 : Cond.methodLink RX10 137 yX10_isAhead ∈ sv_GT := sv_mem 913 (by decide +kernel) (by decide +kernel)
theorem ml_X10_140 : Cond.methodLink RX10 140 yX10_advances ∈ sv_GT := sv_mem 901 (by decide +kernel) (by decide +kernel)
theorem ml_X10_143 : Cond.methodLink RX10 143 yX10_out ∈ sv_GT := sv_mem 897 (by decide +kernel) (by decide +kernel)
theorem ml_X10_146 : Cond.methodLink RX10 146 yX10_ones ∈ sv_GT := sv_mem 925 (by decide +kernel) (by decide +kernel)
theorem ml_X10_149 : Cond.methodLink RX10 149 yX10_chosenOne ∈ sv_GT := sv_mem 936 (by decide +kernel) (by decide +kernel)
theorem ml_X10_153 : Cond.methodLink RX10 153 yX10_parts ∈ sv_GT := sv_mem 948 (by decide +kernel) (by decide +kernel)
theorem ml_X10_156 : Cond.methodLink RX10 156 yX10_beatsAll ∈ sv_GT := sv_mem 944 (by decide +kernel) (by decide +kernel)
theorem ml_X10_159 : Cond.methodLink RX10 159 yX10_allVotes ∈ sv_GT := sv_mem 952 (by decide +kernel) (by decide +kernel)
theorem ml_X10_163 : Cond.methodLink RX10 163 yX10_choose ∈ sv_GT := sv_mem 968 (by decide +kernel) (by decide +kernel)
theorem ml_X10_167 : Cond.methodLink RX10 167 yX10_toThe ∈ sv_GT := sv_mem 971 (by decide +kernel) (by decide +kernel)
theorem ml_X10_173 : Cond.methodLink RX10 173 yX10_comes ∈ sv_GT := sv_mem 964 (by decide +kernel) (by decide +kernel)
theorem ml_X10_180 : Cond.methodLink RX10 180 yX10_falseShare ∈ sv_GT := sv_mem 984 (by decide +kernel) (by decide +kernel)
theorem ml_X10_187 : Cond.methodLink RX10 187 yX10_betterOf ∈ sv_GT := sv_mem 1004 (by decide +kernel) (by decide +kernel)
theorem ml_X10_197 : Cond.methodLink RX10 197 yX10_isSheet ∈ sv_GT := sv_mem 1025 (by decide +kernel) (by decide +kernel)
theorem ml_X10_200 : Cond.methodLink RX10 200 yX10_meets ∈ sv_GT := sv_mem 1028 (by decide +kernel) (by decide +kernel)
theorem ml_X10_203 : Cond.methodLink RX10 203 yX10_lacks ∈ sv_GT := sv_mem 1040 (by decide +kernel) (by decide +kernel)
theorem ml_X10_211 : Cond.methodLink RX10 211 yX10_count ∈ sv_GT := sv_mem 1063 (by decide +kernel) (by decide +kernel)
theorem ml_X10_214 : Cond.methodLink RX10 214 yX10_chosen ∈ sv_GT := sv_mem 1064 (by decide +kernel) (by decide +kernel)
theorem ml_X10_217 : Cond.methodLink RX10 217 yX10_seat ∈ sv_GT := sv_mem 1065 (by decide +kernel) (by decide +kernel)
theorem cs_X9_163 : Cond.constantLong RX9 163 1000000 ∈ sv_GT := sv_mem 544 (by decide +kernel) (by decide +kernel)
theorem cs_X9_248 : Cond.constant RX9 248 (-2147483648) ∈ sv_GT := sv_mem 696 (by decide +kernel) (by decide +kernel)
theorem cs_X9_264 : Cond.constantLong RX9 264 17 ∈ sv_GT := sv_mem 720 (by decide +kernel) (by decide +kernel)
theorem cs_X9_266 : Cond.constantLong RX9 266 31 ∈ sv_GT := sv_mem 721 (by decide +kernel) (by decide +kernel)
theorem cs_X9_277 : Cond.constant RX9 277 999999 ∈ sv_GT := sv_mem 630 (by decide +kernel) (by decide +kernel)
theorem cs_X4_16 : Cond.constantLong RX4 16 100 ∈ sv_GT := sv_mem 539 (by decide +kernel) (by decide +kernel)
theorem cs_X4_26 : Cond.constantLong RX4 26 10 ∈ sv_GT := sv_mem 561 (by decide +kernel) (by decide +kernel)
theorem cs_X6_34 : Cond.constant RX6 34 1103515245 ∈ sv_GT := sv_mem 326 (by decide +kernel) (by decide +kernel)
theorem cs_X10_79 : Cond.constant RX10 79 1103515245 ∈ sv_GT := sv_mem 832 (by decide +kernel) (by decide +kernel)
theorem cs_X10_171 : Cond.constantLong RX10 171 100 ∈ sv_GT := sv_mem 974 (by decide +kernel) (by decide +kernel)
theorem cs_X10_176 : Cond.constantLong RX10 176 1000000 ∈ sv_GT := sv_mem 979 (by decide +kernel) (by decide +kernel)
theorem cs_X10_178 : Cond.constantLong RX10 178 10 ∈ sv_GT := sv_mem 987 (by decide +kernel) (by decide +kernel)
theorem cs_X10_190 : Cond.constant RX10 190 999999 ∈ sv_GT := sv_mem 1016 (by decide +kernel) (by decide +kernel)
theorem cs_X10_206 : Cond.constant RX10 206 (-2147483648) ∈ sv_GT := sv_mem 1048 (by decide +kernel) (by decide +kernel)
theorem cs_X10_207 : Cond.constantLong RX10 207 17 ∈ sv_GT := sv_mem 1061 (by decide +kernel) (by decide +kernel)
theorem cs_X10_209 : Cond.constantLong RX10 209 31 ∈ sv_GT := sv_mem 1062 (by decide +kernel) (by decide +kernel)
theorem cs_J6_265 : Cond.constant RJ6 265 1431655765 ∈ sv_GT := sv_mem 473 (by decide +kernel) (by decide +kernel)
theorem cs_J6_266 : Cond.constant RJ6 266 858993459 ∈ sv_GT := sv_mem 474 (by decide +kernel) (by decide +kernel)
theorem cs_J6_267 : Cond.constant RJ6 267 252645135 ∈ sv_GT := sv_mem 475 (by decide +kernel) (by decide +kernel)
theorem ca_X0_append : sv_cal m_X0_append 1 := ⟨by decide +kernel, sv_mem 365 (by decide +kernel) (by decide +kernel), sv_mem 54 (by decide +kernel) (by decide +kernel), ⟨by decide +kernel, by decide +kernel⟩, by decide +kernel⟩
theorem im_X0_append : Cond.instanceMethod yX0_append ∈ sv_GT := sv_mem 363 (by decide +kernel) (by decide +kernel)
theorem se_X0_append : Cond.selects yX0_append.cls yX0_append yX0_append ∈ sv_GT := sv_mem 364 (by decide +kernel) (by decide +kernel)
theorem ca_X0_clear : sv_cal m_X0_clear 0 := ⟨by decide +kernel, sv_mem 401 (by decide +kernel) (by decide +kernel), sv_mem 54 (by decide +kernel) (by decide +kernel), ⟨by decide +kernel, by decide +kernel⟩, by decide +kernel⟩
theorem im_X0_clear : Cond.instanceMethod yX0_clear ∈ sv_GT := sv_mem 399 (by decide +kernel) (by decide +kernel)
theorem se_X0_clear : Cond.selects yX0_clear.cls yX0_clear yX0_clear ∈ sv_GT := sv_mem 400 (by decide +kernel) (by decide +kernel)
theorem ca_X0_readText : sv_cal m_X0_readText 0 := ⟨by decide +kernel, sv_mem 369 (by decide +kernel) (by decide +kernel), sv_mem 54 (by decide +kernel) (by decide +kernel), ⟨by decide +kernel, by decide +kernel⟩, by decide +kernel⟩
theorem im_X0_readText : Cond.instanceMethod yX0_readText ∈ sv_GT := sv_mem 368 (by decide +kernel) (by decide +kernel)
theorem se_X0_readText : Cond.selects yX0_readText.cls yX0_readText yX0_readText ∈ sv_GT := sv_mem 2 (by decide +kernel) (by decide +kernel)
theorem ca_X0_readRounds : sv_cal m_X0_readRounds 0 := ⟨by decide +kernel, sv_mem 373 (by decide +kernel) (by decide +kernel), sv_mem 54 (by decide +kernel) (by decide +kernel), ⟨by decide +kernel, by decide +kernel⟩, by decide +kernel⟩
theorem im_X0_readRounds : Cond.instanceMethod yX0_readRounds ∈ sv_GT := sv_mem 372 (by decide +kernel) (by decide +kernel)
theorem se_X0_readRounds : Cond.selects yX0_readRounds.cls yX0_readRounds yX0_readRounds ∈ sv_GT := sv_mem 3 (by decide +kernel) (by decide +kernel)
theorem ca_X0_readRound : sv_cal m_X0_readRound 1 := ⟨by decide +kernel, sv_mem 377 (by decide +kernel) (by decide +kernel), sv_mem 54 (by decide +kernel) (by decide +kernel), ⟨by decide +kernel, by decide +kernel⟩, by decide +kernel⟩
theorem im_X0_readRound : Cond.instanceMethod yX0_readRound ∈ sv_GT := sv_mem 376 (by decide +kernel) (by decide +kernel)
theorem se_X0_readRound : Cond.selects yX0_readRound.cls yX0_readRound yX0_readRound ∈ sv_GT := sv_mem 4 (by decide +kernel) (by decide +kernel)
theorem ca_X0_readByte : sv_cal m_X0_readByte 1 := ⟨by decide +kernel, sv_mem 381 (by decide +kernel) (by decide +kernel), sv_mem 54 (by decide +kernel) (by decide +kernel), ⟨by decide +kernel, by decide +kernel⟩, by decide +kernel⟩
theorem im_X0_readByte : Cond.instanceMethod yX0_readByte ∈ sv_GT := sv_mem 380 (by decide +kernel) (by decide +kernel)
theorem se_X0_readByte : Cond.selects yX0_readByte.cls yX0_readByte yX0_readByte ∈ sv_GT := sv_mem 5 (by decide +kernel) (by decide +kernel)
theorem ca_X0_readLetter : sv_cal m_X0_readLetter 1 := ⟨by decide +kernel, sv_mem 393 (by decide +kernel) (by decide +kernel), sv_mem 54 (by decide +kernel) (by decide +kernel), ⟨by decide +kernel, by decide +kernel⟩, by decide +kernel⟩
theorem im_X0_readLetter : Cond.instanceMethod yX0_readLetter ∈ sv_GT := sv_mem 392 (by decide +kernel) (by decide +kernel)
theorem se_X0_readLetter : Cond.selects yX0_readLetter.cls yX0_readLetter yX0_readLetter ∈ sv_GT := sv_mem 8 (by decide +kernel) (by decide +kernel)
theorem ca_X0_readNumber : sv_cal m_X0_readNumber 1 := ⟨by decide +kernel, sv_mem 385 (by decide +kernel) (by decide +kernel), sv_mem 54 (by decide +kernel) (by decide +kernel), ⟨by decide +kernel, by decide +kernel⟩, by decide +kernel⟩
theorem im_X0_readNumber : Cond.instanceMethod yX0_readNumber ∈ sv_GT := sv_mem 384 (by decide +kernel) (by decide +kernel)
theorem se_X0_readNumber : Cond.selects yX0_readNumber.cls yX0_readNumber yX0_readNumber ∈ sv_GT := sv_mem 6 (by decide +kernel) (by decide +kernel)
theorem ca_X0_isFigure : sv_cal m_X0_isFigure 1 := ⟨by decide +kernel, sv_mem 389 (by decide +kernel) (by decide +kernel), sv_mem 54 (by decide +kernel) (by decide +kernel), ⟨by decide +kernel, by decide +kernel⟩, by decide +kernel⟩
theorem im_X0_isFigure : Cond.instanceMethod yX0_isFigure ∈ sv_GT := sv_mem 388 (by decide +kernel) (by decide +kernel)
theorem se_X0_isFigure : Cond.selects yX0_isFigure.cls yX0_isFigure yX0_isFigure ∈ sv_GT := sv_mem 7 (by decide +kernel) (by decide +kernel)
theorem ca_X1_advancedOutOf : sv_cal m_X1_advancedOutOf 1 := ⟨by decide +kernel, sv_mem 421 (by decide +kernel) (by decide +kernel), sv_mem 55 (by decide +kernel) (by decide +kernel), ⟨by decide +kernel, by decide +kernel⟩, by decide +kernel⟩
theorem im_X1_advancedOutOf : Cond.instanceMethod yX1_advancedOutOf ∈ sv_GT := sv_mem 419 (by decide +kernel) (by decide +kernel)
theorem se_X1_advancedOutOf : Cond.selects yX1_advancedOutOf.cls yX1_advancedOutOf yX1_advancedOutOf ∈ sv_GT := sv_mem 420 (by decide +kernel) (by decide +kernel)
theorem ca_X1_tally : sv_cal m_X1_tally 1 := ⟨by decide +kernel, sv_mem 429 (by decide +kernel) (by decide +kernel), sv_mem 55 (by decide +kernel) (by decide +kernel), ⟨by decide +kernel, by decide +kernel⟩, by decide +kernel⟩
theorem im_X1_tally : Cond.instanceMethod yX1_tally ∈ sv_GT := sv_mem 428 (by decide +kernel) (by decide +kernel)
theorem se_X1_tally : Cond.selects yX1_tally.cls yX1_tally yX1_tally ∈ sv_GT := sv_mem 10 (by decide +kernel) (by decide +kernel)
theorem ca_X1_whoPass : sv_cal m_X1_whoPass 2 := ⟨by decide +kernel, sv_mem 435 (by decide +kernel) (by decide +kernel), sv_mem 55 (by decide +kernel) (by decide +kernel), ⟨by decide +kernel, by decide +kernel⟩, by decide +kernel⟩
theorem im_X1_whoPass : Cond.instanceMethod yX1_whoPass ∈ sv_GT := sv_mem 434 (by decide +kernel) (by decide +kernel)
theorem se_X1_whoPass : Cond.selects yX1_whoPass.cls yX1_whoPass yX1_whoPass ∈ sv_GT := sv_mem 11 (by decide +kernel) (by decide +kernel)
theorem ca_X1_whoAdvance : sv_cal m_X1_whoAdvance 2 := ⟨by decide +kernel, sv_mem 442 (by decide +kernel) (by decide +kernel), sv_mem 55 (by decide +kernel) (by decide +kernel), ⟨by decide +kernel, by decide +kernel⟩, by decide +kernel⟩
theorem im_X1_whoAdvance : Cond.instanceMethod yX1_whoAdvance ∈ sv_GT := sv_mem 441 (by decide +kernel) (by decide +kernel)
theorem se_X1_whoAdvance : Cond.selects yX1_whoAdvance.cls yX1_whoAdvance yX1_whoAdvance ∈ sv_GT := sv_mem 12 (by decide +kernel) (by decide +kernel)
theorem ca_X1_withShare : sv_cal m_X1_withShare 3 := ⟨by decide +kernel, sv_mem 446 (by decide +kernel) (by decide +kernel), sv_mem 55 (by decide +kernel) (by decide +kernel), ⟨by decide +kernel, by decide +kernel⟩, by decide +kernel⟩
theorem im_X1_withShare : Cond.instanceMethod yX1_withShare ∈ sv_GT := sv_mem 445 (by decide +kernel) (by decide +kernel)
theorem se_X1_withShare : Cond.selects yX1_withShare.cls yX1_withShare yX1_withShare ∈ sv_GT := sv_mem 13 (by decide +kernel) (by decide +kernel)
theorem ca_X1_compareShares : sv_cal m_X1_compareShares 2 := ⟨by decide +kernel, sv_mem 450 (by decide +kernel) (by decide +kernel), sv_mem 55 (by decide +kernel) (by decide +kernel), ⟨by decide +kernel, by decide +kernel⟩, by decide +kernel⟩
theorem im_X1_compareShares : Cond.instanceMethod yX1_compareShares ∈ sv_GT := sv_mem 449 (by decide +kernel) (by decide +kernel)
theorem se_X1_compareShares : Cond.selects yX1_compareShares.cls yX1_compareShares yX1_compareShares ∈ sv_GT := sv_mem 14 (by decide +kernel) (by decide +kernel)
theorem ca_X1_outOfTie : sv_cal m_X1_outOfTie 3 := ⟨by decide +kernel, sv_mem 457 (by decide +kernel) (by decide +kernel), sv_mem 55 (by decide +kernel) (by decide +kernel), ⟨by decide +kernel, by decide +kernel⟩, by decide +kernel⟩
theorem im_X1_outOfTie : Cond.instanceMethod yX1_outOfTie ∈ sv_GT := sv_mem 456 (by decide +kernel) (by decide +kernel)
theorem se_X1_outOfTie : Cond.selects yX1_outOfTie.cls yX1_outOfTie yX1_outOfTie ∈ sv_GT := sv_mem 15 (by decide +kernel) (by decide +kernel)
theorem ca_X1_firstOf : sv_cal m_X1_firstOf 3 := ⟨by decide +kernel, sv_mem 461 (by decide +kernel) (by decide +kernel), sv_mem 55 (by decide +kernel) (by decide +kernel), ⟨by decide +kernel, by decide +kernel⟩, by decide +kernel⟩
theorem im_X1_firstOf : Cond.instanceMethod yX1_firstOf ∈ sv_GT := sv_mem 460 (by decide +kernel) (by decide +kernel)
theorem se_X1_firstOf : Cond.selects yX1_firstOf.cls yX1_firstOf yX1_firstOf ∈ sv_GT := sv_mem 16 (by decide +kernel) (by decide +kernel)
theorem ca_X1_ahead : sv_cal m_X1_ahead 3 := ⟨by decide +kernel, sv_mem 465 (by decide +kernel) (by decide +kernel), sv_mem 55 (by decide +kernel) (by decide +kernel), ⟨by decide +kernel, by decide +kernel⟩, by decide +kernel⟩
theorem im_X1_ahead : Cond.instanceMethod yX1_ahead ∈ sv_GT := sv_mem 464 (by decide +kernel) (by decide +kernel)
theorem se_X1_ahead : Cond.selects yX1_ahead.cls yX1_ahead yX1_ahead ∈ sv_GT := sv_mem 17 (by decide +kernel) (by decide +kernel)
theorem ca_X1_isBefore : sv_cal m_X1_isBefore 3 := ⟨by decide +kernel, sv_mem 469 (by decide +kernel) (by decide +kernel), sv_mem 55 (by decide +kernel) (by decide +kernel), ⟨by decide +kernel, by decide +kernel⟩, by decide +kernel⟩
theorem im_X1_isBefore : Cond.instanceMethod yX1_isBefore ∈ sv_GT := sv_mem 468 (by decide +kernel) (by decide +kernel)
theorem se_X1_isBefore : Cond.selects yX1_isBefore.cls yX1_isBefore yX1_isBefore ∈ sv_GT := sv_mem 18 (by decide +kernel) (by decide +kernel)
theorem ca_X1_has : sv_cal m_X1_has 2 := ⟨by decide +kernel, sv_mem 438 (by decide +kernel) (by decide +kernel), sv_mem 55 (by decide +kernel) (by decide +kernel), ⟨by decide +kernel, by decide +kernel⟩, by decide +kernel⟩
theorem st_X1_has : Cond.static yX1_has ∈ sv_GT := sv_mem 437 (by decide +kernel) (by decide +kernel)
theorem ca_X2_keep : sv_cal m_X2_keep 3 := ⟨by decide +kernel, sv_mem 634 (by decide +kernel) (by decide +kernel), sv_mem 59 (by decide +kernel) (by decide +kernel), ⟨by decide +kernel, by decide +kernel⟩, by decide +kernel⟩
theorem im_X2_keep : Cond.instanceMethod yX2_keep ∈ sv_GT := sv_mem 632 (by decide +kernel) (by decide +kernel)
theorem se_X2_keep : Cond.selects yX2_keep.cls yX2_keep yX2_keep ∈ sv_GT := sv_mem 633 (by decide +kernel) (by decide +kernel)
theorem ca_X2_howOften : sv_cal m_X2_howOften 1 := ⟨by decide +kernel, sv_mem 642 (by decide +kernel) (by decide +kernel), sv_mem 59 (by decide +kernel) (by decide +kernel), ⟨by decide +kernel, by decide +kernel⟩, by decide +kernel⟩
theorem im_X2_howOften : Cond.instanceMethod yX2_howOften ∈ sv_GT := sv_mem 640 (by decide +kernel) (by decide +kernel)
theorem se_X2_howOften : Cond.selects yX2_howOften.cls yX2_howOften yX2_howOften ∈ sv_GT := sv_mem 641 (by decide +kernel) (by decide +kernel)
theorem ca_X2_greatest : sv_cal m_X2_greatest 2 := ⟨by decide +kernel, sv_mem 646 (by decide +kernel) (by decide +kernel), sv_mem 59 (by decide +kernel) (by decide +kernel), ⟨by decide +kernel, by decide +kernel⟩, by decide +kernel⟩
theorem im_X2_greatest : Cond.instanceMethod yX2_greatest ∈ sv_GT := sv_mem 644 (by decide +kernel) (by decide +kernel)
theorem se_X2_greatest : Cond.selects yX2_greatest.cls yX2_greatest yX2_greatest ∈ sv_GT := sv_mem 645 (by decide +kernel) (by decide +kernel)
theorem ca_X3_tell : sv_cal m_X3_tell 2 := ⟨by decide +kernel, sv_mem 569 (by decide +kernel) (by decide +kernel), sv_mem 57 (by decide +kernel) (by decide +kernel), ⟨by decide +kernel, by decide +kernel⟩, by decide +kernel⟩
theorem im_X3_tell : Cond.instanceMethod yX3_tell ∈ sv_GT := sv_mem 567 (by decide +kernel) (by decide +kernel)
theorem se_X3_tell : Cond.selects yX3_tell.cls yX3_tell yX3_tell ∈ sv_GT := sv_mem 568 (by decide +kernel) (by decide +kernel)
theorem ca_X3_fill : sv_cal m_X3_fill 1 := ⟨by decide +kernel, sv_mem 573 (by decide +kernel) (by decide +kernel), sv_mem 57 (by decide +kernel) (by decide +kernel), ⟨by decide +kernel, by decide +kernel⟩, by decide +kernel⟩
theorem im_X3_fill : Cond.instanceMethod yX3_fill ∈ sv_GT := sv_mem 572 (by decide +kernel) (by decide +kernel)
theorem se_X3_fill : Cond.selects yX3_fill.cls yX3_fill yX3_fill ∈ sv_GT := sv_mem 23 (by decide +kernel) (by decide +kernel)
theorem ca_X4_ofPassing : sv_cal m_X4_ofPassing 3 := ⟨by decide +kernel, sv_mem 532 (by decide +kernel) (by decide +kernel), sv_mem 62 (by decide +kernel) (by decide +kernel), ⟨by decide +kernel, by decide +kernel⟩, by decide +kernel⟩
theorem st_X4_ofPassing : Cond.static yX4_ofPassing ∈ sv_GT := sv_mem 531 (by decide +kernel) (by decide +kernel)
theorem ca_X4_falseShare : sv_cal m_X4_falseShare 4 := ⟨by decide +kernel, sv_mem 554 (by decide +kernel) (by decide +kernel), sv_mem 62 (by decide +kernel) (by decide +kernel), ⟨by decide +kernel, by decide +kernel⟩, by decide +kernel⟩
theorem st_X4_falseShare : Cond.static yX4_falseShare ∈ sv_GT := sv_mem 553 (by decide +kernel) (by decide +kernel)
theorem ca_X4_isNotBelow : sv_cal m_X4_isNotBelow 4 := ⟨by decide +kernel, sv_mem 557 (by decide +kernel) (by decide +kernel), sv_mem 62 (by decide +kernel) (by decide +kernel), ⟨by decide +kernel, by decide +kernel⟩, by decide +kernel⟩
theorem st_X4_isNotBelow : Cond.static yX4_isNotBelow ∈ sv_GT := sv_mem 556 (by decide +kernel) (by decide +kernel)
theorem ca_X4_millionths : sv_cal m_X4_millionths 2 := ⟨by decide +kernel, sv_mem 560 (by decide +kernel) (by decide +kernel), sv_mem 62 (by decide +kernel) (by decide +kernel), ⟨by decide +kernel, by decide +kernel⟩, by decide +kernel⟩
theorem st_X4_millionths : Cond.static yX4_millionths ∈ sv_GT := sv_mem 559 (by decide +kernel) (by decide +kernel)
theorem ca_X4_choose : sv_cal m_X4_choose 2 := ⟨by decide +kernel, sv_mem 535 (by decide +kernel) (by decide +kernel), sv_mem 62 (by decide +kernel) (by decide +kernel), ⟨by decide +kernel, by decide +kernel⟩, by decide +kernel⟩
theorem st_X4_choose : Cond.static yX4_choose ∈ sv_GT := sv_mem 534 (by decide +kernel) (by decide +kernel)
theorem ca_X4_power : sv_cal m_X4_power 2 := ⟨by decide +kernel, sv_mem 538 (by decide +kernel) (by decide +kernel), sv_mem 62 (by decide +kernel) (by decide +kernel), ⟨by decide +kernel, by decide +kernel⟩, by decide +kernel⟩
theorem st_X4_power : Cond.static yX4_power ∈ sv_GT := sv_mem 537 (by decide +kernel) (by decide +kernel)
theorem ca_X5_mostYes : sv_cal m_X5_mostYes 0 := ⟨by decide +kernel, sv_mem 503 (by decide +kernel) (by decide +kernel), sv_mem 56 (by decide +kernel) (by decide +kernel), ⟨by decide +kernel, by decide +kernel⟩, by decide +kernel⟩
theorem im_X5_mostYes : Cond.instanceMethod yX5_mostYes ∈ sv_GT := sv_mem 501 (by decide +kernel) (by decide +kernel)
theorem se_X5_mostYes : Cond.selects yX5_mostYes.cls yX5_mostYes yX5_mostYes ∈ sv_GT := sv_mem 502 (by decide +kernel) (by decide +kernel)
theorem ca_X5_greatestShare : sv_cal m_X5_greatestShare 0 := ⟨by decide +kernel, sv_mem 512 (by decide +kernel) (by decide +kernel), sv_mem 56 (by decide +kernel) (by decide +kernel), ⟨by decide +kernel, by decide +kernel⟩, by decide +kernel⟩
theorem im_X5_greatestShare : Cond.instanceMethod yX5_greatestShare ∈ sv_GT := sv_mem 510 (by decide +kernel) (by decide +kernel)
theorem se_X5_greatestShare : Cond.selects yX5_greatestShare.cls yX5_greatestShare yX5_greatestShare ∈ sv_GT := sv_mem 511 (by decide +kernel) (by decide +kernel)
theorem ca_X5_winnerOfAllPairs : sv_cal m_X5_winnerOfAllPairs 0 := ⟨by decide +kernel, sv_mem 491 (by decide +kernel) (by decide +kernel), sv_mem 56 (by decide +kernel) (by decide +kernel), ⟨by decide +kernel, by decide +kernel⟩, by decide +kernel⟩
theorem im_X5_winnerOfAllPairs : Cond.instanceMethod yX5_winnerOfAllPairs ∈ sv_GT := sv_mem 489 (by decide +kernel) (by decide +kernel)
theorem se_X5_winnerOfAllPairs : Cond.selects yX5_winnerOfAllPairs.cls yX5_winnerOfAllPairs yX5_winnerOfAllPairs ∈ sv_GT := sv_mem 490 (by decide +kernel) (by decide +kernel)
theorem ca_X5_winsAllPairs : sv_cal m_X5_winsAllPairs 1 := ⟨by decide +kernel, sv_mem 495 (by decide +kernel) (by decide +kernel), sv_mem 56 (by decide +kernel) (by decide +kernel), ⟨by decide +kernel, by decide +kernel⟩, by decide +kernel⟩
theorem im_X5_winsAllPairs : Cond.instanceMethod yX5_winsAllPairs ∈ sv_GT := sv_mem 494 (by decide +kernel) (by decide +kernel)
theorem se_X5_winsAllPairs : Cond.selects yX5_winsAllPairs.cls yX5_winsAllPairs yX5_winsAllPairs ∈ sv_GT := sv_mem 19 (by decide +kernel) (by decide +kernel)
theorem ca_X5_yesInAll : sv_cal m_X5_yesInAll 1 := ⟨by decide +kernel, sv_mem 507 (by decide +kernel) (by decide +kernel), sv_mem 56 (by decide +kernel) (by decide +kernel), ⟨by decide +kernel, by decide +kernel⟩, by decide +kernel⟩
theorem im_X5_yesInAll : Cond.instanceMethod yX5_yesInAll ∈ sv_GT := sv_mem 506 (by decide +kernel) (by decide +kernel)
theorem se_X5_yesInAll : Cond.selects yX5_yesInAll.cls yX5_yesInAll yX5_yesInAll ∈ sv_GT := sv_mem 20 (by decide +kernel) (by decide +kernel)
theorem ca_X5_votesInAll : sv_cal m_X5_votesInAll 1 := ⟨by decide +kernel, sv_mem 516 (by decide +kernel) (by decide +kernel), sv_mem 56 (by decide +kernel) (by decide +kernel), ⟨by decide +kernel, by decide +kernel⟩, by decide +kernel⟩
theorem im_X5_votesInAll : Cond.instanceMethod yX5_votesInAll ∈ sv_GT := sv_mem 515 (by decide +kernel) (by decide +kernel)
theorem se_X5_votesInAll : Cond.selects yX5_votesInAll.cls yX5_votesInAll yX5_votesInAll ∈ sv_GT := sv_mem 21 (by decide +kernel) (by decide +kernel)
theorem ca_X6_addPlayer : sv_cal m_X6_addPlayer 1 := ⟨by decide +kernel, sv_mem 309 (by decide +kernel) (by decide +kernel), sv_mem 53 (by decide +kernel) (by decide +kernel), ⟨by decide +kernel, by decide +kernel⟩, by decide +kernel⟩
theorem im_X6_addPlayer : Cond.instanceMethod yX6_addPlayer ∈ sv_GT := sv_mem 307 (by decide +kernel) (by decide +kernel)
theorem se_X6_addPlayer : Cond.selects yX6_addPlayer.cls yX6_addPlayer yX6_addPlayer ∈ sv_GT := sv_mem 308 (by decide +kernel) (by decide +kernel)
theorem ca_X6_shuffle : sv_cal m_X6_shuffle 1 := ⟨by decide +kernel, sv_mem 325 (by decide +kernel) (by decide +kernel), sv_mem 53 (by decide +kernel) (by decide +kernel), ⟨by decide +kernel, by decide +kernel⟩, by decide +kernel⟩
theorem im_X6_shuffle : Cond.instanceMethod yX6_shuffle ∈ sv_GT := sv_mem 323 (by decide +kernel) (by decide +kernel)
theorem se_X6_shuffle : Cond.selects yX6_shuffle.cls yX6_shuffle yX6_shuffle ∈ sv_GT := sv_mem 324 (by decide +kernel) (by decide +kernel)
theorem ca_X6_place : sv_cal m_X6_place 2 := ⟨by decide +kernel, sv_mem 313 (by decide +kernel) (by decide +kernel), sv_mem 53 (by decide +kernel) (by decide +kernel), ⟨by decide +kernel, by decide +kernel⟩, by decide +kernel⟩
theorem im_X6_place : Cond.instanceMethod yX6_place ∈ sv_GT := sv_mem 312 (by decide +kernel) (by decide +kernel)
theorem se_X6_place : Cond.selects yX6_place.cls yX6_place yX6_place ∈ sv_GT := sv_mem 0 (by decide +kernel) (by decide +kernel)
theorem ca_X6_everyone : sv_cal m_X6_everyone 0 := ⟨by decide +kernel, sv_mem 425 (by decide +kernel) (by decide +kernel), sv_mem 53 (by decide +kernel) (by decide +kernel), ⟨by decide +kernel, by decide +kernel⟩, by decide +kernel⟩
theorem im_X6_everyone : Cond.instanceMethod yX6_everyone ∈ sv_GT := sv_mem 423 (by decide +kernel) (by decide +kernel)
theorem se_X6_everyone : Cond.selects yX6_everyone.cls yX6_everyone yX6_everyone ∈ sv_GT := sv_mem 424 (by decide +kernel) (by decide +kernel)
theorem ca_X6_countingVote : sv_cal m_X6_countingVote 3 := ⟨by decide +kernel, sv_mem 349 (by decide +kernel) (by decide +kernel), sv_mem 53 (by decide +kernel) (by decide +kernel), ⟨by decide +kernel, by decide +kernel⟩, by decide +kernel⟩
theorem im_X6_countingVote : Cond.instanceMethod yX6_countingVote ∈ sv_GT := sv_mem 347 (by decide +kernel) (by decide +kernel)
theorem se_X6_countingVote : Cond.selects yX6_countingVote.cls yX6_countingVote yX6_countingVote ∈ sv_GT := sv_mem 348 (by decide +kernel) (by decide +kernel)
theorem ca_X6_countingVotes : sv_cal m_X6_countingVotes 2 := ⟨by decide +kernel, sv_mem 345 (by decide +kernel) (by decide +kernel), sv_mem 53 (by decide +kernel) (by decide +kernel), ⟨by decide +kernel, by decide +kernel⟩, by decide +kernel⟩
theorem im_X6_countingVotes : Cond.instanceMethod yX6_countingVotes ∈ sv_GT := sv_mem 343 (by decide +kernel) (by decide +kernel)
theorem se_X6_countingVotes : Cond.selects yX6_countingVotes.cls yX6_countingVotes yX6_countingVotes ∈ sv_GT := sv_mem 344 (by decide +kernel) (by decide +kernel)
theorem ca_X6_yesVotes : sv_cal m_X6_yesVotes 2 := ⟨by decide +kernel, sv_mem 357 (by decide +kernel) (by decide +kernel), sv_mem 53 (by decide +kernel) (by decide +kernel), ⟨by decide +kernel, by decide +kernel⟩, by decide +kernel⟩
theorem im_X6_yesVotes : Cond.instanceMethod yX6_yesVotes ∈ sv_GT := sv_mem 355 (by decide +kernel) (by decide +kernel)
theorem se_X6_yesVotes : Cond.selects yX6_yesVotes.cls yX6_yesVotes yX6_yesVotes ∈ sv_GT := sv_mem 356 (by decide +kernel) (by decide +kernel)
theorem ca_X6_jurorsOnPart : sv_cal m_X6_jurorsOnPart 3 := ⟨by decide +kernel, sv_mem 499 (by decide +kernel) (by decide +kernel), sv_mem 53 (by decide +kernel) (by decide +kernel), ⟨by decide +kernel, by decide +kernel⟩, by decide +kernel⟩
theorem im_X6_jurorsOnPart : Cond.instanceMethod yX6_jurorsOnPart ∈ sv_GT := sv_mem 497 (by decide +kernel) (by decide +kernel)
theorem se_X6_jurorsOnPart : Cond.selects yX6_jurorsOnPart.cls yX6_jurorsOnPart yX6_jurorsOnPart ∈ sv_GT := sv_mem 498 (by decide +kernel) (by decide +kernel)
theorem ca_X7_isLost : sv_cal m_X7_isLost 1 := ⟨by decide +kernel, sv_mem 675 (by decide +kernel) (by decide +kernel), sv_mem 52 (by decide +kernel) (by decide +kernel), ⟨by decide +kernel, by decide +kernel⟩, by decide +kernel⟩
theorem im_X7_isLost : Cond.instanceMethod yX7_isLost ∈ sv_GT := sv_mem 673 (by decide +kernel) (by decide +kernel)
theorem se_X7_isLost : Cond.selects yX7_isLost.cls yX7_isLost yX7_isLost ∈ sv_GT := sv_mem 674 (by decide +kernel) (by decide +kernel)
theorem ca_X7_found : sv_cal m_X7_found 1 := ⟨by decide +kernel, sv_mem 663 (by decide +kernel) (by decide +kernel), sv_mem 52 (by decide +kernel) (by decide +kernel), ⟨by decide +kernel, by decide +kernel⟩, by decide +kernel⟩
theorem im_X7_found : Cond.instanceMethod yX7_found ∈ sv_GT := sv_mem 661 (by decide +kernel) (by decide +kernel)
theorem se_X7_found : Cond.selects yX7_found.cls yX7_found yX7_found ∈ sv_GT := sv_mem 662 (by decide +kernel) (by decide +kernel)
theorem ca_X7_lay : sv_cal m_X7_lay 3 := ⟨by decide +kernel, sv_mem 667 (by decide +kernel) (by decide +kernel), sv_mem 52 (by decide +kernel) (by decide +kernel), ⟨by decide +kernel, by decide +kernel⟩, by decide +kernel⟩
theorem im_X7_lay : Cond.instanceMethod yX7_lay ∈ sv_GT := sv_mem 665 (by decide +kernel) (by decide +kernel)
theorem se_X7_lay : Cond.selects yX7_lay.cls yX7_lay yX7_lay ∈ sv_GT := sv_mem 666 (by decide +kernel) (by decide +kernel)
theorem ca_X7_drop : sv_cal m_X7_drop 1 := ⟨by decide +kernel, sv_mem 679 (by decide +kernel) (by decide +kernel), sv_mem 52 (by decide +kernel) (by decide +kernel), ⟨by decide +kernel, by decide +kernel⟩, by decide +kernel⟩
theorem im_X7_drop : Cond.instanceMethod yX7_drop ∈ sv_GT := sv_mem 677 (by decide +kernel) (by decide +kernel)
theorem se_X7_drop : Cond.selects yX7_drop.cls yX7_drop yX7_drop ∈ sv_GT := sv_mem 678 (by decide +kernel) (by decide +kernel)
theorem ca_X7_findingOfItem : sv_cal m_X7_findingOfItem 3 := ⟨by decide +kernel, sv_mem 687 (by decide +kernel) (by decide +kernel), sv_mem 52 (by decide +kernel) (by decide +kernel), ⟨by decide +kernel, by decide +kernel⟩, by decide +kernel⟩
theorem im_X7_findingOfItem : Cond.instanceMethod yX7_findingOfItem ∈ sv_GT := sv_mem 685 (by decide +kernel) (by decide +kernel)
theorem se_X7_findingOfItem : Cond.selects yX7_findingOfItem.cls yX7_findingOfItem yX7_findingOfItem ∈ sv_GT := sv_mem 686 (by decide +kernel) (by decide +kernel)
theorem ca_X7_findingOfSheets : sv_cal m_X7_findingOfSheets 2 := ⟨by decide +kernel, sv_mem 704 (by decide +kernel) (by decide +kernel), sv_mem 52 (by decide +kernel) (by decide +kernel), ⟨by decide +kernel, by decide +kernel⟩, by decide +kernel⟩
theorem im_X7_findingOfSheets : Cond.instanceMethod yX7_findingOfSheets ∈ sv_GT := sv_mem 702 (by decide +kernel) (by decide +kernel)
theorem se_X7_findingOfSheets : Cond.selects yX7_findingOfSheets.cls yX7_findingOfSheets yX7_findingOfSheets ∈ sv_GT := sv_mem 703 (by decide +kernel) (by decide +kernel)
theorem ca_X7_hasSpan : sv_cal m_X7_hasSpan 3 := ⟨by decide +kernel, sv_mem 708 (by decide +kernel) (by decide +kernel), sv_mem 52 (by decide +kernel) (by decide +kernel), ⟨by decide +kernel, by decide +kernel⟩, by decide +kernel⟩
theorem im_X7_hasSpan : Cond.instanceMethod yX7_hasSpan ∈ sv_GT := sv_mem 706 (by decide +kernel) (by decide +kernel)
theorem se_X7_hasSpan : Cond.selects yX7_hasSpan.cls yX7_hasSpan yX7_hasSpan ∈ sv_GT := sv_mem 707 (by decide +kernel) (by decide +kernel)
theorem ca_X7_lowestBits : sv_cal m_X7_lowestBits 2 := ⟨by decide +kernel, sv_mem 691 (by decide +kernel) (by decide +kernel), sv_mem 52 (by decide +kernel) (by decide +kernel), ⟨by decide +kernel, by decide +kernel⟩, by decide +kernel⟩
theorem st_X7_lowestBits : Cond.static yX7_lowestBits ∈ sv_GT := sv_mem 690 (by decide +kernel) (by decide +kernel)
theorem ca_X7_voteAt : sv_cal m_X7_voteAt 2 := ⟨by decide +kernel, sv_mem 353 (by decide +kernel) (by decide +kernel), sv_mem 52 (by decide +kernel) (by decide +kernel), ⟨by decide +kernel, by decide +kernel⟩, by decide +kernel⟩
theorem im_X7_voteAt : Cond.instanceMethod yX7_voteAt ∈ sv_GT := sv_mem 351 (by decide +kernel) (by decide +kernel)
theorem se_X7_voteAt : Cond.selects yX7_voteAt.cls yX7_voteAt yX7_voteAt ∈ sv_GT := sv_mem 352 (by decide +kernel) (by decide +kernel)
theorem ca_X8_has : sv_cal m_X8_has 1 := ⟨by decide +kernel, sv_mem 584 (by decide +kernel) (by decide +kernel), sv_mem 58 (by decide +kernel) (by decide +kernel), ⟨by decide +kernel, by decide +kernel⟩, by decide +kernel⟩
theorem im_X8_has : Cond.instanceMethod yX8_has ∈ sv_GT := sv_mem 582 (by decide +kernel) (by decide +kernel)
theorem se_X8_has : Cond.selects yX8_has.cls yX8_has yX8_has ∈ sv_GT := sv_mem 583 (by decide +kernel) (by decide +kernel)
theorem ca_X8_open : sv_cal m_X8_open 1 := ⟨by decide +kernel, sv_mem 588 (by decide +kernel) (by decide +kernel), sv_mem 58 (by decide +kernel) (by decide +kernel), ⟨by decide +kernel, by decide +kernel⟩, by decide +kernel⟩
theorem im_X8_open : Cond.instanceMethod yX8_open ∈ sv_GT := sv_mem 586 (by decide +kernel) (by decide +kernel)
theorem se_X8_open : Cond.selects yX8_open.cls yX8_open yX8_open ∈ sv_GT := sv_mem 587 (by decide +kernel) (by decide +kernel)
theorem ca_X8_addMark : sv_cal m_X8_addMark 2 := ⟨by decide +kernel, sv_mem 600 (by decide +kernel) (by decide +kernel), sv_mem 58 (by decide +kernel) (by decide +kernel), ⟨by decide +kernel, by decide +kernel⟩, by decide +kernel⟩
theorem im_X8_addMark : Cond.instanceMethod yX8_addMark ∈ sv_GT := sv_mem 598 (by decide +kernel) (by decide +kernel)
theorem se_X8_addMark : Cond.selects yX8_addMark.cls yX8_addMark yX8_addMark ∈ sv_GT := sv_mem 599 (by decide +kernel) (by decide +kernel)
theorem ca_X8_lead : sv_cal m_X8_lead 2 := ⟨by decide +kernel, sv_mem 608 (by decide +kernel) (by decide +kernel), sv_mem 58 (by decide +kernel) (by decide +kernel), ⟨by decide +kernel, by decide +kernel⟩, by decide +kernel⟩
theorem im_X8_lead : Cond.instanceMethod yX8_lead ∈ sv_GT := sv_mem 606 (by decide +kernel) (by decide +kernel)
theorem se_X8_lead : Cond.selects yX8_lead.cls yX8_lead yX8_lead ∈ sv_GT := sv_mem 607 (by decide +kernel) (by decide +kernel)
theorem ca_X8_seated : sv_cal m_X8_seated 0 := ⟨by decide +kernel, sv_mem 617 (by decide +kernel) (by decide +kernel), sv_mem 58 (by decide +kernel) (by decide +kernel), ⟨by decide +kernel, by decide +kernel⟩, by decide +kernel⟩
theorem im_X8_seated : Cond.instanceMethod yX8_seated ∈ sv_GT := sv_mem 615 (by decide +kernel) (by decide +kernel)
theorem se_X8_seated : Cond.selects yX8_seated.cls yX8_seated yX8_seated ∈ sv_GT := sv_mem 616 (by decide +kernel) (by decide +kernel)
theorem ca_X8_leadsAll : sv_cal m_X8_leadsAll 1 := ⟨by decide +kernel, sv_mem 621 (by decide +kernel) (by decide +kernel), sv_mem 58 (by decide +kernel) (by decide +kernel), ⟨by decide +kernel, by decide +kernel⟩, by decide +kernel⟩
theorem im_X8_leadsAll : Cond.instanceMethod yX8_leadsAll ∈ sv_GT := sv_mem 620 (by decide +kernel) (by decide +kernel)
theorem se_X8_leadsAll : Cond.selects yX8_leadsAll.cls yX8_leadsAll yX8_leadsAll ∈ sv_GT := sv_mem 25 (by decide +kernel) (by decide +kernel)
theorem ca_X9_player : sv_cal m_X9_player 1 := ⟨by decide +kernel, sv_mem 302 (by decide +kernel) (by decide +kernel), sv_mem 51 (by decide +kernel) (by decide +kernel), ⟨by decide +kernel, by decide +kernel⟩, by decide +kernel⟩
theorem im_X9_player : Cond.instanceMethod yX9_player ∈ sv_GT := sv_mem 300 (by decide +kernel) (by decide +kernel)
theorem se_X9_player : Cond.selects yX9_player.cls yX9_player yX9_player ∈ sv_GT := sv_mem 301 (by decide +kernel) (by decide +kernel)
theorem ca_X9_jurors : sv_cal m_X9_jurors 1 := ⟨by decide +kernel, sv_mem 317 (by decide +kernel) (by decide +kernel), sv_mem 51 (by decide +kernel) (by decide +kernel), ⟨by decide +kernel, by decide +kernel⟩, by decide +kernel⟩
theorem im_X9_jurors : Cond.instanceMethod yX9_jurors ∈ sv_GT := sv_mem 315 (by decide +kernel) (by decide +kernel)
theorem se_X9_jurors : Cond.selects yX9_jurors.cls yX9_jurors yX9_jurors ∈ sv_GT := sv_mem 316 (by decide +kernel) (by decide +kernel)
theorem ca_X9_draw : sv_cal m_X9_draw 1 := ⟨by decide +kernel, sv_mem 321 (by decide +kernel) (by decide +kernel), sv_mem 51 (by decide +kernel) (by decide +kernel), ⟨by decide +kernel, by decide +kernel⟩, by decide +kernel⟩
theorem im_X9_draw : Cond.instanceMethod yX9_draw ∈ sv_GT := sv_mem 319 (by decide +kernel) (by decide +kernel)
theorem se_X9_draw : Cond.selects yX9_draw.cls yX9_draw yX9_draw ∈ sv_GT := sv_mem 320 (by decide +kernel) (by decide +kernel)
theorem ca_X9_order : sv_cal m_X9_order 1 := ⟨by decide +kernel, sv_mem 330 (by decide +kernel) (by decide +kernel), sv_mem 51 (by decide +kernel) (by decide +kernel), ⟨by decide +kernel, by decide +kernel⟩, by decide +kernel⟩
theorem im_X9_order : Cond.instanceMethod yX9_order ∈ sv_GT := sv_mem 328 (by decide +kernel) (by decide +kernel)
theorem se_X9_order : Cond.selects yX9_order.cls yX9_order yX9_order ∈ sv_GT := sv_mem 329 (by decide +kernel) (by decide +kernel)
theorem ca_X9_votes : sv_cal m_X9_votes 3 := ⟨by decide +kernel, sv_mem 338 (by decide +kernel) (by decide +kernel), sv_mem 51 (by decide +kernel) (by decide +kernel), ⟨by decide +kernel, by decide +kernel⟩, by decide +kernel⟩
theorem im_X9_votes : Cond.instanceMethod yX9_votes ∈ sv_GT := sv_mem 336 (by decide +kernel) (by decide +kernel)
theorem se_X9_votes : Cond.selects yX9_votes.cls yX9_votes yX9_votes ∈ sv_GT := sv_mem 337 (by decide +kernel) (by decide +kernel)
theorem ca_X9_type : sv_cal m_X9_type 1 := ⟨by decide +kernel, sv_mem 361 (by decide +kernel) (by decide +kernel), sv_mem 51 (by decide +kernel) (by decide +kernel), ⟨by decide +kernel, by decide +kernel⟩, by decide +kernel⟩
theorem im_X9_type : Cond.instanceMethod yX9_type ∈ sv_GT := sv_mem 359 (by decide +kernel) (by decide +kernel)
theorem se_X9_type : Cond.selects yX9_type.cls yX9_type yX9_type ∈ sv_GT := sv_mem 360 (by decide +kernel) (by decide +kernel)
theorem ca_X9_repeal : sv_cal m_X9_repeal 0 := ⟨by decide +kernel, sv_mem 397 (by decide +kernel) (by decide +kernel), sv_mem 51 (by decide +kernel) (by decide +kernel), ⟨by decide +kernel, by decide +kernel⟩, by decide +kernel⟩
theorem im_X9_repeal : Cond.instanceMethod yX9_repeal ∈ sv_GT := sv_mem 395 (by decide +kernel) (by decide +kernel)
theorem se_X9_repeal : Cond.selects yX9_repeal.cls yX9_repeal yX9_repeal ∈ sv_GT := sv_mem 396 (by decide +kernel) (by decide +kernel)
theorem ca_X9_fault : sv_cal m_X9_fault 0 := ⟨by decide +kernel, sv_mem 405 (by decide +kernel) (by decide +kernel), sv_mem 51 (by decide +kernel) (by decide +kernel), ⟨by decide +kernel, by decide +kernel⟩, by decide +kernel⟩
theorem im_X9_fault : Cond.instanceMethod yX9_fault ∈ sv_GT := sv_mem 403 (by decide +kernel) (by decide +kernel)
theorem se_X9_fault : Cond.selects yX9_fault.cls yX9_fault yX9_fault ∈ sv_GT := sv_mem 404 (by decide +kernel) (by decide +kernel)
theorem ca_X9_law : sv_cal m_X9_law 2 := ⟨by decide +kernel, sv_mem 409 (by decide +kernel) (by decide +kernel), sv_mem 51 (by decide +kernel) (by decide +kernel), ⟨by decide +kernel, by decide +kernel⟩, by decide +kernel⟩
theorem im_X9_law : Cond.instanceMethod yX9_law ∈ sv_GT := sv_mem 407 (by decide +kernel) (by decide +kernel)
theorem se_X9_law : Cond.selects yX9_law.cls yX9_law yX9_law ∈ sv_GT := sv_mem 408 (by decide +kernel) (by decide +kernel)
theorem ca_X9_advance : sv_cal m_X9_advance 1 := ⟨by decide +kernel, sv_mem 417 (by decide +kernel) (by decide +kernel), sv_mem 51 (by decide +kernel) (by decide +kernel), ⟨by decide +kernel, by decide +kernel⟩, by decide +kernel⟩
theorem im_X9_advance : Cond.instanceMethod yX9_advance ∈ sv_GT := sv_mem 415 (by decide +kernel) (by decide +kernel)
theorem se_X9_advance : Cond.selects yX9_advance.cls yX9_advance yX9_advance ∈ sv_GT := sv_mem 416 (by decide +kernel) (by decide +kernel)
theorem ca_X9_through : sv_cal m_X9_through 1 := ⟨by decide +kernel, sv_mem 479 (by decide +kernel) (by decide +kernel), sv_mem 51 (by decide +kernel) (by decide +kernel), ⟨by decide +kernel, by decide +kernel⟩, by decide +kernel⟩
theorem im_X9_through : Cond.instanceMethod yX9_through ∈ sv_GT := sv_mem 477 (by decide +kernel) (by decide +kernel)
theorem se_X9_through : Cond.selects yX9_through.cls yX9_through yX9_through ∈ sv_GT := sv_mem 478 (by decide +kernel) (by decide +kernel)
theorem ca_X9_chosen : sv_cal m_X9_chosen 0 := ⟨by decide +kernel, sv_mem 483 (by decide +kernel) (by decide +kernel), sv_mem 51 (by decide +kernel) (by decide +kernel), ⟨by decide +kernel, by decide +kernel⟩, by decide +kernel⟩
theorem im_X9_chosen : Cond.instanceMethod yX9_chosen ∈ sv_GT := sv_mem 481 (by decide +kernel) (by decide +kernel)
theorem se_X9_chosen : Cond.selects yX9_chosen.cls yX9_chosen yX9_chosen ∈ sv_GT := sv_mem 482 (by decide +kernel) (by decide +kernel)
theorem ca_X9_other : sv_cal m_X9_other 1 := ⟨by decide +kernel, sv_mem 487 (by decide +kernel) (by decide +kernel), sv_mem 51 (by decide +kernel) (by decide +kernel), ⟨by decide +kernel, by decide +kernel⟩, by decide +kernel⟩
theorem im_X9_other : Cond.instanceMethod yX9_other ∈ sv_GT := sv_mem 485 (by decide +kernel) (by decide +kernel)
theorem se_X9_other : Cond.selects yX9_other.cls yX9_other yX9_other ∈ sv_GT := sv_mem 486 (by decide +kernel) (by decide +kernel)
theorem ca_X9_chance : sv_cal m_X9_chance 2 := ⟨by decide +kernel, sv_mem 521 (by decide +kernel) (by decide +kernel), sv_mem 51 (by decide +kernel) (by decide +kernel), ⟨by decide +kernel, by decide +kernel⟩, by decide +kernel⟩
theorem im_X9_chance : Cond.instanceMethod yX9_chance ∈ sv_GT := sv_mem 519 (by decide +kernel) (by decide +kernel)
theorem se_X9_chance : Cond.selects yX9_chance.cls yX9_chance yX9_chance ∈ sv_GT := sv_mem 520 (by decide +kernel) (by decide +kernel)
theorem ca_X9_passes : sv_cal m_X9_passes 2 := ⟨by decide +kernel, sv_mem 529 (by decide +kernel) (by decide +kernel), sv_mem 51 (by decide +kernel) (by decide +kernel), ⟨by decide +kernel, by decide +kernel⟩, by decide +kernel⟩
theorem im_X9_passes : Cond.instanceMethod yX9_passes ∈ sv_GT := sv_mem 527 (by decide +kernel) (by decide +kernel)
theorem se_X9_passes : Cond.selects yX9_passes.cls yX9_passes yX9_passes ∈ sv_GT := sv_mem 528 (by decide +kernel) (by decide +kernel)
theorem ca_X9_all : sv_cal m_X9_all 1 := ⟨by decide +kernel, sv_mem 543 (by decide +kernel) (by decide +kernel), sv_mem 51 (by decide +kernel) (by decide +kernel), ⟨by decide +kernel, by decide +kernel⟩, by decide +kernel⟩
theorem im_X9_all : Cond.instanceMethod yX9_all ∈ sv_GT := sv_mem 541 (by decide +kernel) (by decide +kernel)
theorem se_X9_all : Cond.selects yX9_all.cls yX9_all yX9_all ∈ sv_GT := sv_mem 542 (by decide +kernel) (by decide +kernel)
theorem ca_X9_doubt : sv_cal m_X9_doubt 4 := ⟨by decide +kernel, sv_mem 548 (by decide +kernel) (by decide +kernel), sv_mem 51 (by decide +kernel) (by decide +kernel), ⟨by decide +kernel, by decide +kernel⟩, by decide +kernel⟩
theorem im_X9_doubt : Cond.instanceMethod yX9_doubt ∈ sv_GT := sv_mem 546 (by decide +kernel) (by decide +kernel)
theorem se_X9_doubt : Cond.selects yX9_doubt.cls yX9_doubt yX9_doubt ∈ sv_GT := sv_mem 547 (by decide +kernel) (by decide +kernel)
theorem ca_X9_morning : sv_cal m_X9_morning 2 := ⟨by decide +kernel, sv_mem 565 (by decide +kernel) (by decide +kernel), sv_mem 51 (by decide +kernel) (by decide +kernel), ⟨by decide +kernel, by decide +kernel⟩, by decide +kernel⟩
theorem im_X9_morning : Cond.instanceMethod yX9_morning ∈ sv_GT := sv_mem 563 (by decide +kernel) (by decide +kernel)
theorem se_X9_morning : Cond.selects yX9_morning.cls yX9_morning yX9_morning ∈ sv_GT := sv_mem 564 (by decide +kernel) (by decide +kernel)
theorem ca_X9_trial : sv_cal m_X9_trial 1 := ⟨by decide +kernel, sv_mem 580 (by decide +kernel) (by decide +kernel), sv_mem 51 (by decide +kernel) (by decide +kernel), ⟨by decide +kernel, by decide +kernel⟩, by decide +kernel⟩
theorem im_X9_trial : Cond.instanceMethod yX9_trial ∈ sv_GT := sv_mem 578 (by decide +kernel) (by decide +kernel)
theorem se_X9_trial : Cond.selects yX9_trial.cls yX9_trial yX9_trial ∈ sv_GT := sv_mem 579 (by decide +kernel) (by decide +kernel)
theorem ca_X9_week : sv_cal m_X9_week 2 := ⟨by decide +kernel, sv_mem 592 (by decide +kernel) (by decide +kernel), sv_mem 51 (by decide +kernel) (by decide +kernel), ⟨by decide +kernel, by decide +kernel⟩, by decide +kernel⟩
theorem im_X9_week : Cond.instanceMethod yX9_week ∈ sv_GT := sv_mem 590 (by decide +kernel) (by decide +kernel)
theorem se_X9_week : Cond.selects yX9_week.cls yX9_week yX9_week ∈ sv_GT := sv_mem 591 (by decide +kernel) (by decide +kernel)
theorem ca_X9_better : sv_cal m_X9_better 2 := ⟨by decide +kernel, sv_mem 604 (by decide +kernel) (by decide +kernel), sv_mem 51 (by decide +kernel) (by decide +kernel), ⟨by decide +kernel, by decide +kernel⟩, by decide +kernel⟩
theorem im_X9_better : Cond.instanceMethod yX9_better ∈ sv_GT := sv_mem 602 (by decide +kernel) (by decide +kernel)
theorem se_X9_better : Cond.selects yX9_better.cls yX9_better yX9_better ∈ sv_GT := sv_mem 603 (by decide +kernel) (by decide +kernel)
theorem ca_X9_seat : sv_cal m_X9_seat 0 := ⟨by decide +kernel, sv_mem 613 (by decide +kernel) (by decide +kernel), sv_mem 51 (by decide +kernel) (by decide +kernel), ⟨by decide +kernel, by decide +kernel⟩, by decide +kernel⟩
theorem im_X9_seat : Cond.instanceMethod yX9_seat ∈ sv_GT := sv_mem 611 (by decide +kernel) (by decide +kernel)
theorem se_X9_seat : Cond.selects yX9_seat.cls yX9_seat yX9_seat ∈ sv_GT := sv_mem 612 (by decide +kernel) (by decide +kernel)
theorem ca_X9_hear : sv_cal m_X9_hear 3 := ⟨by decide +kernel, sv_mem 626 (by decide +kernel) (by decide +kernel), sv_mem 51 (by decide +kernel) (by decide +kernel), ⟨by decide +kernel, by decide +kernel⟩, by decide +kernel⟩
theorem im_X9_hear : Cond.instanceMethod yX9_hear ∈ sv_GT := sv_mem 624 (by decide +kernel) (by decide +kernel)
theorem se_X9_hear : Cond.selects yX9_hear.cls yX9_hear yX9_hear ∈ sv_GT := sv_mem 625 (by decide +kernel) (by decide +kernel)
theorem ca_X9_known : sv_cal m_X9_known 2 := ⟨by decide +kernel, sv_mem 638 (by decide +kernel) (by decide +kernel), sv_mem 51 (by decide +kernel) (by decide +kernel), ⟨by decide +kernel, by decide +kernel⟩, by decide +kernel⟩
theorem im_X9_known : Cond.instanceMethod yX9_known ∈ sv_GT := sv_mem 636 (by decide +kernel) (by decide +kernel)
theorem se_X9_known : Cond.selects yX9_known.cls yX9_known yX9_known ∈ sv_GT := sv_mem 637 (by decide +kernel) (by decide +kernel)
theorem ca_X9_sheet : sv_cal m_X9_sheet 3 := ⟨by decide +kernel, sv_mem 653 (by decide +kernel) (by decide +kernel), sv_mem 51 (by decide +kernel) (by decide +kernel), ⟨by decide +kernel, by decide +kernel⟩, by decide +kernel⟩
theorem im_X9_sheet : Cond.instanceMethod yX9_sheet ∈ sv_GT := sv_mem 651 (by decide +kernel) (by decide +kernel)
theorem se_X9_sheet : Cond.selects yX9_sheet.cls yX9_sheet yX9_sheet ∈ sv_GT := sv_mem 652 (by decide +kernel) (by decide +kernel)
theorem ca_X9_lose : sv_cal m_X9_lose 1 := ⟨by decide +kernel, sv_mem 671 (by decide +kernel) (by decide +kernel), sv_mem 51 (by decide +kernel) (by decide +kernel), ⟨by decide +kernel, by decide +kernel⟩, by decide +kernel⟩
theorem im_X9_lose : Cond.instanceMethod yX9_lose ∈ sv_GT := sv_mem 669 (by decide +kernel) (by decide +kernel)
theorem se_X9_lose : Cond.selects yX9_lose.cls yX9_lose yX9_lose ∈ sv_GT := sv_mem 670 (by decide +kernel) (by decide +kernel)
theorem ca_X9_put : sv_cal m_X9_put 4 := ⟨by decide +kernel, sv_mem 683 (by decide +kernel) (by decide +kernel), sv_mem 51 (by decide +kernel) (by decide +kernel), ⟨by decide +kernel, by decide +kernel⟩, by decide +kernel⟩
theorem im_X9_put : Cond.instanceMethod yX9_put ∈ sv_GT := sv_mem 681 (by decide +kernel) (by decide +kernel)
theorem se_X9_put : Cond.selects yX9_put.cls yX9_put yX9_put ∈ sv_GT := sv_mem 682 (by decide +kernel) (by decide +kernel)
theorem ca_X9_get : sv_cal m_X9_get 3 := ⟨by decide +kernel, sv_mem 695 (by decide +kernel) (by decide +kernel), sv_mem 51 (by decide +kernel) (by decide +kernel), ⟨by decide +kernel, by decide +kernel⟩, by decide +kernel⟩
theorem im_X9_get : Cond.instanceMethod yX9_get ∈ sv_GT := sv_mem 693 (by decide +kernel) (by decide +kernel)
theorem se_X9_get : Cond.selects yX9_get.cls yX9_get yX9_get ∈ sv_GT := sv_mem 694 (by decide +kernel) (by decide +kernel)
theorem ca_X9_copy : sv_cal m_X9_copy 5 := ⟨by decide +kernel, sv_mem 700 (by decide +kernel) (by decide +kernel), sv_mem 51 (by decide +kernel) (by decide +kernel), ⟨by decide +kernel, by decide +kernel⟩, by decide +kernel⟩
theorem im_X9_copy : Cond.instanceMethod yX9_copy ∈ sv_GT := sv_mem 698 (by decide +kernel) (by decide +kernel)
theorem se_X9_copy : Cond.selects yX9_copy.cls yX9_copy yX9_copy ∈ sv_GT := sv_mem 699 (by decide +kernel) (by decide +kernel)
theorem ca_X9_count : sv_cal m_X9_count 1 := ⟨by decide +kernel, sv_mem 715 (by decide +kernel) (by decide +kernel), sv_mem 51 (by decide +kernel) (by decide +kernel), ⟨by decide +kernel, by decide +kernel⟩, by decide +kernel⟩
theorem im_X9_count : Cond.instanceMethod yX9_count ∈ sv_GT := sv_mem 713 (by decide +kernel) (by decide +kernel)
theorem se_X9_count : Cond.selects yX9_count.cls yX9_count yX9_count ∈ sv_GT := sv_mem 714 (by decide +kernel) (by decide +kernel)
theorem ca_X9_digest : sv_cal m_X9_digest 0 := ⟨by decide +kernel, sv_mem 719 (by decide +kernel) (by decide +kernel), sv_mem 51 (by decide +kernel) (by decide +kernel), ⟨by decide +kernel, by decide +kernel⟩, by decide +kernel⟩
theorem im_X9_digest : Cond.instanceMethod yX9_digest ∈ sv_GT := sv_mem 717 (by decide +kernel) (by decide +kernel)
theorem se_X9_digest : Cond.selects yX9_digest.cls yX9_digest yX9_digest ∈ sv_GT := sv_mem 718 (by decide +kernel) (by decide +kernel)
theorem ca_X9_within : sv_cal m_X9_within 3 := ⟨by decide +kernel, sv_mem 305 (by decide +kernel) (by decide +kernel), sv_mem 51 (by decide +kernel) (by decide +kernel), ⟨by decide +kernel, by decide +kernel⟩, by decide +kernel⟩
theorem st_X9_within : Cond.static yX9_within ∈ sv_GT := sv_mem 304 (by decide +kernel) (by decide +kernel)
theorem ca_X9_isRound : sv_cal m_X9_isRound 1 := ⟨by decide +kernel, sv_mem 341 (by decide +kernel) (by decide +kernel), sv_mem 51 (by decide +kernel) (by decide +kernel), ⟨by decide +kernel, by decide +kernel⟩, by decide +kernel⟩
theorem st_X9_isRound : Cond.static yX9_isRound ∈ sv_GT := sv_mem 340 (by decide +kernel) (by decide +kernel)
theorem ca_X9_isSheet : sv_cal m_X9_isSheet 1 := ⟨by decide +kernel, sv_mem 656 (by decide +kernel) (by decide +kernel), sv_mem 51 (by decide +kernel) (by decide +kernel), ⟨by decide +kernel, by decide +kernel⟩, by decide +kernel⟩
theorem st_X9_isSheet : Cond.static yX9_isSheet ∈ sv_GT := sv_mem 655 (by decide +kernel) (by decide +kernel)
theorem ca_X9_isForm : sv_cal m_X9_isForm 1 := ⟨by decide +kernel, sv_mem 659 (by decide +kernel) (by decide +kernel), sv_mem 51 (by decide +kernel) (by decide +kernel), ⟨by decide +kernel, by decide +kernel⟩, by decide +kernel⟩
theorem st_X9_isForm : Cond.static yX9_isForm ∈ sv_GT := sv_mem 658 (by decide +kernel) (by decide +kernel)
theorem ca_X9_inTable : sv_cal m_X9_inTable 1 := ⟨by decide +kernel, sv_mem 551 (by decide +kernel) (by decide +kernel), sv_mem 51 (by decide +kernel) (by decide +kernel), ⟨by decide +kernel, by decide +kernel⟩, by decide +kernel⟩
theorem st_X9_inTable : Cond.static yX9_inTable ∈ sv_GT := sv_mem 550 (by decide +kernel) (by decide +kernel)
theorem ca_X9_isNumber : sv_cal m_X9_isNumber 1 := ⟨by decide +kernel, sv_mem 629 (by decide +kernel) (by decide +kernel), sv_mem 51 (by decide +kernel) (by decide +kernel), ⟨by decide +kernel, by decide +kernel⟩, by decide +kernel⟩
theorem st_X9_isNumber : Cond.static yX9_isNumber ∈ sv_GT := sv_mem 628 (by decide +kernel) (by decide +kernel)
theorem ca_X9_isSkill : sv_cal m_X9_isSkill 1 := ⟨by decide +kernel, sv_mem 525 (by decide +kernel) (by decide +kernel), sv_mem 51 (by decide +kernel) (by decide +kernel), ⟨by decide +kernel, by decide +kernel⟩, by decide +kernel⟩
theorem im_X9_isSkill : Cond.instanceMethod yX9_isSkill ∈ sv_GT := sv_mem 524 (by decide +kernel) (by decide +kernel)
theorem se_X9_isSkill : Cond.selects yX9_isSkill.cls yX9_isSkill yX9_isSkill ∈ sv_GT := sv_mem 22 (by decide +kernel) (by decide +kernel)
theorem ca_X9_isPlayer : sv_cal m_X9_isPlayer 1 := ⟨by decide +kernel, sv_mem 334 (by decide +kernel) (by decide +kernel), sv_mem 51 (by decide +kernel) (by decide +kernel), ⟨by decide +kernel, by decide +kernel⟩, by decide +kernel⟩
theorem im_X9_isPlayer : Cond.instanceMethod yX9_isPlayer ∈ sv_GT := sv_mem 333 (by decide +kernel) (by decide +kernel)
theorem se_X9_isPlayer : Cond.selects yX9_isPlayer.cls yX9_isPlayer yX9_isPlayer ∈ sv_GT := sv_mem 1 (by decide +kernel) (by decide +kernel)
theorem ca_X9_isPlace : sv_cal m_X9_isPlace 1 := ⟨by decide +kernel, sv_mem 596 (by decide +kernel) (by decide +kernel), sv_mem 51 (by decide +kernel) (by decide +kernel), ⟨by decide +kernel, by decide +kernel⟩, by decide +kernel⟩
theorem im_X9_isPlace : Cond.instanceMethod yX9_isPlace ∈ sv_GT := sv_mem 595 (by decide +kernel) (by decide +kernel)
theorem se_X9_isPlace : Cond.selects yX9_isPlace.cls yX9_isPlace yX9_isPlace ∈ sv_GT := sv_mem 24 (by decide +kernel) (by decide +kernel)
theorem ca_X9_refusalOfRound : sv_cal m_X9_refusalOfRound 1 := ⟨by decide +kernel, sv_mem 413 (by decide +kernel) (by decide +kernel), sv_mem 51 (by decide +kernel) (by decide +kernel), ⟨by decide +kernel, by decide +kernel⟩, by decide +kernel⟩
theorem im_X9_refusalOfRound : Cond.instanceMethod yX9_refusalOfRound ∈ sv_GT := sv_mem 412 (by decide +kernel) (by decide +kernel)
theorem se_X9_refusalOfRound : Cond.selects yX9_refusalOfRound.cls yX9_refusalOfRound yX9_refusalOfRound ∈ sv_GT := sv_mem 9 (by decide +kernel) (by decide +kernel)
theorem ca_X10_in : sv_cal m_X10_in 3 := ⟨by decide +kernel, sv_mem 823 (by decide +kernel) (by decide +kernel), sv_mem 60 (by decide +kernel) (by decide +kernel), ⟨by decide +kernel, by decide +kernel⟩, by decide +kernel⟩
theorem st_X10_in : Cond.static yX10_in ∈ sv_GT := sv_mem 822 (by decide +kernel) (by decide +kernel)
theorem ca_X10_isPlayer : sv_cal m_X10_isPlayer 1 := ⟨by decide +kernel, sv_mem 844 (by decide +kernel) (by decide +kernel), sv_mem 60 (by decide +kernel) (by decide +kernel), ⟨by decide +kernel, by decide +kernel⟩, by decide +kernel⟩
theorem im_X10_isPlayer : Cond.instanceMethod yX10_isPlayer ∈ sv_GT := sv_mem 843 (by decide +kernel) (by decide +kernel)
theorem se_X10_isPlayer : Cond.selects yX10_isPlayer.cls yX10_isPlayer yX10_isPlayer ∈ sv_GT := sv_mem 26 (by decide +kernel) (by decide +kernel)
theorem ca_X10_player : sv_cal m_X10_player 1 := ⟨by decide +kernel, sv_mem 820 (by decide +kernel) (by decide +kernel), sv_mem 60 (by decide +kernel) (by decide +kernel), ⟨by decide +kernel, by decide +kernel⟩, by decide +kernel⟩
theorem im_X10_player : Cond.instanceMethod yX10_player ∈ sv_GT := sv_mem 818 (by decide +kernel) (by decide +kernel)
theorem se_X10_player : Cond.selects yX10_player.cls yX10_player yX10_player ∈ sv_GT := sv_mem 819 (by decide +kernel) (by decide +kernel)
theorem ca_X10_jurors : sv_cal m_X10_jurors 1 := ⟨by decide +kernel, sv_mem 827 (by decide +kernel) (by decide +kernel), sv_mem 60 (by decide +kernel) (by decide +kernel), ⟨by decide +kernel, by decide +kernel⟩, by decide +kernel⟩
theorem im_X10_jurors : Cond.instanceMethod yX10_jurors ∈ sv_GT := sv_mem 825 (by decide +kernel) (by decide +kernel)
theorem se_X10_jurors : Cond.selects yX10_jurors.cls yX10_jurors yX10_jurors ∈ sv_GT := sv_mem 826 (by decide +kernel) (by decide +kernel)
theorem ca_X10_draw : sv_cal m_X10_draw 1 := ⟨by decide +kernel, sv_mem 831 (by decide +kernel) (by decide +kernel), sv_mem 60 (by decide +kernel) (by decide +kernel), ⟨by decide +kernel, by decide +kernel⟩, by decide +kernel⟩
theorem im_X10_draw : Cond.instanceMethod yX10_draw ∈ sv_GT := sv_mem 829 (by decide +kernel) (by decide +kernel)
theorem se_X10_draw : Cond.selects yX10_draw.cls yX10_draw yX10_draw ∈ sv_GT := sv_mem 830 (by decide +kernel) (by decide +kernel)
theorem ca_X10_order : sv_cal m_X10_order 1 := ⟨by decide +kernel, sv_mem 836 (by decide +kernel) (by decide +kernel), sv_mem 60 (by decide +kernel) (by decide +kernel), ⟨by decide +kernel, by decide +kernel⟩, by decide +kernel⟩
theorem im_X10_order : Cond.instanceMethod yX10_order ∈ sv_GT := sv_mem 834 (by decide +kernel) (by decide +kernel)
theorem se_X10_order : Cond.selects yX10_order.cls yX10_order yX10_order ∈ sv_GT := sv_mem 835 (by decide +kernel) (by decide +kernel)
theorem ca_X10_vote : sv_cal m_X10_vote 3 := ⟨by decide +kernel, sv_mem 852 (by decide +kernel) (by decide +kernel), sv_mem 60 (by decide +kernel) (by decide +kernel), ⟨by decide +kernel, by decide +kernel⟩, by decide +kernel⟩
theorem im_X10_vote : Cond.instanceMethod yX10_vote ∈ sv_GT := sv_mem 851 (by decide +kernel) (by decide +kernel)
theorem se_X10_vote : Cond.selects yX10_vote.cls yX10_vote yX10_vote ∈ sv_GT := sv_mem 28 (by decide +kernel) (by decide +kernel)
theorem ca_X10_counted : sv_cal m_X10_counted 2 := ⟨by decide +kernel, sv_mem 848 (by decide +kernel) (by decide +kernel), sv_mem 60 (by decide +kernel) (by decide +kernel), ⟨by decide +kernel, by decide +kernel⟩, by decide +kernel⟩
theorem im_X10_counted : Cond.instanceMethod yX10_counted ∈ sv_GT := sv_mem 847 (by decide +kernel) (by decide +kernel)
theorem se_X10_counted : Cond.selects yX10_counted.cls yX10_counted yX10_counted ∈ sv_GT := sv_mem 27 (by decide +kernel) (by decide +kernel)
theorem ca_X10_yes : sv_cal m_X10_yes 2 := ⟨by decide +kernel, sv_mem 856 (by decide +kernel) (by decide +kernel), sv_mem 60 (by decide +kernel) (by decide +kernel), ⟨by decide +kernel, by decide +kernel⟩, by decide +kernel⟩
theorem im_X10_yes : Cond.instanceMethod yX10_yes ∈ sv_GT := sv_mem 855 (by decide +kernel) (by decide +kernel)
theorem se_X10_yes : Cond.selects yX10_yes.cls yX10_yes yX10_yes ∈ sv_GT := sv_mem 29 (by decide +kernel) (by decide +kernel)
theorem ca_X10_votes : sv_cal m_X10_votes 3 := ⟨by decide +kernel, sv_mem 840 (by decide +kernel) (by decide +kernel), sv_mem 60 (by decide +kernel) (by decide +kernel), ⟨by decide +kernel, by decide +kernel⟩, by decide +kernel⟩
theorem im_X10_votes : Cond.instanceMethod yX10_votes ∈ sv_GT := sv_mem 838 (by decide +kernel) (by decide +kernel)
theorem se_X10_votes : Cond.selects yX10_votes.cls yX10_votes yX10_votes ∈ sv_GT := sv_mem 839 (by decide +kernel) (by decide +kernel)
theorem ca_X10_type : sv_cal m_X10_type 1 := ⟨by decide +kernel, sv_mem 860 (by decide +kernel) (by decide +kernel), sv_mem 60 (by decide +kernel) (by decide +kernel), ⟨by decide +kernel, by decide +kernel⟩, by decide +kernel⟩
theorem im_X10_type : Cond.instanceMethod yX10_type ∈ sv_GT := sv_mem 858 (by decide +kernel) (by decide +kernel)
theorem se_X10_type : Cond.selects yX10_type.cls yX10_type yX10_type ∈ sv_GT := sv_mem 859 (by decide +kernel) (by decide +kernel)
theorem ca_X10_repeal : sv_cal m_X10_repeal 0 := ⟨by decide +kernel, sv_mem 864 (by decide +kernel) (by decide +kernel), sv_mem 60 (by decide +kernel) (by decide +kernel), ⟨by decide +kernel, by decide +kernel⟩, by decide +kernel⟩
theorem im_X10_repeal : Cond.instanceMethod yX10_repeal ∈ sv_GT := sv_mem 862 (by decide +kernel) (by decide +kernel)
theorem se_X10_repeal : Cond.selects yX10_repeal.cls yX10_repeal yX10_repeal ∈ sv_GT := sv_mem 863 (by decide +kernel) (by decide +kernel)
theorem ca_X10_byteAt : sv_cal m_X10_byteAt 1 := ⟨by decide +kernel, sv_mem 880 (by decide +kernel) (by decide +kernel), sv_mem 60 (by decide +kernel) (by decide +kernel), ⟨by decide +kernel, by decide +kernel⟩, by decide +kernel⟩
theorem im_X10_byteAt : Cond.instanceMethod yX10_byteAt ∈ sv_GT := sv_mem 879 (by decide +kernel) (by decide +kernel)
theorem se_X10_byteAt : Cond.selects yX10_byteAt.cls yX10_byteAt yX10_byteAt ∈ sv_GT := sv_mem 32 (by decide +kernel) (by decide +kernel)
theorem ca_X10_expect : sv_cal m_X10_expect 1 := ⟨by decide +kernel, sv_mem 876 (by decide +kernel) (by decide +kernel), sv_mem 60 (by decide +kernel) (by decide +kernel), ⟨by decide +kernel, by decide +kernel⟩, by decide +kernel⟩
theorem im_X10_expect : Cond.instanceMethod yX10_expect ∈ sv_GT := sv_mem 875 (by decide +kernel) (by decide +kernel)
theorem se_X10_expect : Cond.selects yX10_expect.cls yX10_expect yX10_expect ∈ sv_GT := sv_mem 31 (by decide +kernel) (by decide +kernel)
theorem ca_X10_number : sv_cal m_X10_number 1 := ⟨by decide +kernel, sv_mem 884 (by decide +kernel) (by decide +kernel), sv_mem 60 (by decide +kernel) (by decide +kernel), ⟨by decide +kernel, by decide +kernel⟩, by decide +kernel⟩
theorem im_X10_number : Cond.instanceMethod yX10_number ∈ sv_GT := sv_mem 883 (by decide +kernel) (by decide +kernel)
theorem se_X10_number : Cond.selects yX10_number.cls yX10_number yX10_number ∈ sv_GT := sv_mem 33 (by decide +kernel) (by decide +kernel)
theorem ca_X10_read : sv_cal m_X10_read 0 := ⟨by decide +kernel, sv_mem 872 (by decide +kernel) (by decide +kernel), sv_mem 60 (by decide +kernel) (by decide +kernel), ⟨by decide +kernel, by decide +kernel⟩, by decide +kernel⟩
theorem im_X10_read : Cond.instanceMethod yX10_read ∈ sv_GT := sv_mem 871 (by decide +kernel) (by decide +kernel)
theorem se_X10_read : Cond.selects yX10_read.cls yX10_read yX10_read ∈ sv_GT := sv_mem 30 (by decide +kernel) (by decide +kernel)
theorem ca_X10_fault : sv_cal m_X10_fault 0 := ⟨by decide +kernel, sv_mem 868 (by decide +kernel) (by decide +kernel), sv_mem 60 (by decide +kernel) (by decide +kernel), ⟨by decide +kernel, by decide +kernel⟩, by decide +kernel⟩
theorem im_X10_fault : Cond.instanceMethod yX10_fault ∈ sv_GT := sv_mem 866 (by decide +kernel) (by decide +kernel)
theorem se_X10_fault : Cond.selects yX10_fault.cls yX10_fault yX10_fault ∈ sv_GT := sv_mem 867 (by decide +kernel) (by decide +kernel)
theorem ca_X10_refuses : sv_cal m_X10_refuses 1 := ⟨by decide +kernel, sv_mem 892 (by decide +kernel) (by decide +kernel), sv_mem 60 (by decide +kernel) (by decide +kernel), ⟨by decide +kernel, by decide +kernel⟩, by decide +kernel⟩
theorem im_X10_refuses : Cond.instanceMethod yX10_refuses ∈ sv_GT := sv_mem 891 (by decide +kernel) (by decide +kernel)
theorem se_X10_refuses : Cond.selects yX10_refuses.cls yX10_refuses yX10_refuses ∈ sv_GT := sv_mem 34 (by decide +kernel) (by decide +kernel)
theorem ca_X10_law : sv_cal m_X10_law 2 := ⟨by decide +kernel, sv_mem 888 (by decide +kernel) (by decide +kernel), sv_mem 60 (by decide +kernel) (by decide +kernel), ⟨by decide +kernel, by decide +kernel⟩, by decide +kernel⟩
theorem im_X10_law : Cond.instanceMethod yX10_law ∈ sv_GT := sv_mem 886 (by decide +kernel) (by decide +kernel)
theorem se_X10_law : Cond.selects yX10_law.cls yX10_law yX10_law ∈ sv_GT := sv_mem 887 (by decide +kernel) (by decide +kernel)
theorem ca_X10_dearer : sv_cal m_X10_dearer 3 := ⟨by decide +kernel, sv_mem 912 (by decide +kernel) (by decide +kernel), sv_mem 60 (by decide +kernel) (by decide +kernel), ⟨by decide +kernel, by decide +kernel⟩, by decide +kernel⟩
theorem im_X10_dearer : Cond.instanceMethod yX10_dearer ∈ sv_GT := sv_mem 911 (by decide +kernel) (by decide +kernel)
theorem se_X10_dearer : Cond.selects yX10_dearer.cls yX10_dearer yX10_dearer ∈ sv_GT := sv_mem 38 (by decide +kernel) (by decide +kernel)
theorem ca_X10_yesSoFar : sv_cal m_X10_yesSoFar 2 := ⟨by decide +kernel, sv_mem 920 (by decide +kernel) (by decide +kernel), sv_mem 60 (by decide +kernel) (by decide +kernel), ⟨by decide +kernel, by decide +kernel⟩, by decide +kernel⟩
theorem im_X10_yesSoFar : Cond.instanceMethod yX10_yesSoFar ∈ sv_GT := sv_mem 919 (by decide +kernel) (by decide +kernel)
theorem se_X10_yesSoFar : Cond.selects yX10_yesSoFar.cls yX10_yesSoFar yX10_yesSoFar ∈ sv_GT := sv_mem 40 (by decide +kernel) (by decide +kernel)
theorem ca_X10_placeOf : sv_cal m_X10_placeOf 1 := ⟨by decide +kernel, sv_mem 924 (by decide +kernel) (by decide +kernel), sv_mem 60 (by decide +kernel) (by decide +kernel), ⟨by decide +kernel, by decide +kernel⟩, by decide +kernel⟩
theorem im_X10_placeOf : Cond.instanceMethod yX10_placeOf ∈ sv_GT := sv_mem 923 (by decide +kernel) (by decide +kernel)
theorem se_X10_placeOf : Cond.selects yX10_placeOf.cls yX10_placeOf yX10_placeOf ∈ sv_GT := sv_mem 41 (by decide +kernel) (by decide +kernel)
theorem ca_X10_isAhead : sv_cal m_X10_isAhead 3 := ⟨by decide +kernel, sv_mem 916 (by decide +kernel) (by decide +kernel), sv_mem 60 (by decide +kernel) (by decide +kernel), ⟨by decide +kernel, by decide +kernel⟩, by decide +kernel⟩
theorem im_X10_isAhead : Cond.instanceMethod yX10_isAhead ∈ sv_GT := sv_mem 915 (by decide +kernel) (by decide +kernel)
theorem se_X10_isAhead : Cond.selects yX10_isAhead.cls yX10_isAhead yX10_isAhead ∈ sv_GT := sv_mem 39 (by decide +kernel) (by decide +kernel)
theorem ca_X10_passesIn : sv_cal m_X10_passesIn 2 := ⟨by decide +kernel, sv_mem 908 (by decide +kernel) (by decide +kernel), sv_mem 60 (by decide +kernel) (by decide +kernel), ⟨by decide +kernel, by decide +kernel⟩, by decide +kernel⟩
theorem im_X10_passesIn : Cond.instanceMethod yX10_passesIn ∈ sv_GT := sv_mem 907 (by decide +kernel) (by decide +kernel)
theorem se_X10_passesIn : Cond.selects yX10_passesIn.cls yX10_passesIn yX10_passesIn ∈ sv_GT := sv_mem 37 (by decide +kernel) (by decide +kernel)
theorem ca_X10_advances : sv_cal m_X10_advances 2 := ⟨by decide +kernel, sv_mem 904 (by decide +kernel) (by decide +kernel), sv_mem 60 (by decide +kernel) (by decide +kernel), ⟨by decide +kernel, by decide +kernel⟩, by decide +kernel⟩
theorem im_X10_advances : Cond.instanceMethod yX10_advances ∈ sv_GT := sv_mem 903 (by decide +kernel) (by decide +kernel)
theorem se_X10_advances : Cond.selects yX10_advances.cls yX10_advances yX10_advances ∈ sv_GT := sv_mem 36 (by decide +kernel) (by decide +kernel)
theorem ca_X10_out : sv_cal m_X10_out 1 := ⟨by decide +kernel, sv_mem 900 (by decide +kernel) (by decide +kernel), sv_mem 60 (by decide +kernel) (by decide +kernel), ⟨by decide +kernel, by decide +kernel⟩, by decide +kernel⟩
theorem im_X10_out : Cond.instanceMethod yX10_out ∈ sv_GT := sv_mem 899 (by decide +kernel) (by decide +kernel)
theorem se_X10_out : Cond.selects yX10_out.cls yX10_out yX10_out ∈ sv_GT := sv_mem 35 (by decide +kernel) (by decide +kernel)
theorem ca_X10_ones : sv_cal m_X10_ones 1 := ⟨by decide +kernel, sv_mem 927 (by decide +kernel) (by decide +kernel), sv_mem 60 (by decide +kernel) (by decide +kernel), ⟨by decide +kernel, by decide +kernel⟩, by decide +kernel⟩
theorem st_X10_ones : Cond.static yX10_ones ∈ sv_GT := sv_mem 926 (by decide +kernel) (by decide +kernel)
theorem ca_X10_advance : sv_cal m_X10_advance 1 := ⟨by decide +kernel, sv_mem 896 (by decide +kernel) (by decide +kernel), sv_mem 60 (by decide +kernel) (by decide +kernel), ⟨by decide +kernel, by decide +kernel⟩, by decide +kernel⟩
theorem im_X10_advance : Cond.instanceMethod yX10_advance ∈ sv_GT := sv_mem 894 (by decide +kernel) (by decide +kernel)
theorem se_X10_advance : Cond.selects yX10_advance.cls yX10_advance yX10_advance ∈ sv_GT := sv_mem 895 (by decide +kernel) (by decide +kernel)
theorem ca_X10_through : sv_cal m_X10_through 1 := ⟨by decide +kernel, sv_mem 931 (by decide +kernel) (by decide +kernel), sv_mem 60 (by decide +kernel) (by decide +kernel), ⟨by decide +kernel, by decide +kernel⟩, by decide +kernel⟩
theorem im_X10_through : Cond.instanceMethod yX10_through ∈ sv_GT := sv_mem 929 (by decide +kernel) (by decide +kernel)
theorem se_X10_through : Cond.selects yX10_through.cls yX10_through yX10_through ∈ sv_GT := sv_mem 930 (by decide +kernel) (by decide +kernel)
theorem ca_X10_chosenOne : sv_cal m_X10_chosenOne 0 := ⟨by decide +kernel, sv_mem 939 (by decide +kernel) (by decide +kernel), sv_mem 60 (by decide +kernel) (by decide +kernel), ⟨by decide +kernel, by decide +kernel⟩, by decide +kernel⟩
theorem im_X10_chosenOne : Cond.instanceMethod yX10_chosenOne ∈ sv_GT := sv_mem 938 (by decide +kernel) (by decide +kernel)
theorem se_X10_chosenOne : Cond.selects yX10_chosenOne.cls yX10_chosenOne yX10_chosenOne ∈ sv_GT := sv_mem 42 (by decide +kernel) (by decide +kernel)
theorem ca_X10_chosen : sv_cal m_X10_chosen 0 := ⟨by decide +kernel, sv_mem 935 (by decide +kernel) (by decide +kernel), sv_mem 60 (by decide +kernel) (by decide +kernel), ⟨by decide +kernel, by decide +kernel⟩, by decide +kernel⟩
theorem im_X10_chosen : Cond.instanceMethod yX10_chosen ∈ sv_GT := sv_mem 933 (by decide +kernel) (by decide +kernel)
theorem se_X10_chosen : Cond.selects yX10_chosen.cls yX10_chosen yX10_chosen ∈ sv_GT := sv_mem 934 (by decide +kernel) (by decide +kernel)
theorem ca_X10_allVotes : sv_cal m_X10_allVotes 2 := ⟨by decide +kernel, sv_mem 955 (by decide +kernel) (by decide +kernel), sv_mem 60 (by decide +kernel) (by decide +kernel), ⟨by decide +kernel, by decide +kernel⟩, by decide +kernel⟩
theorem im_X10_allVotes : Cond.instanceMethod yX10_allVotes ∈ sv_GT := sv_mem 954 (by decide +kernel) (by decide +kernel)
theorem se_X10_allVotes : Cond.selects yX10_allVotes.cls yX10_allVotes yX10_allVotes ∈ sv_GT := sv_mem 45 (by decide +kernel) (by decide +kernel)
theorem ca_X10_parts : sv_cal m_X10_parts 2 := ⟨by decide +kernel, sv_mem 951 (by decide +kernel) (by decide +kernel), sv_mem 60 (by decide +kernel) (by decide +kernel), ⟨by decide +kernel, by decide +kernel⟩, by decide +kernel⟩
theorem im_X10_parts : Cond.instanceMethod yX10_parts ∈ sv_GT := sv_mem 950 (by decide +kernel) (by decide +kernel)
theorem se_X10_parts : Cond.selects yX10_parts.cls yX10_parts yX10_parts ∈ sv_GT := sv_mem 44 (by decide +kernel) (by decide +kernel)
theorem ca_X10_beatsAll : sv_cal m_X10_beatsAll 1 := ⟨by decide +kernel, sv_mem 947 (by decide +kernel) (by decide +kernel), sv_mem 60 (by decide +kernel) (by decide +kernel), ⟨by decide +kernel, by decide +kernel⟩, by decide +kernel⟩
theorem im_X10_beatsAll : Cond.instanceMethod yX10_beatsAll ∈ sv_GT := sv_mem 946 (by decide +kernel) (by decide +kernel)
theorem se_X10_beatsAll : Cond.selects yX10_beatsAll.cls yX10_beatsAll yX10_beatsAll ∈ sv_GT := sv_mem 43 (by decide +kernel) (by decide +kernel)
theorem ca_X10_other : sv_cal m_X10_other 1 := ⟨by decide +kernel, sv_mem 943 (by decide +kernel) (by decide +kernel), sv_mem 60 (by decide +kernel) (by decide +kernel), ⟨by decide +kernel, by decide +kernel⟩, by decide +kernel⟩
theorem im_X10_other : Cond.instanceMethod yX10_other ∈ sv_GT := sv_mem 941 (by decide +kernel) (by decide +kernel)
theorem se_X10_other : Cond.selects yX10_other.cls yX10_other yX10_other ∈ sv_GT := sv_mem 942 (by decide +kernel) (by decide +kernel)
theorem ca_X10_chance : sv_cal m_X10_chance 2 := ⟨by decide +kernel, sv_mem 959 (by decide +kernel) (by decide +kernel), sv_mem 60 (by decide +kernel) (by decide +kernel), ⟨by decide +kernel, by decide +kernel⟩, by decide +kernel⟩
theorem im_X10_chance : Cond.instanceMethod yX10_chance ∈ sv_GT := sv_mem 957 (by decide +kernel) (by decide +kernel)
theorem se_X10_chance : Cond.selects yX10_chance.cls yX10_chance yX10_chance ∈ sv_GT := sv_mem 958 (by decide +kernel) (by decide +kernel)
theorem ca_X10_choose : sv_cal m_X10_choose 2 := ⟨by decide +kernel, sv_mem 970 (by decide +kernel) (by decide +kernel), sv_mem 60 (by decide +kernel) (by decide +kernel), ⟨by decide +kernel, by decide +kernel⟩, by decide +kernel⟩
theorem st_X10_choose : Cond.static yX10_choose ∈ sv_GT := sv_mem 969 (by decide +kernel) (by decide +kernel)
theorem ca_X10_toThe : sv_cal m_X10_toThe 2 := ⟨by decide +kernel, sv_mem 973 (by decide +kernel) (by decide +kernel), sv_mem 60 (by decide +kernel) (by decide +kernel), ⟨by decide +kernel, by decide +kernel⟩, by decide +kernel⟩
theorem st_X10_toThe : Cond.static yX10_toThe ∈ sv_GT := sv_mem 972 (by decide +kernel) (by decide +kernel)
theorem ca_X10_comes : sv_cal m_X10_comes 2 := ⟨by decide +kernel, sv_mem 967 (by decide +kernel) (by decide +kernel), sv_mem 60 (by decide +kernel) (by decide +kernel), ⟨by decide +kernel, by decide +kernel⟩, by decide +kernel⟩
theorem im_X10_comes : Cond.instanceMethod yX10_comes ∈ sv_GT := sv_mem 966 (by decide +kernel) (by decide +kernel)
theorem se_X10_comes : Cond.selects yX10_comes.cls yX10_comes yX10_comes ∈ sv_GT := sv_mem 46 (by decide +kernel) (by decide +kernel)
theorem ca_X10_passes : sv_cal m_X10_passes 2 := ⟨by decide +kernel, sv_mem 963 (by decide +kernel) (by decide +kernel), sv_mem 60 (by decide +kernel) (by decide +kernel), ⟨by decide +kernel, by decide +kernel⟩, by decide +kernel⟩
theorem im_X10_passes : Cond.instanceMethod yX10_passes ∈ sv_GT := sv_mem 961 (by decide +kernel) (by decide +kernel)
theorem se_X10_passes : Cond.selects yX10_passes.cls yX10_passes yX10_passes ∈ sv_GT := sv_mem 962 (by decide +kernel) (by decide +kernel)
theorem ca_X10_all : sv_cal m_X10_all 1 := ⟨by decide +kernel, sv_mem 978 (by decide +kernel) (by decide +kernel), sv_mem 60 (by decide +kernel) (by decide +kernel), ⟨by decide +kernel, by decide +kernel⟩, by decide +kernel⟩
theorem im_X10_all : Cond.instanceMethod yX10_all ∈ sv_GT := sv_mem 976 (by decide +kernel) (by decide +kernel)
theorem se_X10_all : Cond.selects yX10_all.cls yX10_all yX10_all ∈ sv_GT := sv_mem 977 (by decide +kernel) (by decide +kernel)
theorem ca_X10_falseShare : sv_cal m_X10_falseShare 4 := ⟨by decide +kernel, sv_mem 986 (by decide +kernel) (by decide +kernel), sv_mem 60 (by decide +kernel) (by decide +kernel), ⟨by decide +kernel, by decide +kernel⟩, by decide +kernel⟩
theorem st_X10_falseShare : Cond.static yX10_falseShare ∈ sv_GT := sv_mem 985 (by decide +kernel) (by decide +kernel)
theorem ca_X10_doubt : sv_cal m_X10_doubt 4 := ⟨by decide +kernel, sv_mem 983 (by decide +kernel) (by decide +kernel), sv_mem 60 (by decide +kernel) (by decide +kernel), ⟨by decide +kernel, by decide +kernel⟩, by decide +kernel⟩
theorem im_X10_doubt : Cond.instanceMethod yX10_doubt ∈ sv_GT := sv_mem 981 (by decide +kernel) (by decide +kernel)
theorem se_X10_doubt : Cond.selects yX10_doubt.cls yX10_doubt yX10_doubt ∈ sv_GT := sv_mem 982 (by decide +kernel) (by decide +kernel)
theorem ca_X10_morning : sv_cal m_X10_morning 2 := ⟨by decide +kernel, sv_mem 991 (by decide +kernel) (by decide +kernel), sv_mem 60 (by decide +kernel) (by decide +kernel), ⟨by decide +kernel, by decide +kernel⟩, by decide +kernel⟩
theorem im_X10_morning : Cond.instanceMethod yX10_morning ∈ sv_GT := sv_mem 989 (by decide +kernel) (by decide +kernel)
theorem se_X10_morning : Cond.selects yX10_morning.cls yX10_morning yX10_morning ∈ sv_GT := sv_mem 990 (by decide +kernel) (by decide +kernel)
theorem ca_X10_trial : sv_cal m_X10_trial 1 := ⟨by decide +kernel, sv_mem 995 (by decide +kernel) (by decide +kernel), sv_mem 60 (by decide +kernel) (by decide +kernel), ⟨by decide +kernel, by decide +kernel⟩, by decide +kernel⟩
theorem im_X10_trial : Cond.instanceMethod yX10_trial ∈ sv_GT := sv_mem 993 (by decide +kernel) (by decide +kernel)
theorem se_X10_trial : Cond.selects yX10_trial.cls yX10_trial yX10_trial ∈ sv_GT := sv_mem 994 (by decide +kernel) (by decide +kernel)
theorem ca_X10_week : sv_cal m_X10_week 2 := ⟨by decide +kernel, sv_mem 999 (by decide +kernel) (by decide +kernel), sv_mem 60 (by decide +kernel) (by decide +kernel), ⟨by decide +kernel, by decide +kernel⟩, by decide +kernel⟩
theorem im_X10_week : Cond.instanceMethod yX10_week ∈ sv_GT := sv_mem 997 (by decide +kernel) (by decide +kernel)
theorem se_X10_week : Cond.selects yX10_week.cls yX10_week yX10_week ∈ sv_GT := sv_mem 998 (by decide +kernel) (by decide +kernel)
theorem ca_X10_betterOf : sv_cal m_X10_betterOf 2 := ⟨by decide +kernel, sv_mem 1007 (by decide +kernel) (by decide +kernel), sv_mem 60 (by decide +kernel) (by decide +kernel), ⟨by decide +kernel, by decide +kernel⟩, by decide +kernel⟩
theorem im_X10_betterOf : Cond.instanceMethod yX10_betterOf ∈ sv_GT := sv_mem 1006 (by decide +kernel) (by decide +kernel)
theorem se_X10_betterOf : Cond.selects yX10_betterOf.cls yX10_betterOf yX10_betterOf ∈ sv_GT := sv_mem 47 (by decide +kernel) (by decide +kernel)
theorem ca_X10_better : sv_cal m_X10_better 2 := ⟨by decide +kernel, sv_mem 1003 (by decide +kernel) (by decide +kernel), sv_mem 60 (by decide +kernel) (by decide +kernel), ⟨by decide +kernel, by decide +kernel⟩, by decide +kernel⟩
theorem im_X10_better : Cond.instanceMethod yX10_better ∈ sv_GT := sv_mem 1001 (by decide +kernel) (by decide +kernel)
theorem se_X10_better : Cond.selects yX10_better.cls yX10_better yX10_better ∈ sv_GT := sv_mem 1002 (by decide +kernel) (by decide +kernel)
theorem ca_X10_seat : sv_cal m_X10_seat 0 := ⟨by decide +kernel, sv_mem 1011 (by decide +kernel) (by decide +kernel), sv_mem 60 (by decide +kernel) (by decide +kernel), ⟨by decide +kernel, by decide +kernel⟩, by decide +kernel⟩
theorem im_X10_seat : Cond.instanceMethod yX10_seat ∈ sv_GT := sv_mem 1009 (by decide +kernel) (by decide +kernel)
theorem se_X10_seat : Cond.selects yX10_seat.cls yX10_seat yX10_seat ∈ sv_GT := sv_mem 1010 (by decide +kernel) (by decide +kernel)
theorem ca_X10_hear : sv_cal m_X10_hear 3 := ⟨by decide +kernel, sv_mem 1015 (by decide +kernel) (by decide +kernel), sv_mem 60 (by decide +kernel) (by decide +kernel), ⟨by decide +kernel, by decide +kernel⟩, by decide +kernel⟩
theorem im_X10_hear : Cond.instanceMethod yX10_hear ∈ sv_GT := sv_mem 1013 (by decide +kernel) (by decide +kernel)
theorem se_X10_hear : Cond.selects yX10_hear.cls yX10_hear yX10_hear ∈ sv_GT := sv_mem 1014 (by decide +kernel) (by decide +kernel)
theorem ca_X10_known : sv_cal m_X10_known 2 := ⟨by decide +kernel, sv_mem 1020 (by decide +kernel) (by decide +kernel), sv_mem 60 (by decide +kernel) (by decide +kernel), ⟨by decide +kernel, by decide +kernel⟩, by decide +kernel⟩
theorem im_X10_known : Cond.instanceMethod yX10_known ∈ sv_GT := sv_mem 1018 (by decide +kernel) (by decide +kernel)
theorem se_X10_known : Cond.selects yX10_known.cls yX10_known yX10_known ∈ sv_GT := sv_mem 1019 (by decide +kernel) (by decide +kernel)
theorem ca_X10_meets : sv_cal m_X10_meets 1 := ⟨by decide +kernel, sv_mem 1031 (by decide +kernel) (by decide +kernel), sv_mem 60 (by decide +kernel) (by decide +kernel), ⟨by decide +kernel, by decide +kernel⟩, by decide +kernel⟩
theorem im_X10_meets : Cond.instanceMethod yX10_meets ∈ sv_GT := sv_mem 1030 (by decide +kernel) (by decide +kernel)
theorem se_X10_meets : Cond.selects yX10_meets.cls yX10_meets yX10_meets ∈ sv_GT := sv_mem 48 (by decide +kernel) (by decide +kernel)
theorem ca_X10_isSheet : sv_cal m_X10_isSheet 1 := ⟨by decide +kernel, sv_mem 1027 (by decide +kernel) (by decide +kernel), sv_mem 60 (by decide +kernel) (by decide +kernel), ⟨by decide +kernel, by decide +kernel⟩, by decide +kernel⟩
theorem st_X10_isSheet : Cond.static yX10_isSheet ∈ sv_GT := sv_mem 1026 (by decide +kernel) (by decide +kernel)
theorem ca_X10_sheet : sv_cal m_X10_sheet 3 := ⟨by decide +kernel, sv_mem 1024 (by decide +kernel) (by decide +kernel), sv_mem 60 (by decide +kernel) (by decide +kernel), ⟨by decide +kernel, by decide +kernel⟩, by decide +kernel⟩
theorem im_X10_sheet : Cond.instanceMethod yX10_sheet ∈ sv_GT := sv_mem 1022 (by decide +kernel) (by decide +kernel)
theorem se_X10_sheet : Cond.selects yX10_sheet.cls yX10_sheet yX10_sheet ∈ sv_GT := sv_mem 1023 (by decide +kernel) (by decide +kernel)
theorem ca_X10_lose : sv_cal m_X10_lose 1 := ⟨by decide +kernel, sv_mem 1035 (by decide +kernel) (by decide +kernel), sv_mem 60 (by decide +kernel) (by decide +kernel), ⟨by decide +kernel, by decide +kernel⟩, by decide +kernel⟩
theorem im_X10_lose : Cond.instanceMethod yX10_lose ∈ sv_GT := sv_mem 1033 (by decide +kernel) (by decide +kernel)
theorem se_X10_lose : Cond.selects yX10_lose.cls yX10_lose yX10_lose ∈ sv_GT := sv_mem 1034 (by decide +kernel) (by decide +kernel)
theorem ca_X10_lacks : sv_cal m_X10_lacks 3 := ⟨by decide +kernel, sv_mem 1043 (by decide +kernel) (by decide +kernel), sv_mem 60 (by decide +kernel) (by decide +kernel), ⟨by decide +kernel, by decide +kernel⟩, by decide +kernel⟩
theorem im_X10_lacks : Cond.instanceMethod yX10_lacks ∈ sv_GT := sv_mem 1042 (by decide +kernel) (by decide +kernel)
theorem se_X10_lacks : Cond.selects yX10_lacks.cls yX10_lacks yX10_lacks ∈ sv_GT := sv_mem 49 (by decide +kernel) (by decide +kernel)
theorem ca_X10_put : sv_cal m_X10_put 4 := ⟨by decide +kernel, sv_mem 1039 (by decide +kernel) (by decide +kernel), sv_mem 60 (by decide +kernel) (by decide +kernel), ⟨by decide +kernel, by decide +kernel⟩, by decide +kernel⟩
theorem im_X10_put : Cond.instanceMethod yX10_put ∈ sv_GT := sv_mem 1037 (by decide +kernel) (by decide +kernel)
theorem se_X10_put : Cond.selects yX10_put.cls yX10_put yX10_put ∈ sv_GT := sv_mem 1038 (by decide +kernel) (by decide +kernel)
theorem ca_X10_get : sv_cal m_X10_get 3 := ⟨by decide +kernel, sv_mem 1047 (by decide +kernel) (by decide +kernel), sv_mem 60 (by decide +kernel) (by decide +kernel), ⟨by decide +kernel, by decide +kernel⟩, by decide +kernel⟩
theorem im_X10_get : Cond.instanceMethod yX10_get ∈ sv_GT := sv_mem 1045 (by decide +kernel) (by decide +kernel)
theorem se_X10_get : Cond.selects yX10_get.cls yX10_get yX10_get ∈ sv_GT := sv_mem 1046 (by decide +kernel) (by decide +kernel)
theorem ca_X10_copy : sv_cal m_X10_copy 5 := ⟨by decide +kernel, sv_mem 1052 (by decide +kernel) (by decide +kernel), sv_mem 60 (by decide +kernel) (by decide +kernel), ⟨by decide +kernel, by decide +kernel⟩, by decide +kernel⟩
theorem im_X10_copy : Cond.instanceMethod yX10_copy ∈ sv_GT := sv_mem 1050 (by decide +kernel) (by decide +kernel)
theorem se_X10_copy : Cond.selects yX10_copy.cls yX10_copy yX10_copy ∈ sv_GT := sv_mem 1051 (by decide +kernel) (by decide +kernel)
theorem ca_X10_count : sv_cal m_X10_count 1 := ⟨by decide +kernel, sv_mem 1056 (by decide +kernel) (by decide +kernel), sv_mem 60 (by decide +kernel) (by decide +kernel), ⟨by decide +kernel, by decide +kernel⟩, by decide +kernel⟩
theorem im_X10_count : Cond.instanceMethod yX10_count ∈ sv_GT := sv_mem 1054 (by decide +kernel) (by decide +kernel)
theorem se_X10_count : Cond.selects yX10_count.cls yX10_count yX10_count ∈ sv_GT := sv_mem 1055 (by decide +kernel) (by decide +kernel)
theorem ca_X10_digest : sv_cal m_X10_digest 0 := ⟨by decide +kernel, sv_mem 1060 (by decide +kernel) (by decide +kernel), sv_mem 60 (by decide +kernel) (by decide +kernel), ⟨by decide +kernel, by decide +kernel⟩, by decide +kernel⟩
theorem im_X10_digest : Cond.instanceMethod yX10_digest ∈ sv_GT := sv_mem 1058 (by decide +kernel) (by decide +kernel)
theorem se_X10_digest : Cond.selects yX10_digest.cls yX10_digest yX10_digest ∈ sv_GT := sv_mem 1059 (by decide +kernel) (by decide +kernel)
theorem ca_J6_compare_7cf53 : sv_cal m_J6_compare_7cf53 2 := ⟨by decide +kernel, sv_mem 453 (by decide +kernel) (by decide +kernel), sv_mem 61 (by decide +kernel) (by decide +kernel), ⟨by decide +kernel, by decide +kernel⟩, by decide +kernel⟩
theorem st_J6_compare_7cf53 : Cond.static yJ6_compare_7cf53 ∈ sv_GT := sv_mem 452 (by decide +kernel) (by decide +kernel)
theorem ca_J6_bitCount_0f7a4 : sv_cal m_J6_bitCount_0f7a4 1 := ⟨by decide +kernel, sv_mem 472 (by decide +kernel) (by decide +kernel), sv_mem 61 (by decide +kernel) (by decide +kernel), ⟨by decide +kernel, by decide +kernel⟩, by decide +kernel⟩
theorem st_J6_bitCount_0f7a4 : Cond.static yJ6_bitCount_0f7a4 ∈ sv_GT := sv_mem 471 (by decide +kernel) (by decide +kernel)
theorem ac_n : Cond.native arraycopyName ∈ sv_GT := sv_mem 711 (by decide +kernel) (by decide +kernel)
theorem ac_s : Cond.static arraycopyName ∈ sv_GT := sv_mem 710 (by decide +kernel) (by decide +kernel)
theorem ac_i : Cond.initialized "java/lang/System" ∈ sv_GT := sv_mem 64 (by decide +kernel) (by decide +kernel)
theorem mx_s : Cond.static Lib.Math.max.name ∈ sv_GT := sv_mem 648 (by decide +kernel) (by decide +kernel)
theorem mx_i : Cond.initialized "java/lang/Math" ∈ sv_GT := sv_mem 63 (by decide +kernel) (by decide +kernel)
theorem mx_c : Cond.code Lib.Math.max.name Lib.Math.max.code 2 (some .int) ∈ sv_GT := sv_mem 649 (by decide +kernel) (by decide +kernel)
end
section
theorem dX0_append_0 : decode cX0_append 0 = .ok (.aload_n 0, 1) := by decide +kernel
theorem dX0_append_1 : decode cX0_append 1 = .ok (.getfield 11, 3) := by decide +kernel
theorem dX0_append_4 : decode cX0_append 4 = .ok (.aload_n 0, 1) := by decide +kernel
theorem dX0_append_5 : decode cX0_append 5 = .ok (.getfield 24, 3) := by decide +kernel
theorem dX0_append_8 : decode cX0_append 8 = .ok (.iload_n 1, 1) := by decide +kernel
theorem dX0_append_9 : decode cX0_append 9 = .ok (.iastore, 1) := by decide +kernel
theorem dX0_append_10 : decode cX0_append 10 = .ok (.aload_n 0, 1) := by decide +kernel
theorem dX0_append_11 : decode cX0_append 11 = .ok (.dup, 1) := by decide +kernel
theorem dX0_append_12 : decode cX0_append 12 = .ok (.getfield 24, 3) := by decide +kernel
theorem dX0_append_15 : decode cX0_append 15 = .ok (.iconst 1, 1) := by decide +kernel
theorem dX0_append_16 : decode cX0_append 16 = .ok (.iadd, 1) := by decide +kernel
theorem dX0_append_17 : decode cX0_append 17 = .ok (.putfield 24, 3) := by decide +kernel
theorem dX0_append_20 : decode cX0_append 20 = .ok (.aload_n 0, 1) := by decide +kernel
theorem dX0_append_21 : decode cX0_append 21 = .ok (.invokevirtual 28, 3) := by decide +kernel
theorem dX0_append_24 : decode cX0_append 24 = .ok (.aload_n 0, 1) := by decide +kernel
theorem dX0_append_25 : decode cX0_append 25 = .ok (.getfield 24, 3) := by decide +kernel
theorem dX0_append_28 : decode cX0_append 28 = .ok (.ireturn, 1) := by decide +kernel
theorem dX0_clear_0 : decode cX0_clear 0 = .ok (.aload_n 0, 1) := by decide +kernel
theorem dX0_clear_1 : decode cX0_clear 1 = .ok (.getfield 24, 3) := by decide +kernel
theorem dX0_clear_4 : decode cX0_clear 4 = .ok (.istore_n 1, 1) := by decide +kernel
theorem dX0_clear_5 : decode cX0_clear 5 = .ok (.aload_n 0, 1) := by decide +kernel
theorem dX0_clear_6 : decode cX0_clear 6 = .ok (.iconst 0, 1) := by decide +kernel
theorem dX0_clear_7 : decode cX0_clear 7 = .ok (.putfield 24, 3) := by decide +kernel
theorem dX0_clear_10 : decode cX0_clear 10 = .ok (.aload_n 0, 1) := by decide +kernel
theorem dX0_clear_11 : decode cX0_clear 11 = .ok (.invokevirtual 28, 3) := by decide +kernel
theorem dX0_clear_14 : decode cX0_clear 14 = .ok (.iload_n 1, 1) := by decide +kernel
theorem dX0_clear_15 : decode cX0_clear 15 = .ok (.ireturn, 1) := by decide +kernel
theorem dX0_readText_0 : decode cX0_readText 0 = .ok (.aload_n 0, 1) := by decide +kernel
theorem dX0_readText_1 : decode cX0_readText 1 = .ok (.iconst 0, 1) := by decide +kernel
theorem dX0_readText_2 : decode cX0_readText 2 = .ok (.putfield 31, 3) := by decide +kernel
theorem dX0_readText_5 : decode cX0_readText 5 = .ok (.aload_n 0, 1) := by decide +kernel
theorem dX0_readText_6 : decode cX0_readText 6 = .ok (.iconst 0, 1) := by decide +kernel
theorem dX0_readText_7 : decode cX0_readText 7 = .ok (.putfield 34, 3) := by decide +kernel
theorem dX0_readText_10 : decode cX0_readText 10 = .ok (.aload_n 0, 1) := by decide +kernel
theorem dX0_readText_11 : decode cX0_readText 11 = .ok (.aload_n 0, 1) := by decide +kernel
theorem dX0_readText_12 : decode cX0_readText 12 = .ok (.invokevirtual 37, 3) := by decide +kernel
theorem dX0_readText_15 : decode cX0_readText 15 = .ok (.ifCond .eq 7, 3) := by decide +kernel
theorem dX0_readText_18 : decode cX0_readText 18 = .ok (.iconst (-1), 1) := by decide +kernel
theorem dX0_readText_19 : decode cX0_readText 19 = .ok (.goto 7, 3) := by decide +kernel
theorem dX0_readText_22 : decode cX0_readText 22 = .ok (.aload_n 0, 1) := by decide +kernel
theorem dX0_readText_23 : decode cX0_readText 23 = .ok (.getfield 34, 3) := by decide +kernel
theorem dX0_readText_26 : decode cX0_readText 26 = .ok (.putfield 41, 3) := by decide +kernel
theorem dX0_readText_29 : decode cX0_readText 29 = .ok (.return_, 1) := by decide +kernel
theorem dX0_readRounds_0 : decode cX0_readRounds 0 = .ok (.iconst 0, 1) := by decide +kernel
theorem dX0_readRounds_1 : decode cX0_readRounds 1 = .ok (.istore_n 1, 1) := by decide +kernel
theorem dX0_readRounds_2 : decode cX0_readRounds 2 = .ok (.iload_n 1, 1) := by decide +kernel
theorem dX0_readRounds_3 : decode cX0_readRounds 3 = .ok (.iconst 4, 1) := by decide +kernel
theorem dX0_readRounds_4 : decode cX0_readRounds 4 = .ok (.if_icmp .ge 55, 3) := by decide +kernel
theorem dX0_readRounds_7 : decode cX0_readRounds 7 = .ok (.aload_n 0, 1) := by decide +kernel
theorem dX0_readRounds_8 : decode cX0_readRounds 8 = .ok (.iload_n 1, 1) := by decide +kernel
theorem dX0_readRounds_9 : decode cX0_readRounds 9 = .ok (.invokevirtual 44, 3) := by decide +kernel
theorem dX0_readRounds_12 : decode cX0_readRounds 12 = .ok (.ifCond .ne 5, 3) := by decide +kernel
theorem dX0_readRounds_15 : decode cX0_readRounds 15 = .ok (.iconst 0, 1) := by decide +kernel
theorem dX0_readRounds_16 : decode cX0_readRounds 16 = .ok (.ireturn, 1) := by decide +kernel
theorem dX0_readRounds_17 : decode cX0_readRounds 17 = .ok (.aload_n 0, 1) := by decide +kernel
theorem dX0_readRounds_18 : decode cX0_readRounds 18 = .ok (.getfield 34, 3) := by decide +kernel
theorem dX0_readRounds_21 : decode cX0_readRounds 21 = .ok (.aload_n 0, 1) := by decide +kernel
theorem dX0_readRounds_22 : decode cX0_readRounds 22 = .ok (.getfield 24, 3) := by decide +kernel
theorem dX0_readRounds_25 : decode cX0_readRounds 25 = .ok (.if_icmp .ne 12, 3) := by decide +kernel
theorem dX0_readRounds_28 : decode cX0_readRounds 28 = .ok (.aload_n 0, 1) := by decide +kernel
theorem dX0_readRounds_29 : decode cX0_readRounds 29 = .ok (.iload_n 1, 1) := by decide +kernel
theorem dX0_readRounds_30 : decode cX0_readRounds 30 = .ok (.iconst 1, 1) := by decide +kernel
theorem dX0_readRounds_31 : decode cX0_readRounds 31 = .ok (.iadd, 1) := by decide +kernel
theorem dX0_readRounds_32 : decode cX0_readRounds 32 = .ok (.putfield 31, 3) := by decide +kernel
theorem dX0_readRounds_35 : decode cX0_readRounds 35 = .ok (.iconst 1, 1) := by decide +kernel
theorem dX0_readRounds_36 : decode cX0_readRounds 36 = .ok (.ireturn, 1) := by decide +kernel
theorem dX0_readRounds_37 : decode cX0_readRounds 37 = .ok (.iload_n 1, 1) := by decide +kernel
theorem dX0_readRounds_38 : decode cX0_readRounds 38 = .ok (.iconst 3, 1) := by decide +kernel
theorem dX0_readRounds_39 : decode cX0_readRounds 39 = .ok (.if_icmp .eq 12, 3) := by decide +kernel
theorem dX0_readRounds_42 : decode cX0_readRounds 42 = .ok (.aload_n 0, 1) := by decide +kernel
theorem dX0_readRounds_43 : decode cX0_readRounds 43 = .ok (.bipush 59, 2) := by decide +kernel
theorem dX0_readRounds_45 : decode cX0_readRounds 45 = .ok (.invokevirtual 48, 3) := by decide +kernel
theorem dX0_readRounds_48 : decode cX0_readRounds 48 = .ok (.ifCond .ne 5, 3) := by decide +kernel
theorem dX0_readRounds_51 : decode cX0_readRounds 51 = .ok (.iconst 0, 1) := by decide +kernel
theorem dX0_readRounds_52 : decode cX0_readRounds 52 = .ok (.ireturn, 1) := by decide +kernel
theorem dX0_readRounds_53 : decode cX0_readRounds 53 = .ok (.iinc 1 1, 3) := by decide +kernel
theorem dX0_readRounds_56 : decode cX0_readRounds 56 = .ok (.goto (-54), 3) := by decide +kernel
theorem dX0_readRounds_59 : decode cX0_readRounds 59 = .ok (.iconst 0, 1) := by decide +kernel
theorem dX0_readRounds_60 : decode cX0_readRounds 60 = .ok (.ireturn, 1) := by decide +kernel
theorem dX0_readRound_0 : decode cX0_readRound 0 = .ok (.aload_n 0, 1) := by decide +kernel
theorem dX0_readRound_1 : decode cX0_readRound 1 = .ok (.bipush 118, 2) := by decide +kernel
theorem dX0_readRound_3 : decode cX0_readRound 3 = .ok (.invokevirtual 48, 3) := by decide +kernel
theorem dX0_readRound_6 : decode cX0_readRound 6 = .ok (.ifCond .eq 12, 3) := by decide +kernel
theorem dX0_readRound_9 : decode cX0_readRound 9 = .ok (.aload_n 0, 1) := by decide +kernel
theorem dX0_readRound_10 : decode cX0_readRound 10 = .ok (.bipush 100, 2) := by decide +kernel
theorem dX0_readRound_12 : decode cX0_readRound 12 = .ok (.invokevirtual 51, 3) := by decide +kernel
theorem dX0_readRound_15 : decode cX0_readRound 15 = .ok (.ifCond .ne 5, 3) := by decide +kernel
theorem dX0_readRound_18 : decode cX0_readRound 18 = .ok (.iconst 0, 1) := by decide +kernel
theorem dX0_readRound_19 : decode cX0_readRound 19 = .ok (.ireturn, 1) := by decide +kernel
theorem dX0_readRound_20 : decode cX0_readRound 20 = .ok (.aload_n 0, 1) := by decide +kernel
theorem dX0_readRound_21 : decode cX0_readRound 21 = .ok (.getfield 15, 3) := by decide +kernel
theorem dX0_readRound_24 : decode cX0_readRound 24 = .ok (.iload_n 1, 1) := by decide +kernel
theorem dX0_readRound_25 : decode cX0_readRound 25 = .ok (.aload_n 0, 1) := by decide +kernel
theorem dX0_readRound_26 : decode cX0_readRound 26 = .ok (.getfield 54, 3) := by decide +kernel
theorem dX0_readRound_29 : decode cX0_readRound 29 = .ok (.iastore, 1) := by decide +kernel
theorem dX0_readRound_30 : decode cX0_readRound 30 = .ok (.aload_n 0, 1) := by decide +kernel
theorem dX0_readRound_31 : decode cX0_readRound 31 = .ok (.bipush 97, 2) := by decide +kernel
theorem dX0_readRound_33 : decode cX0_readRound 33 = .ok (.invokevirtual 48, 3) := by decide +kernel
theorem dX0_readRound_36 : decode cX0_readRound 36 = .ok (.ifCond .eq 12, 3) := by decide +kernel
theorem dX0_readRound_39 : decode cX0_readRound 39 = .ok (.aload_n 0, 1) := by decide +kernel
theorem dX0_readRound_40 : decode cX0_readRound 40 = .ok (.bipush 24, 2) := by decide +kernel
theorem dX0_readRound_42 : decode cX0_readRound 42 = .ok (.invokevirtual 51, 3) := by decide +kernel
theorem dX0_readRound_45 : decode cX0_readRound 45 = .ok (.ifCond .ne 5, 3) := by decide +kernel
theorem dX0_readRound_48 : decode cX0_readRound 48 = .ok (.iconst 0, 1) := by decide +kernel
theorem dX0_readRound_49 : decode cX0_readRound 49 = .ok (.ireturn, 1) := by decide +kernel
theorem dX0_readRound_50 : decode cX0_readRound 50 = .ok (.aload_n 0, 1) := by decide +kernel
theorem dX0_readRound_51 : decode cX0_readRound 51 = .ok (.getfield 18, 3) := by decide +kernel
theorem dX0_readRound_54 : decode cX0_readRound 54 = .ok (.iload_n 1, 1) := by decide +kernel
theorem dX0_readRound_55 : decode cX0_readRound 55 = .ok (.aload_n 0, 1) := by decide +kernel
theorem dX0_readRound_56 : decode cX0_readRound 56 = .ok (.getfield 54, 3) := by decide +kernel
theorem dX0_readRound_59 : decode cX0_readRound 59 = .ok (.iastore, 1) := by decide +kernel
theorem dX0_readRound_60 : decode cX0_readRound 60 = .ok (.aload_n 0, 1) := by decide +kernel
theorem dX0_readRound_61 : decode cX0_readRound 61 = .ok (.iload_n 1, 1) := by decide +kernel
theorem dX0_readRound_62 : decode cX0_readRound 62 = .ok (.invokevirtual 57, 3) := by decide +kernel
theorem dX0_readRound_65 : decode cX0_readRound 65 = .ok (.ireturn, 1) := by decide +kernel
theorem dX0_readByte_0 : decode cX0_readByte 0 = .ok (.aload_n 0, 1) := by decide +kernel
theorem dX0_readByte_1 : decode cX0_readByte 1 = .ok (.getfield 34, 3) := by decide +kernel
theorem dX0_readByte_4 : decode cX0_readByte 4 = .ok (.aload_n 0, 1) := by decide +kernel
theorem dX0_readByte_5 : decode cX0_readByte 5 = .ok (.getfield 24, 3) := by decide +kernel
theorem dX0_readByte_8 : decode cX0_readByte 8 = .ok (.if_icmp .ge 16, 3) := by decide +kernel
theorem dX0_readByte_11 : decode cX0_readByte 11 = .ok (.aload_n 0, 1) := by decide +kernel
theorem dX0_readByte_12 : decode cX0_readByte 12 = .ok (.getfield 11, 3) := by decide +kernel
theorem dX0_readByte_15 : decode cX0_readByte 15 = .ok (.aload_n 0, 1) := by decide +kernel
theorem dX0_readByte_16 : decode cX0_readByte 16 = .ok (.getfield 34, 3) := by decide +kernel
theorem dX0_readByte_19 : decode cX0_readByte 19 = .ok (.iaload, 1) := by decide +kernel
theorem dX0_readByte_20 : decode cX0_readByte 20 = .ok (.iload_n 1, 1) := by decide +kernel
theorem dX0_readByte_21 : decode cX0_readByte 21 = .ok (.if_icmp .eq 5, 3) := by decide +kernel
theorem dX0_readByte_24 : decode cX0_readByte 24 = .ok (.iconst 0, 1) := by decide +kernel
theorem dX0_readByte_25 : decode cX0_readByte 25 = .ok (.ireturn, 1) := by decide +kernel
theorem dX0_readByte_26 : decode cX0_readByte 26 = .ok (.aload_n 0, 1) := by decide +kernel
theorem dX0_readByte_27 : decode cX0_readByte 27 = .ok (.dup, 1) := by decide +kernel
theorem dX0_readByte_28 : decode cX0_readByte 28 = .ok (.getfield 34, 3) := by decide +kernel
theorem dX0_readByte_31 : decode cX0_readByte 31 = .ok (.iconst 1, 1) := by decide +kernel
theorem dX0_readByte_32 : decode cX0_readByte 32 = .ok (.iadd, 1) := by decide +kernel
theorem dX0_readByte_33 : decode cX0_readByte 33 = .ok (.putfield 34, 3) := by decide +kernel
theorem dX0_readByte_36 : decode cX0_readByte 36 = .ok (.iconst 1, 1) := by decide +kernel
theorem dX0_readByte_37 : decode cX0_readByte 37 = .ok (.ireturn, 1) := by decide +kernel
theorem dX0_readLetter_0 : decode cX0_readLetter 0 = .ok (.aload_n 0, 1) := by decide +kernel
theorem dX0_readLetter_1 : decode cX0_readLetter 1 = .ok (.getfield 21, 3) := by decide +kernel
theorem dX0_readLetter_4 : decode cX0_readLetter 4 = .ok (.iload_n 1, 1) := by decide +kernel
theorem dX0_readLetter_5 : decode cX0_readLetter 5 = .ok (.aload_n 0, 1) := by decide +kernel
theorem dX0_readLetter_6 : decode cX0_readLetter 6 = .ok (.getfield 34, 3) := by decide +kernel
theorem dX0_readLetter_9 : decode cX0_readLetter 9 = .ok (.aload_n 0, 1) := by decide +kernel
theorem dX0_readLetter_10 : decode cX0_readLetter 10 = .ok (.getfield 24, 3) := by decide +kernel
theorem dX0_readLetter_13 : decode cX0_readLetter 13 = .ok (.if_icmp .ge 15, 3) := by decide +kernel
theorem dX0_readLetter_16 : decode cX0_readLetter 16 = .ok (.aload_n 0, 1) := by decide +kernel
theorem dX0_readLetter_17 : decode cX0_readLetter 17 = .ok (.getfield 11, 3) := by decide +kernel
theorem dX0_readLetter_20 : decode cX0_readLetter 20 = .ok (.aload_n 0, 1) := by decide +kernel
theorem dX0_readLetter_21 : decode cX0_readLetter 21 = .ok (.getfield 34, 3) := by decide +kernel
theorem dX0_readLetter_24 : decode cX0_readLetter 24 = .ok (.iaload, 1) := by decide +kernel
theorem dX0_readLetter_25 : decode cX0_readLetter 25 = .ok (.goto 4, 3) := by decide +kernel
theorem dX0_readLetter_28 : decode cX0_readLetter 28 = .ok (.iconst (-1), 1) := by decide +kernel
theorem dX0_readLetter_29 : decode cX0_readLetter 29 = .ok (.iastore, 1) := by decide +kernel
theorem dX0_readLetter_30 : decode cX0_readLetter 30 = .ok (.aload_n 0, 1) := by decide +kernel
theorem dX0_readLetter_31 : decode cX0_readLetter 31 = .ok (.bipush 97, 2) := by decide +kernel
theorem dX0_readLetter_33 : decode cX0_readLetter 33 = .ok (.invokevirtual 48, 3) := by decide +kernel
theorem dX0_readLetter_36 : decode cX0_readLetter 36 = .ok (.ifCond .ne 30, 3) := by decide +kernel
theorem dX0_readLetter_39 : decode cX0_readLetter 39 = .ok (.aload_n 0, 1) := by decide +kernel
theorem dX0_readLetter_40 : decode cX0_readLetter 40 = .ok (.bipush 110, 2) := by decide +kernel
theorem dX0_readLetter_42 : decode cX0_readLetter 42 = .ok (.invokevirtual 48, 3) := by decide +kernel
theorem dX0_readLetter_45 : decode cX0_readLetter 45 = .ok (.ifCond .ne 21, 3) := by decide +kernel
theorem dX0_readLetter_48 : decode cX0_readLetter 48 = .ok (.aload_n 0, 1) := by decide +kernel
theorem dX0_readLetter_49 : decode cX0_readLetter 49 = .ok (.bipush 100, 2) := by decide +kernel
theorem dX0_readLetter_51 : decode cX0_readLetter 51 = .ok (.invokevirtual 48, 3) := by decide +kernel
theorem dX0_readLetter_54 : decode cX0_readLetter 54 = .ok (.ifCond .ne 12, 3) := by decide +kernel
theorem dX0_readLetter_57 : decode cX0_readLetter 57 = .ok (.aload_n 0, 1) := by decide +kernel
theorem dX0_readLetter_58 : decode cX0_readLetter 58 = .ok (.bipush 115, 2) := by decide +kernel
theorem dX0_readLetter_60 : decode cX0_readLetter 60 = .ok (.invokevirtual 48, 3) := by decide +kernel
theorem dX0_readLetter_63 : decode cX0_readLetter 63 = .ok (.ifCond .eq 7, 3) := by decide +kernel
theorem dX0_readLetter_66 : decode cX0_readLetter 66 = .ok (.iconst 1, 1) := by decide +kernel
theorem dX0_readLetter_67 : decode cX0_readLetter 67 = .ok (.goto 4, 3) := by decide +kernel
theorem dX0_readLetter_70 : decode cX0_readLetter 70 = .ok (.iconst 0, 1) := by decide +kernel
theorem dX0_readLetter_71 : decode cX0_readLetter 71 = .ok (.ireturn, 1) := by decide +kernel
theorem dX0_readNumber_0 : decode cX0_readNumber 0 = .ok (.aload_n 0, 1) := by decide +kernel
theorem dX0_readNumber_1 : decode cX0_readNumber 1 = .ok (.getfield 34, 3) := by decide +kernel
theorem dX0_readNumber_4 : decode cX0_readNumber 4 = .ok (.istore_n 2, 1) := by decide +kernel
theorem dX0_readNumber_5 : decode cX0_readNumber 5 = .ok (.aload_n 0, 1) := by decide +kernel
theorem dX0_readNumber_6 : decode cX0_readNumber 6 = .ok (.iconst 0, 1) := by decide +kernel
theorem dX0_readNumber_7 : decode cX0_readNumber 7 = .ok (.putfield 54, 3) := by decide +kernel
theorem dX0_readNumber_10 : decode cX0_readNumber 10 = .ok (.iconst 0, 1) := by decide +kernel
theorem dX0_readNumber_11 : decode cX0_readNumber 11 = .ok (.istore_n 3, 1) := by decide +kernel
theorem dX0_readNumber_12 : decode cX0_readNumber 12 = .ok (.iload_n 3, 1) := by decide +kernel
theorem dX0_readNumber_13 : decode cX0_readNumber 13 = .ok (.iconst 3, 1) := by decide +kernel
theorem dX0_readNumber_14 : decode cX0_readNumber 14 = .ok (.if_icmp .ge 41, 3) := by decide +kernel
theorem dX0_readNumber_17 : decode cX0_readNumber 17 = .ok (.aload_n 0, 1) := by decide +kernel
theorem dX0_readNumber_18 : decode cX0_readNumber 18 = .ok (.iload_n 2, 1) := by decide +kernel
theorem dX0_readNumber_19 : decode cX0_readNumber 19 = .ok (.invokevirtual 60, 3) := by decide +kernel
theorem dX0_readNumber_22 : decode cX0_readNumber 22 = .ok (.ifCond .eq 33, 3) := by decide +kernel
theorem dX0_readNumber_25 : decode cX0_readNumber 25 = .ok (.aload_n 0, 1) := by decide +kernel
theorem dX0_readNumber_26 : decode cX0_readNumber 26 = .ok (.bipush 10, 2) := by decide +kernel
theorem dX0_readNumber_28 : decode cX0_readNumber 28 = .ok (.aload_n 0, 1) := by decide +kernel
theorem dX0_readNumber_29 : decode cX0_readNumber 29 = .ok (.getfield 54, 3) := by decide +kernel
theorem dX0_readNumber_32 : decode cX0_readNumber 32 = .ok (.imul, 1) := by decide +kernel
theorem dX0_readNumber_33 : decode cX0_readNumber 33 = .ok (.aload_n 0, 1) := by decide +kernel
theorem dX0_readNumber_34 : decode cX0_readNumber 34 = .ok (.getfield 11, 3) := by decide +kernel
theorem dX0_readNumber_37 : decode cX0_readNumber 37 = .ok (.iload_n 2, 1) := by decide +kernel
theorem dX0_readNumber_38 : decode cX0_readNumber 38 = .ok (.iaload, 1) := by decide +kernel
theorem dX0_readNumber_39 : decode cX0_readNumber 39 = .ok (.iadd, 1) := by decide +kernel
theorem dX0_readNumber_40 : decode cX0_readNumber 40 = .ok (.bipush 48, 2) := by decide +kernel
theorem dX0_readNumber_42 : decode cX0_readNumber 42 = .ok (.isub, 1) := by decide +kernel
theorem dX0_readNumber_43 : decode cX0_readNumber 43 = .ok (.putfield 54, 3) := by decide +kernel
theorem dX0_readNumber_46 : decode cX0_readNumber 46 = .ok (.iinc 2 1, 3) := by decide +kernel
theorem dX0_readNumber_49 : decode cX0_readNumber 49 = .ok (.iinc 3 1, 3) := by decide +kernel
theorem dX0_readNumber_52 : decode cX0_readNumber 52 = .ok (.goto (-40), 3) := by decide +kernel
theorem dX0_readNumber_55 : decode cX0_readNumber 55 = .ok (.aload_n 0, 1) := by decide +kernel
theorem dX0_readNumber_56 : decode cX0_readNumber 56 = .ok (.getfield 54, 3) := by decide +kernel
theorem dX0_readNumber_59 : decode cX0_readNumber 59 = .ok (.iconst 1, 1) := by decide +kernel
theorem dX0_readNumber_60 : decode cX0_readNumber 60 = .ok (.if_icmp .lt 15, 3) := by decide +kernel
theorem dX0_readNumber_63 : decode cX0_readNumber 63 = .ok (.aload_n 0, 1) := by decide +kernel
theorem dX0_readNumber_64 : decode cX0_readNumber 64 = .ok (.getfield 54, 3) := by decide +kernel
theorem dX0_readNumber_67 : decode cX0_readNumber 67 = .ok (.iload_n 1, 1) := by decide +kernel
theorem dX0_readNumber_68 : decode cX0_readNumber 68 = .ok (.if_icmp .gt 7, 3) := by decide +kernel
theorem dX0_readNumber_71 : decode cX0_readNumber 71 = .ok (.iconst 1, 1) := by decide +kernel
theorem dX0_readNumber_72 : decode cX0_readNumber 72 = .ok (.goto 4, 3) := by decide +kernel
theorem dX0_readNumber_75 : decode cX0_readNumber 75 = .ok (.iconst 0, 1) := by decide +kernel
theorem dX0_readNumber_76 : decode cX0_readNumber 76 = .ok (.istore_n 3, 1) := by decide +kernel
theorem dX0_readNumber_77 : decode cX0_readNumber 77 = .ok (.iload_n 3, 1) := by decide +kernel
theorem dX0_readNumber_78 : decode cX0_readNumber 78 = .ok (.ifCond .eq 8, 3) := by decide +kernel
theorem dX0_readNumber_81 : decode cX0_readNumber 81 = .ok (.aload_n 0, 1) := by decide +kernel
theorem dX0_readNumber_82 : decode cX0_readNumber 82 = .ok (.iload_n 2, 1) := by decide +kernel
theorem dX0_readNumber_83 : decode cX0_readNumber 83 = .ok (.putfield 34, 3) := by decide +kernel
theorem dX0_readNumber_86 : decode cX0_readNumber 86 = .ok (.iload_n 3, 1) := by decide +kernel
theorem dX0_readNumber_87 : decode cX0_readNumber 87 = .ok (.ireturn, 1) := by decide +kernel
theorem dX0_isFigure_0 : decode cX0_isFigure 0 = .ok (.iload_n 1, 1) := by decide +kernel
theorem dX0_isFigure_1 : decode cX0_isFigure 1 = .ok (.aload_n 0, 1) := by decide +kernel
theorem dX0_isFigure_2 : decode cX0_isFigure 2 = .ok (.getfield 24, 3) := by decide +kernel
theorem dX0_isFigure_5 : decode cX0_isFigure 5 = .ok (.if_icmp .ge 29, 3) := by decide +kernel
theorem dX0_isFigure_8 : decode cX0_isFigure 8 = .ok (.aload_n 0, 1) := by decide +kernel
theorem dX0_isFigure_9 : decode cX0_isFigure 9 = .ok (.getfield 11, 3) := by decide +kernel
theorem dX0_isFigure_12 : decode cX0_isFigure 12 = .ok (.iload_n 1, 1) := by decide +kernel
theorem dX0_isFigure_13 : decode cX0_isFigure 13 = .ok (.iaload, 1) := by decide +kernel
theorem dX0_isFigure_14 : decode cX0_isFigure 14 = .ok (.bipush 48, 2) := by decide +kernel
theorem dX0_isFigure_16 : decode cX0_isFigure 16 = .ok (.if_icmp .lt 18, 3) := by decide +kernel
theorem dX0_isFigure_19 : decode cX0_isFigure 19 = .ok (.aload_n 0, 1) := by decide +kernel
theorem dX0_isFigure_20 : decode cX0_isFigure 20 = .ok (.getfield 11, 3) := by decide +kernel
theorem dX0_isFigure_23 : decode cX0_isFigure 23 = .ok (.iload_n 1, 1) := by decide +kernel
theorem dX0_isFigure_24 : decode cX0_isFigure 24 = .ok (.iaload, 1) := by decide +kernel
theorem dX0_isFigure_25 : decode cX0_isFigure 25 = .ok (.bipush 57, 2) := by decide +kernel
theorem dX0_isFigure_27 : decode cX0_isFigure 27 = .ok (.if_icmp .gt 7, 3) := by decide +kernel
theorem dX0_isFigure_30 : decode cX0_isFigure 30 = .ok (.iconst 1, 1) := by decide +kernel
theorem dX0_isFigure_31 : decode cX0_isFigure 31 = .ok (.goto 4, 3) := by decide +kernel
theorem dX0_isFigure_34 : decode cX0_isFigure 34 = .ok (.iconst 0, 1) := by decide +kernel
theorem dX0_isFigure_35 : decode cX0_isFigure 35 = .ok (.ireturn, 1) := by decide +kernel
theorem dX1_advancedOutOf_0 : decode cX1_advancedOutOf 0 = .ok (.iconst 0, 1) := by decide +kernel
theorem dX1_advancedOutOf_1 : decode cX1_advancedOutOf 1 = .ok (.istore_n 2, 1) := by decide +kernel
theorem dX1_advancedOutOf_2 : decode cX1_advancedOutOf 2 = .ok (.iload_n 2, 1) := by decide +kernel
theorem dX1_advancedOutOf_3 : decode cX1_advancedOutOf 3 = .ok (.aload_n 0, 1) := by decide +kernel
theorem dX1_advancedOutOf_4 : decode cX1_advancedOutOf 4 = .ok (.getfield 21, 3) := by decide +kernel
theorem dX1_advancedOutOf_7 : decode cX1_advancedOutOf 7 = .ok (.getfield 29, 3) := by decide +kernel
theorem dX1_advancedOutOf_10 : decode cX1_advancedOutOf 10 = .ok (.if_icmp .ge 16, 3) := by decide +kernel
theorem dX1_advancedOutOf_13 : decode cX1_advancedOutOf 13 = .ok (.aload_n 0, 1) := by decide +kernel
theorem dX1_advancedOutOf_14 : decode cX1_advancedOutOf 14 = .ok (.getfield 18, 3) := by decide +kernel
theorem dX1_advancedOutOf_17 : decode cX1_advancedOutOf 17 = .ok (.iload_n 2, 1) := by decide +kernel
theorem dX1_advancedOutOf_18 : decode cX1_advancedOutOf 18 = .ok (.iconst 0, 1) := by decide +kernel
theorem dX1_advancedOutOf_19 : decode cX1_advancedOutOf 19 = .ok (.iastore, 1) := by decide +kernel
theorem dX1_advancedOutOf_20 : decode cX1_advancedOutOf 20 = .ok (.iinc 2 1, 3) := by decide +kernel
theorem dX1_advancedOutOf_23 : decode cX1_advancedOutOf 23 = .ok (.goto (-21), 3) := by decide +kernel
theorem dX1_advancedOutOf_26 : decode cX1_advancedOutOf 26 = .ok (.aload_n 0, 1) := by decide +kernel
theorem dX1_advancedOutOf_27 : decode cX1_advancedOutOf 27 = .ok (.getfield 21, 3) := by decide +kernel
theorem dX1_advancedOutOf_30 : decode cX1_advancedOutOf 30 = .ok (.invokevirtual 33, 3) := by decide +kernel
theorem dX1_advancedOutOf_33 : decode cX1_advancedOutOf 33 = .ok (.istore_n 2, 1) := by decide +kernel
theorem dX1_advancedOutOf_34 : decode cX1_advancedOutOf 34 = .ok (.iconst 0, 1) := by decide +kernel
theorem dX1_advancedOutOf_35 : decode cX1_advancedOutOf 35 = .ok (.istore_n 3, 1) := by decide +kernel
theorem dX1_advancedOutOf_36 : decode cX1_advancedOutOf 36 = .ok (.iload_n 3, 1) := by decide +kernel
theorem dX1_advancedOutOf_37 : decode cX1_advancedOutOf 37 = .ok (.iload_n 1, 1) := by decide +kernel
theorem dX1_advancedOutOf_38 : decode cX1_advancedOutOf 38 = .ok (.if_icmp .gt 26, 3) := by decide +kernel
theorem dX1_advancedOutOf_41 : decode cX1_advancedOutOf 41 = .ok (.aload_n 0, 1) := by decide +kernel
theorem dX1_advancedOutOf_42 : decode cX1_advancedOutOf 42 = .ok (.iload_n 3, 1) := by decide +kernel
theorem dX1_advancedOutOf_43 : decode cX1_advancedOutOf 43 = .ok (.invokevirtual 37, 3) := by decide +kernel
theorem dX1_advancedOutOf_46 : decode cX1_advancedOutOf 46 = .ok (.aload_n 0, 1) := by decide +kernel
theorem dX1_advancedOutOf_47 : decode cX1_advancedOutOf 47 = .ok (.iload_n 3, 1) := by decide +kernel
theorem dX1_advancedOutOf_48 : decode cX1_advancedOutOf 48 = .ok (.aload_n 0, 1) := by decide +kernel
theorem dX1_advancedOutOf_49 : decode cX1_advancedOutOf 49 = .ok (.iload_n 3, 1) := by decide +kernel
theorem dX1_advancedOutOf_50 : decode cX1_advancedOutOf 50 = .ok (.iload_n 2, 1) := by decide +kernel
theorem dX1_advancedOutOf_51 : decode cX1_advancedOutOf 51 = .ok (.invokevirtual 41, 3) := by decide +kernel
theorem dX1_advancedOutOf_54 : decode cX1_advancedOutOf 54 = .ok (.invokevirtual 45, 3) := by decide +kernel
theorem dX1_advancedOutOf_57 : decode cX1_advancedOutOf 57 = .ok (.istore_n 2, 1) := by decide +kernel
theorem dX1_advancedOutOf_58 : decode cX1_advancedOutOf 58 = .ok (.iinc 3 1, 3) := by decide +kernel
theorem dX1_advancedOutOf_61 : decode cX1_advancedOutOf 61 = .ok (.goto (-25), 3) := by decide +kernel
theorem dX1_advancedOutOf_64 : decode cX1_advancedOutOf 64 = .ok (.iload_n 2, 1) := by decide +kernel
theorem dX1_advancedOutOf_65 : decode cX1_advancedOutOf 65 = .ok (.ireturn, 1) := by decide +kernel
theorem dX1_tally_0 : decode cX1_tally 0 = .ok (.iconst 0, 1) := by decide +kernel
theorem dX1_tally_1 : decode cX1_tally 1 = .ok (.istore_n 2, 1) := by decide +kernel
theorem dX1_tally_2 : decode cX1_tally 2 = .ok (.iload_n 2, 1) := by decide +kernel
theorem dX1_tally_3 : decode cX1_tally 3 = .ok (.aload_n 0, 1) := by decide +kernel
theorem dX1_tally_4 : decode cX1_tally 4 = .ok (.getfield 21, 3) := by decide +kernel
theorem dX1_tally_7 : decode cX1_tally 7 = .ok (.getfield 29, 3) := by decide +kernel
theorem dX1_tally_10 : decode cX1_tally 10 = .ok (.if_icmp .ge 54, 3) := by decide +kernel
theorem dX1_tally_13 : decode cX1_tally 13 = .ok (.aload_n 0, 1) := by decide +kernel
theorem dX1_tally_14 : decode cX1_tally 14 = .ok (.getfield 9, 3) := by decide +kernel
theorem dX1_tally_17 : decode cX1_tally 17 = .ok (.iload_n 2, 1) := by decide +kernel
theorem dX1_tally_18 : decode cX1_tally 18 = .ok (.aload_n 0, 1) := by decide +kernel
theorem dX1_tally_19 : decode cX1_tally 19 = .ok (.getfield 21, 3) := by decide +kernel
theorem dX1_tally_22 : decode cX1_tally 22 = .ok (.iload_n 2, 1) := by decide +kernel
theorem dX1_tally_23 : decode cX1_tally 23 = .ok (.iload_n 1, 1) := by decide +kernel
theorem dX1_tally_24 : decode cX1_tally 24 = .ok (.invokevirtual 48, 3) := by decide +kernel
theorem dX1_tally_27 : decode cX1_tally 27 = .ok (.iastore, 1) := by decide +kernel
theorem dX1_tally_28 : decode cX1_tally 28 = .ok (.aload_n 0, 1) := by decide +kernel
theorem dX1_tally_29 : decode cX1_tally 29 = .ok (.getfield 15, 3) := by decide +kernel
theorem dX1_tally_32 : decode cX1_tally 32 = .ok (.iload_n 2, 1) := by decide +kernel
theorem dX1_tally_33 : decode cX1_tally 33 = .ok (.aload_n 0, 1) := by decide +kernel
theorem dX1_tally_34 : decode cX1_tally 34 = .ok (.getfield 21, 3) := by decide +kernel
theorem dX1_tally_37 : decode cX1_tally 37 = .ok (.iload_n 2, 1) := by decide +kernel
theorem dX1_tally_38 : decode cX1_tally 38 = .ok (.iload_n 1, 1) := by decide +kernel
theorem dX1_tally_39 : decode cX1_tally 39 = .ok (.invokevirtual 51, 3) := by decide +kernel
theorem dX1_tally_42 : decode cX1_tally 42 = .ok (.iastore, 1) := by decide +kernel
theorem dX1_tally_43 : decode cX1_tally 43 = .ok (.aload_n 0, 1) := by decide +kernel
theorem dX1_tally_44 : decode cX1_tally 44 = .ok (.getfield 18, 3) := by decide +kernel
theorem dX1_tally_47 : decode cX1_tally 47 = .ok (.iload_n 2, 1) := by decide +kernel
theorem dX1_tally_48 : decode cX1_tally 48 = .ok (.dup2, 1) := by decide +kernel
theorem dX1_tally_49 : decode cX1_tally 49 = .ok (.iaload, 1) := by decide +kernel
theorem dX1_tally_50 : decode cX1_tally 50 = .ok (.aload_n 0, 1) := by decide +kernel
theorem dX1_tally_51 : decode cX1_tally 51 = .ok (.getfield 15, 3) := by decide +kernel
theorem dX1_tally_54 : decode cX1_tally 54 = .ok (.iload_n 2, 1) := by decide +kernel
theorem dX1_tally_55 : decode cX1_tally 55 = .ok (.iaload, 1) := by decide +kernel
theorem dX1_tally_56 : decode cX1_tally 56 = .ok (.iadd, 1) := by decide +kernel
theorem dX1_tally_57 : decode cX1_tally 57 = .ok (.iastore, 1) := by decide +kernel
theorem dX1_tally_58 : decode cX1_tally 58 = .ok (.iinc 2 1, 3) := by decide +kernel
theorem dX1_tally_61 : decode cX1_tally 61 = .ok (.goto (-59), 3) := by decide +kernel
theorem dX1_tally_64 : decode cX1_tally 64 = .ok (.return_, 1) := by decide +kernel
theorem dX1_whoPass_0 : decode cX1_whoPass 0 = .ok (.iconst 0, 1) := by decide +kernel
theorem dX1_whoPass_1 : decode cX1_whoPass 1 = .ok (.istore_n 3, 1) := by decide +kernel
theorem dX1_whoPass_2 : decode cX1_whoPass 2 = .ok (.iconst 0, 1) := by decide +kernel
theorem dX1_whoPass_3 : decode cX1_whoPass 3 = .ok (.istore 4, 2) := by decide +kernel
theorem dX1_whoPass_5 : decode cX1_whoPass 5 = .ok (.iload 4, 2) := by decide +kernel
theorem dX1_whoPass_7 : decode cX1_whoPass 7 = .ok (.aload_n 0, 1) := by decide +kernel
theorem dX1_whoPass_8 : decode cX1_whoPass 8 = .ok (.getfield 21, 3) := by decide +kernel
theorem dX1_whoPass_11 : decode cX1_whoPass 11 = .ok (.getfield 29, 3) := by decide +kernel
theorem dX1_whoPass_14 : decode cX1_whoPass 14 = .ok (.if_icmp .ge 77, 3) := by decide +kernel
theorem dX1_whoPass_17 : decode cX1_whoPass 17 = .ok (.iload_n 2, 1) := by decide +kernel
theorem dX1_whoPass_18 : decode cX1_whoPass 18 = .ok (.iload 4, 2) := by decide +kernel
theorem dX1_whoPass_20 : decode cX1_whoPass 20 = .ok (.invokestatic 54, 3) := by decide +kernel
theorem dX1_whoPass_23 : decode cX1_whoPass 23 = .ok (.ifCond .eq 17, 3) := by decide +kernel
theorem dX1_whoPass_26 : decode cX1_whoPass 26 = .ok (.aload_n 0, 1) := by decide +kernel
theorem dX1_whoPass_27 : decode cX1_whoPass 27 = .ok (.getfield 9, 3) := by decide +kernel
theorem dX1_whoPass_30 : decode cX1_whoPass 30 = .ok (.iload 4, 2) := by decide +kernel
theorem dX1_whoPass_32 : decode cX1_whoPass 32 = .ok (.iaload, 1) := by decide +kernel
theorem dX1_whoPass_33 : decode cX1_whoPass 33 = .ok (.ifCond .le 7, 3) := by decide +kernel
theorem dX1_whoPass_36 : decode cX1_whoPass 36 = .ok (.iconst 1, 1) := by decide +kernel
theorem dX1_whoPass_37 : decode cX1_whoPass 37 = .ok (.goto 4, 3) := by decide +kernel
theorem dX1_whoPass_40 : decode cX1_whoPass 40 = .ok (.iconst 0, 1) := by decide +kernel
theorem dX1_whoPass_41 : decode cX1_whoPass 41 = .ok (.istore 5, 2) := by decide +kernel
theorem dX1_whoPass_43 : decode cX1_whoPass 43 = .ok (.iload 5, 2) := by decide +kernel
theorem dX1_whoPass_45 : decode cX1_whoPass 45 = .ok (.ifCond .eq 40, 3) := by decide +kernel
theorem dX1_whoPass_48 : decode cX1_whoPass 48 = .ok (.bipush 100, 2) := by decide +kernel
theorem dX1_whoPass_50 : decode cX1_whoPass 50 = .ok (.aload_n 0, 1) := by decide +kernel
theorem dX1_whoPass_51 : decode cX1_whoPass 51 = .ok (.getfield 15, 3) := by decide +kernel
theorem dX1_whoPass_54 : decode cX1_whoPass 54 = .ok (.iload 4, 2) := by decide +kernel
theorem dX1_whoPass_56 : decode cX1_whoPass 56 = .ok (.iaload, 1) := by decide +kernel
theorem dX1_whoPass_57 : decode cX1_whoPass 57 = .ok (.imul, 1) := by decide +kernel
theorem dX1_whoPass_58 : decode cX1_whoPass 58 = .ok (.aload_n 0, 1) := by decide +kernel
theorem dX1_whoPass_59 : decode cX1_whoPass 59 = .ok (.getfield 25, 3) := by decide +kernel
theorem dX1_whoPass_62 : decode cX1_whoPass 62 = .ok (.getfield 58, 3) := by decide +kernel
theorem dX1_whoPass_65 : decode cX1_whoPass 65 = .ok (.iload_n 1, 1) := by decide +kernel
theorem dX1_whoPass_66 : decode cX1_whoPass 66 = .ok (.iaload, 1) := by decide +kernel
theorem dX1_whoPass_67 : decode cX1_whoPass 67 = .ok (.aload_n 0, 1) := by decide +kernel
theorem dX1_whoPass_68 : decode cX1_whoPass 68 = .ok (.getfield 9, 3) := by decide +kernel
theorem dX1_whoPass_71 : decode cX1_whoPass 71 = .ok (.iload 4, 2) := by decide +kernel
theorem dX1_whoPass_73 : decode cX1_whoPass 73 = .ok (.iaload, 1) := by decide +kernel
theorem dX1_whoPass_74 : decode cX1_whoPass 74 = .ok (.imul, 1) := by decide +kernel
theorem dX1_whoPass_75 : decode cX1_whoPass 75 = .ok (.if_icmp .lt 10, 3) := by decide +kernel
theorem dX1_whoPass_78 : decode cX1_whoPass 78 = .ok (.iload_n 3, 1) := by decide +kernel
theorem dX1_whoPass_79 : decode cX1_whoPass 79 = .ok (.iconst 1, 1) := by decide +kernel
theorem dX1_whoPass_80 : decode cX1_whoPass 80 = .ok (.iload 4, 2) := by decide +kernel
theorem dX1_whoPass_82 : decode cX1_whoPass 82 = .ok (.ishl, 1) := by decide +kernel
theorem dX1_whoPass_83 : decode cX1_whoPass 83 = .ok (.ior, 1) := by decide +kernel
theorem dX1_whoPass_84 : decode cX1_whoPass 84 = .ok (.istore_n 3, 1) := by decide +kernel
theorem dX1_whoPass_85 : decode cX1_whoPass 85 = .ok (.iinc 4 1, 3) := by decide +kernel
theorem dX1_whoPass_88 : decode cX1_whoPass 88 = .ok (.goto (-83), 3) := by decide +kernel
theorem dX1_whoPass_91 : decode cX1_whoPass 91 = .ok (.iload_n 3, 1) := by decide +kernel
theorem dX1_whoPass_92 : decode cX1_whoPass 92 = .ok (.ireturn, 1) := by decide +kernel
theorem dX1_whoAdvance_0 : decode cX1_whoAdvance 0 = .ok (.iconst 0, 1) := by decide +kernel
theorem dX1_whoAdvance_1 : decode cX1_whoAdvance 1 = .ok (.istore_n 3, 1) := by decide +kernel
theorem dX1_whoAdvance_2 : decode cX1_whoAdvance 2 = .ok (.iconst 0, 1) := by decide +kernel
theorem dX1_whoAdvance_3 : decode cX1_whoAdvance 3 = .ok (.istore 4, 2) := by decide +kernel
theorem dX1_whoAdvance_5 : decode cX1_whoAdvance 5 = .ok (.iconst 0, 1) := by decide +kernel
theorem dX1_whoAdvance_6 : decode cX1_whoAdvance 6 = .ok (.istore 5, 2) := by decide +kernel
theorem dX1_whoAdvance_8 : decode cX1_whoAdvance 8 = .ok (.iconst 0, 1) := by decide +kernel
theorem dX1_whoAdvance_9 : decode cX1_whoAdvance 9 = .ok (.istore 6, 2) := by decide +kernel
theorem dX1_whoAdvance_11 : decode cX1_whoAdvance 11 = .ok (.iload 6, 2) := by decide +kernel
theorem dX1_whoAdvance_13 : decode cX1_whoAdvance 13 = .ok (.aload_n 0, 1) := by decide +kernel
theorem dX1_whoAdvance_14 : decode cX1_whoAdvance 14 = .ok (.getfield 21, 3) := by decide +kernel
theorem dX1_whoAdvance_17 : decode cX1_whoAdvance 17 = .ok (.getfield 29, 3) := by decide +kernel
theorem dX1_whoAdvance_20 : decode cX1_whoAdvance 20 = .ok (.if_icmp .ge 101, 3) := by decide +kernel
theorem dX1_whoAdvance_23 : decode cX1_whoAdvance 23 = .ok (.iload_n 2, 1) := by decide +kernel
theorem dX1_whoAdvance_24 : decode cX1_whoAdvance 24 = .ok (.iload 6, 2) := by decide +kernel
theorem dX1_whoAdvance_26 : decode cX1_whoAdvance 26 = .ok (.invokestatic 54, 3) := by decide +kernel
theorem dX1_whoAdvance_29 : decode cX1_whoAdvance 29 = .ok (.ifCond .ne 6, 3) := by decide +kernel
theorem dX1_whoAdvance_32 : decode cX1_whoAdvance 32 = .ok (.goto 83, 3) := by decide +kernel
theorem dX1_whoAdvance_35 : decode cX1_whoAdvance 35 = .ok (.aload_n 0, 1) := by decide +kernel
theorem dX1_whoAdvance_36 : decode cX1_whoAdvance 36 = .ok (.iload_n 2, 1) := by decide +kernel
theorem dX1_whoAdvance_37 : decode cX1_whoAdvance 37 = .ok (.iload 6, 2) := by decide +kernel
theorem dX1_whoAdvance_39 : decode cX1_whoAdvance 39 = .ok (.iconst 1, 1) := by decide +kernel
theorem dX1_whoAdvance_40 : decode cX1_whoAdvance 40 = .ok (.invokevirtual 63, 3) := by decide +kernel
theorem dX1_whoAdvance_43 : decode cX1_whoAdvance 43 = .ok (.istore 7, 2) := by decide +kernel
theorem dX1_whoAdvance_45 : decode cX1_whoAdvance 45 = .ok (.iload 7, 2) := by decide +kernel
theorem dX1_whoAdvance_47 : decode cX1_whoAdvance 47 = .ok (.aload_n 0, 1) := by decide +kernel
theorem dX1_whoAdvance_48 : decode cX1_whoAdvance 48 = .ok (.iload_n 2, 1) := by decide +kernel
theorem dX1_whoAdvance_49 : decode cX1_whoAdvance 49 = .ok (.iload 6, 2) := by decide +kernel
theorem dX1_whoAdvance_51 : decode cX1_whoAdvance 51 = .ok (.iconst 0, 1) := by decide +kernel
theorem dX1_whoAdvance_52 : decode cX1_whoAdvance 52 = .ok (.invokevirtual 63, 3) := by decide +kernel
theorem dX1_whoAdvance_55 : decode cX1_whoAdvance 55 = .ok (.iadd, 1) := by decide +kernel
theorem dX1_whoAdvance_56 : decode cX1_whoAdvance 56 = .ok (.aload_n 0, 1) := by decide +kernel
theorem dX1_whoAdvance_57 : decode cX1_whoAdvance 57 = .ok (.getfield 25, 3) := by decide +kernel
theorem dX1_whoAdvance_60 : decode cX1_whoAdvance 60 = .ok (.getfield 67, 3) := by decide +kernel
theorem dX1_whoAdvance_63 : decode cX1_whoAdvance 63 = .ok (.iload_n 1, 1) := by decide +kernel
theorem dX1_whoAdvance_64 : decode cX1_whoAdvance 64 = .ok (.iaload, 1) := by decide +kernel
theorem dX1_whoAdvance_65 : decode cX1_whoAdvance 65 = .ok (.if_icmp .gt 13, 3) := by decide +kernel
theorem dX1_whoAdvance_68 : decode cX1_whoAdvance 68 = .ok (.iload_n 3, 1) := by decide +kernel
theorem dX1_whoAdvance_69 : decode cX1_whoAdvance 69 = .ok (.iconst 1, 1) := by decide +kernel
theorem dX1_whoAdvance_70 : decode cX1_whoAdvance 70 = .ok (.iload 6, 2) := by decide +kernel
theorem dX1_whoAdvance_72 : decode cX1_whoAdvance 72 = .ok (.ishl, 1) := by decide +kernel
theorem dX1_whoAdvance_73 : decode cX1_whoAdvance 73 = .ok (.ior, 1) := by decide +kernel
theorem dX1_whoAdvance_74 : decode cX1_whoAdvance 74 = .ok (.istore_n 3, 1) := by decide +kernel
theorem dX1_whoAdvance_75 : decode cX1_whoAdvance 75 = .ok (.goto 40, 3) := by decide +kernel
theorem dX1_whoAdvance_78 : decode cX1_whoAdvance 78 = .ok (.iload 7, 2) := by decide +kernel
theorem dX1_whoAdvance_80 : decode cX1_whoAdvance 80 = .ok (.aload_n 0, 1) := by decide +kernel
theorem dX1_whoAdvance_81 : decode cX1_whoAdvance 81 = .ok (.getfield 25, 3) := by decide +kernel
theorem dX1_whoAdvance_84 : decode cX1_whoAdvance 84 = .ok (.getfield 67, 3) := by decide +kernel
theorem dX1_whoAdvance_87 : decode cX1_whoAdvance 87 = .ok (.iload_n 1, 1) := by decide +kernel
theorem dX1_whoAdvance_88 : decode cX1_whoAdvance 88 = .ok (.iaload, 1) := by decide +kernel
theorem dX1_whoAdvance_89 : decode cX1_whoAdvance 89 = .ok (.if_icmp .ge 26, 3) := by decide +kernel
theorem dX1_whoAdvance_92 : decode cX1_whoAdvance 92 = .ok (.iload 4, 2) := by decide +kernel
theorem dX1_whoAdvance_94 : decode cX1_whoAdvance 94 = .ok (.iconst 1, 1) := by decide +kernel
theorem dX1_whoAdvance_95 : decode cX1_whoAdvance 95 = .ok (.iload 6, 2) := by decide +kernel
theorem dX1_whoAdvance_97 : decode cX1_whoAdvance 97 = .ok (.ishl, 1) := by decide +kernel
theorem dX1_whoAdvance_98 : decode cX1_whoAdvance 98 = .ok (.ior, 1) := by decide +kernel
theorem dX1_whoAdvance_99 : decode cX1_whoAdvance 99 = .ok (.istore 4, 2) := by decide +kernel
theorem dX1_whoAdvance_101 : decode cX1_whoAdvance 101 = .ok (.aload_n 0, 1) := by decide +kernel
theorem dX1_whoAdvance_102 : decode cX1_whoAdvance 102 = .ok (.getfield 25, 3) := by decide +kernel
theorem dX1_whoAdvance_105 : decode cX1_whoAdvance 105 = .ok (.getfield 67, 3) := by decide +kernel
theorem dX1_whoAdvance_108 : decode cX1_whoAdvance 108 = .ok (.iload_n 1, 1) := by decide +kernel
theorem dX1_whoAdvance_109 : decode cX1_whoAdvance 109 = .ok (.iaload, 1) := by decide +kernel
theorem dX1_whoAdvance_110 : decode cX1_whoAdvance 110 = .ok (.iload 7, 2) := by decide +kernel
theorem dX1_whoAdvance_112 : decode cX1_whoAdvance 112 = .ok (.isub, 1) := by decide +kernel
theorem dX1_whoAdvance_113 : decode cX1_whoAdvance 113 = .ok (.istore 5, 2) := by decide +kernel
theorem dX1_whoAdvance_115 : decode cX1_whoAdvance 115 = .ok (.iinc 6 1, 3) := by decide +kernel
theorem dX1_whoAdvance_118 : decode cX1_whoAdvance 118 = .ok (.goto (-107), 3) := by decide +kernel
theorem dX1_whoAdvance_121 : decode cX1_whoAdvance 121 = .ok (.iload_n 3, 1) := by decide +kernel
theorem dX1_whoAdvance_122 : decode cX1_whoAdvance 122 = .ok (.aload_n 0, 1) := by decide +kernel
theorem dX1_whoAdvance_123 : decode cX1_whoAdvance 123 = .ok (.aload_n 0, 1) := by decide +kernel
theorem dX1_whoAdvance_124 : decode cX1_whoAdvance 124 = .ok (.getfield 25, 3) := by decide +kernel
theorem dX1_whoAdvance_127 : decode cX1_whoAdvance 127 = .ok (.getfield 70, 3) := by decide +kernel
theorem dX1_whoAdvance_130 : decode cX1_whoAdvance 130 = .ok (.iload_n 1, 1) := by decide +kernel
theorem dX1_whoAdvance_131 : decode cX1_whoAdvance 131 = .ok (.iaload, 1) := by decide +kernel
theorem dX1_whoAdvance_132 : decode cX1_whoAdvance 132 = .ok (.iload 4, 2) := by decide +kernel
theorem dX1_whoAdvance_134 : decode cX1_whoAdvance 134 = .ok (.iload 5, 2) := by decide +kernel
theorem dX1_whoAdvance_136 : decode cX1_whoAdvance 136 = .ok (.invokevirtual 73, 3) := by decide +kernel
theorem dX1_whoAdvance_139 : decode cX1_whoAdvance 139 = .ok (.ior, 1) := by decide +kernel
theorem dX1_whoAdvance_140 : decode cX1_whoAdvance 140 = .ok (.ireturn, 1) := by decide +kernel
theorem dX1_withShare_0 : decode cX1_withShare 0 = .ok (.iconst 0, 1) := by decide +kernel
theorem dX1_withShare_1 : decode cX1_withShare 1 = .ok (.istore 4, 2) := by decide +kernel
theorem dX1_withShare_3 : decode cX1_withShare 3 = .ok (.iconst 0, 1) := by decide +kernel
theorem dX1_withShare_4 : decode cX1_withShare 4 = .ok (.istore 5, 2) := by decide +kernel
theorem dX1_withShare_6 : decode cX1_withShare 6 = .ok (.iload 5, 2) := by decide +kernel
theorem dX1_withShare_8 : decode cX1_withShare 8 = .ok (.aload_n 0, 1) := by decide +kernel
theorem dX1_withShare_9 : decode cX1_withShare 9 = .ok (.getfield 21, 3) := by decide +kernel
theorem dX1_withShare_12 : decode cX1_withShare 12 = .ok (.getfield 29, 3) := by decide +kernel
theorem dX1_withShare_15 : decode cX1_withShare 15 = .ok (.if_icmp .ge 32, 3) := by decide +kernel
theorem dX1_withShare_18 : decode cX1_withShare 18 = .ok (.iload_n 1, 1) := by decide +kernel
theorem dX1_withShare_19 : decode cX1_withShare 19 = .ok (.iload 5, 2) := by decide +kernel
theorem dX1_withShare_21 : decode cX1_withShare 21 = .ok (.invokestatic 54, 3) := by decide +kernel
theorem dX1_withShare_24 : decode cX1_withShare 24 = .ok (.ifCond .eq 17, 3) := by decide +kernel
theorem dX1_withShare_27 : decode cX1_withShare 27 = .ok (.aload_n 0, 1) := by decide +kernel
theorem dX1_withShare_28 : decode cX1_withShare 28 = .ok (.iload 5, 2) := by decide +kernel
theorem dX1_withShare_30 : decode cX1_withShare 30 = .ok (.iload_n 2, 1) := by decide +kernel
theorem dX1_withShare_31 : decode cX1_withShare 31 = .ok (.invokevirtual 76, 3) := by decide +kernel
theorem dX1_withShare_34 : decode cX1_withShare 34 = .ok (.iload_n 3, 1) := by decide +kernel
theorem dX1_withShare_35 : decode cX1_withShare 35 = .ok (.if_icmp .ne 6, 3) := by decide +kernel
theorem dX1_withShare_38 : decode cX1_withShare 38 = .ok (.iinc 4 1, 3) := by decide +kernel
theorem dX1_withShare_41 : decode cX1_withShare 41 = .ok (.iinc 5 1, 3) := by decide +kernel
theorem dX1_withShare_44 : decode cX1_withShare 44 = .ok (.goto (-38), 3) := by decide +kernel
theorem dX1_withShare_47 : decode cX1_withShare 47 = .ok (.iload 4, 2) := by decide +kernel
theorem dX1_withShare_49 : decode cX1_withShare 49 = .ok (.ireturn, 1) := by decide +kernel
theorem dX1_compareShares_0 : decode cX1_compareShares 0 = .ok (.aload_n 0, 1) := by decide +kernel
theorem dX1_compareShares_1 : decode cX1_compareShares 1 = .ok (.getfield 15, 3) := by decide +kernel
theorem dX1_compareShares_4 : decode cX1_compareShares 4 = .ok (.iload_n 1, 1) := by decide +kernel
theorem dX1_compareShares_5 : decode cX1_compareShares 5 = .ok (.iaload, 1) := by decide +kernel
theorem dX1_compareShares_6 : decode cX1_compareShares 6 = .ok (.aload_n 0, 1) := by decide +kernel
theorem dX1_compareShares_7 : decode cX1_compareShares 7 = .ok (.getfield 9, 3) := by decide +kernel
theorem dX1_compareShares_10 : decode cX1_compareShares 10 = .ok (.iload_n 2, 1) := by decide +kernel
theorem dX1_compareShares_11 : decode cX1_compareShares 11 = .ok (.iaload, 1) := by decide +kernel
theorem dX1_compareShares_12 : decode cX1_compareShares 12 = .ok (.imul, 1) := by decide +kernel
theorem dX1_compareShares_13 : decode cX1_compareShares 13 = .ok (.aload_n 0, 1) := by decide +kernel
theorem dX1_compareShares_14 : decode cX1_compareShares 14 = .ok (.getfield 15, 3) := by decide +kernel
theorem dX1_compareShares_17 : decode cX1_compareShares 17 = .ok (.iload_n 2, 1) := by decide +kernel
theorem dX1_compareShares_18 : decode cX1_compareShares 18 = .ok (.iaload, 1) := by decide +kernel
theorem dX1_compareShares_19 : decode cX1_compareShares 19 = .ok (.aload_n 0, 1) := by decide +kernel
theorem dX1_compareShares_20 : decode cX1_compareShares 20 = .ok (.getfield 9, 3) := by decide +kernel
theorem dX1_compareShares_23 : decode cX1_compareShares 23 = .ok (.iload_n 1, 1) := by decide +kernel
theorem dX1_compareShares_24 : decode cX1_compareShares 24 = .ok (.iaload, 1) := by decide +kernel
theorem dX1_compareShares_25 : decode cX1_compareShares 25 = .ok (.imul, 1) := by decide +kernel
theorem dX1_compareShares_26 : decode cX1_compareShares 26 = .ok (.invokestatic 79, 3) := by decide +kernel
theorem dX1_compareShares_29 : decode cX1_compareShares 29 = .ok (.ireturn, 1) := by decide +kernel
theorem dX1_outOfTie_0 : decode cX1_outOfTie 0 = .ok (.iload_n 1, 1) := by decide +kernel
theorem dX1_outOfTie_1 : decode cX1_outOfTie 1 = .ok (.lookupswitch 53 #[(97, 35), (100, 37), (115, 45)], 35) := by decide +kernel
theorem dX1_outOfTie_36 : decode cX1_outOfTie 36 = .ok (.iload_n 2, 1) := by decide +kernel
theorem dX1_outOfTie_37 : decode cX1_outOfTie 37 = .ok (.ireturn, 1) := by decide +kernel
theorem dX1_outOfTie_38 : decode cX1_outOfTie 38 = .ok (.aload_n 0, 1) := by decide +kernel
theorem dX1_outOfTie_39 : decode cX1_outOfTie 39 = .ok (.iload_n 2, 1) := by decide +kernel
theorem dX1_outOfTie_40 : decode cX1_outOfTie 40 = .ok (.iload_n 3, 1) := by decide +kernel
theorem dX1_outOfTie_41 : decode cX1_outOfTie 41 = .ok (.iconst 0, 1) := by decide +kernel
theorem dX1_outOfTie_42 : decode cX1_outOfTie 42 = .ok (.invokevirtual 84, 3) := by decide +kernel
theorem dX1_outOfTie_45 : decode cX1_outOfTie 45 = .ok (.ireturn, 1) := by decide +kernel
theorem dX1_outOfTie_46 : decode cX1_outOfTie 46 = .ok (.aload_n 0, 1) := by decide +kernel
theorem dX1_outOfTie_47 : decode cX1_outOfTie 47 = .ok (.iload_n 2, 1) := by decide +kernel
theorem dX1_outOfTie_48 : decode cX1_outOfTie 48 = .ok (.iload_n 3, 1) := by decide +kernel
theorem dX1_outOfTie_49 : decode cX1_outOfTie 49 = .ok (.iconst 1, 1) := by decide +kernel
theorem dX1_outOfTie_50 : decode cX1_outOfTie 50 = .ok (.invokevirtual 84, 3) := by decide +kernel
theorem dX1_outOfTie_53 : decode cX1_outOfTie 53 = .ok (.ireturn, 1) := by decide +kernel
theorem dX1_outOfTie_54 : decode cX1_outOfTie 54 = .ok (.iconst 0, 1) := by decide +kernel
theorem dX1_outOfTie_55 : decode cX1_outOfTie 55 = .ok (.ireturn, 1) := by decide +kernel
theorem dX1_firstOf_0 : decode cX1_firstOf 0 = .ok (.iconst 0, 1) := by decide +kernel
theorem dX1_firstOf_1 : decode cX1_firstOf 1 = .ok (.istore 4, 2) := by decide +kernel
theorem dX1_firstOf_3 : decode cX1_firstOf 3 = .ok (.iconst 0, 1) := by decide +kernel
theorem dX1_firstOf_4 : decode cX1_firstOf 4 = .ok (.istore 5, 2) := by decide +kernel
theorem dX1_firstOf_6 : decode cX1_firstOf 6 = .ok (.iload 5, 2) := by decide +kernel
theorem dX1_firstOf_8 : decode cX1_firstOf 8 = .ok (.aload_n 0, 1) := by decide +kernel
theorem dX1_firstOf_9 : decode cX1_firstOf 9 = .ok (.getfield 21, 3) := by decide +kernel
theorem dX1_firstOf_12 : decode cX1_firstOf 12 = .ok (.getfield 29, 3) := by decide +kernel
theorem dX1_firstOf_15 : decode cX1_firstOf 15 = .ok (.if_icmp .ge 39, 3) := by decide +kernel
theorem dX1_firstOf_18 : decode cX1_firstOf 18 = .ok (.iload_n 1, 1) := by decide +kernel
theorem dX1_firstOf_19 : decode cX1_firstOf 19 = .ok (.iload 5, 2) := by decide +kernel
theorem dX1_firstOf_21 : decode cX1_firstOf 21 = .ok (.invokestatic 54, 3) := by decide +kernel
theorem dX1_firstOf_24 : decode cX1_firstOf 24 = .ok (.ifCond .eq 24, 3) := by decide +kernel
theorem dX1_firstOf_27 : decode cX1_firstOf 27 = .ok (.aload_n 0, 1) := by decide +kernel
theorem dX1_firstOf_28 : decode cX1_firstOf 28 = .ok (.iload_n 1, 1) := by decide +kernel
theorem dX1_firstOf_29 : decode cX1_firstOf 29 = .ok (.iload 5, 2) := by decide +kernel
theorem dX1_firstOf_31 : decode cX1_firstOf 31 = .ok (.iload_n 3, 1) := by decide +kernel
theorem dX1_firstOf_32 : decode cX1_firstOf 32 = .ok (.invokevirtual 88, 3) := by decide +kernel
theorem dX1_firstOf_35 : decode cX1_firstOf 35 = .ok (.iload_n 2, 1) := by decide +kernel
theorem dX1_firstOf_36 : decode cX1_firstOf 36 = .ok (.if_icmp .ge 12, 3) := by decide +kernel
theorem dX1_firstOf_39 : decode cX1_firstOf 39 = .ok (.iload 4, 2) := by decide +kernel
theorem dX1_firstOf_41 : decode cX1_firstOf 41 = .ok (.iconst 1, 1) := by decide +kernel
theorem dX1_firstOf_42 : decode cX1_firstOf 42 = .ok (.iload 5, 2) := by decide +kernel
theorem dX1_firstOf_44 : decode cX1_firstOf 44 = .ok (.ishl, 1) := by decide +kernel
theorem dX1_firstOf_45 : decode cX1_firstOf 45 = .ok (.ior, 1) := by decide +kernel
theorem dX1_firstOf_46 : decode cX1_firstOf 46 = .ok (.istore 4, 2) := by decide +kernel
theorem dX1_firstOf_48 : decode cX1_firstOf 48 = .ok (.iinc 5 1, 3) := by decide +kernel
theorem dX1_firstOf_51 : decode cX1_firstOf 51 = .ok (.goto (-45), 3) := by decide +kernel
theorem dX1_firstOf_54 : decode cX1_firstOf 54 = .ok (.iload 4, 2) := by decide +kernel
theorem dX1_firstOf_56 : decode cX1_firstOf 56 = .ok (.ireturn, 1) := by decide +kernel
theorem dX1_ahead_0 : decode cX1_ahead 0 = .ok (.iconst 0, 1) := by decide +kernel
theorem dX1_ahead_1 : decode cX1_ahead 1 = .ok (.istore 4, 2) := by decide +kernel
theorem dX1_ahead_3 : decode cX1_ahead 3 = .ok (.iconst 0, 1) := by decide +kernel
theorem dX1_ahead_4 : decode cX1_ahead 4 = .ok (.istore 5, 2) := by decide +kernel
theorem dX1_ahead_6 : decode cX1_ahead 6 = .ok (.iload 5, 2) := by decide +kernel
theorem dX1_ahead_8 : decode cX1_ahead 8 = .ok (.aload_n 0, 1) := by decide +kernel
theorem dX1_ahead_9 : decode cX1_ahead 9 = .ok (.getfield 21, 3) := by decide +kernel
theorem dX1_ahead_12 : decode cX1_ahead 12 = .ok (.getfield 29, 3) := by decide +kernel
theorem dX1_ahead_15 : decode cX1_ahead 15 = .ok (.if_icmp .ge 32, 3) := by decide +kernel
theorem dX1_ahead_18 : decode cX1_ahead 18 = .ok (.iload_n 1, 1) := by decide +kernel
theorem dX1_ahead_19 : decode cX1_ahead 19 = .ok (.iload 5, 2) := by decide +kernel
theorem dX1_ahead_21 : decode cX1_ahead 21 = .ok (.invokestatic 54, 3) := by decide +kernel
theorem dX1_ahead_24 : decode cX1_ahead 24 = .ok (.ifCond .eq 17, 3) := by decide +kernel
theorem dX1_ahead_27 : decode cX1_ahead 27 = .ok (.aload_n 0, 1) := by decide +kernel
theorem dX1_ahead_28 : decode cX1_ahead 28 = .ok (.iload 5, 2) := by decide +kernel
theorem dX1_ahead_30 : decode cX1_ahead 30 = .ok (.iload_n 2, 1) := by decide +kernel
theorem dX1_ahead_31 : decode cX1_ahead 31 = .ok (.iload_n 3, 1) := by decide +kernel
theorem dX1_ahead_32 : decode cX1_ahead 32 = .ok (.invokevirtual 91, 3) := by decide +kernel
theorem dX1_ahead_35 : decode cX1_ahead 35 = .ok (.ifCond .eq 6, 3) := by decide +kernel
theorem dX1_ahead_38 : decode cX1_ahead 38 = .ok (.iinc 4 1, 3) := by decide +kernel
theorem dX1_ahead_41 : decode cX1_ahead 41 = .ok (.iinc 5 1, 3) := by decide +kernel
theorem dX1_ahead_44 : decode cX1_ahead 44 = .ok (.goto (-38), 3) := by decide +kernel
theorem dX1_ahead_47 : decode cX1_ahead 47 = .ok (.iload 4, 2) := by decide +kernel
theorem dX1_ahead_49 : decode cX1_ahead 49 = .ok (.ireturn, 1) := by decide +kernel
theorem dX1_isBefore_0 : decode cX1_isBefore 0 = .ok (.iload_n 3, 1) := by decide +kernel
theorem dX1_isBefore_1 : decode cX1_isBefore 1 = .ok (.ifCond .eq 39, 3) := by decide +kernel
theorem dX1_isBefore_4 : decode cX1_isBefore 4 = .ok (.aload_n 0, 1) := by decide +kernel
theorem dX1_isBefore_5 : decode cX1_isBefore 5 = .ok (.getfield 18, 3) := by decide +kernel
theorem dX1_isBefore_8 : decode cX1_isBefore 8 = .ok (.iload_n 1, 1) := by decide +kernel
theorem dX1_isBefore_9 : decode cX1_isBefore 9 = .ok (.iaload, 1) := by decide +kernel
theorem dX1_isBefore_10 : decode cX1_isBefore 10 = .ok (.aload_n 0, 1) := by decide +kernel
theorem dX1_isBefore_11 : decode cX1_isBefore 11 = .ok (.getfield 18, 3) := by decide +kernel
theorem dX1_isBefore_14 : decode cX1_isBefore 14 = .ok (.iload_n 2, 1) := by decide +kernel
theorem dX1_isBefore_15 : decode cX1_isBefore 15 = .ok (.iaload, 1) := by decide +kernel
theorem dX1_isBefore_16 : decode cX1_isBefore 16 = .ok (.if_icmp .eq 24, 3) := by decide +kernel
theorem dX1_isBefore_19 : decode cX1_isBefore 19 = .ok (.aload_n 0, 1) := by decide +kernel
theorem dX1_isBefore_20 : decode cX1_isBefore 20 = .ok (.getfield 18, 3) := by decide +kernel
theorem dX1_isBefore_23 : decode cX1_isBefore 23 = .ok (.iload_n 1, 1) := by decide +kernel
theorem dX1_isBefore_24 : decode cX1_isBefore 24 = .ok (.iaload, 1) := by decide +kernel
theorem dX1_isBefore_25 : decode cX1_isBefore 25 = .ok (.aload_n 0, 1) := by decide +kernel
theorem dX1_isBefore_26 : decode cX1_isBefore 26 = .ok (.getfield 18, 3) := by decide +kernel
theorem dX1_isBefore_29 : decode cX1_isBefore 29 = .ok (.iload_n 2, 1) := by decide +kernel
theorem dX1_isBefore_30 : decode cX1_isBefore 30 = .ok (.iaload, 1) := by decide +kernel
theorem dX1_isBefore_31 : decode cX1_isBefore 31 = .ok (.if_icmp .le 7, 3) := by decide +kernel
theorem dX1_isBefore_34 : decode cX1_isBefore 34 = .ok (.iconst 1, 1) := by decide +kernel
theorem dX1_isBefore_35 : decode cX1_isBefore 35 = .ok (.goto 4, 3) := by decide +kernel
theorem dX1_isBefore_38 : decode cX1_isBefore 38 = .ok (.iconst 0, 1) := by decide +kernel
theorem dX1_isBefore_39 : decode cX1_isBefore 39 = .ok (.ireturn, 1) := by decide +kernel
theorem dX1_isBefore_40 : decode cX1_isBefore 40 = .ok (.aload_n 0, 1) := by decide +kernel
theorem dX1_isBefore_41 : decode cX1_isBefore 41 = .ok (.getfield 21, 3) := by decide +kernel
theorem dX1_isBefore_44 : decode cX1_isBefore 44 = .ok (.getfield 95, 3) := by decide +kernel
theorem dX1_isBefore_47 : decode cX1_isBefore 47 = .ok (.iload_n 1, 1) := by decide +kernel
theorem dX1_isBefore_48 : decode cX1_isBefore 48 = .ok (.iaload, 1) := by decide +kernel
theorem dX1_isBefore_49 : decode cX1_isBefore 49 = .ok (.aload_n 0, 1) := by decide +kernel
theorem dX1_isBefore_50 : decode cX1_isBefore 50 = .ok (.getfield 21, 3) := by decide +kernel
theorem dX1_isBefore_53 : decode cX1_isBefore 53 = .ok (.getfield 95, 3) := by decide +kernel
theorem dX1_isBefore_56 : decode cX1_isBefore 56 = .ok (.iload_n 2, 1) := by decide +kernel
theorem dX1_isBefore_57 : decode cX1_isBefore 57 = .ok (.iaload, 1) := by decide +kernel
theorem dX1_isBefore_58 : decode cX1_isBefore 58 = .ok (.if_icmp .ge 7, 3) := by decide +kernel
theorem dX1_isBefore_61 : decode cX1_isBefore 61 = .ok (.iconst 1, 1) := by decide +kernel
theorem dX1_isBefore_62 : decode cX1_isBefore 62 = .ok (.goto 4, 3) := by decide +kernel
theorem dX1_isBefore_65 : decode cX1_isBefore 65 = .ok (.iconst 0, 1) := by decide +kernel
theorem dX1_isBefore_66 : decode cX1_isBefore 66 = .ok (.ireturn, 1) := by decide +kernel
theorem dX1_has_0 : decode cX1_has 0 = .ok (.iload_n 0, 1) := by decide +kernel
theorem dX1_has_1 : decode cX1_has 1 = .ok (.iload_n 1, 1) := by decide +kernel
theorem dX1_has_2 : decode cX1_has 2 = .ok (.ishr, 1) := by decide +kernel
theorem dX1_has_3 : decode cX1_has 3 = .ok (.iconst 1, 1) := by decide +kernel
theorem dX1_has_4 : decode cX1_has 4 = .ok (.iand, 1) := by decide +kernel
theorem dX1_has_5 : decode cX1_has 5 = .ok (.ifCond .eq 7, 3) := by decide +kernel
theorem dX1_has_8 : decode cX1_has 8 = .ok (.iconst 1, 1) := by decide +kernel
theorem dX1_has_9 : decode cX1_has 9 = .ok (.goto 4, 3) := by decide +kernel
theorem dX1_has_12 : decode cX1_has 12 = .ok (.iconst 0, 1) := by decide +kernel
theorem dX1_has_13 : decode cX1_has 13 = .ok (.ireturn, 1) := by decide +kernel
theorem dX2_keep_0 : decode cX2_keep 0 = .ok (.aload_n 0, 1) := by decide +kernel
theorem dX2_keep_1 : decode cX2_keep 1 = .ok (.getfield 11, 3) := by decide +kernel
theorem dX2_keep_4 : decode cX2_keep 4 = .ok (.aload_n 0, 1) := by decide +kernel
theorem dX2_keep_5 : decode cX2_keep 5 = .ok (.getfield 21, 3) := by decide +kernel
theorem dX2_keep_8 : decode cX2_keep 8 = .ok (.iload_n 1, 1) := by decide +kernel
theorem dX2_keep_9 : decode cX2_keep 9 = .ok (.iastore, 1) := by decide +kernel
theorem dX2_keep_10 : decode cX2_keep 10 = .ok (.aload_n 0, 1) := by decide +kernel
theorem dX2_keep_11 : decode cX2_keep 11 = .ok (.getfield 15, 3) := by decide +kernel
theorem dX2_keep_14 : decode cX2_keep 14 = .ok (.aload_n 0, 1) := by decide +kernel
theorem dX2_keep_15 : decode cX2_keep 15 = .ok (.getfield 21, 3) := by decide +kernel
theorem dX2_keep_18 : decode cX2_keep 18 = .ok (.iload_n 2, 1) := by decide +kernel
theorem dX2_keep_19 : decode cX2_keep 19 = .ok (.iastore, 1) := by decide +kernel
theorem dX2_keep_20 : decode cX2_keep 20 = .ok (.aload_n 0, 1) := by decide +kernel
theorem dX2_keep_21 : decode cX2_keep 21 = .ok (.getfield 18, 3) := by decide +kernel
theorem dX2_keep_24 : decode cX2_keep 24 = .ok (.aload_n 0, 1) := by decide +kernel
theorem dX2_keep_25 : decode cX2_keep 25 = .ok (.getfield 21, 3) := by decide +kernel
theorem dX2_keep_28 : decode cX2_keep 28 = .ok (.iload_n 3, 1) := by decide +kernel
theorem dX2_keep_29 : decode cX2_keep 29 = .ok (.iastore, 1) := by decide +kernel
theorem dX2_keep_30 : decode cX2_keep 30 = .ok (.aload_n 0, 1) := by decide +kernel
theorem dX2_keep_31 : decode cX2_keep 31 = .ok (.dup, 1) := by decide +kernel
theorem dX2_keep_32 : decode cX2_keep 32 = .ok (.getfield 21, 3) := by decide +kernel
theorem dX2_keep_35 : decode cX2_keep 35 = .ok (.iconst 1, 1) := by decide +kernel
theorem dX2_keep_36 : decode cX2_keep 36 = .ok (.iadd, 1) := by decide +kernel
theorem dX2_keep_37 : decode cX2_keep 37 = .ok (.putfield 21, 3) := by decide +kernel
theorem dX2_keep_40 : decode cX2_keep 40 = .ok (.aload_n 0, 1) := by decide +kernel
theorem dX2_keep_41 : decode cX2_keep 41 = .ok (.getfield 21, 3) := by decide +kernel
theorem dX2_keep_44 : decode cX2_keep 44 = .ok (.ireturn, 1) := by decide +kernel
theorem dX2_howOften_0 : decode cX2_howOften 0 = .ok (.iconst 0, 1) := by decide +kernel
theorem dX2_howOften_1 : decode cX2_howOften 1 = .ok (.istore_n 2, 1) := by decide +kernel
theorem dX2_howOften_2 : decode cX2_howOften 2 = .ok (.iconst 0, 1) := by decide +kernel
theorem dX2_howOften_3 : decode cX2_howOften 3 = .ok (.istore_n 3, 1) := by decide +kernel
theorem dX2_howOften_4 : decode cX2_howOften 4 = .ok (.iload_n 3, 1) := by decide +kernel
theorem dX2_howOften_5 : decode cX2_howOften 5 = .ok (.aload_n 0, 1) := by decide +kernel
theorem dX2_howOften_6 : decode cX2_howOften 6 = .ok (.getfield 21, 3) := by decide +kernel
theorem dX2_howOften_9 : decode cX2_howOften 9 = .ok (.if_icmp .ge 22, 3) := by decide +kernel
theorem dX2_howOften_12 : decode cX2_howOften 12 = .ok (.aload_n 0, 1) := by decide +kernel
theorem dX2_howOften_13 : decode cX2_howOften 13 = .ok (.getfield 11, 3) := by decide +kernel
theorem dX2_howOften_16 : decode cX2_howOften 16 = .ok (.iload_n 3, 1) := by decide +kernel
theorem dX2_howOften_17 : decode cX2_howOften 17 = .ok (.iaload, 1) := by decide +kernel
theorem dX2_howOften_18 : decode cX2_howOften 18 = .ok (.iload_n 1, 1) := by decide +kernel
theorem dX2_howOften_19 : decode cX2_howOften 19 = .ok (.if_icmp .ne 6, 3) := by decide +kernel
theorem dX2_howOften_22 : decode cX2_howOften 22 = .ok (.iinc 2 1, 3) := by decide +kernel
theorem dX2_howOften_25 : decode cX2_howOften 25 = .ok (.iinc 3 1, 3) := by decide +kernel
theorem dX2_howOften_28 : decode cX2_howOften 28 = .ok (.goto (-24), 3) := by decide +kernel
theorem dX2_howOften_31 : decode cX2_howOften 31 = .ok (.iload_n 2, 1) := by decide +kernel
theorem dX2_howOften_32 : decode cX2_howOften 32 = .ok (.ireturn, 1) := by decide +kernel
theorem dX2_greatest_0 : decode cX2_greatest 0 = .ok (.iconst (-1), 1) := by decide +kernel
theorem dX2_greatest_1 : decode cX2_greatest 1 = .ok (.istore_n 3, 1) := by decide +kernel
theorem dX2_greatest_2 : decode cX2_greatest 2 = .ok (.iconst 0, 1) := by decide +kernel
theorem dX2_greatest_3 : decode cX2_greatest 3 = .ok (.istore 4, 2) := by decide +kernel
theorem dX2_greatest_5 : decode cX2_greatest 5 = .ok (.iload 4, 2) := by decide +kernel
theorem dX2_greatest_7 : decode cX2_greatest 7 = .ok (.aload_n 0, 1) := by decide +kernel
theorem dX2_greatest_8 : decode cX2_greatest 8 = .ok (.getfield 21, 3) := by decide +kernel
theorem dX2_greatest_11 : decode cX2_greatest 11 = .ok (.if_icmp .ge 29, 3) := by decide +kernel
theorem dX2_greatest_14 : decode cX2_greatest 14 = .ok (.aload_n 0, 1) := by decide +kernel
theorem dX2_greatest_15 : decode cX2_greatest 15 = .ok (.getfield 11, 3) := by decide +kernel
theorem dX2_greatest_18 : decode cX2_greatest 18 = .ok (.iload 4, 2) := by decide +kernel
theorem dX2_greatest_20 : decode cX2_greatest 20 = .ok (.iaload, 1) := by decide +kernel
theorem dX2_greatest_21 : decode cX2_greatest 21 = .ok (.iload_n 1, 1) := by decide +kernel
theorem dX2_greatest_22 : decode cX2_greatest 22 = .ok (.if_icmp .ne 12, 3) := by decide +kernel
theorem dX2_greatest_25 : decode cX2_greatest 25 = .ok (.iload_n 3, 1) := by decide +kernel
theorem dX2_greatest_26 : decode cX2_greatest 26 = .ok (.aload_n 2, 1) := by decide +kernel
theorem dX2_greatest_27 : decode cX2_greatest 27 = .ok (.iload 4, 2) := by decide +kernel
theorem dX2_greatest_29 : decode cX2_greatest 29 = .ok (.iaload, 1) := by decide +kernel
theorem dX2_greatest_30 : decode cX2_greatest 30 = .ok (.invokestatic 25, 3) := by decide +kernel
theorem dX2_greatest_33 : decode cX2_greatest 33 = .ok (.istore_n 3, 1) := by decide +kernel
theorem dX2_greatest_34 : decode cX2_greatest 34 = .ok (.iinc 4 1, 3) := by decide +kernel
theorem dX2_greatest_37 : decode cX2_greatest 37 = .ok (.goto (-32), 3) := by decide +kernel
theorem dX2_greatest_40 : decode cX2_greatest 40 = .ok (.iload_n 3, 1) := by decide +kernel
theorem dX2_greatest_41 : decode cX2_greatest 41 = .ok (.ireturn, 1) := by decide +kernel
theorem dX3_tell_0 : decode cX3_tell 0 = .ok (.aload_n 0, 1) := by decide +kernel
theorem dX3_tell_1 : decode cX3_tell 1 = .ok (.iload_n 1, 1) := by decide +kernel
theorem dX3_tell_2 : decode cX3_tell 2 = .ok (.invokevirtual 21, 3) := by decide +kernel
theorem dX3_tell_5 : decode cX3_tell 5 = .ok (.iload_n 2, 1) := by decide +kernel
theorem dX3_tell_6 : decode cX3_tell 6 = .ok (.aload_n 0, 1) := by decide +kernel
theorem dX3_tell_7 : decode cX3_tell 7 = .ok (.getfield 7, 3) := by decide +kernel
theorem dX3_tell_10 : decode cX3_tell 10 = .ok (.arraylength, 1) := by decide +kernel
theorem dX3_tell_11 : decode cX3_tell 11 = .ok (.if_icmp .ge 10, 3) := by decide +kernel
theorem dX3_tell_14 : decode cX3_tell 14 = .ok (.aload_n 0, 1) := by decide +kernel
theorem dX3_tell_15 : decode cX3_tell 15 = .ok (.getfield 7, 3) := by decide +kernel
theorem dX3_tell_18 : decode cX3_tell 18 = .ok (.iload_n 2, 1) := by decide +kernel
theorem dX3_tell_19 : decode cX3_tell 19 = .ok (.iaload, 1) := by decide +kernel
theorem dX3_tell_20 : decode cX3_tell 20 = .ok (.ireturn, 1) := by decide +kernel
theorem dX3_tell_21 : decode cX3_tell 21 = .ok (.aload_n 0, 1) := by decide +kernel
theorem dX3_tell_22 : decode cX3_tell 22 = .ok (.getfield 7, 3) := by decide +kernel
theorem dX3_tell_25 : decode cX3_tell 25 = .ok (.iconst 0, 1) := by decide +kernel
theorem dX3_tell_26 : decode cX3_tell 26 = .ok (.iaload, 1) := by decide +kernel
theorem dX3_tell_27 : decode cX3_tell 27 = .ok (.aload_n 0, 1) := by decide +kernel
theorem dX3_tell_28 : decode cX3_tell 28 = .ok (.getfield 7, 3) := by decide +kernel
theorem dX3_tell_31 : decode cX3_tell 31 = .ok (.iconst 1, 1) := by decide +kernel
theorem dX3_tell_32 : decode cX3_tell 32 = .ok (.iaload, 1) := by decide +kernel
theorem dX3_tell_33 : decode cX3_tell 33 = .ok (.aload_n 0, 1) := by decide +kernel
theorem dX3_tell_34 : decode cX3_tell 34 = .ok (.getfield 7, 3) := by decide +kernel
theorem dX3_tell_37 : decode cX3_tell 37 = .ok (.iconst 2, 1) := by decide +kernel
theorem dX3_tell_38 : decode cX3_tell 38 = .ok (.iaload, 1) := by decide +kernel
theorem dX3_tell_39 : decode cX3_tell 39 = .ok (.aload_n 0, 1) := by decide +kernel
theorem dX3_tell_40 : decode cX3_tell 40 = .ok (.getfield 7, 3) := by decide +kernel
theorem dX3_tell_43 : decode cX3_tell 43 = .ok (.iconst 3, 1) := by decide +kernel
theorem dX3_tell_44 : decode cX3_tell 44 = .ok (.iaload, 1) := by decide +kernel
theorem dX3_tell_45 : decode cX3_tell 45 = .ok (.invokestatic 25, 3) := by decide +kernel
theorem dX3_tell_48 : decode cX3_tell 48 = .ok (.ireturn, 1) := by decide +kernel
theorem dX3_fill_0 : decode cX3_fill 0 = .ok (.iconst 0, 1) := by decide +kernel
theorem dX3_fill_1 : decode cX3_fill 1 = .ok (.istore_n 2, 1) := by decide +kernel
theorem dX3_fill_2 : decode cX3_fill 2 = .ok (.iload_n 2, 1) := by decide +kernel
theorem dX3_fill_3 : decode cX3_fill 3 = .ok (.aload_n 0, 1) := by decide +kernel
theorem dX3_fill_4 : decode cX3_fill 4 = .ok (.getfield 7, 3) := by decide +kernel
theorem dX3_fill_7 : decode cX3_fill 7 = .ok (.arraylength, 1) := by decide +kernel
theorem dX3_fill_8 : decode cX3_fill 8 = .ok (.if_icmp .ge 16, 3) := by decide +kernel
theorem dX3_fill_11 : decode cX3_fill 11 = .ok (.aload_n 0, 1) := by decide +kernel
theorem dX3_fill_12 : decode cX3_fill 12 = .ok (.getfield 7, 3) := by decide +kernel
theorem dX3_fill_15 : decode cX3_fill 15 = .ok (.iload_n 2, 1) := by decide +kernel
theorem dX3_fill_16 : decode cX3_fill 16 = .ok (.iconst 0, 1) := by decide +kernel
theorem dX3_fill_17 : decode cX3_fill 17 = .ok (.iastore, 1) := by decide +kernel
theorem dX3_fill_18 : decode cX3_fill 18 = .ok (.iinc 2 1, 3) := by decide +kernel
theorem dX3_fill_21 : decode cX3_fill 21 = .ok (.goto (-19), 3) := by decide +kernel
theorem dX3_fill_24 : decode cX3_fill 24 = .ok (.iconst 0, 1) := by decide +kernel
theorem dX3_fill_25 : decode cX3_fill 25 = .ok (.istore_n 2, 1) := by decide +kernel
theorem dX3_fill_26 : decode cX3_fill 26 = .ok (.iload_n 2, 1) := by decide +kernel
theorem dX3_fill_27 : decode cX3_fill 27 = .ok (.aload_n 0, 1) := by decide +kernel
theorem dX3_fill_28 : decode cX3_fill 28 = .ok (.getfield 13, 3) := by decide +kernel
theorem dX3_fill_31 : decode cX3_fill 31 = .ok (.getfield 31, 3) := by decide +kernel
theorem dX3_fill_34 : decode cX3_fill 34 = .ok (.if_icmp .ge 107, 3) := by decide +kernel
theorem dX3_fill_37 : decode cX3_fill 37 = .ok (.aload_n 0, 1) := by decide +kernel
theorem dX3_fill_38 : decode cX3_fill 38 = .ok (.getfield 13, 3) := by decide +kernel
theorem dX3_fill_41 : decode cX3_fill 41 = .ok (.aload_n 0, 1) := by decide +kernel
theorem dX3_fill_42 : decode cX3_fill 42 = .ok (.getfield 13, 3) := by decide +kernel
theorem dX3_fill_45 : decode cX3_fill 45 = .ok (.getfield 37, 3) := by decide +kernel
theorem dX3_fill_48 : decode cX3_fill 48 = .ok (.iload_n 2, 1) := by decide +kernel
theorem dX3_fill_49 : decode cX3_fill 49 = .ok (.iaload, 1) := by decide +kernel
theorem dX3_fill_50 : decode cX3_fill 50 = .ok (.iload_n 1, 1) := by decide +kernel
theorem dX3_fill_51 : decode cX3_fill 51 = .ok (.invokevirtual 40, 3) := by decide +kernel
theorem dX3_fill_54 : decode cX3_fill 54 = .ok (.istore_n 3, 1) := by decide +kernel
theorem dX3_fill_55 : decode cX3_fill 55 = .ok (.aload_n 0, 1) := by decide +kernel
theorem dX3_fill_56 : decode cX3_fill 56 = .ok (.getfield 13, 3) := by decide +kernel
theorem dX3_fill_59 : decode cX3_fill 59 = .ok (.aload_n 0, 1) := by decide +kernel
theorem dX3_fill_60 : decode cX3_fill 60 = .ok (.getfield 13, 3) := by decide +kernel
theorem dX3_fill_63 : decode cX3_fill 63 = .ok (.getfield 37, 3) := by decide +kernel
theorem dX3_fill_66 : decode cX3_fill 66 = .ok (.iload_n 2, 1) := by decide +kernel
theorem dX3_fill_67 : decode cX3_fill 67 = .ok (.iaload, 1) := by decide +kernel
theorem dX3_fill_68 : decode cX3_fill 68 = .ok (.iload_n 1, 1) := by decide +kernel
theorem dX3_fill_69 : decode cX3_fill 69 = .ok (.invokevirtual 44, 3) := by decide +kernel
theorem dX3_fill_72 : decode cX3_fill 72 = .ok (.istore 4, 2) := by decide +kernel
theorem dX3_fill_74 : decode cX3_fill 74 = .ok (.iload_n 2, 1) := by decide +kernel
theorem dX3_fill_75 : decode cX3_fill 75 = .ok (.aload_n 0, 1) := by decide +kernel
theorem dX3_fill_76 : decode cX3_fill 76 = .ok (.getfield 13, 3) := by decide +kernel
theorem dX3_fill_79 : decode cX3_fill 79 = .ok (.getfield 31, 3) := by decide +kernel
theorem dX3_fill_82 : decode cX3_fill 82 = .ok (.iconst 2, 1) := by decide +kernel
theorem dX3_fill_83 : decode cX3_fill 83 = .ok (.idiv, 1) := by decide +kernel
theorem dX3_fill_84 : decode cX3_fill 84 = .ok (.if_icmp .ge 7, 3) := by decide +kernel
theorem dX3_fill_87 : decode cX3_fill 87 = .ok (.iconst 0, 1) := by decide +kernel
theorem dX3_fill_88 : decode cX3_fill 88 = .ok (.goto 4, 3) := by decide +kernel
theorem dX3_fill_91 : decode cX3_fill 91 = .ok (.iconst 2, 1) := by decide +kernel
theorem dX3_fill_92 : decode cX3_fill 92 = .ok (.istore 5, 2) := by decide +kernel
theorem dX3_fill_94 : decode cX3_fill 94 = .ok (.iload_n 3, 1) := by decide +kernel
theorem dX3_fill_95 : decode cX3_fill 95 = .ok (.ifCond .le 40, 3) := by decide +kernel
theorem dX3_fill_98 : decode cX3_fill 98 = .ok (.aload_n 0, 1) := by decide +kernel
theorem dX3_fill_99 : decode cX3_fill 99 = .ok (.getfield 7, 3) := by decide +kernel
theorem dX3_fill_102 : decode cX3_fill 102 = .ok (.bipush 100, 2) := by decide +kernel
theorem dX3_fill_104 : decode cX3_fill 104 = .ok (.iload 4, 2) := by decide +kernel
theorem dX3_fill_106 : decode cX3_fill 106 = .ok (.imul, 1) := by decide +kernel
theorem dX3_fill_107 : decode cX3_fill 107 = .ok (.aload_n 0, 1) := by decide +kernel
theorem dX3_fill_108 : decode cX3_fill 108 = .ok (.getfield 17, 3) := by decide +kernel
theorem dX3_fill_111 : decode cX3_fill 111 = .ok (.getfield 47, 3) := by decide +kernel
theorem dX3_fill_114 : decode cX3_fill 114 = .ok (.iload_n 1, 1) := by decide +kernel
theorem dX3_fill_115 : decode cX3_fill 115 = .ok (.iaload, 1) := by decide +kernel
theorem dX3_fill_116 : decode cX3_fill 116 = .ok (.iload_n 3, 1) := by decide +kernel
theorem dX3_fill_117 : decode cX3_fill 117 = .ok (.imul, 1) := by decide +kernel
theorem dX3_fill_118 : decode cX3_fill 118 = .ok (.if_icmp .lt 8, 3) := by decide +kernel
theorem dX3_fill_121 : decode cX3_fill 121 = .ok (.iload 5, 2) := by decide +kernel
theorem dX3_fill_123 : decode cX3_fill 123 = .ok (.goto 7, 3) := by decide +kernel
theorem dX3_fill_126 : decode cX3_fill 126 = .ok (.iload 5, 2) := by decide +kernel
theorem dX3_fill_128 : decode cX3_fill 128 = .ok (.iconst 1, 1) := by decide +kernel
theorem dX3_fill_129 : decode cX3_fill 129 = .ok (.iadd, 1) := by decide +kernel
theorem dX3_fill_130 : decode cX3_fill 130 = .ok (.dup2, 1) := by decide +kernel
theorem dX3_fill_131 : decode cX3_fill 131 = .ok (.iaload, 1) := by decide +kernel
theorem dX3_fill_132 : decode cX3_fill 132 = .ok (.iconst 1, 1) := by decide +kernel
theorem dX3_fill_133 : decode cX3_fill 133 = .ok (.iadd, 1) := by decide +kernel
theorem dX3_fill_134 : decode cX3_fill 134 = .ok (.iastore, 1) := by decide +kernel
theorem dX3_fill_135 : decode cX3_fill 135 = .ok (.iinc 2 1, 3) := by decide +kernel
theorem dX3_fill_138 : decode cX3_fill 138 = .ok (.goto (-112), 3) := by decide +kernel
theorem dX3_fill_141 : decode cX3_fill 141 = .ok (.return_, 1) := by decide +kernel
theorem dX4_ofPassing_0 : decode cX4_ofPassing 0 = .ok (.lconst 0, 1) := by decide +kernel
theorem dX4_ofPassing_1 : decode cX4_ofPassing 1 = .ok (.lstore_n 3, 1) := by decide +kernel
theorem dX4_ofPassing_2 : decode cX4_ofPassing 2 = .ok (.iconst 0, 1) := by decide +kernel
theorem dX4_ofPassing_3 : decode cX4_ofPassing 3 = .ok (.istore 5, 2) := by decide +kernel
theorem dX4_ofPassing_5 : decode cX4_ofPassing 5 = .ok (.iload 5, 2) := by decide +kernel
theorem dX4_ofPassing_7 : decode cX4_ofPassing 7 = .ok (.iload_n 0, 1) := by decide +kernel
theorem dX4_ofPassing_8 : decode cX4_ofPassing 8 = .ok (.if_icmp .gt 48, 3) := by decide +kernel
theorem dX4_ofPassing_11 : decode cX4_ofPassing 11 = .ok (.bipush 100, 2) := by decide +kernel
theorem dX4_ofPassing_13 : decode cX4_ofPassing 13 = .ok (.iload 5, 2) := by decide +kernel
theorem dX4_ofPassing_15 : decode cX4_ofPassing 15 = .ok (.imul, 1) := by decide +kernel
theorem dX4_ofPassing_16 : decode cX4_ofPassing 16 = .ok (.iload_n 2, 1) := by decide +kernel
theorem dX4_ofPassing_17 : decode cX4_ofPassing 17 = .ok (.iload_n 0, 1) := by decide +kernel
theorem dX4_ofPassing_18 : decode cX4_ofPassing 18 = .ok (.imul, 1) := by decide +kernel
theorem dX4_ofPassing_19 : decode cX4_ofPassing 19 = .ok (.if_icmp .lt 31, 3) := by decide +kernel
theorem dX4_ofPassing_22 : decode cX4_ofPassing 22 = .ok (.lload_n 3, 1) := by decide +kernel
theorem dX4_ofPassing_23 : decode cX4_ofPassing 23 = .ok (.iload_n 0, 1) := by decide +kernel
theorem dX4_ofPassing_24 : decode cX4_ofPassing 24 = .ok (.iload 5, 2) := by decide +kernel
theorem dX4_ofPassing_26 : decode cX4_ofPassing 26 = .ok (.invokestatic 7, 3) := by decide +kernel
theorem dX4_ofPassing_29 : decode cX4_ofPassing 29 = .ok (.iload_n 1, 1) := by decide +kernel
theorem dX4_ofPassing_30 : decode cX4_ofPassing 30 = .ok (.iload 5, 2) := by decide +kernel
theorem dX4_ofPassing_32 : decode cX4_ofPassing 32 = .ok (.invokestatic 13, 3) := by decide +kernel
theorem dX4_ofPassing_35 : decode cX4_ofPassing 35 = .ok (.lmul, 1) := by decide +kernel
theorem dX4_ofPassing_36 : decode cX4_ofPassing 36 = .ok (.bipush 100, 2) := by decide +kernel
theorem dX4_ofPassing_38 : decode cX4_ofPassing 38 = .ok (.iload_n 1, 1) := by decide +kernel
theorem dX4_ofPassing_39 : decode cX4_ofPassing 39 = .ok (.isub, 1) := by decide +kernel
theorem dX4_ofPassing_40 : decode cX4_ofPassing 40 = .ok (.iload_n 0, 1) := by decide +kernel
theorem dX4_ofPassing_41 : decode cX4_ofPassing 41 = .ok (.iload 5, 2) := by decide +kernel
theorem dX4_ofPassing_43 : decode cX4_ofPassing 43 = .ok (.isub, 1) := by decide +kernel
theorem dX4_ofPassing_44 : decode cX4_ofPassing 44 = .ok (.invokestatic 13, 3) := by decide +kernel
theorem dX4_ofPassing_47 : decode cX4_ofPassing 47 = .ok (.lmul, 1) := by decide +kernel
theorem dX4_ofPassing_48 : decode cX4_ofPassing 48 = .ok (.ladd, 1) := by decide +kernel
theorem dX4_ofPassing_49 : decode cX4_ofPassing 49 = .ok (.lstore_n 3, 1) := by decide +kernel
theorem dX4_ofPassing_50 : decode cX4_ofPassing 50 = .ok (.iinc 5 1, 3) := by decide +kernel
theorem dX4_ofPassing_53 : decode cX4_ofPassing 53 = .ok (.goto (-48), 3) := by decide +kernel
theorem dX4_ofPassing_56 : decode cX4_ofPassing 56 = .ok (.iload_n 0, 1) := by decide +kernel
theorem dX4_ofPassing_57 : decode cX4_ofPassing 57 = .ok (.istore 5, 2) := by decide +kernel
theorem dX4_ofPassing_59 : decode cX4_ofPassing 59 = .ok (.iload 5, 2) := by decide +kernel
theorem dX4_ofPassing_61 : decode cX4_ofPassing 61 = .ok (.iconst 3, 1) := by decide +kernel
theorem dX4_ofPassing_62 : decode cX4_ofPassing 62 = .ok (.if_icmp .ge 15, 3) := by decide +kernel
theorem dX4_ofPassing_65 : decode cX4_ofPassing 65 = .ok (.lload_n 3, 1) := by decide +kernel
theorem dX4_ofPassing_66 : decode cX4_ofPassing 66 = .ok (.ldc2_w 16, 3) := by decide +kernel
theorem dX4_ofPassing_69 : decode cX4_ofPassing 69 = .ok (.lmul, 1) := by decide +kernel
theorem dX4_ofPassing_70 : decode cX4_ofPassing 70 = .ok (.lstore_n 3, 1) := by decide +kernel
theorem dX4_ofPassing_71 : decode cX4_ofPassing 71 = .ok (.iinc 5 1, 3) := by decide +kernel
theorem dX4_ofPassing_74 : decode cX4_ofPassing 74 = .ok (.goto (-15), 3) := by decide +kernel
theorem dX4_ofPassing_77 : decode cX4_ofPassing 77 = .ok (.iload_n 0, 1) := by decide +kernel
theorem dX4_ofPassing_78 : decode cX4_ofPassing 78 = .ok (.istore 5, 2) := by decide +kernel
theorem dX4_ofPassing_80 : decode cX4_ofPassing 80 = .ok (.iload 5, 2) := by decide +kernel
theorem dX4_ofPassing_82 : decode cX4_ofPassing 82 = .ok (.iconst 3, 1) := by decide +kernel
theorem dX4_ofPassing_83 : decode cX4_ofPassing 83 = .ok (.if_icmp .le 15, 3) := by decide +kernel
theorem dX4_ofPassing_86 : decode cX4_ofPassing 86 = .ok (.lload_n 3, 1) := by decide +kernel
theorem dX4_ofPassing_87 : decode cX4_ofPassing 87 = .ok (.ldc2_w 16, 3) := by decide +kernel
theorem dX4_ofPassing_90 : decode cX4_ofPassing 90 = .ok (.ldiv, 1) := by decide +kernel
theorem dX4_ofPassing_91 : decode cX4_ofPassing 91 = .ok (.lstore_n 3, 1) := by decide +kernel
theorem dX4_ofPassing_92 : decode cX4_ofPassing 92 = .ok (.iinc 5 (-1), 3) := by decide +kernel
theorem dX4_ofPassing_95 : decode cX4_ofPassing 95 = .ok (.goto (-15), 3) := by decide +kernel
theorem dX4_ofPassing_98 : decode cX4_ofPassing 98 = .ok (.lload_n 3, 1) := by decide +kernel
theorem dX4_ofPassing_99 : decode cX4_ofPassing 99 = .ok (.l2i, 1) := by decide +kernel
theorem dX4_ofPassing_100 : decode cX4_ofPassing 100 = .ok (.ireturn, 1) := by decide +kernel
theorem dX4_falseShare_0 : decode cX4_falseShare 0 = .ok (.iload_n 0, 1) := by decide +kernel
theorem dX4_falseShare_1 : decode cX4_falseShare 1 = .ok (.iload_n 1, 1) := by decide +kernel
theorem dX4_falseShare_2 : decode cX4_falseShare 2 = .ok (.iload_n 2, 1) := by decide +kernel
theorem dX4_falseShare_3 : decode cX4_falseShare 3 = .ok (.iload_n 3, 1) := by decide +kernel
theorem dX4_falseShare_4 : decode cX4_falseShare 4 = .ok (.invokestatic 18, 3) := by decide +kernel
theorem dX4_falseShare_7 : decode cX4_falseShare 7 = .ok (.istore 4, 2) := by decide +kernel
theorem dX4_falseShare_9 : decode cX4_falseShare 9 = .ok (.lconst 0, 1) := by decide +kernel
theorem dX4_falseShare_10 : decode cX4_falseShare 10 = .ok (.lstore 5, 2) := by decide +kernel
theorem dX4_falseShare_12 : decode cX4_falseShare 12 = .ok (.lconst 0, 1) := by decide +kernel
theorem dX4_falseShare_13 : decode cX4_falseShare 13 = .ok (.lstore 7, 2) := by decide +kernel
theorem dX4_falseShare_15 : decode cX4_falseShare 15 = .ok (.iconst 0, 1) := by decide +kernel
theorem dX4_falseShare_16 : decode cX4_falseShare 16 = .ok (.istore 9, 2) := by decide +kernel
theorem dX4_falseShare_18 : decode cX4_falseShare 18 = .ok (.iload 9, 2) := by decide +kernel
theorem dX4_falseShare_20 : decode cX4_falseShare 20 = .ok (.iload_n 0, 1) := by decide +kernel
theorem dX4_falseShare_21 : decode cX4_falseShare 21 = .ok (.iload_n 1, 1) := by decide +kernel
theorem dX4_falseShare_22 : decode cX4_falseShare 22 = .ok (.iadd, 1) := by decide +kernel
theorem dX4_falseShare_23 : decode cX4_falseShare 23 = .ok (.if_icmp .gt 66, 3) := by decide +kernel
theorem dX4_falseShare_26 : decode cX4_falseShare 26 = .ok (.iload_n 0, 1) := by decide +kernel
theorem dX4_falseShare_27 : decode cX4_falseShare 27 = .ok (.iload_n 2, 1) := by decide +kernel
theorem dX4_falseShare_28 : decode cX4_falseShare 28 = .ok (.iadd, 1) := by decide +kernel
theorem dX4_falseShare_29 : decode cX4_falseShare 29 = .ok (.iload 9, 2) := by decide +kernel
theorem dX4_falseShare_31 : decode cX4_falseShare 31 = .ok (.invokestatic 7, 3) := by decide +kernel
theorem dX4_falseShare_34 : decode cX4_falseShare 34 = .ok (.iload_n 1, 1) := by decide +kernel
theorem dX4_falseShare_35 : decode cX4_falseShare 35 = .ok (.iload_n 3, 1) := by decide +kernel
theorem dX4_falseShare_36 : decode cX4_falseShare 36 = .ok (.iadd, 1) := by decide +kernel
theorem dX4_falseShare_37 : decode cX4_falseShare 37 = .ok (.iload_n 0, 1) := by decide +kernel
theorem dX4_falseShare_38 : decode cX4_falseShare 38 = .ok (.iload_n 1, 1) := by decide +kernel
theorem dX4_falseShare_39 : decode cX4_falseShare 39 = .ok (.iadd, 1) := by decide +kernel
theorem dX4_falseShare_40 : decode cX4_falseShare 40 = .ok (.iload 9, 2) := by decide +kernel
theorem dX4_falseShare_42 : decode cX4_falseShare 42 = .ok (.isub, 1) := by decide +kernel
theorem dX4_falseShare_43 : decode cX4_falseShare 43 = .ok (.invokestatic 7, 3) := by decide +kernel
theorem dX4_falseShare_46 : decode cX4_falseShare 46 = .ok (.lmul, 1) := by decide +kernel
theorem dX4_falseShare_47 : decode cX4_falseShare 47 = .ok (.lstore 10, 2) := by decide +kernel
theorem dX4_falseShare_49 : decode cX4_falseShare 49 = .ok (.lload 7, 2) := by decide +kernel
theorem dX4_falseShare_51 : decode cX4_falseShare 51 = .ok (.lload 10, 2) := by decide +kernel
theorem dX4_falseShare_53 : decode cX4_falseShare 53 = .ok (.ladd, 1) := by decide +kernel
theorem dX4_falseShare_54 : decode cX4_falseShare 54 = .ok (.lstore 7, 2) := by decide +kernel
theorem dX4_falseShare_56 : decode cX4_falseShare 56 = .ok (.iload 4, 2) := by decide +kernel
theorem dX4_falseShare_58 : decode cX4_falseShare 58 = .ok (.ifCond .eq 12, 3) := by decide +kernel
theorem dX4_falseShare_61 : decode cX4_falseShare 61 = .ok (.iload 9, 2) := by decide +kernel
theorem dX4_falseShare_63 : decode cX4_falseShare 63 = .ok (.iload_n 0, 1) := by decide +kernel
theorem dX4_falseShare_64 : decode cX4_falseShare 64 = .ok (.if_icmp .lt 19, 3) := by decide +kernel
theorem dX4_falseShare_67 : decode cX4_falseShare 67 = .ok (.goto 9, 3) := by decide +kernel
theorem dX4_falseShare_70 : decode cX4_falseShare 70 = .ok (.iload 9, 2) := by decide +kernel
theorem dX4_falseShare_72 : decode cX4_falseShare 72 = .ok (.iload_n 0, 1) := by decide +kernel
theorem dX4_falseShare_73 : decode cX4_falseShare 73 = .ok (.if_icmp .gt 10, 3) := by decide +kernel
theorem dX4_falseShare_76 : decode cX4_falseShare 76 = .ok (.lload 5, 2) := by decide +kernel
theorem dX4_falseShare_78 : decode cX4_falseShare 78 = .ok (.lload 10, 2) := by decide +kernel
theorem dX4_falseShare_80 : decode cX4_falseShare 80 = .ok (.ladd, 1) := by decide +kernel
theorem dX4_falseShare_81 : decode cX4_falseShare 81 = .ok (.lstore 5, 2) := by decide +kernel
theorem dX4_falseShare_83 : decode cX4_falseShare 83 = .ok (.iinc 9 1, 3) := by decide +kernel
theorem dX4_falseShare_86 : decode cX4_falseShare 86 = .ok (.goto (-68), 3) := by decide +kernel
theorem dX4_falseShare_89 : decode cX4_falseShare 89 = .ok (.lload 5, 2) := by decide +kernel
theorem dX4_falseShare_91 : decode cX4_falseShare 91 = .ok (.lload 7, 2) := by decide +kernel
theorem dX4_falseShare_93 : decode cX4_falseShare 93 = .ok (.invokestatic 22, 3) := by decide +kernel
theorem dX4_falseShare_96 : decode cX4_falseShare 96 = .ok (.ireturn, 1) := by decide +kernel
theorem dX4_isNotBelow_0 : decode cX4_isNotBelow 0 = .ok (.iload_n 0, 1) := by decide +kernel
theorem dX4_isNotBelow_1 : decode cX4_isNotBelow 1 = .ok (.iload_n 1, 1) := by decide +kernel
theorem dX4_isNotBelow_2 : decode cX4_isNotBelow 2 = .ok (.iadd, 1) := by decide +kernel
theorem dX4_isNotBelow_3 : decode cX4_isNotBelow 3 = .ok (.ifCond .ne 13, 3) := by decide +kernel
theorem dX4_isNotBelow_6 : decode cX4_isNotBelow 6 = .ok (.iload_n 2, 1) := by decide +kernel
theorem dX4_isNotBelow_7 : decode cX4_isNotBelow 7 = .ok (.ifCond .ne 7, 3) := by decide +kernel
theorem dX4_isNotBelow_10 : decode cX4_isNotBelow 10 = .ok (.iconst 1, 1) := by decide +kernel
theorem dX4_isNotBelow_11 : decode cX4_isNotBelow 11 = .ok (.goto 4, 3) := by decide +kernel
theorem dX4_isNotBelow_14 : decode cX4_isNotBelow 14 = .ok (.iconst 0, 1) := by decide +kernel
theorem dX4_isNotBelow_15 : decode cX4_isNotBelow 15 = .ok (.ireturn, 1) := by decide +kernel
theorem dX4_isNotBelow_16 : decode cX4_isNotBelow 16 = .ok (.iload_n 0, 1) := by decide +kernel
theorem dX4_isNotBelow_17 : decode cX4_isNotBelow 17 = .ok (.iload_n 2, 1) := by decide +kernel
theorem dX4_isNotBelow_18 : decode cX4_isNotBelow 18 = .ok (.iload_n 3, 1) := by decide +kernel
theorem dX4_isNotBelow_19 : decode cX4_isNotBelow 19 = .ok (.iadd, 1) := by decide +kernel
theorem dX4_isNotBelow_20 : decode cX4_isNotBelow 20 = .ok (.imul, 1) := by decide +kernel
theorem dX4_isNotBelow_21 : decode cX4_isNotBelow 21 = .ok (.iload_n 2, 1) := by decide +kernel
theorem dX4_isNotBelow_22 : decode cX4_isNotBelow 22 = .ok (.iload_n 0, 1) := by decide +kernel
theorem dX4_isNotBelow_23 : decode cX4_isNotBelow 23 = .ok (.iload_n 1, 1) := by decide +kernel
theorem dX4_isNotBelow_24 : decode cX4_isNotBelow 24 = .ok (.iadd, 1) := by decide +kernel
theorem dX4_isNotBelow_25 : decode cX4_isNotBelow 25 = .ok (.imul, 1) := by decide +kernel
theorem dX4_isNotBelow_26 : decode cX4_isNotBelow 26 = .ok (.if_icmp .lt 7, 3) := by decide +kernel
theorem dX4_isNotBelow_29 : decode cX4_isNotBelow 29 = .ok (.iconst 1, 1) := by decide +kernel
theorem dX4_isNotBelow_30 : decode cX4_isNotBelow 30 = .ok (.goto 4, 3) := by decide +kernel
theorem dX4_isNotBelow_33 : decode cX4_isNotBelow 33 = .ok (.iconst 0, 1) := by decide +kernel
theorem dX4_isNotBelow_34 : decode cX4_isNotBelow 34 = .ok (.ireturn, 1) := by decide +kernel
theorem dX4_millionths_0 : decode cX4_millionths 0 = .ok (.lload_n 2, 1) := by decide +kernel
theorem dX4_millionths_1 : decode cX4_millionths 1 = .ok (.lconst 0, 1) := by decide +kernel
theorem dX4_millionths_2 : decode cX4_millionths 2 = .ok (.lcmp, 1) := by decide +kernel
theorem dX4_millionths_3 : decode cX4_millionths 3 = .ok (.ifCond .gt 5, 3) := by decide +kernel
theorem dX4_millionths_6 : decode cX4_millionths 6 = .ok (.iconst 0, 1) := by decide +kernel
theorem dX4_millionths_7 : decode cX4_millionths 7 = .ok (.ireturn, 1) := by decide +kernel
theorem dX4_millionths_8 : decode cX4_millionths 8 = .ok (.lload_n 0, 1) := by decide +kernel
theorem dX4_millionths_9 : decode cX4_millionths 9 = .ok (.lload_n 2, 1) := by decide +kernel
theorem dX4_millionths_10 : decode cX4_millionths 10 = .ok (.ldiv, 1) := by decide +kernel
theorem dX4_millionths_11 : decode cX4_millionths 11 = .ok (.lstore 4, 2) := by decide +kernel
theorem dX4_millionths_13 : decode cX4_millionths 13 = .ok (.lload_n 0, 1) := by decide +kernel
theorem dX4_millionths_14 : decode cX4_millionths 14 = .ok (.lload_n 2, 1) := by decide +kernel
theorem dX4_millionths_15 : decode cX4_millionths 15 = .ok (.lrem, 1) := by decide +kernel
theorem dX4_millionths_16 : decode cX4_millionths 16 = .ok (.lstore 6, 2) := by decide +kernel
theorem dX4_millionths_18 : decode cX4_millionths 18 = .ok (.iconst 0, 1) := by decide +kernel
theorem dX4_millionths_19 : decode cX4_millionths 19 = .ok (.istore 8, 2) := by decide +kernel
theorem dX4_millionths_21 : decode cX4_millionths 21 = .ok (.iload 8, 2) := by decide +kernel
theorem dX4_millionths_23 : decode cX4_millionths 23 = .ok (.bipush 6, 2) := by decide +kernel
theorem dX4_millionths_25 : decode cX4_millionths 25 = .ok (.if_icmp .ge 36, 3) := by decide +kernel
theorem dX4_millionths_28 : decode cX4_millionths 28 = .ok (.lload 6, 2) := by decide +kernel
theorem dX4_millionths_30 : decode cX4_millionths 30 = .ok (.ldc2_w 26, 3) := by decide +kernel
theorem dX4_millionths_33 : decode cX4_millionths 33 = .ok (.lmul, 1) := by decide +kernel
theorem dX4_millionths_34 : decode cX4_millionths 34 = .ok (.lstore 6, 2) := by decide +kernel
theorem dX4_millionths_36 : decode cX4_millionths 36 = .ok (.ldc2_w 26, 3) := by decide +kernel
theorem dX4_millionths_39 : decode cX4_millionths 39 = .ok (.lload 4, 2) := by decide +kernel
theorem dX4_millionths_41 : decode cX4_millionths 41 = .ok (.lmul, 1) := by decide +kernel
theorem dX4_millionths_42 : decode cX4_millionths 42 = .ok (.lload 6, 2) := by decide +kernel
theorem dX4_millionths_44 : decode cX4_millionths 44 = .ok (.lload_n 2, 1) := by decide +kernel
theorem dX4_millionths_45 : decode cX4_millionths 45 = .ok (.ldiv, 1) := by decide +kernel
theorem dX4_millionths_46 : decode cX4_millionths 46 = .ok (.ladd, 1) := by decide +kernel
theorem dX4_millionths_47 : decode cX4_millionths 47 = .ok (.lstore 4, 2) := by decide +kernel
theorem dX4_millionths_49 : decode cX4_millionths 49 = .ok (.lload 6, 2) := by decide +kernel
theorem dX4_millionths_51 : decode cX4_millionths 51 = .ok (.lload_n 2, 1) := by decide +kernel
theorem dX4_millionths_52 : decode cX4_millionths 52 = .ok (.lrem, 1) := by decide +kernel
theorem dX4_millionths_53 : decode cX4_millionths 53 = .ok (.lstore 6, 2) := by decide +kernel
theorem dX4_millionths_55 : decode cX4_millionths 55 = .ok (.iinc 8 1, 3) := by decide +kernel
theorem dX4_millionths_58 : decode cX4_millionths 58 = .ok (.goto (-37), 3) := by decide +kernel
theorem dX4_millionths_61 : decode cX4_millionths 61 = .ok (.lload 4, 2) := by decide +kernel
theorem dX4_millionths_63 : decode cX4_millionths 63 = .ok (.l2i, 1) := by decide +kernel
theorem dX4_millionths_64 : decode cX4_millionths 64 = .ok (.ireturn, 1) := by decide +kernel
theorem dX4_choose_0 : decode cX4_choose 0 = .ok (.iload_n 1, 1) := by decide +kernel
theorem dX4_choose_1 : decode cX4_choose 1 = .ok (.ifCond .lt 8, 3) := by decide +kernel
theorem dX4_choose_4 : decode cX4_choose 4 = .ok (.iload_n 1, 1) := by decide +kernel
theorem dX4_choose_5 : decode cX4_choose 5 = .ok (.iload_n 0, 1) := by decide +kernel
theorem dX4_choose_6 : decode cX4_choose 6 = .ok (.if_icmp .le 5, 3) := by decide +kernel
theorem dX4_choose_9 : decode cX4_choose 9 = .ok (.lconst 0, 1) := by decide +kernel
theorem dX4_choose_10 : decode cX4_choose 10 = .ok (.lreturn, 1) := by decide +kernel
theorem dX4_choose_11 : decode cX4_choose 11 = .ok (.lconst 1, 1) := by decide +kernel
theorem dX4_choose_12 : decode cX4_choose 12 = .ok (.lstore_n 2, 1) := by decide +kernel
theorem dX4_choose_13 : decode cX4_choose 13 = .ok (.iconst 1, 1) := by decide +kernel
theorem dX4_choose_14 : decode cX4_choose 14 = .ok (.istore 4, 2) := by decide +kernel
theorem dX4_choose_16 : decode cX4_choose 16 = .ok (.iload 4, 2) := by decide +kernel
theorem dX4_choose_18 : decode cX4_choose 18 = .ok (.iload_n 1, 1) := by decide +kernel
theorem dX4_choose_19 : decode cX4_choose 19 = .ok (.if_icmp .gt 23, 3) := by decide +kernel
theorem dX4_choose_22 : decode cX4_choose 22 = .ok (.lload_n 2, 1) := by decide +kernel
theorem dX4_choose_23 : decode cX4_choose 23 = .ok (.iload_n 0, 1) := by decide +kernel
theorem dX4_choose_24 : decode cX4_choose 24 = .ok (.iload_n 1, 1) := by decide +kernel
theorem dX4_choose_25 : decode cX4_choose 25 = .ok (.isub, 1) := by decide +kernel
theorem dX4_choose_26 : decode cX4_choose 26 = .ok (.iload 4, 2) := by decide +kernel
theorem dX4_choose_28 : decode cX4_choose 28 = .ok (.iadd, 1) := by decide +kernel
theorem dX4_choose_29 : decode cX4_choose 29 = .ok (.i2l, 1) := by decide +kernel
theorem dX4_choose_30 : decode cX4_choose 30 = .ok (.lmul, 1) := by decide +kernel
theorem dX4_choose_31 : decode cX4_choose 31 = .ok (.iload 4, 2) := by decide +kernel
theorem dX4_choose_33 : decode cX4_choose 33 = .ok (.i2l, 1) := by decide +kernel
theorem dX4_choose_34 : decode cX4_choose 34 = .ok (.ldiv, 1) := by decide +kernel
theorem dX4_choose_35 : decode cX4_choose 35 = .ok (.lstore_n 2, 1) := by decide +kernel
theorem dX4_choose_36 : decode cX4_choose 36 = .ok (.iinc 4 1, 3) := by decide +kernel
theorem dX4_choose_39 : decode cX4_choose 39 = .ok (.goto (-23), 3) := by decide +kernel
theorem dX4_choose_42 : decode cX4_choose 42 = .ok (.lload_n 2, 1) := by decide +kernel
theorem dX4_choose_43 : decode cX4_choose 43 = .ok (.lreturn, 1) := by decide +kernel
theorem dX4_power_0 : decode cX4_power 0 = .ok (.lconst 1, 1) := by decide +kernel
theorem dX4_power_1 : decode cX4_power 1 = .ok (.lstore_n 2, 1) := by decide +kernel
theorem dX4_power_2 : decode cX4_power 2 = .ok (.iconst 0, 1) := by decide +kernel
theorem dX4_power_3 : decode cX4_power 3 = .ok (.istore 4, 2) := by decide +kernel
theorem dX4_power_5 : decode cX4_power 5 = .ok (.iload 4, 2) := by decide +kernel
theorem dX4_power_7 : decode cX4_power 7 = .ok (.iload_n 1, 1) := by decide +kernel
theorem dX4_power_8 : decode cX4_power 8 = .ok (.if_icmp .ge 14, 3) := by decide +kernel
theorem dX4_power_11 : decode cX4_power 11 = .ok (.lload_n 2, 1) := by decide +kernel
theorem dX4_power_12 : decode cX4_power 12 = .ok (.iload_n 0, 1) := by decide +kernel
theorem dX4_power_13 : decode cX4_power 13 = .ok (.i2l, 1) := by decide +kernel
theorem dX4_power_14 : decode cX4_power 14 = .ok (.lmul, 1) := by decide +kernel
theorem dX4_power_15 : decode cX4_power 15 = .ok (.lstore_n 2, 1) := by decide +kernel
theorem dX4_power_16 : decode cX4_power 16 = .ok (.iinc 4 1, 3) := by decide +kernel
theorem dX4_power_19 : decode cX4_power 19 = .ok (.goto (-14), 3) := by decide +kernel
theorem dX4_power_22 : decode cX4_power 22 = .ok (.lload_n 2, 1) := by decide +kernel
theorem dX4_power_23 : decode cX4_power 23 = .ok (.lreturn, 1) := by decide +kernel
theorem dX5_mostYes_0 : decode cX5_mostYes 0 = .ok (.iconst (-1), 1) := by decide +kernel
theorem dX5_mostYes_1 : decode cX5_mostYes 1 = .ok (.istore_n 1, 1) := by decide +kernel
theorem dX5_mostYes_2 : decode cX5_mostYes 2 = .ok (.iconst (-1), 1) := by decide +kernel
theorem dX5_mostYes_3 : decode cX5_mostYes 3 = .ok (.istore_n 2, 1) := by decide +kernel
theorem dX5_mostYes_4 : decode cX5_mostYes 4 = .ok (.iconst 0, 1) := by decide +kernel
theorem dX5_mostYes_5 : decode cX5_mostYes 5 = .ok (.istore_n 3, 1) := by decide +kernel
theorem dX5_mostYes_6 : decode cX5_mostYes 6 = .ok (.iload_n 3, 1) := by decide +kernel
theorem dX5_mostYes_7 : decode cX5_mostYes 7 = .ok (.aload_n 0, 1) := by decide +kernel
theorem dX5_mostYes_8 : decode cX5_mostYes 8 = .ok (.getfield 9, 3) := by decide +kernel
theorem dX5_mostYes_11 : decode cX5_mostYes 11 = .ok (.getfield 19, 3) := by decide +kernel
theorem dX5_mostYes_14 : decode cX5_mostYes 14 = .ok (.if_icmp .ge 43, 3) := by decide +kernel
theorem dX5_mostYes_17 : decode cX5_mostYes 17 = .ok (.aload_n 0, 1) := by decide +kernel
theorem dX5_mostYes_18 : decode cX5_mostYes 18 = .ok (.aload_n 0, 1) := by decide +kernel
theorem dX5_mostYes_19 : decode cX5_mostYes 19 = .ok (.getfield 9, 3) := by decide +kernel
theorem dX5_mostYes_22 : decode cX5_mostYes 22 = .ok (.getfield 25, 3) := by decide +kernel
theorem dX5_mostYes_25 : decode cX5_mostYes 25 = .ok (.iload_n 3, 1) := by decide +kernel
theorem dX5_mostYes_26 : decode cX5_mostYes 26 = .ok (.iaload, 1) := by decide +kernel
theorem dX5_mostYes_27 : decode cX5_mostYes 27 = .ok (.invokevirtual 29, 3) := by decide +kernel
theorem dX5_mostYes_30 : decode cX5_mostYes 30 = .ok (.istore 4, 2) := by decide +kernel
theorem dX5_mostYes_32 : decode cX5_mostYes 32 = .ok (.iload 4, 2) := by decide +kernel
theorem dX5_mostYes_34 : decode cX5_mostYes 34 = .ok (.iload_n 2, 1) := by decide +kernel
theorem dX5_mostYes_35 : decode cX5_mostYes 35 = .ok (.if_icmp .le 16, 3) := by decide +kernel
theorem dX5_mostYes_38 : decode cX5_mostYes 38 = .ok (.iload 4, 2) := by decide +kernel
theorem dX5_mostYes_40 : decode cX5_mostYes 40 = .ok (.istore_n 2, 1) := by decide +kernel
theorem dX5_mostYes_41 : decode cX5_mostYes 41 = .ok (.aload_n 0, 1) := by decide +kernel
theorem dX5_mostYes_42 : decode cX5_mostYes 42 = .ok (.getfield 9, 3) := by decide +kernel
theorem dX5_mostYes_45 : decode cX5_mostYes 45 = .ok (.getfield 25, 3) := by decide +kernel
theorem dX5_mostYes_48 : decode cX5_mostYes 48 = .ok (.iload_n 3, 1) := by decide +kernel
theorem dX5_mostYes_49 : decode cX5_mostYes 49 = .ok (.iaload, 1) := by decide +kernel
theorem dX5_mostYes_50 : decode cX5_mostYes 50 = .ok (.istore_n 1, 1) := by decide +kernel
theorem dX5_mostYes_51 : decode cX5_mostYes 51 = .ok (.iinc 3 1, 3) := by decide +kernel
theorem dX5_mostYes_54 : decode cX5_mostYes 54 = .ok (.goto (-48), 3) := by decide +kernel
theorem dX5_mostYes_57 : decode cX5_mostYes 57 = .ok (.iload_n 1, 1) := by decide +kernel
theorem dX5_mostYes_58 : decode cX5_mostYes 58 = .ok (.ireturn, 1) := by decide +kernel
theorem dX5_greatestShare_0 : decode cX5_greatestShare 0 = .ok (.iconst (-1), 1) := by decide +kernel
theorem dX5_greatestShare_1 : decode cX5_greatestShare 1 = .ok (.istore_n 1, 1) := by decide +kernel
theorem dX5_greatestShare_2 : decode cX5_greatestShare 2 = .ok (.iconst 0, 1) := by decide +kernel
theorem dX5_greatestShare_3 : decode cX5_greatestShare 3 = .ok (.istore_n 2, 1) := by decide +kernel
theorem dX5_greatestShare_4 : decode cX5_greatestShare 4 = .ok (.iconst 0, 1) := by decide +kernel
theorem dX5_greatestShare_5 : decode cX5_greatestShare 5 = .ok (.istore_n 3, 1) := by decide +kernel
theorem dX5_greatestShare_6 : decode cX5_greatestShare 6 = .ok (.iconst 0, 1) := by decide +kernel
theorem dX5_greatestShare_7 : decode cX5_greatestShare 7 = .ok (.istore 4, 2) := by decide +kernel
theorem dX5_greatestShare_9 : decode cX5_greatestShare 9 = .ok (.iload 4, 2) := by decide +kernel
theorem dX5_greatestShare_11 : decode cX5_greatestShare 11 = .ok (.aload_n 0, 1) := by decide +kernel
theorem dX5_greatestShare_12 : decode cX5_greatestShare 12 = .ok (.getfield 9, 3) := by decide +kernel
theorem dX5_greatestShare_15 : decode cX5_greatestShare 15 = .ok (.getfield 19, 3) := by decide +kernel
theorem dX5_greatestShare_18 : decode cX5_greatestShare 18 = .ok (.if_icmp .ge 91, 3) := by decide +kernel
theorem dX5_greatestShare_21 : decode cX5_greatestShare 21 = .ok (.aload_n 0, 1) := by decide +kernel
theorem dX5_greatestShare_22 : decode cX5_greatestShare 22 = .ok (.aload_n 0, 1) := by decide +kernel
theorem dX5_greatestShare_23 : decode cX5_greatestShare 23 = .ok (.getfield 9, 3) := by decide +kernel
theorem dX5_greatestShare_26 : decode cX5_greatestShare 26 = .ok (.getfield 25, 3) := by decide +kernel
theorem dX5_greatestShare_29 : decode cX5_greatestShare 29 = .ok (.iload 4, 2) := by decide +kernel
theorem dX5_greatestShare_31 : decode cX5_greatestShare 31 = .ok (.iaload, 1) := by decide +kernel
theorem dX5_greatestShare_32 : decode cX5_greatestShare 32 = .ok (.invokevirtual 29, 3) := by decide +kernel
theorem dX5_greatestShare_35 : decode cX5_greatestShare 35 = .ok (.istore 5, 2) := by decide +kernel
theorem dX5_greatestShare_37 : decode cX5_greatestShare 37 = .ok (.aload_n 0, 1) := by decide +kernel
theorem dX5_greatestShare_38 : decode cX5_greatestShare 38 = .ok (.aload_n 0, 1) := by decide +kernel
theorem dX5_greatestShare_39 : decode cX5_greatestShare 39 = .ok (.getfield 9, 3) := by decide +kernel
theorem dX5_greatestShare_42 : decode cX5_greatestShare 42 = .ok (.getfield 25, 3) := by decide +kernel
theorem dX5_greatestShare_45 : decode cX5_greatestShare 45 = .ok (.iload 4, 2) := by decide +kernel
theorem dX5_greatestShare_47 : decode cX5_greatestShare 47 = .ok (.iaload, 1) := by decide +kernel
theorem dX5_greatestShare_48 : decode cX5_greatestShare 48 = .ok (.invokevirtual 33, 3) := by decide +kernel
theorem dX5_greatestShare_51 : decode cX5_greatestShare 51 = .ok (.istore 6, 2) := by decide +kernel
theorem dX5_greatestShare_53 : decode cX5_greatestShare 53 = .ok (.iload_n 1, 1) := by decide +kernel
theorem dX5_greatestShare_54 : decode cX5_greatestShare 54 = .ok (.iconst (-1), 1) := by decide +kernel
theorem dX5_greatestShare_55 : decode cX5_greatestShare 55 = .ok (.if_icmp .eq 14, 3) := by decide +kernel
theorem dX5_greatestShare_58 : decode cX5_greatestShare 58 = .ok (.iload 5, 2) := by decide +kernel
theorem dX5_greatestShare_60 : decode cX5_greatestShare 60 = .ok (.iload_n 3, 1) := by decide +kernel
theorem dX5_greatestShare_61 : decode cX5_greatestShare 61 = .ok (.imul, 1) := by decide +kernel
theorem dX5_greatestShare_62 : decode cX5_greatestShare 62 = .ok (.iload_n 2, 1) := by decide +kernel
theorem dX5_greatestShare_63 : decode cX5_greatestShare 63 = .ok (.iload 6, 2) := by decide +kernel
theorem dX5_greatestShare_65 : decode cX5_greatestShare 65 = .ok (.imul, 1) := by decide +kernel
theorem dX5_greatestShare_66 : decode cX5_greatestShare 66 = .ok (.if_icmp .le 7, 3) := by decide +kernel
theorem dX5_greatestShare_69 : decode cX5_greatestShare 69 = .ok (.iconst 1, 1) := by decide +kernel
theorem dX5_greatestShare_70 : decode cX5_greatestShare 70 = .ok (.goto 4, 3) := by decide +kernel
theorem dX5_greatestShare_73 : decode cX5_greatestShare 73 = .ok (.iconst 0, 1) := by decide +kernel
theorem dX5_greatestShare_74 : decode cX5_greatestShare 74 = .ok (.istore 7, 2) := by decide +kernel
theorem dX5_greatestShare_76 : decode cX5_greatestShare 76 = .ok (.iload 6, 2) := by decide +kernel
theorem dX5_greatestShare_78 : decode cX5_greatestShare 78 = .ok (.ifCond .le 25, 3) := by decide +kernel
theorem dX5_greatestShare_81 : decode cX5_greatestShare 81 = .ok (.iload 7, 2) := by decide +kernel
theorem dX5_greatestShare_83 : decode cX5_greatestShare 83 = .ok (.ifCond .eq 20, 3) := by decide +kernel
theorem dX5_greatestShare_86 : decode cX5_greatestShare 86 = .ok (.aload_n 0, 1) := by decide +kernel
theorem dX5_greatestShare_87 : decode cX5_greatestShare 87 = .ok (.getfield 9, 3) := by decide +kernel
theorem dX5_greatestShare_90 : decode cX5_greatestShare 90 = .ok (.getfield 25, 3) := by decide +kernel
theorem dX5_greatestShare_93 : decode cX5_greatestShare 93 = .ok (.iload 4, 2) := by decide +kernel
theorem dX5_greatestShare_95 : decode cX5_greatestShare 95 = .ok (.iaload, 1) := by decide +kernel
theorem dX5_greatestShare_96 : decode cX5_greatestShare 96 = .ok (.istore_n 1, 1) := by decide +kernel
theorem dX5_greatestShare_97 : decode cX5_greatestShare 97 = .ok (.iload 5, 2) := by decide +kernel
theorem dX5_greatestShare_99 : decode cX5_greatestShare 99 = .ok (.istore_n 2, 1) := by decide +kernel
theorem dX5_greatestShare_100 : decode cX5_greatestShare 100 = .ok (.iload 6, 2) := by decide +kernel
theorem dX5_greatestShare_102 : decode cX5_greatestShare 102 = .ok (.istore_n 3, 1) := by decide +kernel
theorem dX5_greatestShare_103 : decode cX5_greatestShare 103 = .ok (.iinc 4 1, 3) := by decide +kernel
theorem dX5_greatestShare_106 : decode cX5_greatestShare 106 = .ok (.goto (-97), 3) := by decide +kernel
theorem dX5_greatestShare_109 : decode cX5_greatestShare 109 = .ok (.iload_n 1, 1) := by decide +kernel
theorem dX5_greatestShare_110 : decode cX5_greatestShare 110 = .ok (.ireturn, 1) := by decide +kernel
theorem dX5_winnerOfAllPairs_0 : decode cX5_winnerOfAllPairs 0 = .ok (.iconst 0, 1) := by decide +kernel
theorem dX5_winnerOfAllPairs_1 : decode cX5_winnerOfAllPairs 1 = .ok (.istore_n 1, 1) := by decide +kernel
theorem dX5_winnerOfAllPairs_2 : decode cX5_winnerOfAllPairs 2 = .ok (.iload_n 1, 1) := by decide +kernel
theorem dX5_winnerOfAllPairs_3 : decode cX5_winnerOfAllPairs 3 = .ok (.aload_n 0, 1) := by decide +kernel
theorem dX5_winnerOfAllPairs_4 : decode cX5_winnerOfAllPairs 4 = .ok (.getfield 9, 3) := by decide +kernel
theorem dX5_winnerOfAllPairs_7 : decode cX5_winnerOfAllPairs 7 = .ok (.getfield 19, 3) := by decide +kernel
theorem dX5_winnerOfAllPairs_10 : decode cX5_winnerOfAllPairs 10 = .ok (.if_icmp .ge 19, 3) := by decide +kernel
theorem dX5_winnerOfAllPairs_13 : decode cX5_winnerOfAllPairs 13 = .ok (.aload_n 0, 1) := by decide +kernel
theorem dX5_winnerOfAllPairs_14 : decode cX5_winnerOfAllPairs 14 = .ok (.iload_n 1, 1) := by decide +kernel
theorem dX5_winnerOfAllPairs_15 : decode cX5_winnerOfAllPairs 15 = .ok (.invokevirtual 36, 3) := by decide +kernel
theorem dX5_winnerOfAllPairs_18 : decode cX5_winnerOfAllPairs 18 = .ok (.ifCond .eq 5, 3) := by decide +kernel
theorem dX5_winnerOfAllPairs_21 : decode cX5_winnerOfAllPairs 21 = .ok (.iload_n 1, 1) := by decide +kernel
theorem dX5_winnerOfAllPairs_22 : decode cX5_winnerOfAllPairs 22 = .ok (.ireturn, 1) := by decide +kernel
theorem dX5_winnerOfAllPairs_23 : decode cX5_winnerOfAllPairs 23 = .ok (.iinc 1 1, 3) := by decide +kernel
theorem dX5_winnerOfAllPairs_26 : decode cX5_winnerOfAllPairs 26 = .ok (.goto (-24), 3) := by decide +kernel
theorem dX5_winnerOfAllPairs_29 : decode cX5_winnerOfAllPairs 29 = .ok (.iconst (-1), 1) := by decide +kernel
theorem dX5_winnerOfAllPairs_30 : decode cX5_winnerOfAllPairs 30 = .ok (.ireturn, 1) := by decide +kernel
theorem dX5_winsAllPairs_0 : decode cX5_winsAllPairs 0 = .ok (.iconst 0, 1) := by decide +kernel
theorem dX5_winsAllPairs_1 : decode cX5_winsAllPairs 1 = .ok (.istore_n 2, 1) := by decide +kernel
theorem dX5_winsAllPairs_2 : decode cX5_winsAllPairs 2 = .ok (.iload_n 2, 1) := by decide +kernel
theorem dX5_winsAllPairs_3 : decode cX5_winsAllPairs 3 = .ok (.aload_n 0, 1) := by decide +kernel
theorem dX5_winsAllPairs_4 : decode cX5_winsAllPairs 4 = .ok (.getfield 9, 3) := by decide +kernel
theorem dX5_winsAllPairs_7 : decode cX5_winsAllPairs 7 = .ok (.getfield 19, 3) := by decide +kernel
theorem dX5_winsAllPairs_10 : decode cX5_winsAllPairs 10 = .ok (.if_icmp .ge 39, 3) := by decide +kernel
theorem dX5_winsAllPairs_13 : decode cX5_winsAllPairs 13 = .ok (.iload_n 2, 1) := by decide +kernel
theorem dX5_winsAllPairs_14 : decode cX5_winsAllPairs 14 = .ok (.iload_n 1, 1) := by decide +kernel
theorem dX5_winsAllPairs_15 : decode cX5_winsAllPairs 15 = .ok (.if_icmp .eq 28, 3) := by decide +kernel
theorem dX5_winsAllPairs_18 : decode cX5_winsAllPairs 18 = .ok (.aload_n 0, 1) := by decide +kernel
theorem dX5_winsAllPairs_19 : decode cX5_winsAllPairs 19 = .ok (.getfield 9, 3) := by decide +kernel
theorem dX5_winsAllPairs_22 : decode cX5_winsAllPairs 22 = .ok (.iload_n 1, 1) := by decide +kernel
theorem dX5_winsAllPairs_23 : decode cX5_winsAllPairs 23 = .ok (.iload_n 2, 1) := by decide +kernel
theorem dX5_winsAllPairs_24 : decode cX5_winsAllPairs 24 = .ok (.iconst 0, 1) := by decide +kernel
theorem dX5_winsAllPairs_25 : decode cX5_winsAllPairs 25 = .ok (.invokevirtual 40, 3) := by decide +kernel
theorem dX5_winsAllPairs_28 : decode cX5_winsAllPairs 28 = .ok (.aload_n 0, 1) := by decide +kernel
theorem dX5_winsAllPairs_29 : decode cX5_winsAllPairs 29 = .ok (.getfield 9, 3) := by decide +kernel
theorem dX5_winsAllPairs_32 : decode cX5_winsAllPairs 32 = .ok (.iload_n 2, 1) := by decide +kernel
theorem dX5_winsAllPairs_33 : decode cX5_winsAllPairs 33 = .ok (.iload_n 1, 1) := by decide +kernel
theorem dX5_winsAllPairs_34 : decode cX5_winsAllPairs 34 = .ok (.iconst 0, 1) := by decide +kernel
theorem dX5_winsAllPairs_35 : decode cX5_winsAllPairs 35 = .ok (.invokevirtual 40, 3) := by decide +kernel
theorem dX5_winsAllPairs_38 : decode cX5_winsAllPairs 38 = .ok (.if_icmp .gt 5, 3) := by decide +kernel
theorem dX5_winsAllPairs_41 : decode cX5_winsAllPairs 41 = .ok (.iconst 0, 1) := by decide +kernel
theorem dX5_winsAllPairs_42 : decode cX5_winsAllPairs 42 = .ok (.ireturn, 1) := by decide +kernel
theorem dX5_winsAllPairs_43 : decode cX5_winsAllPairs 43 = .ok (.iinc 2 1, 3) := by decide +kernel
theorem dX5_winsAllPairs_46 : decode cX5_winsAllPairs 46 = .ok (.goto (-44), 3) := by decide +kernel
theorem dX5_winsAllPairs_49 : decode cX5_winsAllPairs 49 = .ok (.iconst 1, 1) := by decide +kernel
theorem dX5_winsAllPairs_50 : decode cX5_winsAllPairs 50 = .ok (.ireturn, 1) := by decide +kernel
theorem dX5_yesInAll_0 : decode cX5_yesInAll 0 = .ok (.iconst 0, 1) := by decide +kernel
theorem dX5_yesInAll_1 : decode cX5_yesInAll 1 = .ok (.istore_n 2, 1) := by decide +kernel
theorem dX5_yesInAll_2 : decode cX5_yesInAll 2 = .ok (.iconst 0, 1) := by decide +kernel
theorem dX5_yesInAll_3 : decode cX5_yesInAll 3 = .ok (.istore_n 3, 1) := by decide +kernel
theorem dX5_yesInAll_4 : decode cX5_yesInAll 4 = .ok (.iload_n 3, 1) := by decide +kernel
theorem dX5_yesInAll_5 : decode cX5_yesInAll 5 = .ok (.aload_n 0, 1) := by decide +kernel
theorem dX5_yesInAll_6 : decode cX5_yesInAll 6 = .ok (.getfield 15, 3) := by decide +kernel
theorem dX5_yesInAll_9 : decode cX5_yesInAll 9 = .ok (.getfield 44, 3) := by decide +kernel
theorem dX5_yesInAll_12 : decode cX5_yesInAll 12 = .ok (.if_icmp .ge 21, 3) := by decide +kernel
theorem dX5_yesInAll_15 : decode cX5_yesInAll 15 = .ok (.iload_n 2, 1) := by decide +kernel
theorem dX5_yesInAll_16 : decode cX5_yesInAll 16 = .ok (.aload_n 0, 1) := by decide +kernel
theorem dX5_yesInAll_17 : decode cX5_yesInAll 17 = .ok (.getfield 9, 3) := by decide +kernel
theorem dX5_yesInAll_20 : decode cX5_yesInAll 20 = .ok (.iload_n 1, 1) := by decide +kernel
theorem dX5_yesInAll_21 : decode cX5_yesInAll 21 = .ok (.iload_n 3, 1) := by decide +kernel
theorem dX5_yesInAll_22 : decode cX5_yesInAll 22 = .ok (.invokevirtual 49, 3) := by decide +kernel
theorem dX5_yesInAll_25 : decode cX5_yesInAll 25 = .ok (.iadd, 1) := by decide +kernel
theorem dX5_yesInAll_26 : decode cX5_yesInAll 26 = .ok (.istore_n 2, 1) := by decide +kernel
theorem dX5_yesInAll_27 : decode cX5_yesInAll 27 = .ok (.iinc 3 1, 3) := by decide +kernel
theorem dX5_yesInAll_30 : decode cX5_yesInAll 30 = .ok (.goto (-26), 3) := by decide +kernel
theorem dX5_yesInAll_33 : decode cX5_yesInAll 33 = .ok (.iload_n 2, 1) := by decide +kernel
theorem dX5_yesInAll_34 : decode cX5_yesInAll 34 = .ok (.ireturn, 1) := by decide +kernel
theorem dX5_votesInAll_0 : decode cX5_votesInAll 0 = .ok (.iconst 0, 1) := by decide +kernel
theorem dX5_votesInAll_1 : decode cX5_votesInAll 1 = .ok (.istore_n 2, 1) := by decide +kernel
theorem dX5_votesInAll_2 : decode cX5_votesInAll 2 = .ok (.iconst 0, 1) := by decide +kernel
theorem dX5_votesInAll_3 : decode cX5_votesInAll 3 = .ok (.istore_n 3, 1) := by decide +kernel
theorem dX5_votesInAll_4 : decode cX5_votesInAll 4 = .ok (.iload_n 3, 1) := by decide +kernel
theorem dX5_votesInAll_5 : decode cX5_votesInAll 5 = .ok (.aload_n 0, 1) := by decide +kernel
theorem dX5_votesInAll_6 : decode cX5_votesInAll 6 = .ok (.getfield 15, 3) := by decide +kernel
theorem dX5_votesInAll_9 : decode cX5_votesInAll 9 = .ok (.getfield 44, 3) := by decide +kernel
theorem dX5_votesInAll_12 : decode cX5_votesInAll 12 = .ok (.if_icmp .ge 21, 3) := by decide +kernel
theorem dX5_votesInAll_15 : decode cX5_votesInAll 15 = .ok (.iload_n 2, 1) := by decide +kernel
theorem dX5_votesInAll_16 : decode cX5_votesInAll 16 = .ok (.aload_n 0, 1) := by decide +kernel
theorem dX5_votesInAll_17 : decode cX5_votesInAll 17 = .ok (.getfield 9, 3) := by decide +kernel
theorem dX5_votesInAll_20 : decode cX5_votesInAll 20 = .ok (.iload_n 1, 1) := by decide +kernel
theorem dX5_votesInAll_21 : decode cX5_votesInAll 21 = .ok (.iload_n 3, 1) := by decide +kernel
theorem dX5_votesInAll_22 : decode cX5_votesInAll 22 = .ok (.invokevirtual 53, 3) := by decide +kernel
theorem dX5_votesInAll_25 : decode cX5_votesInAll 25 = .ok (.iadd, 1) := by decide +kernel
theorem dX5_votesInAll_26 : decode cX5_votesInAll 26 = .ok (.istore_n 2, 1) := by decide +kernel
theorem dX5_votesInAll_27 : decode cX5_votesInAll 27 = .ok (.iinc 3 1, 3) := by decide +kernel
theorem dX5_votesInAll_30 : decode cX5_votesInAll 30 = .ok (.goto (-26), 3) := by decide +kernel
theorem dX5_votesInAll_33 : decode cX5_votesInAll 33 = .ok (.iload_n 2, 1) := by decide +kernel
theorem dX5_votesInAll_34 : decode cX5_votesInAll 34 = .ok (.ireturn, 1) := by decide +kernel
theorem dJ6_compare_7cf53_0 : decode cJ6_compare_7cf53 0 = .ok (.iload_n 0, 1) := by decide +kernel
theorem dJ6_compare_7cf53_1 : decode cJ6_compare_7cf53 1 = .ok (.iload_n 1, 1) := by decide +kernel
theorem dJ6_compare_7cf53_2 : decode cJ6_compare_7cf53 2 = .ok (.if_icmp .ge 7, 3) := by decide +kernel
theorem dJ6_compare_7cf53_5 : decode cJ6_compare_7cf53 5 = .ok (.iconst (-1), 1) := by decide +kernel
theorem dJ6_compare_7cf53_6 : decode cJ6_compare_7cf53 6 = .ok (.goto 13, 3) := by decide +kernel
theorem dJ6_compare_7cf53_9 : decode cJ6_compare_7cf53 9 = .ok (.iload_n 0, 1) := by decide +kernel
theorem dJ6_compare_7cf53_10 : decode cJ6_compare_7cf53 10 = .ok (.iload_n 1, 1) := by decide +kernel
theorem dJ6_compare_7cf53_11 : decode cJ6_compare_7cf53 11 = .ok (.if_icmp .ne 7, 3) := by decide +kernel
theorem dJ6_compare_7cf53_14 : decode cJ6_compare_7cf53 14 = .ok (.iconst 0, 1) := by decide +kernel
theorem dJ6_compare_7cf53_15 : decode cJ6_compare_7cf53 15 = .ok (.goto 4, 3) := by decide +kernel
theorem dJ6_compare_7cf53_18 : decode cJ6_compare_7cf53 18 = .ok (.iconst 1, 1) := by decide +kernel
theorem dJ6_compare_7cf53_19 : decode cJ6_compare_7cf53 19 = .ok (.ireturn, 1) := by decide +kernel
theorem dJ6_bitCount_0f7a4_0 : decode cJ6_bitCount_0f7a4 0 = .ok (.iload_n 0, 1) := by decide +kernel
theorem dJ6_bitCount_0f7a4_1 : decode cJ6_bitCount_0f7a4 1 = .ok (.iload_n 0, 1) := by decide +kernel
theorem dJ6_bitCount_0f7a4_2 : decode cJ6_bitCount_0f7a4 2 = .ok (.iconst 1, 1) := by decide +kernel
theorem dJ6_bitCount_0f7a4_3 : decode cJ6_bitCount_0f7a4 3 = .ok (.iushr, 1) := by decide +kernel
theorem dJ6_bitCount_0f7a4_4 : decode cJ6_bitCount_0f7a4 4 = .ok (.ldc_w 265, 3) := by decide +kernel
theorem dJ6_bitCount_0f7a4_7 : decode cJ6_bitCount_0f7a4 7 = .ok (.iand, 1) := by decide +kernel
theorem dJ6_bitCount_0f7a4_8 : decode cJ6_bitCount_0f7a4 8 = .ok (.isub, 1) := by decide +kernel
theorem dJ6_bitCount_0f7a4_9 : decode cJ6_bitCount_0f7a4 9 = .ok (.istore_n 0, 1) := by decide +kernel
theorem dJ6_bitCount_0f7a4_10 : decode cJ6_bitCount_0f7a4 10 = .ok (.iload_n 0, 1) := by decide +kernel
theorem dJ6_bitCount_0f7a4_11 : decode cJ6_bitCount_0f7a4 11 = .ok (.ldc_w 266, 3) := by decide +kernel
theorem dJ6_bitCount_0f7a4_14 : decode cJ6_bitCount_0f7a4 14 = .ok (.iand, 1) := by decide +kernel
theorem dJ6_bitCount_0f7a4_15 : decode cJ6_bitCount_0f7a4 15 = .ok (.iload_n 0, 1) := by decide +kernel
theorem dJ6_bitCount_0f7a4_16 : decode cJ6_bitCount_0f7a4 16 = .ok (.iconst 2, 1) := by decide +kernel
theorem dJ6_bitCount_0f7a4_17 : decode cJ6_bitCount_0f7a4 17 = .ok (.iushr, 1) := by decide +kernel
theorem dJ6_bitCount_0f7a4_18 : decode cJ6_bitCount_0f7a4 18 = .ok (.ldc_w 266, 3) := by decide +kernel
theorem dJ6_bitCount_0f7a4_21 : decode cJ6_bitCount_0f7a4 21 = .ok (.iand, 1) := by decide +kernel
theorem dJ6_bitCount_0f7a4_22 : decode cJ6_bitCount_0f7a4 22 = .ok (.iadd, 1) := by decide +kernel
theorem dJ6_bitCount_0f7a4_23 : decode cJ6_bitCount_0f7a4 23 = .ok (.istore_n 0, 1) := by decide +kernel
theorem dJ6_bitCount_0f7a4_24 : decode cJ6_bitCount_0f7a4 24 = .ok (.iload_n 0, 1) := by decide +kernel
theorem dJ6_bitCount_0f7a4_25 : decode cJ6_bitCount_0f7a4 25 = .ok (.iload_n 0, 1) := by decide +kernel
theorem dJ6_bitCount_0f7a4_26 : decode cJ6_bitCount_0f7a4 26 = .ok (.iconst 4, 1) := by decide +kernel
theorem dJ6_bitCount_0f7a4_27 : decode cJ6_bitCount_0f7a4 27 = .ok (.iushr, 1) := by decide +kernel
theorem dJ6_bitCount_0f7a4_28 : decode cJ6_bitCount_0f7a4 28 = .ok (.iadd, 1) := by decide +kernel
theorem dJ6_bitCount_0f7a4_29 : decode cJ6_bitCount_0f7a4 29 = .ok (.ldc_w 267, 3) := by decide +kernel
theorem dJ6_bitCount_0f7a4_32 : decode cJ6_bitCount_0f7a4 32 = .ok (.iand, 1) := by decide +kernel
theorem dJ6_bitCount_0f7a4_33 : decode cJ6_bitCount_0f7a4 33 = .ok (.istore_n 0, 1) := by decide +kernel
theorem dJ6_bitCount_0f7a4_34 : decode cJ6_bitCount_0f7a4 34 = .ok (.iload_n 0, 1) := by decide +kernel
theorem dJ6_bitCount_0f7a4_35 : decode cJ6_bitCount_0f7a4 35 = .ok (.iload_n 0, 1) := by decide +kernel
theorem dJ6_bitCount_0f7a4_36 : decode cJ6_bitCount_0f7a4 36 = .ok (.bipush 8, 2) := by decide +kernel
theorem dJ6_bitCount_0f7a4_38 : decode cJ6_bitCount_0f7a4 38 = .ok (.iushr, 1) := by decide +kernel
theorem dJ6_bitCount_0f7a4_39 : decode cJ6_bitCount_0f7a4 39 = .ok (.iadd, 1) := by decide +kernel
theorem dJ6_bitCount_0f7a4_40 : decode cJ6_bitCount_0f7a4 40 = .ok (.istore_n 0, 1) := by decide +kernel
theorem dJ6_bitCount_0f7a4_41 : decode cJ6_bitCount_0f7a4 41 = .ok (.iload_n 0, 1) := by decide +kernel
theorem dJ6_bitCount_0f7a4_42 : decode cJ6_bitCount_0f7a4 42 = .ok (.iload_n 0, 1) := by decide +kernel
theorem dJ6_bitCount_0f7a4_43 : decode cJ6_bitCount_0f7a4 43 = .ok (.bipush 16, 2) := by decide +kernel
theorem dJ6_bitCount_0f7a4_45 : decode cJ6_bitCount_0f7a4 45 = .ok (.iushr, 1) := by decide +kernel
theorem dJ6_bitCount_0f7a4_46 : decode cJ6_bitCount_0f7a4 46 = .ok (.iadd, 1) := by decide +kernel
theorem dJ6_bitCount_0f7a4_47 : decode cJ6_bitCount_0f7a4 47 = .ok (.istore_n 0, 1) := by decide +kernel
theorem dJ6_bitCount_0f7a4_48 : decode cJ6_bitCount_0f7a4 48 = .ok (.iload_n 0, 1) := by decide +kernel
theorem dJ6_bitCount_0f7a4_49 : decode cJ6_bitCount_0f7a4 49 = .ok (.bipush 63, 2) := by decide +kernel
theorem dJ6_bitCount_0f7a4_51 : decode cJ6_bitCount_0f7a4 51 = .ok (.iand, 1) := by decide +kernel
theorem dJ6_bitCount_0f7a4_52 : decode cJ6_bitCount_0f7a4 52 = .ok (.ireturn, 1) := by decide +kernel
end
section
theorem dX6_addPlayer_0 : decode cX6_addPlayer 0 = .ok (.aload_n 0, 1) := by decide +kernel
theorem dX6_addPlayer_1 : decode cX6_addPlayer 1 = .ok (.getfield 27, 3) := by decide +kernel
theorem dX6_addPlayer_4 : decode cX6_addPlayer 4 = .ok (.istore_n 2, 1) := by decide +kernel
theorem dX6_addPlayer_5 : decode cX6_addPlayer 5 = .ok (.aload_n 0, 1) := by decide +kernel
theorem dX6_addPlayer_6 : decode cX6_addPlayer 6 = .ok (.getfield 9, 3) := by decide +kernel
theorem dX6_addPlayer_9 : decode cX6_addPlayer 9 = .ok (.iload_n 2, 1) := by decide +kernel
theorem dX6_addPlayer_10 : decode cX6_addPlayer 10 = .ok (.iload_n 1, 1) := by decide +kernel
theorem dX6_addPlayer_11 : decode cX6_addPlayer 11 = .ok (.iastore, 1) := by decide +kernel
theorem dX6_addPlayer_12 : decode cX6_addPlayer 12 = .ok (.aload_n 0, 1) := by decide +kernel
theorem dX6_addPlayer_13 : decode cX6_addPlayer 13 = .ok (.iload_n 2, 1) := by decide +kernel
theorem dX6_addPlayer_14 : decode cX6_addPlayer 14 = .ok (.iload_n 2, 1) := by decide +kernel
theorem dX6_addPlayer_15 : decode cX6_addPlayer 15 = .ok (.invokevirtual 30, 3) := by decide +kernel
theorem dX6_addPlayer_18 : decode cX6_addPlayer 18 = .ok (.aload_n 0, 1) := by decide +kernel
theorem dX6_addPlayer_19 : decode cX6_addPlayer 19 = .ok (.dup, 1) := by decide +kernel
theorem dX6_addPlayer_20 : decode cX6_addPlayer 20 = .ok (.getfield 27, 3) := by decide +kernel
theorem dX6_addPlayer_23 : decode cX6_addPlayer 23 = .ok (.iconst 1, 1) := by decide +kernel
theorem dX6_addPlayer_24 : decode cX6_addPlayer 24 = .ok (.iadd, 1) := by decide +kernel
theorem dX6_addPlayer_25 : decode cX6_addPlayer 25 = .ok (.putfield 27, 3) := by decide +kernel
theorem dX6_addPlayer_28 : decode cX6_addPlayer 28 = .ok (.iload_n 2, 1) := by decide +kernel
theorem dX6_addPlayer_29 : decode cX6_addPlayer 29 = .ok (.ireturn, 1) := by decide +kernel
theorem dX6_shuffle_0 : decode cX6_shuffle 0 = .ok (.iconst 0, 1) := by decide +kernel
theorem dX6_shuffle_1 : decode cX6_shuffle 1 = .ok (.istore_n 2, 1) := by decide +kernel
theorem dX6_shuffle_2 : decode cX6_shuffle 2 = .ok (.iload_n 2, 1) := by decide +kernel
theorem dX6_shuffle_3 : decode cX6_shuffle 3 = .ok (.aload_n 0, 1) := by decide +kernel
theorem dX6_shuffle_4 : decode cX6_shuffle 4 = .ok (.getfield 27, 3) := by decide +kernel
theorem dX6_shuffle_7 : decode cX6_shuffle 7 = .ok (.if_icmp .ge 15, 3) := by decide +kernel
theorem dX6_shuffle_10 : decode cX6_shuffle 10 = .ok (.aload_n 0, 1) := by decide +kernel
theorem dX6_shuffle_11 : decode cX6_shuffle 11 = .ok (.iload_n 2, 1) := by decide +kernel
theorem dX6_shuffle_12 : decode cX6_shuffle 12 = .ok (.iload_n 2, 1) := by decide +kernel
theorem dX6_shuffle_13 : decode cX6_shuffle 13 = .ok (.invokevirtual 30, 3) := by decide +kernel
theorem dX6_shuffle_16 : decode cX6_shuffle 16 = .ok (.iinc 2 1, 3) := by decide +kernel
theorem dX6_shuffle_19 : decode cX6_shuffle 19 = .ok (.goto (-17), 3) := by decide +kernel
theorem dX6_shuffle_22 : decode cX6_shuffle 22 = .ok (.iload_n 1, 1) := by decide +kernel
theorem dX6_shuffle_23 : decode cX6_shuffle 23 = .ok (.istore_n 2, 1) := by decide +kernel
theorem dX6_shuffle_24 : decode cX6_shuffle 24 = .ok (.aload_n 0, 1) := by decide +kernel
theorem dX6_shuffle_25 : decode cX6_shuffle 25 = .ok (.getfield 27, 3) := by decide +kernel
theorem dX6_shuffle_28 : decode cX6_shuffle 28 = .ok (.iconst 1, 1) := by decide +kernel
theorem dX6_shuffle_29 : decode cX6_shuffle 29 = .ok (.isub, 1) := by decide +kernel
theorem dX6_shuffle_30 : decode cX6_shuffle 30 = .ok (.istore_n 3, 1) := by decide +kernel
theorem dX6_shuffle_31 : decode cX6_shuffle 31 = .ok (.iload_n 3, 1) := by decide +kernel
theorem dX6_shuffle_32 : decode cX6_shuffle 32 = .ok (.iconst 1, 1) := by decide +kernel
theorem dX6_shuffle_33 : decode cX6_shuffle 33 = .ok (.if_icmp .lt 56, 3) := by decide +kernel
theorem dX6_shuffle_36 : decode cX6_shuffle 36 = .ok (.ldc 34, 2) := by decide +kernel
theorem dX6_shuffle_38 : decode cX6_shuffle 38 = .ok (.iload_n 2, 1) := by decide +kernel
theorem dX6_shuffle_39 : decode cX6_shuffle 39 = .ok (.imul, 1) := by decide +kernel
theorem dX6_shuffle_40 : decode cX6_shuffle 40 = .ok (.sipush 12345, 3) := by decide +kernel
theorem dX6_shuffle_43 : decode cX6_shuffle 43 = .ok (.iadd, 1) := by decide +kernel
theorem dX6_shuffle_44 : decode cX6_shuffle 44 = .ok (.istore_n 2, 1) := by decide +kernel
theorem dX6_shuffle_45 : decode cX6_shuffle 45 = .ok (.iload_n 2, 1) := by decide +kernel
theorem dX6_shuffle_46 : decode cX6_shuffle 46 = .ok (.bipush 16, 2) := by decide +kernel
theorem dX6_shuffle_48 : decode cX6_shuffle 48 = .ok (.iushr, 1) := by decide +kernel
theorem dX6_shuffle_49 : decode cX6_shuffle 49 = .ok (.iload_n 3, 1) := by decide +kernel
theorem dX6_shuffle_50 : decode cX6_shuffle 50 = .ok (.iconst 1, 1) := by decide +kernel
theorem dX6_shuffle_51 : decode cX6_shuffle 51 = .ok (.iadd, 1) := by decide +kernel
theorem dX6_shuffle_52 : decode cX6_shuffle 52 = .ok (.irem, 1) := by decide +kernel
theorem dX6_shuffle_53 : decode cX6_shuffle 53 = .ok (.istore 4, 2) := by decide +kernel
theorem dX6_shuffle_55 : decode cX6_shuffle 55 = .ok (.aload_n 0, 1) := by decide +kernel
theorem dX6_shuffle_56 : decode cX6_shuffle 56 = .ok (.getfield 13, 3) := by decide +kernel
theorem dX6_shuffle_59 : decode cX6_shuffle 59 = .ok (.iload_n 3, 1) := by decide +kernel
theorem dX6_shuffle_60 : decode cX6_shuffle 60 = .ok (.iaload, 1) := by decide +kernel
theorem dX6_shuffle_61 : decode cX6_shuffle 61 = .ok (.istore 5, 2) := by decide +kernel
theorem dX6_shuffle_63 : decode cX6_shuffle 63 = .ok (.aload_n 0, 1) := by decide +kernel
theorem dX6_shuffle_64 : decode cX6_shuffle 64 = .ok (.aload_n 0, 1) := by decide +kernel
theorem dX6_shuffle_65 : decode cX6_shuffle 65 = .ok (.getfield 13, 3) := by decide +kernel
theorem dX6_shuffle_68 : decode cX6_shuffle 68 = .ok (.iload 4, 2) := by decide +kernel
theorem dX6_shuffle_70 : decode cX6_shuffle 70 = .ok (.iaload, 1) := by decide +kernel
theorem dX6_shuffle_71 : decode cX6_shuffle 71 = .ok (.iload_n 3, 1) := by decide +kernel
theorem dX6_shuffle_72 : decode cX6_shuffle 72 = .ok (.invokevirtual 30, 3) := by decide +kernel
theorem dX6_shuffle_75 : decode cX6_shuffle 75 = .ok (.aload_n 0, 1) := by decide +kernel
theorem dX6_shuffle_76 : decode cX6_shuffle 76 = .ok (.iload 5, 2) := by decide +kernel
theorem dX6_shuffle_78 : decode cX6_shuffle 78 = .ok (.iload 4, 2) := by decide +kernel
theorem dX6_shuffle_80 : decode cX6_shuffle 80 = .ok (.invokevirtual 30, 3) := by decide +kernel
theorem dX6_shuffle_83 : decode cX6_shuffle 83 = .ok (.iinc 3 (-1), 3) := by decide +kernel
theorem dX6_shuffle_86 : decode cX6_shuffle 86 = .ok (.goto (-55), 3) := by decide +kernel
theorem dX6_shuffle_89 : decode cX6_shuffle 89 = .ok (.return_, 1) := by decide +kernel
theorem dX6_place_0 : decode cX6_place 0 = .ok (.aload_n 0, 1) := by decide +kernel
theorem dX6_place_1 : decode cX6_place 1 = .ok (.getfield 13, 3) := by decide +kernel
theorem dX6_place_4 : decode cX6_place 4 = .ok (.iload_n 2, 1) := by decide +kernel
theorem dX6_place_5 : decode cX6_place 5 = .ok (.iload_n 1, 1) := by decide +kernel
theorem dX6_place_6 : decode cX6_place 6 = .ok (.iastore, 1) := by decide +kernel
theorem dX6_place_7 : decode cX6_place 7 = .ok (.aload_n 0, 1) := by decide +kernel
theorem dX6_place_8 : decode cX6_place 8 = .ok (.getfield 16, 3) := by decide +kernel
theorem dX6_place_11 : decode cX6_place 11 = .ok (.iload_n 1, 1) := by decide +kernel
theorem dX6_place_12 : decode cX6_place 12 = .ok (.iload_n 2, 1) := by decide +kernel
theorem dX6_place_13 : decode cX6_place 13 = .ok (.iastore, 1) := by decide +kernel
theorem dX6_place_14 : decode cX6_place 14 = .ok (.return_, 1) := by decide +kernel
theorem dX6_everyone_0 : decode cX6_everyone 0 = .ok (.iconst 1, 1) := by decide +kernel
theorem dX6_everyone_1 : decode cX6_everyone 1 = .ok (.aload_n 0, 1) := by decide +kernel
theorem dX6_everyone_2 : decode cX6_everyone 2 = .ok (.getfield 27, 3) := by decide +kernel
theorem dX6_everyone_5 : decode cX6_everyone 5 = .ok (.ishl, 1) := by decide +kernel
theorem dX6_everyone_6 : decode cX6_everyone 6 = .ok (.iconst 1, 1) := by decide +kernel
theorem dX6_everyone_7 : decode cX6_everyone 7 = .ok (.isub, 1) := by decide +kernel
theorem dX6_everyone_8 : decode cX6_everyone 8 = .ok (.ireturn, 1) := by decide +kernel
theorem dX6_countingVote_0 : decode cX6_countingVote 0 = .ok (.aload_n 0, 1) := by decide +kernel
theorem dX6_countingVote_1 : decode cX6_countingVote 1 = .ok (.getfield 9, 3) := by decide +kernel
theorem dX6_countingVote_4 : decode cX6_countingVote 4 = .ok (.iload_n 1, 1) := by decide +kernel
theorem dX6_countingVote_5 : decode cX6_countingVote 5 = .ok (.iaload, 1) := by decide +kernel
theorem dX6_countingVote_6 : decode cX6_countingVote 6 = .ok (.iload_n 2, 1) := by decide +kernel
theorem dX6_countingVote_7 : decode cX6_countingVote 7 = .ok (.ishr, 1) := by decide +kernel
theorem dX6_countingVote_8 : decode cX6_countingVote 8 = .ok (.iconst 1, 1) := by decide +kernel
theorem dX6_countingVote_9 : decode cX6_countingVote 9 = .ok (.iand, 1) := by decide +kernel
theorem dX6_countingVote_10 : decode cX6_countingVote 10 = .ok (.ifCond .eq 5, 3) := by decide +kernel
theorem dX6_countingVote_13 : decode cX6_countingVote 13 = .ok (.iconst (-1), 1) := by decide +kernel
theorem dX6_countingVote_14 : decode cX6_countingVote 14 = .ok (.ireturn, 1) := by decide +kernel
theorem dX6_countingVote_15 : decode cX6_countingVote 15 = .ok (.aload_n 0, 1) := by decide +kernel
theorem dX6_countingVote_16 : decode cX6_countingVote 16 = .ok (.getfield 23, 3) := by decide +kernel
theorem dX6_countingVote_19 : decode cX6_countingVote 19 = .ok (.iload_n 3, 1) := by decide +kernel
theorem dX6_countingVote_20 : decode cX6_countingVote 20 = .ok (.bipush 9, 2) := by decide +kernel
theorem dX6_countingVote_22 : decode cX6_countingVote 22 = .ok (.iload_n 1, 1) := by decide +kernel
theorem dX6_countingVote_23 : decode cX6_countingVote 23 = .ok (.imul, 1) := by decide +kernel
theorem dX6_countingVote_24 : decode cX6_countingVote 24 = .ok (.iload_n 2, 1) := by decide +kernel
theorem dX6_countingVote_25 : decode cX6_countingVote 25 = .ok (.iadd, 1) := by decide +kernel
theorem dX6_countingVote_26 : decode cX6_countingVote 26 = .ok (.invokevirtual 37, 3) := by decide +kernel
theorem dX6_countingVote_29 : decode cX6_countingVote 29 = .ok (.ireturn, 1) := by decide +kernel
theorem dX6_countingVotes_0 : decode cX6_countingVotes 0 = .ok (.iconst 0, 1) := by decide +kernel
theorem dX6_countingVotes_1 : decode cX6_countingVotes 1 = .ok (.istore_n 3, 1) := by decide +kernel
theorem dX6_countingVotes_2 : decode cX6_countingVotes 2 = .ok (.iconst 0, 1) := by decide +kernel
theorem dX6_countingVotes_3 : decode cX6_countingVotes 3 = .ok (.istore 4, 2) := by decide +kernel
theorem dX6_countingVotes_5 : decode cX6_countingVotes 5 = .ok (.iload 4, 2) := by decide +kernel
theorem dX6_countingVotes_7 : decode cX6_countingVotes 7 = .ok (.aload_n 0, 1) := by decide +kernel
theorem dX6_countingVotes_8 : decode cX6_countingVotes 8 = .ok (.getfield 19, 3) := by decide +kernel
theorem dX6_countingVotes_11 : decode cX6_countingVotes 11 = .ok (.if_icmp .ge 24, 3) := by decide +kernel
theorem dX6_countingVotes_14 : decode cX6_countingVotes 14 = .ok (.aload_n 0, 1) := by decide +kernel
theorem dX6_countingVotes_15 : decode cX6_countingVotes 15 = .ok (.iload_n 1, 1) := by decide +kernel
theorem dX6_countingVotes_16 : decode cX6_countingVotes 16 = .ok (.iload 4, 2) := by decide +kernel
theorem dX6_countingVotes_18 : decode cX6_countingVotes 18 = .ok (.iload_n 2, 1) := by decide +kernel
theorem dX6_countingVotes_19 : decode cX6_countingVotes 19 = .ok (.invokevirtual 41, 3) := by decide +kernel
theorem dX6_countingVotes_22 : decode cX6_countingVotes 22 = .ok (.iconst (-1), 1) := by decide +kernel
theorem dX6_countingVotes_23 : decode cX6_countingVotes 23 = .ok (.if_icmp .eq 6, 3) := by decide +kernel
theorem dX6_countingVotes_26 : decode cX6_countingVotes 26 = .ok (.iinc 3 1, 3) := by decide +kernel
theorem dX6_countingVotes_29 : decode cX6_countingVotes 29 = .ok (.iinc 4 1, 3) := by decide +kernel
theorem dX6_countingVotes_32 : decode cX6_countingVotes 32 = .ok (.goto (-27), 3) := by decide +kernel
theorem dX6_countingVotes_35 : decode cX6_countingVotes 35 = .ok (.iload_n 3, 1) := by decide +kernel
theorem dX6_countingVotes_36 : decode cX6_countingVotes 36 = .ok (.ireturn, 1) := by decide +kernel
theorem dX6_yesVotes_0 : decode cX6_yesVotes 0 = .ok (.iconst 0, 1) := by decide +kernel
theorem dX6_yesVotes_1 : decode cX6_yesVotes 1 = .ok (.istore_n 3, 1) := by decide +kernel
theorem dX6_yesVotes_2 : decode cX6_yesVotes 2 = .ok (.iconst 0, 1) := by decide +kernel
theorem dX6_yesVotes_3 : decode cX6_yesVotes 3 = .ok (.istore 4, 2) := by decide +kernel
theorem dX6_yesVotes_5 : decode cX6_yesVotes 5 = .ok (.iload 4, 2) := by decide +kernel
theorem dX6_yesVotes_7 : decode cX6_yesVotes 7 = .ok (.aload_n 0, 1) := by decide +kernel
theorem dX6_yesVotes_8 : decode cX6_yesVotes 8 = .ok (.getfield 19, 3) := by decide +kernel
theorem dX6_yesVotes_11 : decode cX6_yesVotes 11 = .ok (.if_icmp .ge 24, 3) := by decide +kernel
theorem dX6_yesVotes_14 : decode cX6_yesVotes 14 = .ok (.aload_n 0, 1) := by decide +kernel
theorem dX6_yesVotes_15 : decode cX6_yesVotes 15 = .ok (.iload_n 1, 1) := by decide +kernel
theorem dX6_yesVotes_16 : decode cX6_yesVotes 16 = .ok (.iload 4, 2) := by decide +kernel
theorem dX6_yesVotes_18 : decode cX6_yesVotes 18 = .ok (.iload_n 2, 1) := by decide +kernel
theorem dX6_yesVotes_19 : decode cX6_yesVotes 19 = .ok (.invokevirtual 41, 3) := by decide +kernel
theorem dX6_yesVotes_22 : decode cX6_yesVotes 22 = .ok (.iconst 1, 1) := by decide +kernel
theorem dX6_yesVotes_23 : decode cX6_yesVotes 23 = .ok (.if_icmp .ne 6, 3) := by decide +kernel
theorem dX6_yesVotes_26 : decode cX6_yesVotes 26 = .ok (.iinc 3 1, 3) := by decide +kernel
theorem dX6_yesVotes_29 : decode cX6_yesVotes 29 = .ok (.iinc 4 1, 3) := by decide +kernel
theorem dX6_yesVotes_32 : decode cX6_yesVotes 32 = .ok (.goto (-27), 3) := by decide +kernel
theorem dX6_yesVotes_35 : decode cX6_yesVotes 35 = .ok (.iload_n 3, 1) := by decide +kernel
theorem dX6_yesVotes_36 : decode cX6_yesVotes 36 = .ok (.ireturn, 1) := by decide +kernel
theorem dX6_jurorsOnPart_0 : decode cX6_jurorsOnPart 0 = .ok (.iconst 0, 1) := by decide +kernel
theorem dX6_jurorsOnPart_1 : decode cX6_jurorsOnPart 1 = .ok (.istore 4, 2) := by decide +kernel
theorem dX6_jurorsOnPart_3 : decode cX6_jurorsOnPart 3 = .ok (.iconst 0, 1) := by decide +kernel
theorem dX6_jurorsOnPart_4 : decode cX6_jurorsOnPart 4 = .ok (.istore 5, 2) := by decide +kernel
theorem dX6_jurorsOnPart_6 : decode cX6_jurorsOnPart 6 = .ok (.iload 5, 2) := by decide +kernel
theorem dX6_jurorsOnPart_8 : decode cX6_jurorsOnPart 8 = .ok (.aload_n 0, 1) := by decide +kernel
theorem dX6_jurorsOnPart_9 : decode cX6_jurorsOnPart 9 = .ok (.getfield 19, 3) := by decide +kernel
theorem dX6_jurorsOnPart_12 : decode cX6_jurorsOnPart 12 = .ok (.if_icmp .ge 47, 3) := by decide +kernel
theorem dX6_jurorsOnPart_15 : decode cX6_jurorsOnPart 15 = .ok (.aload_n 0, 1) := by decide +kernel
theorem dX6_jurorsOnPart_16 : decode cX6_jurorsOnPart 16 = .ok (.iload_n 1, 1) := by decide +kernel
theorem dX6_jurorsOnPart_17 : decode cX6_jurorsOnPart 17 = .ok (.iload 5, 2) := by decide +kernel
theorem dX6_jurorsOnPart_19 : decode cX6_jurorsOnPart 19 = .ok (.iload_n 3, 1) := by decide +kernel
theorem dX6_jurorsOnPart_20 : decode cX6_jurorsOnPart 20 = .ok (.invokevirtual 41, 3) := by decide +kernel
theorem dX6_jurorsOnPart_23 : decode cX6_jurorsOnPart 23 = .ok (.iconst 1, 1) := by decide +kernel
theorem dX6_jurorsOnPart_24 : decode cX6_jurorsOnPart 24 = .ok (.if_icmp .ne 7, 3) := by decide +kernel
theorem dX6_jurorsOnPart_27 : decode cX6_jurorsOnPart 27 = .ok (.iconst 1, 1) := by decide +kernel
theorem dX6_jurorsOnPart_28 : decode cX6_jurorsOnPart 28 = .ok (.goto 4, 3) := by decide +kernel
theorem dX6_jurorsOnPart_31 : decode cX6_jurorsOnPart 31 = .ok (.iconst 0, 1) := by decide +kernel
theorem dX6_jurorsOnPart_32 : decode cX6_jurorsOnPart 32 = .ok (.istore 6, 2) := by decide +kernel
theorem dX6_jurorsOnPart_34 : decode cX6_jurorsOnPart 34 = .ok (.iload 6, 2) := by decide +kernel
theorem dX6_jurorsOnPart_36 : decode cX6_jurorsOnPart 36 = .ok (.ifCond .eq 17, 3) := by decide +kernel
theorem dX6_jurorsOnPart_39 : decode cX6_jurorsOnPart 39 = .ok (.aload_n 0, 1) := by decide +kernel
theorem dX6_jurorsOnPart_40 : decode cX6_jurorsOnPart 40 = .ok (.iload_n 2, 1) := by decide +kernel
theorem dX6_jurorsOnPart_41 : decode cX6_jurorsOnPart 41 = .ok (.iload 5, 2) := by decide +kernel
theorem dX6_jurorsOnPart_43 : decode cX6_jurorsOnPart 43 = .ok (.iload_n 3, 1) := by decide +kernel
theorem dX6_jurorsOnPart_44 : decode cX6_jurorsOnPart 44 = .ok (.invokevirtual 41, 3) := by decide +kernel
theorem dX6_jurorsOnPart_47 : decode cX6_jurorsOnPart 47 = .ok (.ifCond .ne 6, 3) := by decide +kernel
theorem dX6_jurorsOnPart_50 : decode cX6_jurorsOnPart 50 = .ok (.iinc 4 1, 3) := by decide +kernel
theorem dX6_jurorsOnPart_53 : decode cX6_jurorsOnPart 53 = .ok (.iinc 5 1, 3) := by decide +kernel
theorem dX6_jurorsOnPart_56 : decode cX6_jurorsOnPart 56 = .ok (.goto (-50), 3) := by decide +kernel
theorem dX6_jurorsOnPart_59 : decode cX6_jurorsOnPart 59 = .ok (.iload 4, 2) := by decide +kernel
theorem dX6_jurorsOnPart_61 : decode cX6_jurorsOnPart 61 = .ok (.ireturn, 1) := by decide +kernel
theorem dX7_isLost_0 : decode cX7_isLost 0 = .ok (.aload_n 0, 1) := by decide +kernel
theorem dX7_isLost_1 : decode cX7_isLost 1 = .ok (.getfield 16, 3) := by decide +kernel
theorem dX7_isLost_4 : decode cX7_isLost 4 = .ok (.iload_n 1, 1) := by decide +kernel
theorem dX7_isLost_5 : decode cX7_isLost 5 = .ok (.iaload, 1) := by decide +kernel
theorem dX7_isLost_6 : decode cX7_isLost 6 = .ok (.iconst (-1), 1) := by decide +kernel
theorem dX7_isLost_7 : decode cX7_isLost 7 = .ok (.if_icmp .ne 7, 3) := by decide +kernel
theorem dX7_isLost_10 : decode cX7_isLost 10 = .ok (.iconst 1, 1) := by decide +kernel
theorem dX7_isLost_11 : decode cX7_isLost 11 = .ok (.goto 4, 3) := by decide +kernel
theorem dX7_isLost_14 : decode cX7_isLost 14 = .ok (.iconst 0, 1) := by decide +kernel
theorem dX7_isLost_15 : decode cX7_isLost 15 = .ok (.ireturn, 1) := by decide +kernel
theorem dX7_found_0 : decode cX7_found 0 = .ok (.aload_n 0, 1) := by decide +kernel
theorem dX7_found_1 : decode cX7_found 1 = .ok (.iload_n 1, 1) := by decide +kernel
theorem dX7_found_2 : decode cX7_found 2 = .ok (.putfield 23, 3) := by decide +kernel
theorem dX7_found_5 : decode cX7_found 5 = .ok (.bipush (-10), 2) := by decide +kernel
theorem dX7_found_7 : decode cX7_found 7 = .ok (.iload_n 1, 1) := by decide +kernel
theorem dX7_found_8 : decode cX7_found 8 = .ok (.isub, 1) := by decide +kernel
theorem dX7_found_9 : decode cX7_found 9 = .ok (.ireturn, 1) := by decide +kernel
theorem dX7_lay_0 : decode cX7_lay 0 = .ok (.aload_n 0, 1) := by decide +kernel
theorem dX7_lay_1 : decode cX7_lay 1 = .ok (.getfield 16, 3) := by decide +kernel
theorem dX7_lay_4 : decode cX7_lay 4 = .ok (.iload_n 1, 1) := by decide +kernel
theorem dX7_lay_5 : decode cX7_lay 5 = .ok (.iload_n 2, 1) := by decide +kernel
theorem dX7_lay_6 : decode cX7_lay 6 = .ok (.iastore, 1) := by decide +kernel
theorem dX7_lay_7 : decode cX7_lay 7 = .ok (.aload_n 0, 1) := by decide +kernel
theorem dX7_lay_8 : decode cX7_lay 8 = .ok (.getfield 20, 3) := by decide +kernel
theorem dX7_lay_11 : decode cX7_lay 11 = .ok (.iload_n 1, 1) := by decide +kernel
theorem dX7_lay_12 : decode cX7_lay 12 = .ok (.iload_n 3, 1) := by decide +kernel
theorem dX7_lay_13 : decode cX7_lay 13 = .ok (.iastore, 1) := by decide +kernel
theorem dX7_lay_14 : decode cX7_lay 14 = .ok (.iconst 0, 1) := by decide +kernel
theorem dX7_lay_15 : decode cX7_lay 15 = .ok (.istore 4, 2) := by decide +kernel
theorem dX7_lay_17 : decode cX7_lay 17 = .ok (.iload 4, 2) := by decide +kernel
theorem dX7_lay_19 : decode cX7_lay 19 = .ok (.iload_n 3, 1) := by decide +kernel
theorem dX7_lay_20 : decode cX7_lay 20 = .ok (.if_icmp .ge 19, 3) := by decide +kernel
theorem dX7_lay_23 : decode cX7_lay 23 = .ok (.aload_n 0, 1) := by decide +kernel
theorem dX7_lay_24 : decode cX7_lay 24 = .ok (.getfield 13, 3) := by decide +kernel
theorem dX7_lay_27 : decode cX7_lay 27 = .ok (.iload_n 1, 1) := by decide +kernel
theorem dX7_lay_28 : decode cX7_lay 28 = .ok (.aaload, 1) := by decide +kernel
theorem dX7_lay_29 : decode cX7_lay 29 = .ok (.iload 4, 2) := by decide +kernel
theorem dX7_lay_31 : decode cX7_lay 31 = .ok (.iconst 0, 1) := by decide +kernel
theorem dX7_lay_32 : decode cX7_lay 32 = .ok (.iastore, 1) := by decide +kernel
theorem dX7_lay_33 : decode cX7_lay 33 = .ok (.iinc 4 1, 3) := by decide +kernel
theorem dX7_lay_36 : decode cX7_lay 36 = .ok (.goto (-19), 3) := by decide +kernel
theorem dX7_lay_39 : decode cX7_lay 39 = .ok (.iload_n 3, 1) := by decide +kernel
theorem dX7_lay_40 : decode cX7_lay 40 = .ok (.ireturn, 1) := by decide +kernel
theorem dX7_drop_0 : decode cX7_drop 0 = .ok (.aload_n 0, 1) := by decide +kernel
theorem dX7_drop_1 : decode cX7_drop 1 = .ok (.getfield 20, 3) := by decide +kernel
theorem dX7_drop_4 : decode cX7_drop 4 = .ok (.iload_n 1, 1) := by decide +kernel
theorem dX7_drop_5 : decode cX7_drop 5 = .ok (.iaload, 1) := by decide +kernel
theorem dX7_drop_6 : decode cX7_drop 6 = .ok (.istore_n 2, 1) := by decide +kernel
theorem dX7_drop_7 : decode cX7_drop 7 = .ok (.aload_n 0, 1) := by decide +kernel
theorem dX7_drop_8 : decode cX7_drop 8 = .ok (.getfield 16, 3) := by decide +kernel
theorem dX7_drop_11 : decode cX7_drop 11 = .ok (.iload_n 1, 1) := by decide +kernel
theorem dX7_drop_12 : decode cX7_drop 12 = .ok (.iconst (-1), 1) := by decide +kernel
theorem dX7_drop_13 : decode cX7_drop 13 = .ok (.iastore, 1) := by decide +kernel
theorem dX7_drop_14 : decode cX7_drop 14 = .ok (.aload_n 0, 1) := by decide +kernel
theorem dX7_drop_15 : decode cX7_drop 15 = .ok (.getfield 20, 3) := by decide +kernel
theorem dX7_drop_18 : decode cX7_drop 18 = .ok (.iload_n 1, 1) := by decide +kernel
theorem dX7_drop_19 : decode cX7_drop 19 = .ok (.iconst 0, 1) := by decide +kernel
theorem dX7_drop_20 : decode cX7_drop 20 = .ok (.iastore, 1) := by decide +kernel
theorem dX7_drop_21 : decode cX7_drop 21 = .ok (.iload_n 2, 1) := by decide +kernel
theorem dX7_drop_22 : decode cX7_drop 22 = .ok (.ireturn, 1) := by decide +kernel
theorem dX7_findingOfItem_0 : decode cX7_findingOfItem 0 = .ok (.aload_n 0, 1) := by decide +kernel
theorem dX7_findingOfItem_1 : decode cX7_findingOfItem 1 = .ok (.iload_n 1, 1) := by decide +kernel
theorem dX7_findingOfItem_2 : decode cX7_findingOfItem 2 = .ok (.invokevirtual 27, 3) := by decide +kernel
theorem dX7_findingOfItem_5 : decode cX7_findingOfItem 5 = .ok (.ifCond .eq 5, 3) := by decide +kernel
theorem dX7_findingOfItem_8 : decode cX7_findingOfItem 8 = .ok (.iconst 1, 1) := by decide +kernel
theorem dX7_findingOfItem_9 : decode cX7_findingOfItem 9 = .ok (.ireturn, 1) := by decide +kernel
theorem dX7_findingOfItem_10 : decode cX7_findingOfItem 10 = .ok (.aload_n 0, 1) := by decide +kernel
theorem dX7_findingOfItem_11 : decode cX7_findingOfItem 11 = .ok (.getfield 16, 3) := by decide +kernel
theorem dX7_findingOfItem_14 : decode cX7_findingOfItem 14 = .ok (.iload_n 1, 1) := by decide +kernel
theorem dX7_findingOfItem_15 : decode cX7_findingOfItem 15 = .ok (.iaload, 1) := by decide +kernel
theorem dX7_findingOfItem_16 : decode cX7_findingOfItem 16 = .ok (.iload_n 2, 1) := by decide +kernel
theorem dX7_findingOfItem_17 : decode cX7_findingOfItem 17 = .ok (.if_icmp .eq 5, 3) := by decide +kernel
theorem dX7_findingOfItem_20 : decode cX7_findingOfItem 20 = .ok (.iconst 3, 1) := by decide +kernel
theorem dX7_findingOfItem_21 : decode cX7_findingOfItem 21 = .ok (.ireturn, 1) := by decide +kernel
theorem dX7_findingOfItem_22 : decode cX7_findingOfItem 22 = .ok (.iload_n 3, 1) := by decide +kernel
theorem dX7_findingOfItem_23 : decode cX7_findingOfItem 23 = .ok (.ifCond .lt 17, 3) := by decide +kernel
theorem dX7_findingOfItem_26 : decode cX7_findingOfItem 26 = .ok (.iload_n 3, 1) := by decide +kernel
theorem dX7_findingOfItem_27 : decode cX7_findingOfItem 27 = .ok (.aload_n 0, 1) := by decide +kernel
theorem dX7_findingOfItem_28 : decode cX7_findingOfItem 28 = .ok (.getfield 20, 3) := by decide +kernel
theorem dX7_findingOfItem_31 : decode cX7_findingOfItem 31 = .ok (.iload_n 1, 1) := by decide +kernel
theorem dX7_findingOfItem_32 : decode cX7_findingOfItem 32 = .ok (.iaload, 1) := by decide +kernel
theorem dX7_findingOfItem_33 : decode cX7_findingOfItem 33 = .ok (.if_icmp .ge 7, 3) := by decide +kernel
theorem dX7_findingOfItem_36 : decode cX7_findingOfItem 36 = .ok (.iconst 0, 1) := by decide +kernel
theorem dX7_findingOfItem_37 : decode cX7_findingOfItem 37 = .ok (.goto 4, 3) := by decide +kernel
theorem dX7_findingOfItem_40 : decode cX7_findingOfItem 40 = .ok (.iconst 2, 1) := by decide +kernel
theorem dX7_findingOfItem_41 : decode cX7_findingOfItem 41 = .ok (.ireturn, 1) := by decide +kernel
theorem dX7_findingOfSheets_0 : decode cX7_findingOfSheets 0 = .ok (.aload_n 0, 1) := by decide +kernel
theorem dX7_findingOfSheets_1 : decode cX7_findingOfSheets 1 = .ok (.iload_n 1, 1) := by decide +kernel
theorem dX7_findingOfSheets_2 : decode cX7_findingOfSheets 2 = .ok (.invokevirtual 27, 3) := by decide +kernel
theorem dX7_findingOfSheets_5 : decode cX7_findingOfSheets 5 = .ok (.ifCond .ne 11, 3) := by decide +kernel
theorem dX7_findingOfSheets_8 : decode cX7_findingOfSheets 8 = .ok (.aload_n 0, 1) := by decide +kernel
theorem dX7_findingOfSheets_9 : decode cX7_findingOfSheets 9 = .ok (.iload_n 2, 1) := by decide +kernel
theorem dX7_findingOfSheets_10 : decode cX7_findingOfSheets 10 = .ok (.invokevirtual 27, 3) := by decide +kernel
theorem dX7_findingOfSheets_13 : decode cX7_findingOfSheets 13 = .ok (.ifCond .eq 5, 3) := by decide +kernel
theorem dX7_findingOfSheets_16 : decode cX7_findingOfSheets 16 = .ok (.iconst 1, 1) := by decide +kernel
theorem dX7_findingOfSheets_17 : decode cX7_findingOfSheets 17 = .ok (.ireturn, 1) := by decide +kernel
theorem dX7_findingOfSheets_18 : decode cX7_findingOfSheets 18 = .ok (.aload_n 0, 1) := by decide +kernel
theorem dX7_findingOfSheets_19 : decode cX7_findingOfSheets 19 = .ok (.getfield 16, 3) := by decide +kernel
theorem dX7_findingOfSheets_22 : decode cX7_findingOfSheets 22 = .ok (.iload_n 1, 1) := by decide +kernel
theorem dX7_findingOfSheets_23 : decode cX7_findingOfSheets 23 = .ok (.iaload, 1) := by decide +kernel
theorem dX7_findingOfSheets_24 : decode cX7_findingOfSheets 24 = .ok (.aload_n 0, 1) := by decide +kernel
theorem dX7_findingOfSheets_25 : decode cX7_findingOfSheets 25 = .ok (.getfield 16, 3) := by decide +kernel
theorem dX7_findingOfSheets_28 : decode cX7_findingOfSheets 28 = .ok (.iload_n 2, 1) := by decide +kernel
theorem dX7_findingOfSheets_29 : decode cX7_findingOfSheets 29 = .ok (.iaload, 1) := by decide +kernel
theorem dX7_findingOfSheets_30 : decode cX7_findingOfSheets 30 = .ok (.if_icmp .ne 7, 3) := by decide +kernel
theorem dX7_findingOfSheets_33 : decode cX7_findingOfSheets 33 = .ok (.iconst 0, 1) := by decide +kernel
theorem dX7_findingOfSheets_34 : decode cX7_findingOfSheets 34 = .ok (.goto 4, 3) := by decide +kernel
theorem dX7_findingOfSheets_37 : decode cX7_findingOfSheets 37 = .ok (.iconst 4, 1) := by decide +kernel
theorem dX7_findingOfSheets_38 : decode cX7_findingOfSheets 38 = .ok (.ireturn, 1) := by decide +kernel
theorem dX7_hasSpan_0 : decode cX7_hasSpan 0 = .ok (.iload_n 2, 1) := by decide +kernel
theorem dX7_hasSpan_1 : decode cX7_hasSpan 1 = .ok (.ifCond .lt 33, 3) := by decide +kernel
theorem dX7_hasSpan_4 : decode cX7_hasSpan 4 = .ok (.iload_n 3, 1) := by decide +kernel
theorem dX7_hasSpan_5 : decode cX7_hasSpan 5 = .ok (.ifCond .lt 29, 3) := by decide +kernel
theorem dX7_hasSpan_8 : decode cX7_hasSpan 8 = .ok (.iload_n 2, 1) := by decide +kernel
theorem dX7_hasSpan_9 : decode cX7_hasSpan 9 = .ok (.aload_n 0, 1) := by decide +kernel
theorem dX7_hasSpan_10 : decode cX7_hasSpan 10 = .ok (.getfield 20, 3) := by decide +kernel
theorem dX7_hasSpan_13 : decode cX7_hasSpan 13 = .ok (.iload_n 1, 1) := by decide +kernel
theorem dX7_hasSpan_14 : decode cX7_hasSpan 14 = .ok (.iaload, 1) := by decide +kernel
theorem dX7_hasSpan_15 : decode cX7_hasSpan 15 = .ok (.if_icmp .gt 19, 3) := by decide +kernel
theorem dX7_hasSpan_18 : decode cX7_hasSpan 18 = .ok (.iload_n 3, 1) := by decide +kernel
theorem dX7_hasSpan_19 : decode cX7_hasSpan 19 = .ok (.aload_n 0, 1) := by decide +kernel
theorem dX7_hasSpan_20 : decode cX7_hasSpan 20 = .ok (.getfield 20, 3) := by decide +kernel
theorem dX7_hasSpan_23 : decode cX7_hasSpan 23 = .ok (.iload_n 1, 1) := by decide +kernel
theorem dX7_hasSpan_24 : decode cX7_hasSpan 24 = .ok (.iaload, 1) := by decide +kernel
theorem dX7_hasSpan_25 : decode cX7_hasSpan 25 = .ok (.iload_n 2, 1) := by decide +kernel
theorem dX7_hasSpan_26 : decode cX7_hasSpan 26 = .ok (.isub, 1) := by decide +kernel
theorem dX7_hasSpan_27 : decode cX7_hasSpan 27 = .ok (.if_icmp .gt 7, 3) := by decide +kernel
theorem dX7_hasSpan_30 : decode cX7_hasSpan 30 = .ok (.iconst 1, 1) := by decide +kernel
theorem dX7_hasSpan_31 : decode cX7_hasSpan 31 = .ok (.goto 4, 3) := by decide +kernel
theorem dX7_hasSpan_34 : decode cX7_hasSpan 34 = .ok (.iconst 0, 1) := by decide +kernel
theorem dX7_hasSpan_35 : decode cX7_hasSpan 35 = .ok (.ireturn, 1) := by decide +kernel
theorem dX7_lowestBits_0 : decode cX7_lowestBits 0 = .ok (.iload_n 0, 1) := by decide +kernel
theorem dX7_lowestBits_1 : decode cX7_lowestBits 1 = .ok (.ifCond .ne 6, 3) := by decide +kernel
theorem dX7_lowestBits_4 : decode cX7_lowestBits 4 = .ok (.iload_n 1, 1) := by decide +kernel
theorem dX7_lowestBits_5 : decode cX7_lowestBits 5 = .ok (.i2b, 1) := by decide +kernel
theorem dX7_lowestBits_6 : decode cX7_lowestBits 6 = .ok (.ireturn, 1) := by decide +kernel
theorem dX7_lowestBits_7 : decode cX7_lowestBits 7 = .ok (.iload_n 0, 1) := by decide +kernel
theorem dX7_lowestBits_8 : decode cX7_lowestBits 8 = .ok (.iconst 1, 1) := by decide +kernel
theorem dX7_lowestBits_9 : decode cX7_lowestBits 9 = .ok (.if_icmp .ne 8, 3) := by decide +kernel
theorem dX7_lowestBits_12 : decode cX7_lowestBits 12 = .ok (.iload_n 1, 1) := by decide +kernel
theorem dX7_lowestBits_13 : decode cX7_lowestBits 13 = .ok (.i2s, 1) := by decide +kernel
theorem dX7_lowestBits_14 : decode cX7_lowestBits 14 = .ok (.goto 4, 3) := by decide +kernel
theorem dX7_lowestBits_17 : decode cX7_lowestBits 17 = .ok (.iload_n 1, 1) := by decide +kernel
theorem dX7_lowestBits_18 : decode cX7_lowestBits 18 = .ok (.ireturn, 1) := by decide +kernel
theorem dX7_voteAt_0 : decode cX7_voteAt 0 = .ok (.iload_n 2, 1) := by decide +kernel
theorem dX7_voteAt_1 : decode cX7_voteAt 1 = .ok (.aload_n 0, 1) := by decide +kernel
theorem dX7_voteAt_2 : decode cX7_voteAt 2 = .ok (.getfield 20, 3) := by decide +kernel
theorem dX7_voteAt_5 : decode cX7_voteAt 5 = .ok (.iload_n 1, 1) := by decide +kernel
theorem dX7_voteAt_6 : decode cX7_voteAt 6 = .ok (.iaload, 1) := by decide +kernel
theorem dX7_voteAt_7 : decode cX7_voteAt 7 = .ok (.if_icmp .ge 14, 3) := by decide +kernel
theorem dX7_voteAt_10 : decode cX7_voteAt 10 = .ok (.aload_n 0, 1) := by decide +kernel
theorem dX7_voteAt_11 : decode cX7_voteAt 11 = .ok (.getfield 13, 3) := by decide +kernel
theorem dX7_voteAt_14 : decode cX7_voteAt 14 = .ok (.iload_n 1, 1) := by decide +kernel
theorem dX7_voteAt_15 : decode cX7_voteAt 15 = .ok (.aaload, 1) := by decide +kernel
theorem dX7_voteAt_16 : decode cX7_voteAt 16 = .ok (.iload_n 2, 1) := by decide +kernel
theorem dX7_voteAt_17 : decode cX7_voteAt 17 = .ok (.iaload, 1) := by decide +kernel
theorem dX7_voteAt_18 : decode cX7_voteAt 18 = .ok (.ifCond .ge 5, 3) := by decide +kernel
theorem dX7_voteAt_21 : decode cX7_voteAt 21 = .ok (.iconst (-1), 1) := by decide +kernel
theorem dX7_voteAt_22 : decode cX7_voteAt 22 = .ok (.ireturn, 1) := by decide +kernel
theorem dX7_voteAt_23 : decode cX7_voteAt 23 = .ok (.aload_n 0, 1) := by decide +kernel
theorem dX7_voteAt_24 : decode cX7_voteAt 24 = .ok (.getfield 13, 3) := by decide +kernel
theorem dX7_voteAt_27 : decode cX7_voteAt 27 = .ok (.iload_n 1, 1) := by decide +kernel
theorem dX7_voteAt_28 : decode cX7_voteAt 28 = .ok (.aaload, 1) := by decide +kernel
theorem dX7_voteAt_29 : decode cX7_voteAt 29 = .ok (.iload_n 2, 1) := by decide +kernel
theorem dX7_voteAt_30 : decode cX7_voteAt 30 = .ok (.iaload, 1) := by decide +kernel
theorem dX7_voteAt_31 : decode cX7_voteAt 31 = .ok (.ifCond .le 7, 3) := by decide +kernel
theorem dX7_voteAt_34 : decode cX7_voteAt 34 = .ok (.iconst 1, 1) := by decide +kernel
theorem dX7_voteAt_35 : decode cX7_voteAt 35 = .ok (.goto 4, 3) := by decide +kernel
theorem dX7_voteAt_38 : decode cX7_voteAt 38 = .ok (.iconst 0, 1) := by decide +kernel
theorem dX7_voteAt_39 : decode cX7_voteAt 39 = .ok (.ireturn, 1) := by decide +kernel
theorem dX8_has_0 : decode cX8_has 0 = .ok (.iconst 0, 1) := by decide +kernel
theorem dX8_has_1 : decode cX8_has 1 = .ok (.istore_n 2, 1) := by decide +kernel
theorem dX8_has_2 : decode cX8_has 2 = .ok (.iload_n 2, 1) := by decide +kernel
theorem dX8_has_3 : decode cX8_has 3 = .ok (.aload_n 0, 1) := by decide +kernel
theorem dX8_has_4 : decode cX8_has 4 = .ok (.getfield 23, 3) := by decide +kernel
theorem dX8_has_7 : decode cX8_has 7 = .ok (.if_icmp .ge 21, 3) := by decide +kernel
theorem dX8_has_10 : decode cX8_has 10 = .ok (.aload_n 0, 1) := by decide +kernel
theorem dX8_has_11 : decode cX8_has 11 = .ok (.getfield 11, 3) := by decide +kernel
theorem dX8_has_14 : decode cX8_has 14 = .ok (.iload_n 2, 1) := by decide +kernel
theorem dX8_has_15 : decode cX8_has 15 = .ok (.iaload, 1) := by decide +kernel
theorem dX8_has_16 : decode cX8_has 16 = .ok (.iload_n 1, 1) := by decide +kernel
theorem dX8_has_17 : decode cX8_has 17 = .ok (.if_icmp .ne 5, 3) := by decide +kernel
theorem dX8_has_20 : decode cX8_has 20 = .ok (.iconst 1, 1) := by decide +kernel
theorem dX8_has_21 : decode cX8_has 21 = .ok (.ireturn, 1) := by decide +kernel
theorem dX8_has_22 : decode cX8_has 22 = .ok (.iinc 2 1, 3) := by decide +kernel
theorem dX8_has_25 : decode cX8_has 25 = .ok (.goto (-23), 3) := by decide +kernel
theorem dX8_has_28 : decode cX8_has 28 = .ok (.iconst 0, 1) := by decide +kernel
theorem dX8_has_29 : decode cX8_has 29 = .ok (.ireturn, 1) := by decide +kernel
theorem dX8_open_0 : decode cX8_open 0 = .ok (.aload_n 0, 1) := by decide +kernel
theorem dX8_open_1 : decode cX8_open 1 = .ok (.getfield 23, 3) := by decide +kernel
theorem dX8_open_4 : decode cX8_open 4 = .ok (.istore_n 2, 1) := by decide +kernel
theorem dX8_open_5 : decode cX8_open 5 = .ok (.aload_n 0, 1) := by decide +kernel
theorem dX8_open_6 : decode cX8_open 6 = .ok (.getfield 11, 3) := by decide +kernel
theorem dX8_open_9 : decode cX8_open 9 = .ok (.iload_n 2, 1) := by decide +kernel
theorem dX8_open_10 : decode cX8_open 10 = .ok (.iload_n 1, 1) := by decide +kernel
theorem dX8_open_11 : decode cX8_open 11 = .ok (.iastore, 1) := by decide +kernel
theorem dX8_open_12 : decode cX8_open 12 = .ok (.aload_n 0, 1) := by decide +kernel
theorem dX8_open_13 : decode cX8_open 13 = .ok (.dup, 1) := by decide +kernel
theorem dX8_open_14 : decode cX8_open 14 = .ok (.getfield 23, 3) := by decide +kernel
theorem dX8_open_17 : decode cX8_open 17 = .ok (.iconst 1, 1) := by decide +kernel
theorem dX8_open_18 : decode cX8_open 18 = .ok (.iadd, 1) := by decide +kernel
theorem dX8_open_19 : decode cX8_open 19 = .ok (.putfield 23, 3) := by decide +kernel
theorem dX8_open_22 : decode cX8_open 22 = .ok (.iload_n 2, 1) := by decide +kernel
theorem dX8_open_23 : decode cX8_open 23 = .ok (.ireturn, 1) := by decide +kernel
theorem dX8_addMark_0 : decode cX8_addMark 0 = .ok (.aload_n 0, 1) := by decide +kernel
theorem dX8_addMark_1 : decode cX8_addMark 1 = .ok (.getfield 20, 3) := by decide +kernel
theorem dX8_addMark_4 : decode cX8_addMark 4 = .ok (.iload_n 1, 1) := by decide +kernel
theorem dX8_addMark_5 : decode cX8_addMark 5 = .ok (.aaload, 1) := by decide +kernel
theorem dX8_addMark_6 : decode cX8_addMark 6 = .ok (.aload_n 0, 1) := by decide +kernel
theorem dX8_addMark_7 : decode cX8_addMark 7 = .ok (.getfield 15, 3) := by decide +kernel
theorem dX8_addMark_10 : decode cX8_addMark 10 = .ok (.iload_n 1, 1) := by decide +kernel
theorem dX8_addMark_11 : decode cX8_addMark 11 = .ok (.iaload, 1) := by decide +kernel
theorem dX8_addMark_12 : decode cX8_addMark 12 = .ok (.iload_n 2, 1) := by decide +kernel
theorem dX8_addMark_13 : decode cX8_addMark 13 = .ok (.iastore, 1) := by decide +kernel
theorem dX8_addMark_14 : decode cX8_addMark 14 = .ok (.aload_n 0, 1) := by decide +kernel
theorem dX8_addMark_15 : decode cX8_addMark 15 = .ok (.getfield 15, 3) := by decide +kernel
theorem dX8_addMark_18 : decode cX8_addMark 18 = .ok (.iload_n 1, 1) := by decide +kernel
theorem dX8_addMark_19 : decode cX8_addMark 19 = .ok (.dup2, 1) := by decide +kernel
theorem dX8_addMark_20 : decode cX8_addMark 20 = .ok (.iaload, 1) := by decide +kernel
theorem dX8_addMark_21 : decode cX8_addMark 21 = .ok (.iconst 1, 1) := by decide +kernel
theorem dX8_addMark_22 : decode cX8_addMark 22 = .ok (.iadd, 1) := by decide +kernel
theorem dX8_addMark_23 : decode cX8_addMark 23 = .ok (.iastore, 1) := by decide +kernel
theorem dX8_addMark_24 : decode cX8_addMark 24 = .ok (.aload_n 0, 1) := by decide +kernel
theorem dX8_addMark_25 : decode cX8_addMark 25 = .ok (.getfield 15, 3) := by decide +kernel
theorem dX8_addMark_28 : decode cX8_addMark 28 = .ok (.iload_n 1, 1) := by decide +kernel
theorem dX8_addMark_29 : decode cX8_addMark 29 = .ok (.iaload, 1) := by decide +kernel
theorem dX8_addMark_30 : decode cX8_addMark 30 = .ok (.ireturn, 1) := by decide +kernel
theorem dX8_lead_0 : decode cX8_lead 0 = .ok (.iconst 0, 1) := by decide +kernel
theorem dX8_lead_1 : decode cX8_lead 1 = .ok (.istore_n 3, 1) := by decide +kernel
theorem dX8_lead_2 : decode cX8_lead 2 = .ok (.iconst 0, 1) := by decide +kernel
theorem dX8_lead_3 : decode cX8_lead 3 = .ok (.istore 4, 2) := by decide +kernel
theorem dX8_lead_5 : decode cX8_lead 5 = .ok (.iconst 0, 1) := by decide +kernel
theorem dX8_lead_6 : decode cX8_lead 6 = .ok (.istore 5, 2) := by decide +kernel
theorem dX8_lead_8 : decode cX8_lead 8 = .ok (.iload 5, 2) := by decide +kernel
theorem dX8_lead_10 : decode cX8_lead 10 = .ok (.aload_n 0, 1) := by decide +kernel
theorem dX8_lead_11 : decode cX8_lead 11 = .ok (.getfield 15, 3) := by decide +kernel
theorem dX8_lead_14 : decode cX8_lead 14 = .ok (.iload_n 1, 1) := by decide +kernel
theorem dX8_lead_15 : decode cX8_lead 15 = .ok (.iaload, 1) := by decide +kernel
theorem dX8_lead_16 : decode cX8_lead 16 = .ok (.if_icmp .ge 68, 3) := by decide +kernel
theorem dX8_lead_19 : decode cX8_lead 19 = .ok (.iload 5, 2) := by decide +kernel
theorem dX8_lead_21 : decode cX8_lead 21 = .ok (.aload_n 0, 1) := by decide +kernel
theorem dX8_lead_22 : decode cX8_lead 22 = .ok (.getfield 15, 3) := by decide +kernel
theorem dX8_lead_25 : decode cX8_lead 25 = .ok (.iload_n 2, 1) := by decide +kernel
theorem dX8_lead_26 : decode cX8_lead 26 = .ok (.iaload, 1) := by decide +kernel
theorem dX8_lead_27 : decode cX8_lead 27 = .ok (.if_icmp .ge 57, 3) := by decide +kernel
theorem dX8_lead_30 : decode cX8_lead 30 = .ok (.iload_n 3, 1) := by decide +kernel
theorem dX8_lead_31 : decode cX8_lead 31 = .ok (.aload_n 0, 1) := by decide +kernel
theorem dX8_lead_32 : decode cX8_lead 32 = .ok (.getfield 20, 3) := by decide +kernel
theorem dX8_lead_35 : decode cX8_lead 35 = .ok (.iload_n 1, 1) := by decide +kernel
theorem dX8_lead_36 : decode cX8_lead 36 = .ok (.aaload, 1) := by decide +kernel
theorem dX8_lead_37 : decode cX8_lead 37 = .ok (.iload 5, 2) := by decide +kernel
theorem dX8_lead_39 : decode cX8_lead 39 = .ok (.iaload, 1) := by decide +kernel
theorem dX8_lead_40 : decode cX8_lead 40 = .ok (.aload_n 0, 1) := by decide +kernel
theorem dX8_lead_41 : decode cX8_lead 41 = .ok (.getfield 20, 3) := by decide +kernel
theorem dX8_lead_44 : decode cX8_lead 44 = .ok (.iload_n 2, 1) := by decide +kernel
theorem dX8_lead_45 : decode cX8_lead 45 = .ok (.aaload, 1) := by decide +kernel
theorem dX8_lead_46 : decode cX8_lead 46 = .ok (.iload 5, 2) := by decide +kernel
theorem dX8_lead_48 : decode cX8_lead 48 = .ok (.iaload, 1) := by decide +kernel
theorem dX8_lead_49 : decode cX8_lead 49 = .ok (.invokestatic 27, 3) := by decide +kernel
theorem dX8_lead_52 : decode cX8_lead 52 = .ok (.iadd, 1) := by decide +kernel
theorem dX8_lead_53 : decode cX8_lead 53 = .ok (.istore_n 3, 1) := by decide +kernel
theorem dX8_lead_54 : decode cX8_lead 54 = .ok (.iload 4, 2) := by decide +kernel
theorem dX8_lead_56 : decode cX8_lead 56 = .ok (.aload_n 0, 1) := by decide +kernel
theorem dX8_lead_57 : decode cX8_lead 57 = .ok (.getfield 20, 3) := by decide +kernel
theorem dX8_lead_60 : decode cX8_lead 60 = .ok (.iload_n 1, 1) := by decide +kernel
theorem dX8_lead_61 : decode cX8_lead 61 = .ok (.aaload, 1) := by decide +kernel
theorem dX8_lead_62 : decode cX8_lead 62 = .ok (.iload 5, 2) := by decide +kernel
theorem dX8_lead_64 : decode cX8_lead 64 = .ok (.iaload, 1) := by decide +kernel
theorem dX8_lead_65 : decode cX8_lead 65 = .ok (.aload_n 0, 1) := by decide +kernel
theorem dX8_lead_66 : decode cX8_lead 66 = .ok (.getfield 20, 3) := by decide +kernel
theorem dX8_lead_69 : decode cX8_lead 69 = .ok (.iload_n 2, 1) := by decide +kernel
theorem dX8_lead_70 : decode cX8_lead 70 = .ok (.aaload, 1) := by decide +kernel
theorem dX8_lead_71 : decode cX8_lead 71 = .ok (.iload 5, 2) := by decide +kernel
theorem dX8_lead_73 : decode cX8_lead 73 = .ok (.iaload, 1) := by decide +kernel
theorem dX8_lead_74 : decode cX8_lead 74 = .ok (.isub, 1) := by decide +kernel
theorem dX8_lead_75 : decode cX8_lead 75 = .ok (.iadd, 1) := by decide +kernel
theorem dX8_lead_76 : decode cX8_lead 76 = .ok (.istore 4, 2) := by decide +kernel
theorem dX8_lead_78 : decode cX8_lead 78 = .ok (.iinc 5 1, 3) := by decide +kernel
theorem dX8_lead_81 : decode cX8_lead 81 = .ok (.goto (-73), 3) := by decide +kernel
theorem dX8_lead_84 : decode cX8_lead 84 = .ok (.iload_n 3, 1) := by decide +kernel
theorem dX8_lead_85 : decode cX8_lead 85 = .ok (.ifCond .eq 7, 3) := by decide +kernel
theorem dX8_lead_88 : decode cX8_lead 88 = .ok (.iload_n 3, 1) := by decide +kernel
theorem dX8_lead_89 : decode cX8_lead 89 = .ok (.goto 5, 3) := by decide +kernel
theorem dX8_lead_92 : decode cX8_lead 92 = .ok (.iload 4, 2) := by decide +kernel
theorem dX8_lead_94 : decode cX8_lead 94 = .ok (.ireturn, 1) := by decide +kernel
theorem dX8_seated_0 : decode cX8_seated 0 = .ok (.iconst 0, 1) := by decide +kernel
theorem dX8_seated_1 : decode cX8_seated 1 = .ok (.istore_n 1, 1) := by decide +kernel
theorem dX8_seated_2 : decode cX8_seated 2 = .ok (.iload_n 1, 1) := by decide +kernel
theorem dX8_seated_3 : decode cX8_seated 3 = .ok (.aload_n 0, 1) := by decide +kernel
theorem dX8_seated_4 : decode cX8_seated 4 = .ok (.getfield 23, 3) := by decide +kernel
theorem dX8_seated_7 : decode cX8_seated 7 = .ok (.if_icmp .ge 24, 3) := by decide +kernel
theorem dX8_seated_10 : decode cX8_seated 10 = .ok (.aload_n 0, 1) := by decide +kernel
theorem dX8_seated_11 : decode cX8_seated 11 = .ok (.iload_n 1, 1) := by decide +kernel
theorem dX8_seated_12 : decode cX8_seated 12 = .ok (.invokevirtual 33, 3) := by decide +kernel
theorem dX8_seated_15 : decode cX8_seated 15 = .ok (.ifCond .eq 10, 3) := by decide +kernel
theorem dX8_seated_18 : decode cX8_seated 18 = .ok (.aload_n 0, 1) := by decide +kernel
theorem dX8_seated_19 : decode cX8_seated 19 = .ok (.getfield 11, 3) := by decide +kernel
theorem dX8_seated_22 : decode cX8_seated 22 = .ok (.iload_n 1, 1) := by decide +kernel
theorem dX8_seated_23 : decode cX8_seated 23 = .ok (.iaload, 1) := by decide +kernel
theorem dX8_seated_24 : decode cX8_seated 24 = .ok (.ireturn, 1) := by decide +kernel
theorem dX8_seated_25 : decode cX8_seated 25 = .ok (.iinc 1 1, 3) := by decide +kernel
theorem dX8_seated_28 : decode cX8_seated 28 = .ok (.goto (-26), 3) := by decide +kernel
theorem dX8_seated_31 : decode cX8_seated 31 = .ok (.iconst (-1), 1) := by decide +kernel
theorem dX8_seated_32 : decode cX8_seated 32 = .ok (.ireturn, 1) := by decide +kernel
theorem dX8_leadsAll_0 : decode cX8_leadsAll 0 = .ok (.iconst 0, 1) := by decide +kernel
theorem dX8_leadsAll_1 : decode cX8_leadsAll 1 = .ok (.istore_n 2, 1) := by decide +kernel
theorem dX8_leadsAll_2 : decode cX8_leadsAll 2 = .ok (.iload_n 2, 1) := by decide +kernel
theorem dX8_leadsAll_3 : decode cX8_leadsAll 3 = .ok (.aload_n 0, 1) := by decide +kernel
theorem dX8_leadsAll_4 : decode cX8_leadsAll 4 = .ok (.getfield 23, 3) := by decide +kernel
theorem dX8_leadsAll_7 : decode cX8_leadsAll 7 = .ok (.if_icmp .ge 25, 3) := by decide +kernel
theorem dX8_leadsAll_10 : decode cX8_leadsAll 10 = .ok (.iload_n 2, 1) := by decide +kernel
theorem dX8_leadsAll_11 : decode cX8_leadsAll 11 = .ok (.iload_n 1, 1) := by decide +kernel
theorem dX8_leadsAll_12 : decode cX8_leadsAll 12 = .ok (.if_icmp .eq 14, 3) := by decide +kernel
theorem dX8_leadsAll_15 : decode cX8_leadsAll 15 = .ok (.aload_n 0, 1) := by decide +kernel
theorem dX8_leadsAll_16 : decode cX8_leadsAll 16 = .ok (.iload_n 1, 1) := by decide +kernel
theorem dX8_leadsAll_17 : decode cX8_leadsAll 17 = .ok (.iload_n 2, 1) := by decide +kernel
theorem dX8_leadsAll_18 : decode cX8_leadsAll 18 = .ok (.invokevirtual 37, 3) := by decide +kernel
theorem dX8_leadsAll_21 : decode cX8_leadsAll 21 = .ok (.ifCond .gt 5, 3) := by decide +kernel
theorem dX8_leadsAll_24 : decode cX8_leadsAll 24 = .ok (.iconst 0, 1) := by decide +kernel
theorem dX8_leadsAll_25 : decode cX8_leadsAll 25 = .ok (.ireturn, 1) := by decide +kernel
theorem dX8_leadsAll_26 : decode cX8_leadsAll 26 = .ok (.iinc 2 1, 3) := by decide +kernel
theorem dX8_leadsAll_29 : decode cX8_leadsAll 29 = .ok (.goto (-27), 3) := by decide +kernel
theorem dX8_leadsAll_32 : decode cX8_leadsAll 32 = .ok (.iconst 1, 1) := by decide +kernel
theorem dX8_leadsAll_33 : decode cX8_leadsAll 33 = .ok (.ireturn, 1) := by decide +kernel
theorem dX9_player_0 : decode cX9_player 0 = .ok (.iload_n 1, 1) := by decide +kernel
theorem dX9_player_1 : decode cX9_player 1 = .ok (.iconst 0, 1) := by decide +kernel
theorem dX9_player_2 : decode cX9_player 2 = .ok (.sipush 511, 3) := by decide +kernel
theorem dX9_player_5 : decode cX9_player 5 = .ok (.invokestatic 73, 3) := by decide +kernel
theorem dX9_player_8 : decode cX9_player 8 = .ok (.ifCond .ne 6, 3) := by decide +kernel
theorem dX9_player_11 : decode cX9_player 11 = .ok (.bipush (-2), 2) := by decide +kernel
theorem dX9_player_13 : decode cX9_player 13 = .ok (.ireturn, 1) := by decide +kernel
theorem dX9_player_14 : decode cX9_player 14 = .ok (.aload_n 0, 1) := by decide +kernel
theorem dX9_player_15 : decode cX9_player 15 = .ok (.getfield 21, 3) := by decide +kernel
theorem dX9_player_18 : decode cX9_player 18 = .ok (.getfield 77, 3) := by decide +kernel
theorem dX9_player_21 : decode cX9_player 21 = .ok (.bipush 24, 2) := by decide +kernel
theorem dX9_player_23 : decode cX9_player 23 = .ok (.if_icmp .ge 14, 3) := by decide +kernel
theorem dX9_player_26 : decode cX9_player 26 = .ok (.aload_n 0, 1) := by decide +kernel
theorem dX9_player_27 : decode cX9_player 27 = .ok (.getfield 21, 3) := by decide +kernel
theorem dX9_player_30 : decode cX9_player 30 = .ok (.iload_n 1, 1) := by decide +kernel
theorem dX9_player_31 : decode cX9_player 31 = .ok (.invokevirtual 81, 3) := by decide +kernel
theorem dX9_player_34 : decode cX9_player 34 = .ok (.goto 5, 3) := by decide +kernel
theorem dX9_player_37 : decode cX9_player 37 = .ok (.bipush (-4), 2) := by decide +kernel
theorem dX9_player_39 : decode cX9_player 39 = .ok (.ireturn, 1) := by decide +kernel
theorem dX9_jurors_0 : decode cX9_jurors 0 = .ok (.iload_n 1, 1) := by decide +kernel
theorem dX9_jurors_1 : decode cX9_jurors 1 = .ok (.iconst 1, 1) := by decide +kernel
theorem dX9_jurors_2 : decode cX9_jurors 2 = .ok (.bipush 9, 2) := by decide +kernel
theorem dX9_jurors_4 : decode cX9_jurors 4 = .ok (.invokestatic 73, 3) := by decide +kernel
theorem dX9_jurors_7 : decode cX9_jurors 7 = .ok (.ifCond .ne 6, 3) := by decide +kernel
theorem dX9_jurors_10 : decode cX9_jurors 10 = .ok (.bipush (-2), 2) := by decide +kernel
theorem dX9_jurors_12 : decode cX9_jurors 12 = .ok (.ireturn, 1) := by decide +kernel
theorem dX9_jurors_13 : decode cX9_jurors 13 = .ok (.aload_n 0, 1) := by decide +kernel
theorem dX9_jurors_14 : decode cX9_jurors 14 = .ok (.getfield 21, 3) := by decide +kernel
theorem dX9_jurors_17 : decode cX9_jurors 17 = .ok (.getfield 85, 3) := by decide +kernel
theorem dX9_jurors_20 : decode cX9_jurors 20 = .ok (.istore_n 2, 1) := by decide +kernel
theorem dX9_jurors_21 : decode cX9_jurors 21 = .ok (.aload_n 0, 1) := by decide +kernel
theorem dX9_jurors_22 : decode cX9_jurors 22 = .ok (.getfield 21, 3) := by decide +kernel
theorem dX9_jurors_25 : decode cX9_jurors 25 = .ok (.iload_n 1, 1) := by decide +kernel
theorem dX9_jurors_26 : decode cX9_jurors 26 = .ok (.putfield 85, 3) := by decide +kernel
theorem dX9_jurors_29 : decode cX9_jurors 29 = .ok (.iload_n 2, 1) := by decide +kernel
theorem dX9_jurors_30 : decode cX9_jurors 30 = .ok (.ireturn, 1) := by decide +kernel
theorem dX9_draw_0 : decode cX9_draw 0 = .ok (.aload_n 0, 1) := by decide +kernel
theorem dX9_draw_1 : decode cX9_draw 1 = .ok (.getfield 21, 3) := by decide +kernel
theorem dX9_draw_4 : decode cX9_draw 4 = .ok (.iload_n 1, 1) := by decide +kernel
theorem dX9_draw_5 : decode cX9_draw 5 = .ok (.invokevirtual 88, 3) := by decide +kernel
theorem dX9_draw_8 : decode cX9_draw 8 = .ok (.aload_n 0, 1) := by decide +kernel
theorem dX9_draw_9 : decode cX9_draw 9 = .ok (.getfield 21, 3) := by decide +kernel
theorem dX9_draw_12 : decode cX9_draw 12 = .ok (.getfield 77, 3) := by decide +kernel
theorem dX9_draw_15 : decode cX9_draw 15 = .ok (.ifCond .le 15, 3) := by decide +kernel
theorem dX9_draw_18 : decode cX9_draw 18 = .ok (.aload_n 0, 1) := by decide +kernel
theorem dX9_draw_19 : decode cX9_draw 19 = .ok (.getfield 21, 3) := by decide +kernel
theorem dX9_draw_22 : decode cX9_draw 22 = .ok (.getfield 92, 3) := by decide +kernel
theorem dX9_draw_25 : decode cX9_draw 25 = .ok (.iconst 0, 1) := by decide +kernel
theorem dX9_draw_26 : decode cX9_draw 26 = .ok (.iaload, 1) := by decide +kernel
theorem dX9_draw_27 : decode cX9_draw 27 = .ok (.goto 4, 3) := by decide +kernel
theorem dX9_draw_30 : decode cX9_draw 30 = .ok (.iconst (-1), 1) := by decide +kernel
theorem dX9_draw_31 : decode cX9_draw 31 = .ok (.ireturn, 1) := by decide +kernel
theorem dX9_order_0 : decode cX9_order 0 = .ok (.aload_n 0, 1) := by decide +kernel
theorem dX9_order_1 : decode cX9_order 1 = .ok (.iload_n 1, 1) := by decide +kernel
theorem dX9_order_2 : decode cX9_order 2 = .ok (.invokevirtual 95, 3) := by decide +kernel
theorem dX9_order_5 : decode cX9_order 5 = .ok (.ifCond .eq 15, 3) := by decide +kernel
theorem dX9_order_8 : decode cX9_order 8 = .ok (.aload_n 0, 1) := by decide +kernel
theorem dX9_order_9 : decode cX9_order 9 = .ok (.getfield 21, 3) := by decide +kernel
theorem dX9_order_12 : decode cX9_order 12 = .ok (.getfield 92, 3) := by decide +kernel
theorem dX9_order_15 : decode cX9_order 15 = .ok (.iload_n 1, 1) := by decide +kernel
theorem dX9_order_16 : decode cX9_order 16 = .ok (.iaload, 1) := by decide +kernel
theorem dX9_order_17 : decode cX9_order 17 = .ok (.goto 5, 3) := by decide +kernel
theorem dX9_order_20 : decode cX9_order 20 = .ok (.bipush (-2), 2) := by decide +kernel
theorem dX9_order_22 : decode cX9_order 22 = .ok (.ireturn, 1) := by decide +kernel
theorem dX9_votes_0 : decode cX9_votes 0 = .ok (.aload_n 0, 1) := by decide +kernel
theorem dX9_votes_1 : decode cX9_votes 1 = .ok (.iload_n 1, 1) := by decide +kernel
theorem dX9_votes_2 : decode cX9_votes 2 = .ok (.invokevirtual 95, 3) := by decide +kernel
theorem dX9_votes_5 : decode cX9_votes 5 = .ok (.ifCond .eq 19, 3) := by decide +kernel
theorem dX9_votes_8 : decode cX9_votes 8 = .ok (.iload_n 2, 1) := by decide +kernel
theorem dX9_votes_9 : decode cX9_votes 9 = .ok (.invokestatic 99, 3) := by decide +kernel
theorem dX9_votes_12 : decode cX9_votes 12 = .ok (.ifCond .eq 12, 3) := by decide +kernel
theorem dX9_votes_15 : decode cX9_votes 15 = .ok (.iload_n 3, 1) := by decide +kernel
theorem dX9_votes_16 : decode cX9_votes 16 = .ok (.iconst 0, 1) := by decide +kernel
theorem dX9_votes_17 : decode cX9_votes 17 = .ok (.iconst 1, 1) := by decide +kernel
theorem dX9_votes_18 : decode cX9_votes 18 = .ok (.invokestatic 73, 3) := by decide +kernel
theorem dX9_votes_21 : decode cX9_votes 21 = .ok (.ifCond .ne 6, 3) := by decide +kernel
theorem dX9_votes_24 : decode cX9_votes 24 = .ok (.bipush (-2), 2) := by decide +kernel
theorem dX9_votes_26 : decode cX9_votes 26 = .ok (.ireturn, 1) := by decide +kernel
theorem dX9_votes_27 : decode cX9_votes 27 = .ok (.iload_n 3, 1) := by decide +kernel
theorem dX9_votes_28 : decode cX9_votes 28 = .ok (.ifCond .ne 15, 3) := by decide +kernel
theorem dX9_votes_31 : decode cX9_votes 31 = .ok (.aload_n 0, 1) := by decide +kernel
theorem dX9_votes_32 : decode cX9_votes 32 = .ok (.getfield 21, 3) := by decide +kernel
theorem dX9_votes_35 : decode cX9_votes 35 = .ok (.iload_n 1, 1) := by decide +kernel
theorem dX9_votes_36 : decode cX9_votes 36 = .ok (.iload_n 2, 1) := by decide +kernel
theorem dX9_votes_37 : decode cX9_votes 37 = .ok (.invokevirtual 102, 3) := by decide +kernel
theorem dX9_votes_40 : decode cX9_votes 40 = .ok (.goto 12, 3) := by decide +kernel
theorem dX9_votes_43 : decode cX9_votes 43 = .ok (.aload_n 0, 1) := by decide +kernel
theorem dX9_votes_44 : decode cX9_votes 44 = .ok (.getfield 21, 3) := by decide +kernel
theorem dX9_votes_47 : decode cX9_votes 47 = .ok (.iload_n 1, 1) := by decide +kernel
theorem dX9_votes_48 : decode cX9_votes 48 = .ok (.iload_n 2, 1) := by decide +kernel
theorem dX9_votes_49 : decode cX9_votes 49 = .ok (.invokevirtual 106, 3) := by decide +kernel
theorem dX9_votes_52 : decode cX9_votes 52 = .ok (.ireturn, 1) := by decide +kernel
theorem dX9_type_0 : decode cX9_type 0 = .ok (.iload_n 1, 1) := by decide +kernel
theorem dX9_type_1 : decode cX9_type 1 = .ok (.iconst 0, 1) := by decide +kernel
theorem dX9_type_2 : decode cX9_type 2 = .ok (.sipush 255, 3) := by decide +kernel
theorem dX9_type_5 : decode cX9_type 5 = .ok (.invokestatic 73, 3) := by decide +kernel
theorem dX9_type_8 : decode cX9_type 8 = .ok (.ifCond .ne 6, 3) := by decide +kernel
theorem dX9_type_11 : decode cX9_type 11 = .ok (.bipush (-2), 2) := by decide +kernel
theorem dX9_type_13 : decode cX9_type 13 = .ok (.ireturn, 1) := by decide +kernel
theorem dX9_type_14 : decode cX9_type 14 = .ok (.aload_n 0, 1) := by decide +kernel
theorem dX9_type_15 : decode cX9_type 15 = .ok (.getfield 28, 3) := by decide +kernel
theorem dX9_type_18 : decode cX9_type 18 = .ok (.getfield 109, 3) := by decide +kernel
theorem dX9_type_21 : decode cX9_type 21 = .ok (.bipush 60, 2) := by decide +kernel
theorem dX9_type_23 : decode cX9_type 23 = .ok (.if_icmp .ge 14, 3) := by decide +kernel
theorem dX9_type_26 : decode cX9_type 26 = .ok (.aload_n 0, 1) := by decide +kernel
theorem dX9_type_27 : decode cX9_type 27 = .ok (.getfield 28, 3) := by decide +kernel
theorem dX9_type_30 : decode cX9_type 30 = .ok (.iload_n 1, 1) := by decide +kernel
theorem dX9_type_31 : decode cX9_type 31 = .ok (.invokevirtual 112, 3) := by decide +kernel
theorem dX9_type_34 : decode cX9_type 34 = .ok (.goto 5, 3) := by decide +kernel
theorem dX9_type_37 : decode cX9_type 37 = .ok (.bipush (-4), 2) := by decide +kernel
theorem dX9_type_39 : decode cX9_type 39 = .ok (.ireturn, 1) := by decide +kernel
theorem dX9_repeal_0 : decode cX9_repeal 0 = .ok (.aload_n 0, 1) := by decide +kernel
theorem dX9_repeal_1 : decode cX9_repeal 1 = .ok (.getfield 28, 3) := by decide +kernel
theorem dX9_repeal_4 : decode cX9_repeal 4 = .ok (.invokevirtual 115, 3) := by decide +kernel
theorem dX9_repeal_7 : decode cX9_repeal 7 = .ok (.ireturn, 1) := by decide +kernel
theorem dX9_fault_0 : decode cX9_fault 0 = .ok (.aload_n 0, 1) := by decide +kernel
theorem dX9_fault_1 : decode cX9_fault 1 = .ok (.getfield 28, 3) := by decide +kernel
theorem dX9_fault_4 : decode cX9_fault 4 = .ok (.getfield 119, 3) := by decide +kernel
theorem dX9_fault_7 : decode cX9_fault 7 = .ok (.ireturn, 1) := by decide +kernel
theorem dX9_law_0 : decode cX9_law 0 = .ok (.iload_n 2, 1) := by decide +kernel
theorem dX9_law_1 : decode cX9_law 1 = .ok (.iconst 0, 1) := by decide +kernel
theorem dX9_law_2 : decode cX9_law 2 = .ok (.iconst 2, 1) := by decide +kernel
theorem dX9_law_3 : decode cX9_law 3 = .ok (.invokestatic 73, 3) := by decide +kernel
theorem dX9_law_6 : decode cX9_law 6 = .ok (.ifCond .ne 6, 3) := by decide +kernel
theorem dX9_law_9 : decode cX9_law 9 = .ok (.bipush (-2), 2) := by decide +kernel
theorem dX9_law_11 : decode cX9_law 11 = .ok (.ireturn, 1) := by decide +kernel
theorem dX9_law_12 : decode cX9_law 12 = .ok (.aload_n 0, 1) := by decide +kernel
theorem dX9_law_13 : decode cX9_law 13 = .ok (.iload_n 1, 1) := by decide +kernel
theorem dX9_law_14 : decode cX9_law 14 = .ok (.invokevirtual 122, 3) := by decide +kernel
theorem dX9_law_17 : decode cX9_law 17 = .ok (.istore_n 3, 1) := by decide +kernel
theorem dX9_law_18 : decode cX9_law 18 = .ok (.iload_n 3, 1) := by decide +kernel
theorem dX9_law_19 : decode cX9_law 19 = .ok (.ifCond .eq 5, 3) := by decide +kernel
theorem dX9_law_22 : decode cX9_law 22 = .ok (.iload_n 3, 1) := by decide +kernel
theorem dX9_law_23 : decode cX9_law 23 = .ok (.ireturn, 1) := by decide +kernel
theorem dX9_law_24 : decode cX9_law 24 = .ok (.iload_n 2, 1) := by decide +kernel
theorem dX9_law_25 : decode cX9_law 25 = .ok (.ifCond .ne 13, 3) := by decide +kernel
theorem dX9_law_28 : decode cX9_law 28 = .ok (.aload_n 0, 1) := by decide +kernel
theorem dX9_law_29 : decode cX9_law 29 = .ok (.getfield 28, 3) := by decide +kernel
theorem dX9_law_32 : decode cX9_law 32 = .ok (.getfield 125, 3) := by decide +kernel
theorem dX9_law_35 : decode cX9_law 35 = .ok (.iload_n 1, 1) := by decide +kernel
theorem dX9_law_36 : decode cX9_law 36 = .ok (.iaload, 1) := by decide +kernel
theorem dX9_law_37 : decode cX9_law 37 = .ok (.ireturn, 1) := by decide +kernel
theorem dX9_law_38 : decode cX9_law 38 = .ok (.iload_n 2, 1) := by decide +kernel
theorem dX9_law_39 : decode cX9_law 39 = .ok (.iconst 1, 1) := by decide +kernel
theorem dX9_law_40 : decode cX9_law 40 = .ok (.if_icmp .ne 15, 3) := by decide +kernel
theorem dX9_law_43 : decode cX9_law 43 = .ok (.aload_n 0, 1) := by decide +kernel
theorem dX9_law_44 : decode cX9_law 44 = .ok (.getfield 28, 3) := by decide +kernel
theorem dX9_law_47 : decode cX9_law 47 = .ok (.getfield 128, 3) := by decide +kernel
theorem dX9_law_50 : decode cX9_law 50 = .ok (.iload_n 1, 1) := by decide +kernel
theorem dX9_law_51 : decode cX9_law 51 = .ok (.iaload, 1) := by decide +kernel
theorem dX9_law_52 : decode cX9_law 52 = .ok (.goto 12, 3) := by decide +kernel
theorem dX9_law_55 : decode cX9_law 55 = .ok (.aload_n 0, 1) := by decide +kernel
theorem dX9_law_56 : decode cX9_law 56 = .ok (.getfield 28, 3) := by decide +kernel
theorem dX9_law_59 : decode cX9_law 59 = .ok (.getfield 131, 3) := by decide +kernel
theorem dX9_law_62 : decode cX9_law 62 = .ok (.iload_n 1, 1) := by decide +kernel
theorem dX9_law_63 : decode cX9_law 63 = .ok (.iaload, 1) := by decide +kernel
theorem dX9_law_64 : decode cX9_law 64 = .ok (.ireturn, 1) := by decide +kernel
theorem dX9_advance_0 : decode cX9_advance 0 = .ok (.aload_n 0, 1) := by decide +kernel
theorem dX9_advance_1 : decode cX9_advance 1 = .ok (.iload_n 1, 1) := by decide +kernel
theorem dX9_advance_2 : decode cX9_advance 2 = .ok (.invokevirtual 122, 3) := by decide +kernel
theorem dX9_advance_5 : decode cX9_advance 5 = .ok (.istore_n 2, 1) := by decide +kernel
theorem dX9_advance_6 : decode cX9_advance 6 = .ok (.iload_n 2, 1) := by decide +kernel
theorem dX9_advance_7 : decode cX9_advance 7 = .ok (.ifCond .ne 17, 3) := by decide +kernel
theorem dX9_advance_10 : decode cX9_advance 10 = .ok (.aload_n 0, 1) := by decide +kernel
theorem dX9_advance_11 : decode cX9_advance 11 = .ok (.getfield 37, 3) := by decide +kernel
theorem dX9_advance_14 : decode cX9_advance 14 = .ok (.iload_n 1, 1) := by decide +kernel
theorem dX9_advance_15 : decode cX9_advance 15 = .ok (.invokevirtual 134, 3) := by decide +kernel
theorem dX9_advance_18 : decode cX9_advance 18 = .ok (.invokestatic 137, 3) := by decide +kernel
theorem dX9_advance_21 : decode cX9_advance 21 = .ok (.goto 4, 3) := by decide +kernel
theorem dX9_advance_24 : decode cX9_advance 24 = .ok (.iload_n 2, 1) := by decide +kernel
theorem dX9_advance_25 : decode cX9_advance 25 = .ok (.ireturn, 1) := by decide +kernel
theorem dX9_through_0 : decode cX9_through 0 = .ok (.aload_n 0, 1) := by decide +kernel
theorem dX9_through_1 : decode cX9_through 1 = .ok (.iload_n 1, 1) := by decide +kernel
theorem dX9_through_2 : decode cX9_through 2 = .ok (.invokevirtual 122, 3) := by decide +kernel
theorem dX9_through_5 : decode cX9_through 5 = .ok (.istore_n 2, 1) := by decide +kernel
theorem dX9_through_6 : decode cX9_through 6 = .ok (.iload_n 2, 1) := by decide +kernel
theorem dX9_through_7 : decode cX9_through 7 = .ok (.ifCond .ne 14, 3) := by decide +kernel
theorem dX9_through_10 : decode cX9_through 10 = .ok (.aload_n 0, 1) := by decide +kernel
theorem dX9_through_11 : decode cX9_through 11 = .ok (.getfield 37, 3) := by decide +kernel
theorem dX9_through_14 : decode cX9_through 14 = .ok (.iload_n 1, 1) := by decide +kernel
theorem dX9_through_15 : decode cX9_through 15 = .ok (.invokevirtual 134, 3) := by decide +kernel
theorem dX9_through_18 : decode cX9_through 18 = .ok (.goto 4, 3) := by decide +kernel
theorem dX9_through_21 : decode cX9_through 21 = .ok (.iload_n 2, 1) := by decide +kernel
theorem dX9_through_22 : decode cX9_through 22 = .ok (.ireturn, 1) := by decide +kernel
theorem dX9_chosen_0 : decode cX9_chosen 0 = .ok (.aload_n 0, 1) := by decide +kernel
theorem dX9_chosen_1 : decode cX9_chosen 1 = .ok (.getfield 28, 3) := by decide +kernel
theorem dX9_chosen_4 : decode cX9_chosen 4 = .ok (.getfield 142, 3) := by decide +kernel
theorem dX9_chosen_7 : decode cX9_chosen 7 = .ok (.ifCond .ne 6, 3) := by decide +kernel
theorem dX9_chosen_10 : decode cX9_chosen 10 = .ok (.bipush (-3), 2) := by decide +kernel
theorem dX9_chosen_12 : decode cX9_chosen 12 = .ok (.ireturn, 1) := by decide +kernel
theorem dX9_chosen_13 : decode cX9_chosen 13 = .ok (.aload_n 0, 1) := by decide +kernel
theorem dX9_chosen_14 : decode cX9_chosen 14 = .ok (.getfield 37, 3) := by decide +kernel
theorem dX9_chosen_17 : decode cX9_chosen 17 = .ok (.aload_n 0, 1) := by decide +kernel
theorem dX9_chosen_18 : decode cX9_chosen 18 = .ok (.getfield 28, 3) := by decide +kernel
theorem dX9_chosen_21 : decode cX9_chosen 21 = .ok (.getfield 142, 3) := by decide +kernel
theorem dX9_chosen_24 : decode cX9_chosen 24 = .ok (.iconst 1, 1) := by decide +kernel
theorem dX9_chosen_25 : decode cX9_chosen 25 = .ok (.isub, 1) := by decide +kernel
theorem dX9_chosen_26 : decode cX9_chosen 26 = .ok (.invokevirtual 134, 3) := by decide +kernel
theorem dX9_chosen_29 : decode cX9_chosen 29 = .ok (.istore_n 1, 1) := by decide +kernel
theorem dX9_chosen_30 : decode cX9_chosen 30 = .ok (.iconst 0, 1) := by decide +kernel
theorem dX9_chosen_31 : decode cX9_chosen 31 = .ok (.istore_n 2, 1) := by decide +kernel
theorem dX9_chosen_32 : decode cX9_chosen 32 = .ok (.iload_n 2, 1) := by decide +kernel
theorem dX9_chosen_33 : decode cX9_chosen 33 = .ok (.aload_n 0, 1) := by decide +kernel
theorem dX9_chosen_34 : decode cX9_chosen 34 = .ok (.getfield 21, 3) := by decide +kernel
theorem dX9_chosen_37 : decode cX9_chosen 37 = .ok (.getfield 77, 3) := by decide +kernel
theorem dX9_chosen_40 : decode cX9_chosen 40 = .ok (.if_icmp .ge 18, 3) := by decide +kernel
theorem dX9_chosen_43 : decode cX9_chosen 43 = .ok (.iload_n 1, 1) := by decide +kernel
theorem dX9_chosen_44 : decode cX9_chosen 44 = .ok (.iconst 1, 1) := by decide +kernel
theorem dX9_chosen_45 : decode cX9_chosen 45 = .ok (.iload_n 2, 1) := by decide +kernel
theorem dX9_chosen_46 : decode cX9_chosen 46 = .ok (.ishl, 1) := by decide +kernel
theorem dX9_chosen_47 : decode cX9_chosen 47 = .ok (.if_icmp .ne 5, 3) := by decide +kernel
theorem dX9_chosen_50 : decode cX9_chosen 50 = .ok (.iload_n 2, 1) := by decide +kernel
theorem dX9_chosen_51 : decode cX9_chosen 51 = .ok (.ireturn, 1) := by decide +kernel
theorem dX9_chosen_52 : decode cX9_chosen 52 = .ok (.iinc 2 1, 3) := by decide +kernel
theorem dX9_chosen_55 : decode cX9_chosen 55 = .ok (.goto (-23), 3) := by decide +kernel
theorem dX9_chosen_58 : decode cX9_chosen 58 = .ok (.iconst (-1), 1) := by decide +kernel
theorem dX9_chosen_59 : decode cX9_chosen 59 = .ok (.ireturn, 1) := by decide +kernel
theorem dX9_other_0 : decode cX9_other 0 = .ok (.iload_n 1, 1) := by decide +kernel
theorem dX9_other_1 : decode cX9_other 1 = .ok (.iconst 1, 1) := by decide +kernel
theorem dX9_other_2 : decode cX9_other 2 = .ok (.iconst 3, 1) := by decide +kernel
theorem dX9_other_3 : decode cX9_other 3 = .ok (.invokestatic 73, 3) := by decide +kernel
theorem dX9_other_6 : decode cX9_other 6 = .ok (.ifCond .ne 6, 3) := by decide +kernel
theorem dX9_other_9 : decode cX9_other 9 = .ok (.bipush (-2), 2) := by decide +kernel
theorem dX9_other_11 : decode cX9_other 11 = .ok (.ireturn, 1) := by decide +kernel
theorem dX9_other_12 : decode cX9_other 12 = .ok (.iload_n 1, 1) := by decide +kernel
theorem dX9_other_13 : decode cX9_other 13 = .ok (.iconst 3, 1) := by decide +kernel
theorem dX9_other_14 : decode cX9_other 14 = .ok (.if_icmp .ne 11, 3) := by decide +kernel
theorem dX9_other_17 : decode cX9_other 17 = .ok (.aload_n 0, 1) := by decide +kernel
theorem dX9_other_18 : decode cX9_other 18 = .ok (.getfield 44, 3) := by decide +kernel
theorem dX9_other_21 : decode cX9_other 21 = .ok (.invokevirtual 145, 3) := by decide +kernel
theorem dX9_other_24 : decode cX9_other 24 = .ok (.ireturn, 1) := by decide +kernel
theorem dX9_other_25 : decode cX9_other 25 = .ok (.aload_n 0, 1) := by decide +kernel
theorem dX9_other_26 : decode cX9_other 26 = .ok (.getfield 28, 3) := by decide +kernel
theorem dX9_other_29 : decode cX9_other 29 = .ok (.getfield 142, 3) := by decide +kernel
theorem dX9_other_32 : decode cX9_other 32 = .ok (.ifCond .ne 6, 3) := by decide +kernel
theorem dX9_other_35 : decode cX9_other 35 = .ok (.bipush (-3), 2) := by decide +kernel
theorem dX9_other_37 : decode cX9_other 37 = .ok (.ireturn, 1) := by decide +kernel
theorem dX9_other_38 : decode cX9_other 38 = .ok (.iload_n 1, 1) := by decide +kernel
theorem dX9_other_39 : decode cX9_other 39 = .ok (.iconst 1, 1) := by decide +kernel
theorem dX9_other_40 : decode cX9_other 40 = .ok (.if_icmp .ne 13, 3) := by decide +kernel
theorem dX9_other_43 : decode cX9_other 43 = .ok (.aload_n 0, 1) := by decide +kernel
theorem dX9_other_44 : decode cX9_other 44 = .ok (.getfield 44, 3) := by decide +kernel
theorem dX9_other_47 : decode cX9_other 47 = .ok (.invokevirtual 148, 3) := by decide +kernel
theorem dX9_other_50 : decode cX9_other 50 = .ok (.goto 10, 3) := by decide +kernel
theorem dX9_other_53 : decode cX9_other 53 = .ok (.aload_n 0, 1) := by decide +kernel
theorem dX9_other_54 : decode cX9_other 54 = .ok (.getfield 44, 3) := by decide +kernel
theorem dX9_other_57 : decode cX9_other 57 = .ok (.invokevirtual 151, 3) := by decide +kernel
theorem dX9_other_60 : decode cX9_other 60 = .ok (.ireturn, 1) := by decide +kernel
theorem dX9_chance_0 : decode cX9_chance 0 = .ok (.aload_n 0, 1) := by decide +kernel
theorem dX9_chance_1 : decode cX9_chance 1 = .ok (.iload_n 1, 1) := by decide +kernel
theorem dX9_chance_2 : decode cX9_chance 2 = .ok (.invokevirtual 154, 3) := by decide +kernel
theorem dX9_chance_5 : decode cX9_chance 5 = .ok (.ifCond .eq 13, 3) := by decide +kernel
theorem dX9_chance_8 : decode cX9_chance 8 = .ok (.iload_n 2, 1) := by decide +kernel
theorem dX9_chance_9 : decode cX9_chance 9 = .ok (.iconst 0, 1) := by decide +kernel
theorem dX9_chance_10 : decode cX9_chance 10 = .ok (.bipush 100, 2) := by decide +kernel
theorem dX9_chance_12 : decode cX9_chance 12 = .ok (.invokestatic 73, 3) := by decide +kernel
theorem dX9_chance_15 : decode cX9_chance 15 = .ok (.ifCond .ne 6, 3) := by decide +kernel
theorem dX9_chance_18 : decode cX9_chance 18 = .ok (.bipush (-2), 2) := by decide +kernel
theorem dX9_chance_20 : decode cX9_chance 20 = .ok (.ireturn, 1) := by decide +kernel
theorem dX9_chance_21 : decode cX9_chance 21 = .ok (.aload_n 0, 1) := by decide +kernel
theorem dX9_chance_22 : decode cX9_chance 22 = .ok (.getfield 69, 3) := by decide +kernel
theorem dX9_chance_25 : decode cX9_chance 25 = .ok (.iload_n 1, 1) := by decide +kernel
theorem dX9_chance_26 : decode cX9_chance 26 = .ok (.iaload, 1) := by decide +kernel
theorem dX9_chance_27 : decode cX9_chance 27 = .ok (.istore_n 3, 1) := by decide +kernel
theorem dX9_chance_28 : decode cX9_chance 28 = .ok (.aload_n 0, 1) := by decide +kernel
theorem dX9_chance_29 : decode cX9_chance 29 = .ok (.getfield 69, 3) := by decide +kernel
theorem dX9_chance_32 : decode cX9_chance 32 = .ok (.iload_n 1, 1) := by decide +kernel
theorem dX9_chance_33 : decode cX9_chance 33 = .ok (.iload_n 2, 1) := by decide +kernel
theorem dX9_chance_34 : decode cX9_chance 34 = .ok (.iastore, 1) := by decide +kernel
theorem dX9_chance_35 : decode cX9_chance 35 = .ok (.iload_n 3, 1) := by decide +kernel
theorem dX9_chance_36 : decode cX9_chance 36 = .ok (.ireturn, 1) := by decide +kernel
theorem dX9_passes_0 : decode cX9_passes 0 = .ok (.aload_n 0, 1) := by decide +kernel
theorem dX9_passes_1 : decode cX9_passes 1 = .ok (.iload_n 1, 1) := by decide +kernel
theorem dX9_passes_2 : decode cX9_passes 2 = .ok (.invokevirtual 154, 3) := by decide +kernel
theorem dX9_passes_5 : decode cX9_passes 5 = .ok (.ifCond .eq 13, 3) := by decide +kernel
theorem dX9_passes_8 : decode cX9_passes 8 = .ok (.iload_n 2, 1) := by decide +kernel
theorem dX9_passes_9 : decode cX9_passes 9 = .ok (.iconst 1, 1) := by decide +kernel
theorem dX9_passes_10 : decode cX9_passes 10 = .ok (.bipush 100, 2) := by decide +kernel
theorem dX9_passes_12 : decode cX9_passes 12 = .ok (.invokestatic 73, 3) := by decide +kernel
theorem dX9_passes_15 : decode cX9_passes 15 = .ok (.ifCond .ne 6, 3) := by decide +kernel
theorem dX9_passes_18 : decode cX9_passes 18 = .ok (.bipush (-2), 2) := by decide +kernel
theorem dX9_passes_20 : decode cX9_passes 20 = .ok (.ireturn, 1) := by decide +kernel
theorem dX9_passes_21 : decode cX9_passes 21 = .ok (.aload_n 0, 1) := by decide +kernel
theorem dX9_passes_22 : decode cX9_passes 22 = .ok (.getfield 21, 3) := by decide +kernel
theorem dX9_passes_25 : decode cX9_passes 25 = .ok (.getfield 85, 3) := by decide +kernel
theorem dX9_passes_28 : decode cX9_passes 28 = .ok (.aload_n 0, 1) := by decide +kernel
theorem dX9_passes_29 : decode cX9_passes 29 = .ok (.getfield 69, 3) := by decide +kernel
theorem dX9_passes_32 : decode cX9_passes 32 = .ok (.iload_n 1, 1) := by decide +kernel
theorem dX9_passes_33 : decode cX9_passes 33 = .ok (.iaload, 1) := by decide +kernel
theorem dX9_passes_34 : decode cX9_passes 34 = .ok (.iload_n 2, 1) := by decide +kernel
theorem dX9_passes_35 : decode cX9_passes 35 = .ok (.invokestatic 157, 3) := by decide +kernel
theorem dX9_passes_38 : decode cX9_passes 38 = .ok (.ireturn, 1) := by decide +kernel
theorem dX9_all_0 : decode cX9_all 0 = .ok (.aload_n 0, 1) := by decide +kernel
theorem dX9_all_1 : decode cX9_all 1 = .ok (.iload_n 1, 1) := by decide +kernel
theorem dX9_all_2 : decode cX9_all 2 = .ok (.invokevirtual 154, 3) := by decide +kernel
theorem dX9_all_5 : decode cX9_all 5 = .ok (.ifCond .ne 6, 3) := by decide +kernel
theorem dX9_all_8 : decode cX9_all 8 = .ok (.bipush (-2), 2) := by decide +kernel
theorem dX9_all_10 : decode cX9_all 10 = .ok (.ireturn, 1) := by decide +kernel
theorem dX9_all_11 : decode cX9_all 11 = .ok (.aload_n 0, 1) := by decide +kernel
theorem dX9_all_12 : decode cX9_all 12 = .ok (.getfield 28, 3) := by decide +kernel
theorem dX9_all_15 : decode cX9_all 15 = .ok (.getfield 142, 3) := by decide +kernel
theorem dX9_all_18 : decode cX9_all 18 = .ok (.ifCond .ne 6, 3) := by decide +kernel
theorem dX9_all_21 : decode cX9_all 21 = .ok (.bipush (-3), 2) := by decide +kernel
theorem dX9_all_23 : decode cX9_all 23 = .ok (.ireturn, 1) := by decide +kernel
theorem dX9_all_24 : decode cX9_all 24 = .ok (.ldc2_w 163, 3) := by decide +kernel
theorem dX9_all_27 : decode cX9_all 27 = .ok (.lstore_n 2, 1) := by decide +kernel
theorem dX9_all_28 : decode cX9_all 28 = .ok (.iconst 0, 1) := by decide +kernel
theorem dX9_all_29 : decode cX9_all 29 = .ok (.istore 4, 2) := by decide +kernel
theorem dX9_all_31 : decode cX9_all 31 = .ok (.iload 4, 2) := by decide +kernel
theorem dX9_all_33 : decode cX9_all 33 = .ok (.aload_n 0, 1) := by decide +kernel
theorem dX9_all_34 : decode cX9_all 34 = .ok (.getfield 28, 3) := by decide +kernel
theorem dX9_all_37 : decode cX9_all 37 = .ok (.getfield 142, 3) := by decide +kernel
theorem dX9_all_40 : decode cX9_all 40 = .ok (.if_icmp .ge 43, 3) := by decide +kernel
theorem dX9_all_43 : decode cX9_all 43 = .ok (.lload_n 2, 1) := by decide +kernel
theorem dX9_all_44 : decode cX9_all 44 = .ok (.aload_n 0, 1) := by decide +kernel
theorem dX9_all_45 : decode cX9_all 45 = .ok (.getfield 21, 3) := by decide +kernel
theorem dX9_all_48 : decode cX9_all 48 = .ok (.getfield 85, 3) := by decide +kernel
theorem dX9_all_51 : decode cX9_all 51 = .ok (.aload_n 0, 1) := by decide +kernel
theorem dX9_all_52 : decode cX9_all 52 = .ok (.getfield 69, 3) := by decide +kernel
theorem dX9_all_55 : decode cX9_all 55 = .ok (.iload_n 1, 1) := by decide +kernel
theorem dX9_all_56 : decode cX9_all 56 = .ok (.iaload, 1) := by decide +kernel
theorem dX9_all_57 : decode cX9_all 57 = .ok (.aload_n 0, 1) := by decide +kernel
theorem dX9_all_58 : decode cX9_all 58 = .ok (.getfield 28, 3) := by decide +kernel
theorem dX9_all_61 : decode cX9_all 61 = .ok (.getfield 125, 3) := by decide +kernel
theorem dX9_all_64 : decode cX9_all 64 = .ok (.iload 4, 2) := by decide +kernel
theorem dX9_all_66 : decode cX9_all 66 = .ok (.iaload, 1) := by decide +kernel
theorem dX9_all_67 : decode cX9_all 67 = .ok (.invokestatic 157, 3) := by decide +kernel
theorem dX9_all_70 : decode cX9_all 70 = .ok (.i2l, 1) := by decide +kernel
theorem dX9_all_71 : decode cX9_all 71 = .ok (.lmul, 1) := by decide +kernel
theorem dX9_all_72 : decode cX9_all 72 = .ok (.ldc2_w 163, 3) := by decide +kernel
theorem dX9_all_75 : decode cX9_all 75 = .ok (.ldiv, 1) := by decide +kernel
theorem dX9_all_76 : decode cX9_all 76 = .ok (.lstore_n 2, 1) := by decide +kernel
theorem dX9_all_77 : decode cX9_all 77 = .ok (.iinc 4 1, 3) := by decide +kernel
theorem dX9_all_80 : decode cX9_all 80 = .ok (.goto (-49), 3) := by decide +kernel
theorem dX9_all_83 : decode cX9_all 83 = .ok (.lload_n 2, 1) := by decide +kernel
theorem dX9_all_84 : decode cX9_all 84 = .ok (.l2i, 1) := by decide +kernel
theorem dX9_all_85 : decode cX9_all 85 = .ok (.ireturn, 1) := by decide +kernel
theorem dX9_doubt_0 : decode cX9_doubt 0 = .ok (.iload_n 1, 1) := by decide +kernel
theorem dX9_doubt_1 : decode cX9_doubt 1 = .ok (.invokestatic 165, 3) := by decide +kernel
theorem dX9_doubt_4 : decode cX9_doubt 4 = .ok (.ifCond .eq 25, 3) := by decide +kernel
theorem dX9_doubt_7 : decode cX9_doubt 7 = .ok (.iload_n 2, 1) := by decide +kernel
theorem dX9_doubt_8 : decode cX9_doubt 8 = .ok (.invokestatic 165, 3) := by decide +kernel
theorem dX9_doubt_11 : decode cX9_doubt 11 = .ok (.ifCond .eq 18, 3) := by decide +kernel
theorem dX9_doubt_14 : decode cX9_doubt 14 = .ok (.iload_n 3, 1) := by decide +kernel
theorem dX9_doubt_15 : decode cX9_doubt 15 = .ok (.invokestatic 165, 3) := by decide +kernel
theorem dX9_doubt_18 : decode cX9_doubt 18 = .ok (.ifCond .eq 11, 3) := by decide +kernel
theorem dX9_doubt_21 : decode cX9_doubt 21 = .ok (.iload 4, 2) := by decide +kernel
theorem dX9_doubt_23 : decode cX9_doubt 23 = .ok (.invokestatic 165, 3) := by decide +kernel
theorem dX9_doubt_26 : decode cX9_doubt 26 = .ok (.ifCond .ne 6, 3) := by decide +kernel
theorem dX9_doubt_29 : decode cX9_doubt 29 = .ok (.bipush (-2), 2) := by decide +kernel
theorem dX9_doubt_31 : decode cX9_doubt 31 = .ok (.ireturn, 1) := by decide +kernel
theorem dX9_doubt_32 : decode cX9_doubt 32 = .ok (.iload_n 1, 1) := by decide +kernel
theorem dX9_doubt_33 : decode cX9_doubt 33 = .ok (.iload_n 2, 1) := by decide +kernel
theorem dX9_doubt_34 : decode cX9_doubt 34 = .ok (.iload_n 3, 1) := by decide +kernel
theorem dX9_doubt_35 : decode cX9_doubt 35 = .ok (.iload 4, 2) := by decide +kernel
theorem dX9_doubt_37 : decode cX9_doubt 37 = .ok (.invokestatic 168, 3) := by decide +kernel
theorem dX9_doubt_40 : decode cX9_doubt 40 = .ok (.ireturn, 1) := by decide +kernel
theorem dX9_morning_0 : decode cX9_morning 0 = .ok (.iload_n 2, 1) := by decide +kernel
theorem dX9_morning_1 : decode cX9_morning 1 = .ok (.iconst 0, 1) := by decide +kernel
theorem dX9_morning_2 : decode cX9_morning 2 = .ok (.iconst 4, 1) := by decide +kernel
theorem dX9_morning_3 : decode cX9_morning 3 = .ok (.invokestatic 73, 3) := by decide +kernel
theorem dX9_morning_6 : decode cX9_morning 6 = .ok (.ifCond .ne 6, 3) := by decide +kernel
theorem dX9_morning_9 : decode cX9_morning 9 = .ok (.bipush (-2), 2) := by decide +kernel
theorem dX9_morning_11 : decode cX9_morning 11 = .ok (.ireturn, 1) := by decide +kernel
theorem dX9_morning_12 : decode cX9_morning 12 = .ok (.aload_n 0, 1) := by decide +kernel
theorem dX9_morning_13 : decode cX9_morning 13 = .ok (.iload_n 1, 1) := by decide +kernel
theorem dX9_morning_14 : decode cX9_morning 14 = .ok (.invokevirtual 122, 3) := by decide +kernel
theorem dX9_morning_17 : decode cX9_morning 17 = .ok (.istore_n 3, 1) := by decide +kernel
theorem dX9_morning_18 : decode cX9_morning 18 = .ok (.iload_n 3, 1) := by decide +kernel
theorem dX9_morning_19 : decode cX9_morning 19 = .ok (.ifCond .ne 15, 3) := by decide +kernel
theorem dX9_morning_22 : decode cX9_morning 22 = .ok (.aload_n 0, 1) := by decide +kernel
theorem dX9_morning_23 : decode cX9_morning 23 = .ok (.getfield 51, 3) := by decide +kernel
theorem dX9_morning_26 : decode cX9_morning 26 = .ok (.iload_n 1, 1) := by decide +kernel
theorem dX9_morning_27 : decode cX9_morning 27 = .ok (.iload_n 2, 1) := by decide +kernel
theorem dX9_morning_28 : decode cX9_morning 28 = .ok (.invokevirtual 172, 3) := by decide +kernel
theorem dX9_morning_31 : decode cX9_morning 31 = .ok (.goto 4, 3) := by decide +kernel
theorem dX9_morning_34 : decode cX9_morning 34 = .ok (.iload_n 3, 1) := by decide +kernel
theorem dX9_morning_35 : decode cX9_morning 35 = .ok (.ireturn, 1) := by decide +kernel
theorem dX9_trial_0 : decode cX9_trial 0 = .ok (.aload_n 0, 1) := by decide +kernel
theorem dX9_trial_1 : decode cX9_trial 1 = .ok (.iload_n 1, 1) := by decide +kernel
theorem dX9_trial_2 : decode cX9_trial 2 = .ok (.invokevirtual 95, 3) := by decide +kernel
theorem dX9_trial_5 : decode cX9_trial 5 = .ok (.ifCond .ne 6, 3) := by decide +kernel
theorem dX9_trial_8 : decode cX9_trial 8 = .ok (.bipush (-2), 2) := by decide +kernel
theorem dX9_trial_10 : decode cX9_trial 10 = .ok (.ireturn, 1) := by decide +kernel
theorem dX9_trial_11 : decode cX9_trial 11 = .ok (.aload_n 0, 1) := by decide +kernel
theorem dX9_trial_12 : decode cX9_trial 12 = .ok (.getfield 58, 3) := by decide +kernel
theorem dX9_trial_15 : decode cX9_trial 15 = .ok (.iload_n 1, 1) := by decide +kernel
theorem dX9_trial_16 : decode cX9_trial 16 = .ok (.invokevirtual 175, 3) := by decide +kernel
theorem dX9_trial_19 : decode cX9_trial 19 = .ok (.ifCond .eq 6, 3) := by decide +kernel
theorem dX9_trial_22 : decode cX9_trial 22 = .ok (.bipush (-3), 2) := by decide +kernel
theorem dX9_trial_24 : decode cX9_trial 24 = .ok (.ireturn, 1) := by decide +kernel
theorem dX9_trial_25 : decode cX9_trial 25 = .ok (.aload_n 0, 1) := by decide +kernel
theorem dX9_trial_26 : decode cX9_trial 26 = .ok (.getfield 58, 3) := by decide +kernel
theorem dX9_trial_29 : decode cX9_trial 29 = .ok (.getfield 178, 3) := by decide +kernel
theorem dX9_trial_32 : decode cX9_trial 32 = .ok (.bipush 6, 2) := by decide +kernel
theorem dX9_trial_34 : decode cX9_trial 34 = .ok (.if_icmp .ge 14, 3) := by decide +kernel
theorem dX9_trial_37 : decode cX9_trial 37 = .ok (.aload_n 0, 1) := by decide +kernel
theorem dX9_trial_38 : decode cX9_trial 38 = .ok (.getfield 58, 3) := by decide +kernel
theorem dX9_trial_41 : decode cX9_trial 41 = .ok (.iload_n 1, 1) := by decide +kernel
theorem dX9_trial_42 : decode cX9_trial 42 = .ok (.invokevirtual 181, 3) := by decide +kernel
theorem dX9_trial_45 : decode cX9_trial 45 = .ok (.goto 5, 3) := by decide +kernel
theorem dX9_trial_48 : decode cX9_trial 48 = .ok (.bipush (-4), 2) := by decide +kernel
theorem dX9_trial_50 : decode cX9_trial 50 = .ok (.ireturn, 1) := by decide +kernel
theorem dX9_week_0 : decode cX9_week 0 = .ok (.aload_n 0, 1) := by decide +kernel
theorem dX9_week_1 : decode cX9_week 1 = .ok (.iload_n 1, 1) := by decide +kernel
theorem dX9_week_2 : decode cX9_week 2 = .ok (.invokevirtual 184, 3) := by decide +kernel
theorem dX9_week_5 : decode cX9_week 5 = .ok (.ifCond .eq 13, 3) := by decide +kernel
theorem dX9_week_8 : decode cX9_week 8 = .ok (.iload_n 2, 1) := by decide +kernel
theorem dX9_week_9 : decode cX9_week 9 = .ok (.iconst 0, 1) := by decide +kernel
theorem dX9_week_10 : decode cX9_week 10 = .ok (.bipush 20, 2) := by decide +kernel
theorem dX9_week_12 : decode cX9_week 12 = .ok (.invokestatic 73, 3) := by decide +kernel
theorem dX9_week_15 : decode cX9_week 15 = .ok (.ifCond .ne 6, 3) := by decide +kernel
theorem dX9_week_18 : decode cX9_week 18 = .ok (.bipush (-2), 2) := by decide +kernel
theorem dX9_week_20 : decode cX9_week 20 = .ok (.ireturn, 1) := by decide +kernel
theorem dX9_week_21 : decode cX9_week 21 = .ok (.aload_n 0, 1) := by decide +kernel
theorem dX9_week_22 : decode cX9_week 22 = .ok (.getfield 58, 3) := by decide +kernel
theorem dX9_week_25 : decode cX9_week 25 = .ok (.getfield 187, 3) := by decide +kernel
theorem dX9_week_28 : decode cX9_week 28 = .ok (.iload_n 1, 1) := by decide +kernel
theorem dX9_week_29 : decode cX9_week 29 = .ok (.iaload, 1) := by decide +kernel
theorem dX9_week_30 : decode cX9_week 30 = .ok (.bipush 10, 2) := by decide +kernel
theorem dX9_week_32 : decode cX9_week 32 = .ok (.if_icmp .ge 15, 3) := by decide +kernel
theorem dX9_week_35 : decode cX9_week 35 = .ok (.aload_n 0, 1) := by decide +kernel
theorem dX9_week_36 : decode cX9_week 36 = .ok (.getfield 58, 3) := by decide +kernel
theorem dX9_week_39 : decode cX9_week 39 = .ok (.iload_n 1, 1) := by decide +kernel
theorem dX9_week_40 : decode cX9_week 40 = .ok (.iload_n 2, 1) := by decide +kernel
theorem dX9_week_41 : decode cX9_week 41 = .ok (.invokevirtual 190, 3) := by decide +kernel
theorem dX9_week_44 : decode cX9_week 44 = .ok (.goto 5, 3) := by decide +kernel
theorem dX9_week_47 : decode cX9_week 47 = .ok (.bipush (-4), 2) := by decide +kernel
theorem dX9_week_49 : decode cX9_week 49 = .ok (.ireturn, 1) := by decide +kernel
theorem dX9_better_0 : decode cX9_better 0 = .ok (.aload_n 0, 1) := by decide +kernel
theorem dX9_better_1 : decode cX9_better 1 = .ok (.iload_n 1, 1) := by decide +kernel
theorem dX9_better_2 : decode cX9_better 2 = .ok (.invokevirtual 184, 3) := by decide +kernel
theorem dX9_better_5 : decode cX9_better 5 = .ok (.ifCond .eq 16, 3) := by decide +kernel
theorem dX9_better_8 : decode cX9_better 8 = .ok (.aload_n 0, 1) := by decide +kernel
theorem dX9_better_9 : decode cX9_better 9 = .ok (.iload_n 2, 1) := by decide +kernel
theorem dX9_better_10 : decode cX9_better 10 = .ok (.invokevirtual 184, 3) := by decide +kernel
theorem dX9_better_13 : decode cX9_better 13 = .ok (.ifCond .eq 8, 3) := by decide +kernel
theorem dX9_better_16 : decode cX9_better 16 = .ok (.iload_n 1, 1) := by decide +kernel
theorem dX9_better_17 : decode cX9_better 17 = .ok (.iload_n 2, 1) := by decide +kernel
theorem dX9_better_18 : decode cX9_better 18 = .ok (.if_icmp .ne 6, 3) := by decide +kernel
theorem dX9_better_21 : decode cX9_better 21 = .ok (.bipush (-2), 2) := by decide +kernel
theorem dX9_better_23 : decode cX9_better 23 = .ok (.ireturn, 1) := by decide +kernel
theorem dX9_better_24 : decode cX9_better 24 = .ok (.aload_n 0, 1) := by decide +kernel
theorem dX9_better_25 : decode cX9_better 25 = .ok (.getfield 58, 3) := by decide +kernel
theorem dX9_better_28 : decode cX9_better 28 = .ok (.iload_n 1, 1) := by decide +kernel
theorem dX9_better_29 : decode cX9_better 29 = .ok (.iload_n 2, 1) := by decide +kernel
theorem dX9_better_30 : decode cX9_better 30 = .ok (.invokevirtual 193, 3) := by decide +kernel
theorem dX9_better_33 : decode cX9_better 33 = .ok (.istore_n 3, 1) := by decide +kernel
theorem dX9_better_34 : decode cX9_better 34 = .ok (.iload_n 3, 1) := by decide +kernel
theorem dX9_better_35 : decode cX9_better 35 = .ok (.ifCond .ne 5, 3) := by decide +kernel
theorem dX9_better_38 : decode cX9_better 38 = .ok (.iconst (-1), 1) := by decide +kernel
theorem dX9_better_39 : decode cX9_better 39 = .ok (.ireturn, 1) := by decide +kernel
theorem dX9_better_40 : decode cX9_better 40 = .ok (.iload_n 3, 1) := by decide +kernel
theorem dX9_better_41 : decode cX9_better 41 = .ok (.ifCond .le 7, 3) := by decide +kernel
theorem dX9_better_44 : decode cX9_better 44 = .ok (.iconst 1, 1) := by decide +kernel
theorem dX9_better_45 : decode cX9_better 45 = .ok (.goto 4, 3) := by decide +kernel
theorem dX9_better_48 : decode cX9_better 48 = .ok (.iconst 0, 1) := by decide +kernel
theorem dX9_better_49 : decode cX9_better 49 = .ok (.ireturn, 1) := by decide +kernel
theorem dX9_seat_0 : decode cX9_seat 0 = .ok (.aload_n 0, 1) := by decide +kernel
theorem dX9_seat_1 : decode cX9_seat 1 = .ok (.getfield 58, 3) := by decide +kernel
theorem dX9_seat_4 : decode cX9_seat 4 = .ok (.invokevirtual 196, 3) := by decide +kernel
theorem dX9_seat_7 : decode cX9_seat 7 = .ok (.ireturn, 1) := by decide +kernel
theorem dX9_hear_0 : decode cX9_hear 0 = .ok (.iload_n 1, 1) := by decide +kernel
theorem dX9_hear_1 : decode cX9_hear 1 = .ok (.invokestatic 199, 3) := by decide +kernel
theorem dX9_hear_4 : decode cX9_hear 4 = .ok (.ifCond .eq 22, 3) := by decide +kernel
theorem dX9_hear_7 : decode cX9_hear 7 = .ok (.iload_n 2, 1) := by decide +kernel
theorem dX9_hear_8 : decode cX9_hear 8 = .ok (.iconst 0, 1) := by decide +kernel
theorem dX9_hear_9 : decode cX9_hear 9 = .ok (.bipush 99, 2) := by decide +kernel
theorem dX9_hear_11 : decode cX9_hear 11 = .ok (.invokestatic 73, 3) := by decide +kernel
theorem dX9_hear_14 : decode cX9_hear 14 = .ok (.ifCond .eq 12, 3) := by decide +kernel
theorem dX9_hear_17 : decode cX9_hear 17 = .ok (.iload_n 3, 1) := by decide +kernel
theorem dX9_hear_18 : decode cX9_hear 18 = .ok (.iconst 0, 1) := by decide +kernel
theorem dX9_hear_19 : decode cX9_hear 19 = .ok (.iconst 4, 1) := by decide +kernel
theorem dX9_hear_20 : decode cX9_hear 20 = .ok (.invokestatic 73, 3) := by decide +kernel
theorem dX9_hear_23 : decode cX9_hear 23 = .ok (.ifCond .ne 6, 3) := by decide +kernel
theorem dX9_hear_26 : decode cX9_hear 26 = .ok (.bipush (-2), 2) := by decide +kernel
theorem dX9_hear_28 : decode cX9_hear 28 = .ok (.ireturn, 1) := by decide +kernel
theorem dX9_hear_29 : decode cX9_hear 29 = .ok (.aload_n 0, 1) := by decide +kernel
theorem dX9_hear_30 : decode cX9_hear 30 = .ok (.getfield 65, 3) := by decide +kernel
theorem dX9_hear_33 : decode cX9_hear 33 = .ok (.getfield 202, 3) := by decide +kernel
theorem dX9_hear_36 : decode cX9_hear 36 = .ok (.bipush 60, 2) := by decide +kernel
theorem dX9_hear_38 : decode cX9_hear 38 = .ok (.if_icmp .ge 16, 3) := by decide +kernel
theorem dX9_hear_41 : decode cX9_hear 41 = .ok (.aload_n 0, 1) := by decide +kernel
theorem dX9_hear_42 : decode cX9_hear 42 = .ok (.getfield 65, 3) := by decide +kernel
theorem dX9_hear_45 : decode cX9_hear 45 = .ok (.iload_n 1, 1) := by decide +kernel
theorem dX9_hear_46 : decode cX9_hear 46 = .ok (.iload_n 2, 1) := by decide +kernel
theorem dX9_hear_47 : decode cX9_hear 47 = .ok (.iload_n 3, 1) := by decide +kernel
theorem dX9_hear_48 : decode cX9_hear 48 = .ok (.invokevirtual 205, 3) := by decide +kernel
theorem dX9_hear_51 : decode cX9_hear 51 = .ok (.goto 5, 3) := by decide +kernel
theorem dX9_hear_54 : decode cX9_hear 54 = .ok (.bipush (-4), 2) := by decide +kernel
theorem dX9_hear_56 : decode cX9_hear 56 = .ok (.ireturn, 1) := by decide +kernel
theorem dX9_known_0 : decode cX9_known 0 = .ok (.iload_n 1, 1) := by decide +kernel
theorem dX9_known_1 : decode cX9_known 1 = .ok (.invokestatic 199, 3) := by decide +kernel
theorem dX9_known_4 : decode cX9_known 4 = .ok (.ifCond .eq 12, 3) := by decide +kernel
theorem dX9_known_7 : decode cX9_known 7 = .ok (.iload_n 2, 1) := by decide +kernel
theorem dX9_known_8 : decode cX9_known 8 = .ok (.iconst 0, 1) := by decide +kernel
theorem dX9_known_9 : decode cX9_known 9 = .ok (.iconst 2, 1) := by decide +kernel
theorem dX9_known_10 : decode cX9_known 10 = .ok (.invokestatic 73, 3) := by decide +kernel
theorem dX9_known_13 : decode cX9_known 13 = .ok (.ifCond .ne 6, 3) := by decide +kernel
theorem dX9_known_16 : decode cX9_known 16 = .ok (.bipush (-2), 2) := by decide +kernel
theorem dX9_known_18 : decode cX9_known 18 = .ok (.ireturn, 1) := by decide +kernel
theorem dX9_known_19 : decode cX9_known 19 = .ok (.iload_n 2, 1) := by decide +kernel
theorem dX9_known_20 : decode cX9_known 20 = .ok (.ifCond .ne 12, 3) := by decide +kernel
theorem dX9_known_23 : decode cX9_known 23 = .ok (.aload_n 0, 1) := by decide +kernel
theorem dX9_known_24 : decode cX9_known 24 = .ok (.getfield 65, 3) := by decide +kernel
theorem dX9_known_27 : decode cX9_known 27 = .ok (.iload_n 1, 1) := by decide +kernel
theorem dX9_known_28 : decode cX9_known 28 = .ok (.invokevirtual 208, 3) := by decide +kernel
theorem dX9_known_31 : decode cX9_known 31 = .ok (.ireturn, 1) := by decide +kernel
theorem dX9_known_32 : decode cX9_known 32 = .ok (.aload_n 0, 1) := by decide +kernel
theorem dX9_known_33 : decode cX9_known 33 = .ok (.getfield 65, 3) := by decide +kernel
theorem dX9_known_36 : decode cX9_known 36 = .ok (.iload_n 1, 1) := by decide +kernel
theorem dX9_known_37 : decode cX9_known 37 = .ok (.iload_n 2, 1) := by decide +kernel
theorem dX9_known_38 : decode cX9_known 38 = .ok (.iconst 1, 1) := by decide +kernel
theorem dX9_known_39 : decode cX9_known 39 = .ok (.if_icmp .ne 13, 3) := by decide +kernel
theorem dX9_known_42 : decode cX9_known 42 = .ok (.aload_n 0, 1) := by decide +kernel
theorem dX9_known_43 : decode cX9_known 43 = .ok (.getfield 65, 3) := by decide +kernel
theorem dX9_known_46 : decode cX9_known 46 = .ok (.getfield 211, 3) := by decide +kernel
theorem dX9_known_49 : decode cX9_known 49 = .ok (.goto 10, 3) := by decide +kernel
theorem dX9_known_52 : decode cX9_known 52 = .ok (.aload_n 0, 1) := by decide +kernel
theorem dX9_known_53 : decode cX9_known 53 = .ok (.getfield 65, 3) := by decide +kernel
theorem dX9_known_56 : decode cX9_known 56 = .ok (.getfield 213, 3) := by decide +kernel
theorem dX9_known_59 : decode cX9_known 59 = .ok (.invokevirtual 216, 3) := by decide +kernel
theorem dX9_known_62 : decode cX9_known 62 = .ok (.ireturn, 1) := by decide +kernel
theorem dX9_sheet_0 : decode cX9_sheet 0 = .ok (.iload_n 1, 1) := by decide +kernel
theorem dX9_sheet_1 : decode cX9_sheet 1 = .ok (.invokestatic 220, 3) := by decide +kernel
theorem dX9_sheet_4 : decode cX9_sheet 4 = .ok (.ifCond .eq 17, 3) := by decide +kernel
theorem dX9_sheet_7 : decode cX9_sheet 7 = .ok (.iload_n 2, 1) := by decide +kernel
theorem dX9_sheet_8 : decode cX9_sheet 8 = .ok (.invokestatic 223, 3) := by decide +kernel
theorem dX9_sheet_11 : decode cX9_sheet 11 = .ok (.ifCond .eq 10, 3) := by decide +kernel
theorem dX9_sheet_14 : decode cX9_sheet 14 = .ok (.iload_n 3, 1) := by decide +kernel
theorem dX9_sheet_15 : decode cX9_sheet 15 = .ok (.sipush 240, 3) := by decide +kernel
theorem dX9_sheet_18 : decode cX9_sheet 18 = .ok (.if_icmp .le 6, 3) := by decide +kernel
theorem dX9_sheet_21 : decode cX9_sheet 21 = .ok (.bipush (-2), 2) := by decide +kernel
theorem dX9_sheet_23 : decode cX9_sheet 23 = .ok (.ireturn, 1) := by decide +kernel
theorem dX9_sheet_24 : decode cX9_sheet 24 = .ok (.iload_n 3, 1) := by decide +kernel
theorem dX9_sheet_25 : decode cX9_sheet 25 = .ok (.ifCond .ge 14, 3) := by decide +kernel
theorem dX9_sheet_28 : decode cX9_sheet 28 = .ok (.aload_n 0, 1) := by decide +kernel
theorem dX9_sheet_29 : decode cX9_sheet 29 = .ok (.getfield 10, 3) := by decide +kernel
theorem dX9_sheet_32 : decode cX9_sheet 32 = .ok (.iconst 5, 1) := by decide +kernel
theorem dX9_sheet_33 : decode cX9_sheet 33 = .ok (.invokevirtual 226, 3) := by decide +kernel
theorem dX9_sheet_36 : decode cX9_sheet 36 = .ok (.goto 13, 3) := by decide +kernel
theorem dX9_sheet_39 : decode cX9_sheet 39 = .ok (.aload_n 0, 1) := by decide +kernel
theorem dX9_sheet_40 : decode cX9_sheet 40 = .ok (.getfield 10, 3) := by decide +kernel
theorem dX9_sheet_43 : decode cX9_sheet 43 = .ok (.iload_n 1, 1) := by decide +kernel
theorem dX9_sheet_44 : decode cX9_sheet 44 = .ok (.iload_n 2, 1) := by decide +kernel
theorem dX9_sheet_45 : decode cX9_sheet 45 = .ok (.iload_n 3, 1) := by decide +kernel
theorem dX9_sheet_46 : decode cX9_sheet 46 = .ok (.invokevirtual 229, 3) := by decide +kernel
theorem dX9_sheet_49 : decode cX9_sheet 49 = .ok (.ireturn, 1) := by decide +kernel
theorem dX9_lose_0 : decode cX9_lose 0 = .ok (.iload_n 1, 1) := by decide +kernel
theorem dX9_lose_1 : decode cX9_lose 1 = .ok (.invokestatic 220, 3) := by decide +kernel
theorem dX9_lose_4 : decode cX9_lose 4 = .ok (.ifCond .ne 6, 3) := by decide +kernel
theorem dX9_lose_7 : decode cX9_lose 7 = .ok (.bipush (-2), 2) := by decide +kernel
theorem dX9_lose_9 : decode cX9_lose 9 = .ok (.ireturn, 1) := by decide +kernel
theorem dX9_lose_10 : decode cX9_lose 10 = .ok (.aload_n 0, 1) := by decide +kernel
theorem dX9_lose_11 : decode cX9_lose 11 = .ok (.getfield 10, 3) := by decide +kernel
theorem dX9_lose_14 : decode cX9_lose 14 = .ok (.iload_n 1, 1) := by decide +kernel
theorem dX9_lose_15 : decode cX9_lose 15 = .ok (.invokevirtual 232, 3) := by decide +kernel
theorem dX9_lose_18 : decode cX9_lose 18 = .ok (.ifCond .eq 14, 3) := by decide +kernel
theorem dX9_lose_21 : decode cX9_lose 21 = .ok (.aload_n 0, 1) := by decide +kernel
theorem dX9_lose_22 : decode cX9_lose 22 = .ok (.getfield 10, 3) := by decide +kernel
theorem dX9_lose_25 : decode cX9_lose 25 = .ok (.iconst 1, 1) := by decide +kernel
theorem dX9_lose_26 : decode cX9_lose 26 = .ok (.invokevirtual 226, 3) := by decide +kernel
theorem dX9_lose_29 : decode cX9_lose 29 = .ok (.goto 11, 3) := by decide +kernel
theorem dX9_lose_32 : decode cX9_lose 32 = .ok (.aload_n 0, 1) := by decide +kernel
theorem dX9_lose_33 : decode cX9_lose 33 = .ok (.getfield 10, 3) := by decide +kernel
theorem dX9_lose_36 : decode cX9_lose 36 = .ok (.iload_n 1, 1) := by decide +kernel
theorem dX9_lose_37 : decode cX9_lose 37 = .ok (.invokevirtual 235, 3) := by decide +kernel
theorem dX9_lose_40 : decode cX9_lose 40 = .ok (.ireturn, 1) := by decide +kernel
theorem dX9_put_0 : decode cX9_put 0 = .ok (.iload_n 1, 1) := by decide +kernel
theorem dX9_put_1 : decode cX9_put 1 = .ok (.invokestatic 220, 3) := by decide +kernel
theorem dX9_put_4 : decode cX9_put 4 = .ok (.ifCond .eq 10, 3) := by decide +kernel
theorem dX9_put_7 : decode cX9_put 7 = .ok (.iload_n 2, 1) := by decide +kernel
theorem dX9_put_8 : decode cX9_put 8 = .ok (.invokestatic 223, 3) := by decide +kernel
theorem dX9_put_11 : decode cX9_put 11 = .ok (.ifCond .ne 6, 3) := by decide +kernel
theorem dX9_put_14 : decode cX9_put 14 = .ok (.bipush (-2), 2) := by decide +kernel
theorem dX9_put_16 : decode cX9_put 16 = .ok (.ireturn, 1) := by decide +kernel
theorem dX9_put_17 : decode cX9_put 17 = .ok (.aload_n 0, 1) := by decide +kernel
theorem dX9_put_18 : decode cX9_put 18 = .ok (.getfield 10, 3) := by decide +kernel
theorem dX9_put_21 : decode cX9_put 21 = .ok (.iload_n 1, 1) := by decide +kernel
theorem dX9_put_22 : decode cX9_put 22 = .ok (.iload_n 2, 1) := by decide +kernel
theorem dX9_put_23 : decode cX9_put 23 = .ok (.iload_n 3, 1) := by decide +kernel
theorem dX9_put_24 : decode cX9_put 24 = .ok (.invokevirtual 238, 3) := by decide +kernel
theorem dX9_put_27 : decode cX9_put 27 = .ok (.istore 5, 2) := by decide +kernel
theorem dX9_put_29 : decode cX9_put 29 = .ok (.iload 5, 2) := by decide +kernel
theorem dX9_put_31 : decode cX9_put 31 = .ok (.ifCond .eq 13, 3) := by decide +kernel
theorem dX9_put_34 : decode cX9_put 34 = .ok (.aload_n 0, 1) := by decide +kernel
theorem dX9_put_35 : decode cX9_put 35 = .ok (.getfield 10, 3) := by decide +kernel
theorem dX9_put_38 : decode cX9_put 38 = .ok (.iload 5, 2) := by decide +kernel
theorem dX9_put_40 : decode cX9_put 40 = .ok (.invokevirtual 226, 3) := by decide +kernel
theorem dX9_put_43 : decode cX9_put 43 = .ok (.ireturn, 1) := by decide +kernel
theorem dX9_put_44 : decode cX9_put 44 = .ok (.aload_n 0, 1) := by decide +kernel
theorem dX9_put_45 : decode cX9_put 45 = .ok (.getfield 10, 3) := by decide +kernel
theorem dX9_put_48 : decode cX9_put 48 = .ok (.getfield 241, 3) := by decide +kernel
theorem dX9_put_51 : decode cX9_put 51 = .ok (.iload_n 1, 1) := by decide +kernel
theorem dX9_put_52 : decode cX9_put 52 = .ok (.aaload, 1) := by decide +kernel
theorem dX9_put_53 : decode cX9_put 53 = .ok (.iload_n 3, 1) := by decide +kernel
theorem dX9_put_54 : decode cX9_put 54 = .ok (.iload_n 2, 1) := by decide +kernel
theorem dX9_put_55 : decode cX9_put 55 = .ok (.iload 4, 2) := by decide +kernel
theorem dX9_put_57 : decode cX9_put 57 = .ok (.invokestatic 245, 3) := by decide +kernel
theorem dX9_put_60 : decode cX9_put 60 = .ok (.iastore, 1) := by decide +kernel
theorem dX9_put_61 : decode cX9_put 61 = .ok (.iconst 1, 1) := by decide +kernel
theorem dX9_put_62 : decode cX9_put 62 = .ok (.ireturn, 1) := by decide +kernel
theorem dX9_get_0 : decode cX9_get 0 = .ok (.iload_n 1, 1) := by decide +kernel
theorem dX9_get_1 : decode cX9_get 1 = .ok (.invokestatic 220, 3) := by decide +kernel
theorem dX9_get_4 : decode cX9_get 4 = .ok (.ifCond .eq 10, 3) := by decide +kernel
theorem dX9_get_7 : decode cX9_get 7 = .ok (.iload_n 2, 1) := by decide +kernel
theorem dX9_get_8 : decode cX9_get 8 = .ok (.invokestatic 223, 3) := by decide +kernel
theorem dX9_get_11 : decode cX9_get 11 = .ok (.ifCond .ne 6, 3) := by decide +kernel
theorem dX9_get_14 : decode cX9_get 14 = .ok (.ldc 248, 2) := by decide +kernel
theorem dX9_get_16 : decode cX9_get 16 = .ok (.ireturn, 1) := by decide +kernel
theorem dX9_get_17 : decode cX9_get 17 = .ok (.aload_n 0, 1) := by decide +kernel
theorem dX9_get_18 : decode cX9_get 18 = .ok (.getfield 10, 3) := by decide +kernel
theorem dX9_get_21 : decode cX9_get 21 = .ok (.iload_n 1, 1) := by decide +kernel
theorem dX9_get_22 : decode cX9_get 22 = .ok (.iload_n 2, 1) := by decide +kernel
theorem dX9_get_23 : decode cX9_get 23 = .ok (.iload_n 3, 1) := by decide +kernel
theorem dX9_get_24 : decode cX9_get 24 = .ok (.invokevirtual 238, 3) := by decide +kernel
theorem dX9_get_27 : decode cX9_get 27 = .ok (.istore 4, 2) := by decide +kernel
theorem dX9_get_29 : decode cX9_get 29 = .ok (.iload 4, 2) := by decide +kernel
theorem dX9_get_31 : decode cX9_get 31 = .ok (.ifCond .eq 16, 3) := by decide +kernel
theorem dX9_get_34 : decode cX9_get 34 = .ok (.aload_n 0, 1) := by decide +kernel
theorem dX9_get_35 : decode cX9_get 35 = .ok (.getfield 10, 3) := by decide +kernel
theorem dX9_get_38 : decode cX9_get 38 = .ok (.iload 4, 2) := by decide +kernel
theorem dX9_get_40 : decode cX9_get 40 = .ok (.invokevirtual 226, 3) := by decide +kernel
theorem dX9_get_43 : decode cX9_get 43 = .ok (.pop, 1) := by decide +kernel
theorem dX9_get_44 : decode cX9_get 44 = .ok (.ldc 248, 2) := by decide +kernel
theorem dX9_get_46 : decode cX9_get 46 = .ok (.ireturn, 1) := by decide +kernel
theorem dX9_get_47 : decode cX9_get 47 = .ok (.aload_n 0, 1) := by decide +kernel
theorem dX9_get_48 : decode cX9_get 48 = .ok (.getfield 10, 3) := by decide +kernel
theorem dX9_get_51 : decode cX9_get 51 = .ok (.getfield 241, 3) := by decide +kernel
theorem dX9_get_54 : decode cX9_get 54 = .ok (.iload_n 1, 1) := by decide +kernel
theorem dX9_get_55 : decode cX9_get 55 = .ok (.aaload, 1) := by decide +kernel
theorem dX9_get_56 : decode cX9_get 56 = .ok (.iload_n 3, 1) := by decide +kernel
theorem dX9_get_57 : decode cX9_get 57 = .ok (.iaload, 1) := by decide +kernel
theorem dX9_get_58 : decode cX9_get 58 = .ok (.ireturn, 1) := by decide +kernel
theorem dX9_copy_0 : decode cX9_copy 0 = .ok (.iload_n 1, 1) := by decide +kernel
theorem dX9_copy_1 : decode cX9_copy 1 = .ok (.invokestatic 220, 3) := by decide +kernel
theorem dX9_copy_4 : decode cX9_copy 4 = .ok (.ifCond .eq 10, 3) := by decide +kernel
theorem dX9_copy_7 : decode cX9_copy 7 = .ok (.iload_n 3, 1) := by decide +kernel
theorem dX9_copy_8 : decode cX9_copy 8 = .ok (.invokestatic 220, 3) := by decide +kernel
theorem dX9_copy_11 : decode cX9_copy 11 = .ok (.ifCond .ne 6, 3) := by decide +kernel
theorem dX9_copy_14 : decode cX9_copy 14 = .ok (.bipush (-2), 2) := by decide +kernel
theorem dX9_copy_16 : decode cX9_copy 16 = .ok (.ireturn, 1) := by decide +kernel
theorem dX9_copy_17 : decode cX9_copy 17 = .ok (.aload_n 0, 1) := by decide +kernel
theorem dX9_copy_18 : decode cX9_copy 18 = .ok (.getfield 10, 3) := by decide +kernel
theorem dX9_copy_21 : decode cX9_copy 21 = .ok (.iload_n 1, 1) := by decide +kernel
theorem dX9_copy_22 : decode cX9_copy 22 = .ok (.iload_n 3, 1) := by decide +kernel
theorem dX9_copy_23 : decode cX9_copy 23 = .ok (.invokevirtual 249, 3) := by decide +kernel
theorem dX9_copy_26 : decode cX9_copy 26 = .ok (.istore 6, 2) := by decide +kernel
theorem dX9_copy_28 : decode cX9_copy 28 = .ok (.iload 6, 2) := by decide +kernel
theorem dX9_copy_30 : decode cX9_copy 30 = .ok (.ifCond .ne 35, 3) := by decide +kernel
theorem dX9_copy_33 : decode cX9_copy 33 = .ok (.aload_n 0, 1) := by decide +kernel
theorem dX9_copy_34 : decode cX9_copy 34 = .ok (.getfield 10, 3) := by decide +kernel
theorem dX9_copy_37 : decode cX9_copy 37 = .ok (.iload_n 1, 1) := by decide +kernel
theorem dX9_copy_38 : decode cX9_copy 38 = .ok (.iload_n 2, 1) := by decide +kernel
theorem dX9_copy_39 : decode cX9_copy 39 = .ok (.iload 5, 2) := by decide +kernel
theorem dX9_copy_41 : decode cX9_copy 41 = .ok (.invokevirtual 252, 3) := by decide +kernel
theorem dX9_copy_44 : decode cX9_copy 44 = .ok (.ifCond .eq 18, 3) := by decide +kernel
theorem dX9_copy_47 : decode cX9_copy 47 = .ok (.aload_n 0, 1) := by decide +kernel
theorem dX9_copy_48 : decode cX9_copy 48 = .ok (.getfield 10, 3) := by decide +kernel
theorem dX9_copy_51 : decode cX9_copy 51 = .ok (.iload_n 3, 1) := by decide +kernel
theorem dX9_copy_52 : decode cX9_copy 52 = .ok (.iload 4, 2) := by decide +kernel
theorem dX9_copy_54 : decode cX9_copy 54 = .ok (.iload 5, 2) := by decide +kernel
theorem dX9_copy_56 : decode cX9_copy 56 = .ok (.invokevirtual 252, 3) := by decide +kernel
theorem dX9_copy_59 : decode cX9_copy 59 = .ok (.ifCond .ne 6, 3) := by decide +kernel
theorem dX9_copy_62 : decode cX9_copy 62 = .ok (.iconst 2, 1) := by decide +kernel
theorem dX9_copy_63 : decode cX9_copy 63 = .ok (.istore 6, 2) := by decide +kernel
theorem dX9_copy_65 : decode cX9_copy 65 = .ok (.iload 6, 2) := by decide +kernel
theorem dX9_copy_67 : decode cX9_copy 67 = .ok (.ifCond .eq 13, 3) := by decide +kernel
theorem dX9_copy_70 : decode cX9_copy 70 = .ok (.aload_n 0, 1) := by decide +kernel
theorem dX9_copy_71 : decode cX9_copy 71 = .ok (.getfield 10, 3) := by decide +kernel
theorem dX9_copy_74 : decode cX9_copy 74 = .ok (.iload 6, 2) := by decide +kernel
theorem dX9_copy_76 : decode cX9_copy 76 = .ok (.invokevirtual 226, 3) := by decide +kernel
theorem dX9_copy_79 : decode cX9_copy 79 = .ok (.ireturn, 1) := by decide +kernel
theorem dX9_copy_80 : decode cX9_copy 80 = .ok (.aload_n 0, 1) := by decide +kernel
theorem dX9_copy_81 : decode cX9_copy 81 = .ok (.getfield 10, 3) := by decide +kernel
theorem dX9_copy_84 : decode cX9_copy 84 = .ok (.getfield 241, 3) := by decide +kernel
theorem dX9_copy_87 : decode cX9_copy 87 = .ok (.iload_n 1, 1) := by decide +kernel
theorem dX9_copy_88 : decode cX9_copy 88 = .ok (.aaload, 1) := by decide +kernel
theorem dX9_copy_89 : decode cX9_copy 89 = .ok (.iload_n 2, 1) := by decide +kernel
theorem dX9_copy_90 : decode cX9_copy 90 = .ok (.aload_n 0, 1) := by decide +kernel
theorem dX9_copy_91 : decode cX9_copy 91 = .ok (.getfield 10, 3) := by decide +kernel
theorem dX9_copy_94 : decode cX9_copy 94 = .ok (.getfield 241, 3) := by decide +kernel
theorem dX9_copy_97 : decode cX9_copy 97 = .ok (.iload_n 3, 1) := by decide +kernel
theorem dX9_copy_98 : decode cX9_copy 98 = .ok (.aaload, 1) := by decide +kernel
theorem dX9_copy_99 : decode cX9_copy 99 = .ok (.iload 4, 2) := by decide +kernel
theorem dX9_copy_101 : decode cX9_copy 101 = .ok (.iload 5, 2) := by decide +kernel
theorem dX9_copy_103 : decode cX9_copy 103 = .ok (.invokestatic 255, 3) := by decide +kernel
theorem dX9_copy_106 : decode cX9_copy 106 = .ok (.iconst 1, 1) := by decide +kernel
theorem dX9_copy_107 : decode cX9_copy 107 = .ok (.ireturn, 1) := by decide +kernel
theorem dX9_count_0 : decode cX9_count 0 = .ok (.iload_n 1, 1) := by decide +kernel
theorem dX9_count_1 : decode cX9_count 1 = .ok (.tableswitch 99 0 6 #[43, 51, 59, 67, 75, 83, 91], 43) := by decide +kernel
theorem dX9_count_44 : decode cX9_count 44 = .ok (.aload_n 0, 1) := by decide +kernel
theorem dX9_count_45 : decode cX9_count 45 = .ok (.getfield 21, 3) := by decide +kernel
theorem dX9_count_48 : decode cX9_count 48 = .ok (.getfield 77, 3) := by decide +kernel
theorem dX9_count_51 : decode cX9_count 51 = .ok (.ireturn, 1) := by decide +kernel
theorem dX9_count_52 : decode cX9_count 52 = .ok (.aload_n 0, 1) := by decide +kernel
theorem dX9_count_53 : decode cX9_count 53 = .ok (.getfield 21, 3) := by decide +kernel
theorem dX9_count_56 : decode cX9_count 56 = .ok (.getfield 85, 3) := by decide +kernel
theorem dX9_count_59 : decode cX9_count 59 = .ok (.ireturn, 1) := by decide +kernel
theorem dX9_count_60 : decode cX9_count 60 = .ok (.aload_n 0, 1) := by decide +kernel
theorem dX9_count_61 : decode cX9_count 61 = .ok (.getfield 28, 3) := by decide +kernel
theorem dX9_count_64 : decode cX9_count 64 = .ok (.getfield 109, 3) := by decide +kernel
theorem dX9_count_67 : decode cX9_count 67 = .ok (.ireturn, 1) := by decide +kernel
theorem dX9_count_68 : decode cX9_count 68 = .ok (.aload_n 0, 1) := by decide +kernel
theorem dX9_count_69 : decode cX9_count 69 = .ok (.getfield 28, 3) := by decide +kernel
theorem dX9_count_72 : decode cX9_count 72 = .ok (.getfield 142, 3) := by decide +kernel
theorem dX9_count_75 : decode cX9_count 75 = .ok (.ireturn, 1) := by decide +kernel
theorem dX9_count_76 : decode cX9_count 76 = .ok (.aload_n 0, 1) := by decide +kernel
theorem dX9_count_77 : decode cX9_count 77 = .ok (.getfield 58, 3) := by decide +kernel
theorem dX9_count_80 : decode cX9_count 80 = .ok (.getfield 178, 3) := by decide +kernel
theorem dX9_count_83 : decode cX9_count 83 = .ok (.ireturn, 1) := by decide +kernel
theorem dX9_count_84 : decode cX9_count 84 = .ok (.aload_n 0, 1) := by decide +kernel
theorem dX9_count_85 : decode cX9_count 85 = .ok (.getfield 65, 3) := by decide +kernel
theorem dX9_count_88 : decode cX9_count 88 = .ok (.getfield 202, 3) := by decide +kernel
theorem dX9_count_91 : decode cX9_count 91 = .ok (.ireturn, 1) := by decide +kernel
theorem dX9_count_92 : decode cX9_count 92 = .ok (.aload_n 0, 1) := by decide +kernel
theorem dX9_count_93 : decode cX9_count 93 = .ok (.getfield 10, 3) := by decide +kernel
theorem dX9_count_96 : decode cX9_count 96 = .ok (.getfield 261, 3) := by decide +kernel
theorem dX9_count_99 : decode cX9_count 99 = .ok (.ireturn, 1) := by decide +kernel
theorem dX9_count_100 : decode cX9_count 100 = .ok (.bipush (-2), 2) := by decide +kernel
theorem dX9_count_102 : decode cX9_count 102 = .ok (.ireturn, 1) := by decide +kernel
theorem dX9_digest_0 : decode cX9_digest 0 = .ok (.ldc2_w 264, 3) := by decide +kernel
theorem dX9_digest_3 : decode cX9_digest 3 = .ok (.lstore_n 1, 1) := by decide +kernel
theorem dX9_digest_4 : decode cX9_digest 4 = .ok (.iconst 0, 1) := by decide +kernel
theorem dX9_digest_5 : decode cX9_digest 5 = .ok (.istore_n 3, 1) := by decide +kernel
theorem dX9_digest_6 : decode cX9_digest 6 = .ok (.iload_n 3, 1) := by decide +kernel
theorem dX9_digest_7 : decode cX9_digest 7 = .ok (.iconst 5, 1) := by decide +kernel
theorem dX9_digest_8 : decode cX9_digest 8 = .ok (.if_icmp .gt 22, 3) := by decide +kernel
theorem dX9_digest_11 : decode cX9_digest 11 = .ok (.ldc2_w 266, 3) := by decide +kernel
theorem dX9_digest_14 : decode cX9_digest 14 = .ok (.lload_n 1, 1) := by decide +kernel
theorem dX9_digest_15 : decode cX9_digest 15 = .ok (.lmul, 1) := by decide +kernel
theorem dX9_digest_16 : decode cX9_digest 16 = .ok (.aload_n 0, 1) := by decide +kernel
theorem dX9_digest_17 : decode cX9_digest 17 = .ok (.iload_n 3, 1) := by decide +kernel
theorem dX9_digest_18 : decode cX9_digest 18 = .ok (.invokevirtual 268, 3) := by decide +kernel
theorem dX9_digest_21 : decode cX9_digest 21 = .ok (.i2l, 1) := by decide +kernel
theorem dX9_digest_22 : decode cX9_digest 22 = .ok (.ladd, 1) := by decide +kernel
theorem dX9_digest_23 : decode cX9_digest 23 = .ok (.lstore_n 1, 1) := by decide +kernel
theorem dX9_digest_24 : decode cX9_digest 24 = .ok (.iinc 3 1, 3) := by decide +kernel
theorem dX9_digest_27 : decode cX9_digest 27 = .ok (.goto (-21), 3) := by decide +kernel
theorem dX9_digest_30 : decode cX9_digest 30 = .ok (.iconst 0, 1) := by decide +kernel
theorem dX9_digest_31 : decode cX9_digest 31 = .ok (.istore_n 3, 1) := by decide +kernel
theorem dX9_digest_32 : decode cX9_digest 32 = .ok (.iload_n 3, 1) := by decide +kernel
theorem dX9_digest_33 : decode cX9_digest 33 = .ok (.aload_n 0, 1) := by decide +kernel
theorem dX9_digest_34 : decode cX9_digest 34 = .ok (.getfield 21, 3) := by decide +kernel
theorem dX9_digest_37 : decode cX9_digest 37 = .ok (.getfield 77, 3) := by decide +kernel
theorem dX9_digest_40 : decode cX9_digest 40 = .ok (.if_icmp .ge 26, 3) := by decide +kernel
theorem dX9_digest_43 : decode cX9_digest 43 = .ok (.ldc2_w 266, 3) := by decide +kernel
theorem dX9_digest_46 : decode cX9_digest 46 = .ok (.lload_n 1, 1) := by decide +kernel
theorem dX9_digest_47 : decode cX9_digest 47 = .ok (.lmul, 1) := by decide +kernel
theorem dX9_digest_48 : decode cX9_digest 48 = .ok (.aload_n 0, 1) := by decide +kernel
theorem dX9_digest_49 : decode cX9_digest 49 = .ok (.getfield 21, 3) := by decide +kernel
theorem dX9_digest_52 : decode cX9_digest 52 = .ok (.getfield 92, 3) := by decide +kernel
theorem dX9_digest_55 : decode cX9_digest 55 = .ok (.iload_n 3, 1) := by decide +kernel
theorem dX9_digest_56 : decode cX9_digest 56 = .ok (.iaload, 1) := by decide +kernel
theorem dX9_digest_57 : decode cX9_digest 57 = .ok (.i2l, 1) := by decide +kernel
theorem dX9_digest_58 : decode cX9_digest 58 = .ok (.ladd, 1) := by decide +kernel
theorem dX9_digest_59 : decode cX9_digest 59 = .ok (.lstore_n 1, 1) := by decide +kernel
theorem dX9_digest_60 : decode cX9_digest 60 = .ok (.iinc 3 1, 3) := by decide +kernel
theorem dX9_digest_63 : decode cX9_digest 63 = .ok (.goto (-31), 3) := by decide +kernel
theorem dX9_digest_66 : decode cX9_digest 66 = .ok (.iconst 0, 1) := by decide +kernel
theorem dX9_digest_67 : decode cX9_digest 67 = .ok (.istore_n 3, 1) := by decide +kernel
theorem dX9_digest_68 : decode cX9_digest 68 = .ok (.iload_n 3, 1) := by decide +kernel
theorem dX9_digest_69 : decode cX9_digest 69 = .ok (.aload_n 0, 1) := by decide +kernel
theorem dX9_digest_70 : decode cX9_digest 70 = .ok (.getfield 21, 3) := by decide +kernel
theorem dX9_digest_73 : decode cX9_digest 73 = .ok (.getfield 77, 3) := by decide +kernel
theorem dX9_digest_76 : decode cX9_digest 76 = .ok (.if_icmp .ge 60, 3) := by decide +kernel
theorem dX9_digest_79 : decode cX9_digest 79 = .ok (.iconst 0, 1) := by decide +kernel
theorem dX9_digest_80 : decode cX9_digest 80 = .ok (.istore 4, 2) := by decide +kernel
theorem dX9_digest_82 : decode cX9_digest 82 = .ok (.iload 4, 2) := by decide +kernel
theorem dX9_digest_84 : decode cX9_digest 84 = .ok (.iconst 4, 1) := by decide +kernel
theorem dX9_digest_85 : decode cX9_digest 85 = .ok (.if_icmp .ge 45, 3) := by decide +kernel
theorem dX9_digest_88 : decode cX9_digest 88 = .ok (.ldc2_w 266, 3) := by decide +kernel
theorem dX9_digest_91 : decode cX9_digest 91 = .ok (.lload_n 1, 1) := by decide +kernel
theorem dX9_digest_92 : decode cX9_digest 92 = .ok (.lmul, 1) := by decide +kernel
theorem dX9_digest_93 : decode cX9_digest 93 = .ok (.aload_n 0, 1) := by decide +kernel
theorem dX9_digest_94 : decode cX9_digest 94 = .ok (.getfield 21, 3) := by decide +kernel
theorem dX9_digest_97 : decode cX9_digest 97 = .ok (.iload_n 3, 1) := by decide +kernel
theorem dX9_digest_98 : decode cX9_digest 98 = .ok (.iload 4, 2) := by decide +kernel
theorem dX9_digest_100 : decode cX9_digest 100 = .ok (.invokevirtual 102, 3) := by decide +kernel
theorem dX9_digest_103 : decode cX9_digest 103 = .ok (.i2l, 1) := by decide +kernel
theorem dX9_digest_104 : decode cX9_digest 104 = .ok (.ladd, 1) := by decide +kernel
theorem dX9_digest_105 : decode cX9_digest 105 = .ok (.lstore_n 1, 1) := by decide +kernel
theorem dX9_digest_106 : decode cX9_digest 106 = .ok (.ldc2_w 266, 3) := by decide +kernel
theorem dX9_digest_109 : decode cX9_digest 109 = .ok (.lload_n 1, 1) := by decide +kernel
theorem dX9_digest_110 : decode cX9_digest 110 = .ok (.lmul, 1) := by decide +kernel
theorem dX9_digest_111 : decode cX9_digest 111 = .ok (.aload_n 0, 1) := by decide +kernel
theorem dX9_digest_112 : decode cX9_digest 112 = .ok (.getfield 21, 3) := by decide +kernel
theorem dX9_digest_115 : decode cX9_digest 115 = .ok (.iload_n 3, 1) := by decide +kernel
theorem dX9_digest_116 : decode cX9_digest 116 = .ok (.iload 4, 2) := by decide +kernel
theorem dX9_digest_118 : decode cX9_digest 118 = .ok (.invokevirtual 106, 3) := by decide +kernel
theorem dX9_digest_121 : decode cX9_digest 121 = .ok (.i2l, 1) := by decide +kernel
theorem dX9_digest_122 : decode cX9_digest 122 = .ok (.ladd, 1) := by decide +kernel
theorem dX9_digest_123 : decode cX9_digest 123 = .ok (.lstore_n 1, 1) := by decide +kernel
theorem dX9_digest_124 : decode cX9_digest 124 = .ok (.iinc 4 1, 3) := by decide +kernel
theorem dX9_digest_127 : decode cX9_digest 127 = .ok (.goto (-45), 3) := by decide +kernel
theorem dX9_digest_130 : decode cX9_digest 130 = .ok (.iinc 3 1, 3) := by decide +kernel
theorem dX9_digest_133 : decode cX9_digest 133 = .ok (.goto (-65), 3) := by decide +kernel
theorem dX9_digest_136 : decode cX9_digest 136 = .ok (.ldc2_w 266, 3) := by decide +kernel
theorem dX9_digest_139 : decode cX9_digest 139 = .ok (.lload_n 1, 1) := by decide +kernel
theorem dX9_digest_140 : decode cX9_digest 140 = .ok (.lmul, 1) := by decide +kernel
theorem dX9_digest_141 : decode cX9_digest 141 = .ok (.aload_n 0, 1) := by decide +kernel
theorem dX9_digest_142 : decode cX9_digest 142 = .ok (.invokevirtual 271, 3) := by decide +kernel
theorem dX9_digest_145 : decode cX9_digest 145 = .ok (.i2l, 1) := by decide +kernel
theorem dX9_digest_146 : decode cX9_digest 146 = .ok (.ladd, 1) := by decide +kernel
theorem dX9_digest_147 : decode cX9_digest 147 = .ok (.lstore_n 1, 1) := by decide +kernel
theorem dX9_digest_148 : decode cX9_digest 148 = .ok (.ldc2_w 266, 3) := by decide +kernel
theorem dX9_digest_151 : decode cX9_digest 151 = .ok (.lload_n 1, 1) := by decide +kernel
theorem dX9_digest_152 : decode cX9_digest 152 = .ok (.lmul, 1) := by decide +kernel
theorem dX9_digest_153 : decode cX9_digest 153 = .ok (.aload_n 0, 1) := by decide +kernel
theorem dX9_digest_154 : decode cX9_digest 154 = .ok (.invokevirtual 274, 3) := by decide +kernel
theorem dX9_digest_157 : decode cX9_digest 157 = .ok (.i2l, 1) := by decide +kernel
theorem dX9_digest_158 : decode cX9_digest 158 = .ok (.ladd, 1) := by decide +kernel
theorem dX9_digest_159 : decode cX9_digest 159 = .ok (.lreturn, 1) := by decide +kernel
theorem dX9_within_0 : decode cX9_within 0 = .ok (.iload_n 0, 1) := by decide +kernel
theorem dX9_within_1 : decode cX9_within 1 = .ok (.iload_n 1, 1) := by decide +kernel
theorem dX9_within_2 : decode cX9_within 2 = .ok (.if_icmp .lt 12, 3) := by decide +kernel
theorem dX9_within_5 : decode cX9_within 5 = .ok (.iload_n 0, 1) := by decide +kernel
theorem dX9_within_6 : decode cX9_within 6 = .ok (.iload_n 2, 1) := by decide +kernel
theorem dX9_within_7 : decode cX9_within 7 = .ok (.if_icmp .gt 7, 3) := by decide +kernel
theorem dX9_within_10 : decode cX9_within 10 = .ok (.iconst 1, 1) := by decide +kernel
theorem dX9_within_11 : decode cX9_within 11 = .ok (.goto 4, 3) := by decide +kernel
theorem dX9_within_14 : decode cX9_within 14 = .ok (.iconst 0, 1) := by decide +kernel
theorem dX9_within_15 : decode cX9_within 15 = .ok (.ireturn, 1) := by decide +kernel
theorem dX9_isRound_0 : decode cX9_isRound 0 = .ok (.iload_n 0, 1) := by decide +kernel
theorem dX9_isRound_1 : decode cX9_isRound 1 = .ok (.iconst 0, 1) := by decide +kernel
theorem dX9_isRound_2 : decode cX9_isRound 2 = .ok (.iconst 3, 1) := by decide +kernel
theorem dX9_isRound_3 : decode cX9_isRound 3 = .ok (.invokestatic 73, 3) := by decide +kernel
theorem dX9_isRound_6 : decode cX9_isRound 6 = .ok (.ireturn, 1) := by decide +kernel
theorem dX9_isSheet_0 : decode cX9_isSheet 0 = .ok (.iload_n 0, 1) := by decide +kernel
theorem dX9_isSheet_1 : decode cX9_isSheet 1 = .ok (.iconst 0, 1) := by decide +kernel
theorem dX9_isSheet_2 : decode cX9_isSheet 2 = .ok (.iconst 3, 1) := by decide +kernel
theorem dX9_isSheet_3 : decode cX9_isSheet 3 = .ok (.invokestatic 73, 3) := by decide +kernel
theorem dX9_isSheet_6 : decode cX9_isSheet 6 = .ok (.ireturn, 1) := by decide +kernel
theorem dX9_isForm_0 : decode cX9_isForm 0 = .ok (.iload_n 0, 1) := by decide +kernel
theorem dX9_isForm_1 : decode cX9_isForm 1 = .ok (.iconst 0, 1) := by decide +kernel
theorem dX9_isForm_2 : decode cX9_isForm 2 = .ok (.iconst 2, 1) := by decide +kernel
theorem dX9_isForm_3 : decode cX9_isForm 3 = .ok (.invokestatic 73, 3) := by decide +kernel
theorem dX9_isForm_6 : decode cX9_isForm 6 = .ok (.ireturn, 1) := by decide +kernel
theorem dX9_inTable_0 : decode cX9_inTable 0 = .ok (.iload_n 0, 1) := by decide +kernel
theorem dX9_inTable_1 : decode cX9_inTable 1 = .ok (.iconst 0, 1) := by decide +kernel
theorem dX9_inTable_2 : decode cX9_inTable 2 = .ok (.bipush 15, 2) := by decide +kernel
theorem dX9_inTable_4 : decode cX9_inTable 4 = .ok (.invokestatic 73, 3) := by decide +kernel
theorem dX9_inTable_7 : decode cX9_inTable 7 = .ok (.ireturn, 1) := by decide +kernel
theorem dX9_isNumber_0 : decode cX9_isNumber 0 = .ok (.iload_n 0, 1) := by decide +kernel
theorem dX9_isNumber_1 : decode cX9_isNumber 1 = .ok (.iconst 0, 1) := by decide +kernel
theorem dX9_isNumber_2 : decode cX9_isNumber 2 = .ok (.ldc_w 277, 3) := by decide +kernel
theorem dX9_isNumber_5 : decode cX9_isNumber 5 = .ok (.invokestatic 73, 3) := by decide +kernel
theorem dX9_isNumber_8 : decode cX9_isNumber 8 = .ok (.ireturn, 1) := by decide +kernel
theorem dX9_isSkill_0 : decode cX9_isSkill 0 = .ok (.iload_n 1, 1) := by decide +kernel
theorem dX9_isSkill_1 : decode cX9_isSkill 1 = .ok (.iconst 0, 1) := by decide +kernel
theorem dX9_isSkill_2 : decode cX9_isSkill 2 = .ok (.aload_n 0, 1) := by decide +kernel
theorem dX9_isSkill_3 : decode cX9_isSkill 3 = .ok (.getfield 69, 3) := by decide +kernel
theorem dX9_isSkill_6 : decode cX9_isSkill 6 = .ok (.arraylength, 1) := by decide +kernel
theorem dX9_isSkill_7 : decode cX9_isSkill 7 = .ok (.iconst 1, 1) := by decide +kernel
theorem dX9_isSkill_8 : decode cX9_isSkill 8 = .ok (.isub, 1) := by decide +kernel
theorem dX9_isSkill_9 : decode cX9_isSkill 9 = .ok (.invokestatic 73, 3) := by decide +kernel
theorem dX9_isSkill_12 : decode cX9_isSkill 12 = .ok (.ireturn, 1) := by decide +kernel
theorem dX9_isPlayer_0 : decode cX9_isPlayer 0 = .ok (.iload_n 1, 1) := by decide +kernel
theorem dX9_isPlayer_1 : decode cX9_isPlayer 1 = .ok (.iconst 0, 1) := by decide +kernel
theorem dX9_isPlayer_2 : decode cX9_isPlayer 2 = .ok (.aload_n 0, 1) := by decide +kernel
theorem dX9_isPlayer_3 : decode cX9_isPlayer 3 = .ok (.getfield 21, 3) := by decide +kernel
theorem dX9_isPlayer_6 : decode cX9_isPlayer 6 = .ok (.getfield 77, 3) := by decide +kernel
theorem dX9_isPlayer_9 : decode cX9_isPlayer 9 = .ok (.iconst 1, 1) := by decide +kernel
theorem dX9_isPlayer_10 : decode cX9_isPlayer 10 = .ok (.isub, 1) := by decide +kernel
theorem dX9_isPlayer_11 : decode cX9_isPlayer 11 = .ok (.invokestatic 73, 3) := by decide +kernel
theorem dX9_isPlayer_14 : decode cX9_isPlayer 14 = .ok (.ireturn, 1) := by decide +kernel
theorem dX9_isPlace_0 : decode cX9_isPlace 0 = .ok (.iload_n 1, 1) := by decide +kernel
theorem dX9_isPlace_1 : decode cX9_isPlace 1 = .ok (.iconst 0, 1) := by decide +kernel
theorem dX9_isPlace_2 : decode cX9_isPlace 2 = .ok (.aload_n 0, 1) := by decide +kernel
theorem dX9_isPlace_3 : decode cX9_isPlace 3 = .ok (.getfield 58, 3) := by decide +kernel
theorem dX9_isPlace_6 : decode cX9_isPlace 6 = .ok (.getfield 178, 3) := by decide +kernel
theorem dX9_isPlace_9 : decode cX9_isPlace 9 = .ok (.iconst 1, 1) := by decide +kernel
theorem dX9_isPlace_10 : decode cX9_isPlace 10 = .ok (.isub, 1) := by decide +kernel
theorem dX9_isPlace_11 : decode cX9_isPlace 11 = .ok (.invokestatic 73, 3) := by decide +kernel
theorem dX9_isPlace_14 : decode cX9_isPlace 14 = .ok (.ireturn, 1) := by decide +kernel
theorem dX9_refusalOfRound_0 : decode cX9_refusalOfRound 0 = .ok (.iload_n 1, 1) := by decide +kernel
theorem dX9_refusalOfRound_1 : decode cX9_refusalOfRound 1 = .ok (.invokestatic 99, 3) := by decide +kernel
theorem dX9_refusalOfRound_4 : decode cX9_refusalOfRound 4 = .ok (.ifCond .ne 6, 3) := by decide +kernel
theorem dX9_refusalOfRound_7 : decode cX9_refusalOfRound 7 = .ok (.bipush (-2), 2) := by decide +kernel
theorem dX9_refusalOfRound_9 : decode cX9_refusalOfRound 9 = .ok (.ireturn, 1) := by decide +kernel
theorem dX9_refusalOfRound_10 : decode cX9_refusalOfRound 10 = .ok (.aload_n 0, 1) := by decide +kernel
theorem dX9_refusalOfRound_11 : decode cX9_refusalOfRound 11 = .ok (.getfield 28, 3) := by decide +kernel
theorem dX9_refusalOfRound_14 : decode cX9_refusalOfRound 14 = .ok (.getfield 142, 3) := by decide +kernel
theorem dX9_refusalOfRound_17 : decode cX9_refusalOfRound 17 = .ok (.ifCond .ne 6, 3) := by decide +kernel
theorem dX9_refusalOfRound_20 : decode cX9_refusalOfRound 20 = .ok (.bipush (-3), 2) := by decide +kernel
theorem dX9_refusalOfRound_22 : decode cX9_refusalOfRound 22 = .ok (.ireturn, 1) := by decide +kernel
theorem dX9_refusalOfRound_23 : decode cX9_refusalOfRound 23 = .ok (.iload_n 1, 1) := by decide +kernel
theorem dX9_refusalOfRound_24 : decode cX9_refusalOfRound 24 = .ok (.aload_n 0, 1) := by decide +kernel
theorem dX9_refusalOfRound_25 : decode cX9_refusalOfRound 25 = .ok (.getfield 28, 3) := by decide +kernel
theorem dX9_refusalOfRound_28 : decode cX9_refusalOfRound 28 = .ok (.getfield 142, 3) := by decide +kernel
theorem dX9_refusalOfRound_31 : decode cX9_refusalOfRound 31 = .ok (.if_icmp .ge 7, 3) := by decide +kernel
theorem dX9_refusalOfRound_34 : decode cX9_refusalOfRound 34 = .ok (.iconst 0, 1) := by decide +kernel
theorem dX9_refusalOfRound_35 : decode cX9_refusalOfRound 35 = .ok (.goto 5, 3) := by decide +kernel
theorem dX9_refusalOfRound_38 : decode cX9_refusalOfRound 38 = .ok (.bipush (-2), 2) := by decide +kernel
theorem dX9_refusalOfRound_40 : decode cX9_refusalOfRound 40 = .ok (.ireturn, 1) := by decide +kernel
end
section
theorem dX10_in_0 : decode cX10_in 0 = .ok (.iload_n 0, 1) := by decide +kernel
theorem dX10_in_1 : decode cX10_in 1 = .ok (.iload_n 1, 1) := by decide +kernel
theorem dX10_in_2 : decode cX10_in 2 = .ok (.if_icmp .lt 12, 3) := by decide +kernel
theorem dX10_in_5 : decode cX10_in 5 = .ok (.iload_n 0, 1) := by decide +kernel
theorem dX10_in_6 : decode cX10_in 6 = .ok (.iload_n 2, 1) := by decide +kernel
theorem dX10_in_7 : decode cX10_in 7 = .ok (.if_icmp .gt 7, 3) := by decide +kernel
theorem dX10_in_10 : decode cX10_in 10 = .ok (.iconst 1, 1) := by decide +kernel
theorem dX10_in_11 : decode cX10_in 11 = .ok (.goto 4, 3) := by decide +kernel
theorem dX10_in_14 : decode cX10_in 14 = .ok (.iconst 0, 1) := by decide +kernel
theorem dX10_in_15 : decode cX10_in 15 = .ok (.ireturn, 1) := by decide +kernel
theorem dX10_isPlayer_0 : decode cX10_isPlayer 0 = .ok (.iload_n 1, 1) := by decide +kernel
theorem dX10_isPlayer_1 : decode cX10_isPlayer 1 = .ok (.iconst 0, 1) := by decide +kernel
theorem dX10_isPlayer_2 : decode cX10_isPlayer 2 = .ok (.aload_n 0, 1) := by decide +kernel
theorem dX10_isPlayer_3 : decode cX10_isPlayer 3 = .ok (.getfield 72, 3) := by decide +kernel
theorem dX10_isPlayer_6 : decode cX10_isPlayer 6 = .ok (.iconst 1, 1) := by decide +kernel
theorem dX10_isPlayer_7 : decode cX10_isPlayer 7 = .ok (.isub, 1) := by decide +kernel
theorem dX10_isPlayer_8 : decode cX10_isPlayer 8 = .ok (.invokestatic 75, 3) := by decide +kernel
theorem dX10_isPlayer_11 : decode cX10_isPlayer 11 = .ok (.ireturn, 1) := by decide +kernel
theorem dX10_player_0 : decode cX10_player 0 = .ok (.iload_n 1, 1) := by decide +kernel
theorem dX10_player_1 : decode cX10_player 1 = .ok (.iconst 0, 1) := by decide +kernel
theorem dX10_player_2 : decode cX10_player 2 = .ok (.sipush 511, 3) := by decide +kernel
theorem dX10_player_5 : decode cX10_player 5 = .ok (.invokestatic 75, 3) := by decide +kernel
theorem dX10_player_8 : decode cX10_player 8 = .ok (.ifCond .ne 6, 3) := by decide +kernel
theorem dX10_player_11 : decode cX10_player 11 = .ok (.bipush (-2), 2) := by decide +kernel
theorem dX10_player_13 : decode cX10_player 13 = .ok (.ireturn, 1) := by decide +kernel
theorem dX10_player_14 : decode cX10_player 14 = .ok (.aload_n 0, 1) := by decide +kernel
theorem dX10_player_15 : decode cX10_player 15 = .ok (.getfield 72, 3) := by decide +kernel
theorem dX10_player_18 : decode cX10_player 18 = .ok (.bipush 24, 2) := by decide +kernel
theorem dX10_player_20 : decode cX10_player 20 = .ok (.if_icmp .ne 6, 3) := by decide +kernel
theorem dX10_player_23 : decode cX10_player 23 = .ok (.bipush (-4), 2) := by decide +kernel
theorem dX10_player_25 : decode cX10_player 25 = .ok (.ireturn, 1) := by decide +kernel
theorem dX10_player_26 : decode cX10_player 26 = .ok (.aload_n 0, 1) := by decide +kernel
theorem dX10_player_27 : decode cX10_player 27 = .ok (.getfield 7, 3) := by decide +kernel
theorem dX10_player_30 : decode cX10_player 30 = .ok (.aload_n 0, 1) := by decide +kernel
theorem dX10_player_31 : decode cX10_player 31 = .ok (.getfield 72, 3) := by decide +kernel
theorem dX10_player_34 : decode cX10_player 34 = .ok (.iload_n 1, 1) := by decide +kernel
theorem dX10_player_35 : decode cX10_player 35 = .ok (.iastore, 1) := by decide +kernel
theorem dX10_player_36 : decode cX10_player 36 = .ok (.aload_n 0, 1) := by decide +kernel
theorem dX10_player_37 : decode cX10_player 37 = .ok (.getfield 13, 3) := by decide +kernel
theorem dX10_player_40 : decode cX10_player 40 = .ok (.aload_n 0, 1) := by decide +kernel
theorem dX10_player_41 : decode cX10_player 41 = .ok (.getfield 72, 3) := by decide +kernel
theorem dX10_player_44 : decode cX10_player 44 = .ok (.aload_n 0, 1) := by decide +kernel
theorem dX10_player_45 : decode cX10_player 45 = .ok (.getfield 72, 3) := by decide +kernel
theorem dX10_player_48 : decode cX10_player 48 = .ok (.iastore, 1) := by decide +kernel
theorem dX10_player_49 : decode cX10_player 49 = .ok (.aload_n 0, 1) := by decide +kernel
theorem dX10_player_50 : decode cX10_player 50 = .ok (.dup, 1) := by decide +kernel
theorem dX10_player_51 : decode cX10_player 51 = .ok (.getfield 72, 3) := by decide +kernel
theorem dX10_player_54 : decode cX10_player 54 = .ok (.iconst 1, 1) := by decide +kernel
theorem dX10_player_55 : decode cX10_player 55 = .ok (.iadd, 1) := by decide +kernel
theorem dX10_player_56 : decode cX10_player 56 = .ok (.putfield 72, 3) := by decide +kernel
theorem dX10_player_59 : decode cX10_player 59 = .ok (.aload_n 0, 1) := by decide +kernel
theorem dX10_player_60 : decode cX10_player 60 = .ok (.getfield 72, 3) := by decide +kernel
theorem dX10_player_63 : decode cX10_player 63 = .ok (.iconst 1, 1) := by decide +kernel
theorem dX10_player_64 : decode cX10_player 64 = .ok (.isub, 1) := by decide +kernel
theorem dX10_player_65 : decode cX10_player 65 = .ok (.ireturn, 1) := by decide +kernel
theorem dX10_jurors_0 : decode cX10_jurors 0 = .ok (.iload_n 1, 1) := by decide +kernel
theorem dX10_jurors_1 : decode cX10_jurors 1 = .ok (.iconst 1, 1) := by decide +kernel
theorem dX10_jurors_2 : decode cX10_jurors 2 = .ok (.bipush 9, 2) := by decide +kernel
theorem dX10_jurors_4 : decode cX10_jurors 4 = .ok (.invokestatic 75, 3) := by decide +kernel
theorem dX10_jurors_7 : decode cX10_jurors 7 = .ok (.ifCond .ne 6, 3) := by decide +kernel
theorem dX10_jurors_10 : decode cX10_jurors 10 = .ok (.bipush (-2), 2) := by decide +kernel
theorem dX10_jurors_12 : decode cX10_jurors 12 = .ok (.ireturn, 1) := by decide +kernel
theorem dX10_jurors_13 : decode cX10_jurors 13 = .ok (.aload_n 0, 1) := by decide +kernel
theorem dX10_jurors_14 : decode cX10_jurors 14 = .ok (.getfield 16, 3) := by decide +kernel
theorem dX10_jurors_17 : decode cX10_jurors 17 = .ok (.istore_n 2, 1) := by decide +kernel
theorem dX10_jurors_18 : decode cX10_jurors 18 = .ok (.aload_n 0, 1) := by decide +kernel
theorem dX10_jurors_19 : decode cX10_jurors 19 = .ok (.iload_n 1, 1) := by decide +kernel
theorem dX10_jurors_20 : decode cX10_jurors 20 = .ok (.putfield 16, 3) := by decide +kernel
theorem dX10_jurors_23 : decode cX10_jurors 23 = .ok (.iload_n 2, 1) := by decide +kernel
theorem dX10_jurors_24 : decode cX10_jurors 24 = .ok (.ireturn, 1) := by decide +kernel
theorem dX10_draw_0 : decode cX10_draw 0 = .ok (.iconst 0, 1) := by decide +kernel
theorem dX10_draw_1 : decode cX10_draw 1 = .ok (.istore_n 2, 1) := by decide +kernel
theorem dX10_draw_2 : decode cX10_draw 2 = .ok (.iload_n 2, 1) := by decide +kernel
theorem dX10_draw_3 : decode cX10_draw 3 = .ok (.aload_n 0, 1) := by decide +kernel
theorem dX10_draw_4 : decode cX10_draw 4 = .ok (.getfield 72, 3) := by decide +kernel
theorem dX10_draw_7 : decode cX10_draw 7 = .ok (.if_icmp .ge 16, 3) := by decide +kernel
theorem dX10_draw_10 : decode cX10_draw 10 = .ok (.aload_n 0, 1) := by decide +kernel
theorem dX10_draw_11 : decode cX10_draw 11 = .ok (.getfield 13, 3) := by decide +kernel
theorem dX10_draw_14 : decode cX10_draw 14 = .ok (.iload_n 2, 1) := by decide +kernel
theorem dX10_draw_15 : decode cX10_draw 15 = .ok (.iload_n 2, 1) := by decide +kernel
theorem dX10_draw_16 : decode cX10_draw 16 = .ok (.iastore, 1) := by decide +kernel
theorem dX10_draw_17 : decode cX10_draw 17 = .ok (.iinc 2 1, 3) := by decide +kernel
theorem dX10_draw_20 : decode cX10_draw 20 = .ok (.goto (-18), 3) := by decide +kernel
theorem dX10_draw_23 : decode cX10_draw 23 = .ok (.iload_n 1, 1) := by decide +kernel
theorem dX10_draw_24 : decode cX10_draw 24 = .ok (.istore_n 2, 1) := by decide +kernel
theorem dX10_draw_25 : decode cX10_draw 25 = .ok (.aload_n 0, 1) := by decide +kernel
theorem dX10_draw_26 : decode cX10_draw 26 = .ok (.getfield 72, 3) := by decide +kernel
theorem dX10_draw_29 : decode cX10_draw 29 = .ok (.iconst 1, 1) := by decide +kernel
theorem dX10_draw_30 : decode cX10_draw 30 = .ok (.isub, 1) := by decide +kernel
theorem dX10_draw_31 : decode cX10_draw 31 = .ok (.istore_n 3, 1) := by decide +kernel
theorem dX10_draw_32 : decode cX10_draw 32 = .ok (.iload_n 3, 1) := by decide +kernel
theorem dX10_draw_33 : decode cX10_draw 33 = .ok (.ifCond .le 58, 3) := by decide +kernel
theorem dX10_draw_36 : decode cX10_draw 36 = .ok (.ldc 79, 2) := by decide +kernel
theorem dX10_draw_38 : decode cX10_draw 38 = .ok (.iload_n 2, 1) := by decide +kernel
theorem dX10_draw_39 : decode cX10_draw 39 = .ok (.imul, 1) := by decide +kernel
theorem dX10_draw_40 : decode cX10_draw 40 = .ok (.sipush 12345, 3) := by decide +kernel
theorem dX10_draw_43 : decode cX10_draw 43 = .ok (.iadd, 1) := by decide +kernel
theorem dX10_draw_44 : decode cX10_draw 44 = .ok (.istore_n 2, 1) := by decide +kernel
theorem dX10_draw_45 : decode cX10_draw 45 = .ok (.iload_n 2, 1) := by decide +kernel
theorem dX10_draw_46 : decode cX10_draw 46 = .ok (.bipush 16, 2) := by decide +kernel
theorem dX10_draw_48 : decode cX10_draw 48 = .ok (.iushr, 1) := by decide +kernel
theorem dX10_draw_49 : decode cX10_draw 49 = .ok (.iload_n 3, 1) := by decide +kernel
theorem dX10_draw_50 : decode cX10_draw 50 = .ok (.iconst 1, 1) := by decide +kernel
theorem dX10_draw_51 : decode cX10_draw 51 = .ok (.iadd, 1) := by decide +kernel
theorem dX10_draw_52 : decode cX10_draw 52 = .ok (.irem, 1) := by decide +kernel
theorem dX10_draw_53 : decode cX10_draw 53 = .ok (.istore 4, 2) := by decide +kernel
theorem dX10_draw_55 : decode cX10_draw 55 = .ok (.aload_n 0, 1) := by decide +kernel
theorem dX10_draw_56 : decode cX10_draw 56 = .ok (.getfield 13, 3) := by decide +kernel
theorem dX10_draw_59 : decode cX10_draw 59 = .ok (.iload_n 3, 1) := by decide +kernel
theorem dX10_draw_60 : decode cX10_draw 60 = .ok (.iaload, 1) := by decide +kernel
theorem dX10_draw_61 : decode cX10_draw 61 = .ok (.istore 5, 2) := by decide +kernel
theorem dX10_draw_63 : decode cX10_draw 63 = .ok (.aload_n 0, 1) := by decide +kernel
theorem dX10_draw_64 : decode cX10_draw 64 = .ok (.getfield 13, 3) := by decide +kernel
theorem dX10_draw_67 : decode cX10_draw 67 = .ok (.iload_n 3, 1) := by decide +kernel
theorem dX10_draw_68 : decode cX10_draw 68 = .ok (.aload_n 0, 1) := by decide +kernel
theorem dX10_draw_69 : decode cX10_draw 69 = .ok (.getfield 13, 3) := by decide +kernel
theorem dX10_draw_72 : decode cX10_draw 72 = .ok (.iload 4, 2) := by decide +kernel
theorem dX10_draw_74 : decode cX10_draw 74 = .ok (.iaload, 1) := by decide +kernel
theorem dX10_draw_75 : decode cX10_draw 75 = .ok (.iastore, 1) := by decide +kernel
theorem dX10_draw_76 : decode cX10_draw 76 = .ok (.aload_n 0, 1) := by decide +kernel
theorem dX10_draw_77 : decode cX10_draw 77 = .ok (.getfield 13, 3) := by decide +kernel
theorem dX10_draw_80 : decode cX10_draw 80 = .ok (.iload 4, 2) := by decide +kernel
theorem dX10_draw_82 : decode cX10_draw 82 = .ok (.iload 5, 2) := by decide +kernel
theorem dX10_draw_84 : decode cX10_draw 84 = .ok (.iastore, 1) := by decide +kernel
theorem dX10_draw_85 : decode cX10_draw 85 = .ok (.iinc 3 (-1), 3) := by decide +kernel
theorem dX10_draw_88 : decode cX10_draw 88 = .ok (.goto (-56), 3) := by decide +kernel
theorem dX10_draw_91 : decode cX10_draw 91 = .ok (.aload_n 0, 1) := by decide +kernel
theorem dX10_draw_92 : decode cX10_draw 92 = .ok (.getfield 72, 3) := by decide +kernel
theorem dX10_draw_95 : decode cX10_draw 95 = .ok (.ifCond .ne 7, 3) := by decide +kernel
theorem dX10_draw_98 : decode cX10_draw 98 = .ok (.iconst (-1), 1) := by decide +kernel
theorem dX10_draw_99 : decode cX10_draw 99 = .ok (.goto 9, 3) := by decide +kernel
theorem dX10_draw_102 : decode cX10_draw 102 = .ok (.aload_n 0, 1) := by decide +kernel
theorem dX10_draw_103 : decode cX10_draw 103 = .ok (.getfield 13, 3) := by decide +kernel
theorem dX10_draw_106 : decode cX10_draw 106 = .ok (.iconst 0, 1) := by decide +kernel
theorem dX10_draw_107 : decode cX10_draw 107 = .ok (.iaload, 1) := by decide +kernel
theorem dX10_draw_108 : decode cX10_draw 108 = .ok (.ireturn, 1) := by decide +kernel
theorem dX10_order_0 : decode cX10_order 0 = .ok (.iload_n 1, 1) := by decide +kernel
theorem dX10_order_1 : decode cX10_order 1 = .ok (.iconst 0, 1) := by decide +kernel
theorem dX10_order_2 : decode cX10_order 2 = .ok (.aload_n 0, 1) := by decide +kernel
theorem dX10_order_3 : decode cX10_order 3 = .ok (.getfield 72, 3) := by decide +kernel
theorem dX10_order_6 : decode cX10_order 6 = .ok (.iconst 1, 1) := by decide +kernel
theorem dX10_order_7 : decode cX10_order 7 = .ok (.isub, 1) := by decide +kernel
theorem dX10_order_8 : decode cX10_order 8 = .ok (.invokestatic 75, 3) := by decide +kernel
theorem dX10_order_11 : decode cX10_order 11 = .ok (.ifCond .eq 12, 3) := by decide +kernel
theorem dX10_order_14 : decode cX10_order 14 = .ok (.aload_n 0, 1) := by decide +kernel
theorem dX10_order_15 : decode cX10_order 15 = .ok (.getfield 13, 3) := by decide +kernel
theorem dX10_order_18 : decode cX10_order 18 = .ok (.iload_n 1, 1) := by decide +kernel
theorem dX10_order_19 : decode cX10_order 19 = .ok (.iaload, 1) := by decide +kernel
theorem dX10_order_20 : decode cX10_order 20 = .ok (.goto 5, 3) := by decide +kernel
theorem dX10_order_23 : decode cX10_order 23 = .ok (.bipush (-2), 2) := by decide +kernel
theorem dX10_order_25 : decode cX10_order 25 = .ok (.ireturn, 1) := by decide +kernel
theorem dX10_vote_0 : decode cX10_vote 0 = .ok (.bipush 9, 2) := by decide +kernel
theorem dX10_vote_2 : decode cX10_vote 2 = .ok (.iload_n 1, 1) := by decide +kernel
theorem dX10_vote_3 : decode cX10_vote 3 = .ok (.imul, 1) := by decide +kernel
theorem dX10_vote_4 : decode cX10_vote 4 = .ok (.iload_n 3, 1) := by decide +kernel
theorem dX10_vote_5 : decode cX10_vote 5 = .ok (.iadd, 1) := by decide +kernel
theorem dX10_vote_6 : decode cX10_vote 6 = .ok (.istore 4, 2) := by decide +kernel
theorem dX10_vote_8 : decode cX10_vote 8 = .ok (.iload_n 3, 1) := by decide +kernel
theorem dX10_vote_9 : decode cX10_vote 9 = .ok (.aload_n 0, 1) := by decide +kernel
theorem dX10_vote_10 : decode cX10_vote 10 = .ok (.getfield 16, 3) := by decide +kernel
theorem dX10_vote_13 : decode cX10_vote 13 = .ok (.if_icmp .ge 40, 3) := by decide +kernel
theorem dX10_vote_16 : decode cX10_vote 16 = .ok (.aload_n 0, 1) := by decide +kernel
theorem dX10_vote_17 : decode cX10_vote 17 = .ok (.getfield 7, 3) := by decide +kernel
theorem dX10_vote_20 : decode cX10_vote 20 = .ok (.iload_n 1, 1) := by decide +kernel
theorem dX10_vote_21 : decode cX10_vote 21 = .ok (.iaload, 1) := by decide +kernel
theorem dX10_vote_22 : decode cX10_vote 22 = .ok (.iload_n 3, 1) := by decide +kernel
theorem dX10_vote_23 : decode cX10_vote 23 = .ok (.ishr, 1) := by decide +kernel
theorem dX10_vote_24 : decode cX10_vote 24 = .ok (.iconst 1, 1) := by decide +kernel
theorem dX10_vote_25 : decode cX10_vote 25 = .ok (.iand, 1) := by decide +kernel
theorem dX10_vote_26 : decode cX10_vote 26 = .ok (.ifCond .ne 27, 3) := by decide +kernel
theorem dX10_vote_29 : decode cX10_vote 29 = .ok (.aload_n 0, 1) := by decide +kernel
theorem dX10_vote_30 : decode cX10_vote 30 = .ok (.getfield 56, 3) := by decide +kernel
theorem dX10_vote_33 : decode cX10_vote 33 = .ok (.iload_n 2, 1) := by decide +kernel
theorem dX10_vote_34 : decode cX10_vote 34 = .ok (.baload, 1) := by decide +kernel
theorem dX10_vote_35 : decode cX10_vote 35 = .ok (.ifCond .eq 18, 3) := by decide +kernel
theorem dX10_vote_38 : decode cX10_vote 38 = .ok (.iload 4, 2) := by decide +kernel
theorem dX10_vote_40 : decode cX10_vote 40 = .ok (.aload_n 0, 1) := by decide +kernel
theorem dX10_vote_41 : decode cX10_vote 41 = .ok (.getfield 63, 3) := by decide +kernel
theorem dX10_vote_44 : decode cX10_vote 44 = .ok (.iload_n 2, 1) := by decide +kernel
theorem dX10_vote_45 : decode cX10_vote 45 = .ok (.iaload, 1) := by decide +kernel
theorem dX10_vote_46 : decode cX10_vote 46 = .ok (.if_icmp .ge 7, 3) := by decide +kernel
theorem dX10_vote_49 : decode cX10_vote 49 = .ok (.iconst 1, 1) := by decide +kernel
theorem dX10_vote_50 : decode cX10_vote 50 = .ok (.goto 4, 3) := by decide +kernel
theorem dX10_vote_53 : decode cX10_vote 53 = .ok (.iconst 0, 1) := by decide +kernel
theorem dX10_vote_54 : decode cX10_vote 54 = .ok (.istore 5, 2) := by decide +kernel
theorem dX10_vote_56 : decode cX10_vote 56 = .ok (.iload 5, 2) := by decide +kernel
theorem dX10_vote_58 : decode cX10_vote 58 = .ok (.ifCond .eq 19, 3) := by decide +kernel
theorem dX10_vote_61 : decode cX10_vote 61 = .ok (.aload_n 0, 1) := by decide +kernel
theorem dX10_vote_62 : decode cX10_vote 62 = .ok (.getfield 66, 3) := by decide +kernel
theorem dX10_vote_65 : decode cX10_vote 65 = .ok (.sipush 240, 3) := by decide +kernel
theorem dX10_vote_68 : decode cX10_vote 68 = .ok (.iload_n 2, 1) := by decide +kernel
theorem dX10_vote_69 : decode cX10_vote 69 = .ok (.imul, 1) := by decide +kernel
theorem dX10_vote_70 : decode cX10_vote 70 = .ok (.iload 4, 2) := by decide +kernel
theorem dX10_vote_72 : decode cX10_vote 72 = .ok (.iadd, 1) := by decide +kernel
theorem dX10_vote_73 : decode cX10_vote 73 = .ok (.iaload, 1) := by decide +kernel
theorem dX10_vote_74 : decode cX10_vote 74 = .ok (.goto 4, 3) := by decide +kernel
theorem dX10_vote_77 : decode cX10_vote 77 = .ok (.iconst (-1), 1) := by decide +kernel
theorem dX10_vote_78 : decode cX10_vote 78 = .ok (.istore 6, 2) := by decide +kernel
theorem dX10_vote_80 : decode cX10_vote 80 = .ok (.iload 6, 2) := by decide +kernel
theorem dX10_vote_82 : decode cX10_vote 82 = .ok (.ifCond .le 7, 3) := by decide +kernel
theorem dX10_vote_85 : decode cX10_vote 85 = .ok (.iconst 1, 1) := by decide +kernel
theorem dX10_vote_86 : decode cX10_vote 86 = .ok (.goto 13, 3) := by decide +kernel
theorem dX10_vote_89 : decode cX10_vote 89 = .ok (.iload 6, 2) := by decide +kernel
theorem dX10_vote_91 : decode cX10_vote 91 = .ok (.ifCond .ne 7, 3) := by decide +kernel
theorem dX10_vote_94 : decode cX10_vote 94 = .ok (.iconst 0, 1) := by decide +kernel
theorem dX10_vote_95 : decode cX10_vote 95 = .ok (.goto 4, 3) := by decide +kernel
theorem dX10_vote_98 : decode cX10_vote 98 = .ok (.iconst (-1), 1) := by decide +kernel
theorem dX10_vote_99 : decode cX10_vote 99 = .ok (.ireturn, 1) := by decide +kernel
theorem dX10_counted_0 : decode cX10_counted 0 = .ok (.iconst 0, 1) := by decide +kernel
theorem dX10_counted_1 : decode cX10_counted 1 = .ok (.istore_n 3, 1) := by decide +kernel
theorem dX10_counted_2 : decode cX10_counted 2 = .ok (.iconst 0, 1) := by decide +kernel
theorem dX10_counted_3 : decode cX10_counted 3 = .ok (.istore 4, 2) := by decide +kernel
theorem dX10_counted_5 : decode cX10_counted 5 = .ok (.iload 4, 2) := by decide +kernel
theorem dX10_counted_7 : decode cX10_counted 7 = .ok (.bipush 9, 2) := by decide +kernel
theorem dX10_counted_9 : decode cX10_counted 9 = .ok (.if_icmp .ge 29, 3) := by decide +kernel
theorem dX10_counted_12 : decode cX10_counted 12 = .ok (.iload_n 3, 1) := by decide +kernel
theorem dX10_counted_13 : decode cX10_counted 13 = .ok (.aload_n 0, 1) := by decide +kernel
theorem dX10_counted_14 : decode cX10_counted 14 = .ok (.iload_n 1, 1) := by decide +kernel
theorem dX10_counted_15 : decode cX10_counted 15 = .ok (.iload_n 2, 1) := by decide +kernel
theorem dX10_counted_16 : decode cX10_counted 16 = .ok (.iload 4, 2) := by decide +kernel
theorem dX10_counted_18 : decode cX10_counted 18 = .ok (.invokevirtual 80, 3) := by decide +kernel
theorem dX10_counted_21 : decode cX10_counted 21 = .ok (.iconst (-1), 1) := by decide +kernel
theorem dX10_counted_22 : decode cX10_counted 22 = .ok (.if_icmp .ne 7, 3) := by decide +kernel
theorem dX10_counted_25 : decode cX10_counted 25 = .ok (.iconst 0, 1) := by decide +kernel
theorem dX10_counted_26 : decode cX10_counted 26 = .ok (.goto 4, 3) := by decide +kernel
theorem dX10_counted_29 : decode cX10_counted 29 = .ok (.iconst 1, 1) := by decide +kernel
theorem dX10_counted_30 : decode cX10_counted 30 = .ok (.iadd, 1) := by decide +kernel
theorem dX10_counted_31 : decode cX10_counted 31 = .ok (.istore_n 3, 1) := by decide +kernel
theorem dX10_counted_32 : decode cX10_counted 32 = .ok (.iinc 4 1, 3) := by decide +kernel
theorem dX10_counted_35 : decode cX10_counted 35 = .ok (.goto (-30), 3) := by decide +kernel
theorem dX10_counted_38 : decode cX10_counted 38 = .ok (.iload_n 3, 1) := by decide +kernel
theorem dX10_counted_39 : decode cX10_counted 39 = .ok (.ireturn, 1) := by decide +kernel
theorem dX10_yes_0 : decode cX10_yes 0 = .ok (.iconst 0, 1) := by decide +kernel
theorem dX10_yes_1 : decode cX10_yes 1 = .ok (.istore_n 3, 1) := by decide +kernel
theorem dX10_yes_2 : decode cX10_yes 2 = .ok (.iconst 0, 1) := by decide +kernel
theorem dX10_yes_3 : decode cX10_yes 3 = .ok (.istore 4, 2) := by decide +kernel
theorem dX10_yes_5 : decode cX10_yes 5 = .ok (.iload 4, 2) := by decide +kernel
theorem dX10_yes_7 : decode cX10_yes 7 = .ok (.bipush 9, 2) := by decide +kernel
theorem dX10_yes_9 : decode cX10_yes 9 = .ok (.if_icmp .ge 29, 3) := by decide +kernel
theorem dX10_yes_12 : decode cX10_yes 12 = .ok (.iload_n 3, 1) := by decide +kernel
theorem dX10_yes_13 : decode cX10_yes 13 = .ok (.aload_n 0, 1) := by decide +kernel
theorem dX10_yes_14 : decode cX10_yes 14 = .ok (.iload_n 1, 1) := by decide +kernel
theorem dX10_yes_15 : decode cX10_yes 15 = .ok (.iload_n 2, 1) := by decide +kernel
theorem dX10_yes_16 : decode cX10_yes 16 = .ok (.iload 4, 2) := by decide +kernel
theorem dX10_yes_18 : decode cX10_yes 18 = .ok (.invokevirtual 80, 3) := by decide +kernel
theorem dX10_yes_21 : decode cX10_yes 21 = .ok (.iconst 1, 1) := by decide +kernel
theorem dX10_yes_22 : decode cX10_yes 22 = .ok (.if_icmp .ne 7, 3) := by decide +kernel
theorem dX10_yes_25 : decode cX10_yes 25 = .ok (.iconst 1, 1) := by decide +kernel
theorem dX10_yes_26 : decode cX10_yes 26 = .ok (.goto 4, 3) := by decide +kernel
theorem dX10_yes_29 : decode cX10_yes 29 = .ok (.iconst 0, 1) := by decide +kernel
theorem dX10_yes_30 : decode cX10_yes 30 = .ok (.iadd, 1) := by decide +kernel
theorem dX10_yes_31 : decode cX10_yes 31 = .ok (.istore_n 3, 1) := by decide +kernel
theorem dX10_yes_32 : decode cX10_yes 32 = .ok (.iinc 4 1, 3) := by decide +kernel
theorem dX10_yes_35 : decode cX10_yes 35 = .ok (.goto (-30), 3) := by decide +kernel
theorem dX10_yes_38 : decode cX10_yes 38 = .ok (.iload_n 3, 1) := by decide +kernel
theorem dX10_yes_39 : decode cX10_yes 39 = .ok (.ireturn, 1) := by decide +kernel
theorem dX10_votes_0 : decode cX10_votes 0 = .ok (.aload_n 0, 1) := by decide +kernel
theorem dX10_votes_1 : decode cX10_votes 1 = .ok (.iload_n 1, 1) := by decide +kernel
theorem dX10_votes_2 : decode cX10_votes 2 = .ok (.invokevirtual 84, 3) := by decide +kernel
theorem dX10_votes_5 : decode cX10_votes 5 = .ok (.ifCond .eq 21, 3) := by decide +kernel
theorem dX10_votes_8 : decode cX10_votes 8 = .ok (.iload_n 2, 1) := by decide +kernel
theorem dX10_votes_9 : decode cX10_votes 9 = .ok (.iconst 0, 1) := by decide +kernel
theorem dX10_votes_10 : decode cX10_votes 10 = .ok (.iconst 3, 1) := by decide +kernel
theorem dX10_votes_11 : decode cX10_votes 11 = .ok (.invokestatic 75, 3) := by decide +kernel
theorem dX10_votes_14 : decode cX10_votes 14 = .ok (.ifCond .eq 12, 3) := by decide +kernel
theorem dX10_votes_17 : decode cX10_votes 17 = .ok (.iload_n 3, 1) := by decide +kernel
theorem dX10_votes_18 : decode cX10_votes 18 = .ok (.iconst 0, 1) := by decide +kernel
theorem dX10_votes_19 : decode cX10_votes 19 = .ok (.iconst 1, 1) := by decide +kernel
theorem dX10_votes_20 : decode cX10_votes 20 = .ok (.invokestatic 75, 3) := by decide +kernel
theorem dX10_votes_23 : decode cX10_votes 23 = .ok (.ifCond .ne 6, 3) := by decide +kernel
theorem dX10_votes_26 : decode cX10_votes 26 = .ok (.bipush (-2), 2) := by decide +kernel
theorem dX10_votes_28 : decode cX10_votes 28 = .ok (.ireturn, 1) := by decide +kernel
theorem dX10_votes_29 : decode cX10_votes 29 = .ok (.iload_n 3, 1) := by decide +kernel
theorem dX10_votes_30 : decode cX10_votes 30 = .ok (.ifCond .ne 12, 3) := by decide +kernel
theorem dX10_votes_33 : decode cX10_votes 33 = .ok (.aload_n 0, 1) := by decide +kernel
theorem dX10_votes_34 : decode cX10_votes 34 = .ok (.iload_n 1, 1) := by decide +kernel
theorem dX10_votes_35 : decode cX10_votes 35 = .ok (.iload_n 2, 1) := by decide +kernel
theorem dX10_votes_36 : decode cX10_votes 36 = .ok (.invokevirtual 88, 3) := by decide +kernel
theorem dX10_votes_39 : decode cX10_votes 39 = .ok (.goto 9, 3) := by decide +kernel
theorem dX10_votes_42 : decode cX10_votes 42 = .ok (.aload_n 0, 1) := by decide +kernel
theorem dX10_votes_43 : decode cX10_votes 43 = .ok (.iload_n 1, 1) := by decide +kernel
theorem dX10_votes_44 : decode cX10_votes 44 = .ok (.iload_n 2, 1) := by decide +kernel
theorem dX10_votes_45 : decode cX10_votes 45 = .ok (.invokevirtual 92, 3) := by decide +kernel
theorem dX10_votes_48 : decode cX10_votes 48 = .ok (.ireturn, 1) := by decide +kernel
theorem dX10_type_0 : decode cX10_type 0 = .ok (.iload_n 1, 1) := by decide +kernel
theorem dX10_type_1 : decode cX10_type 1 = .ok (.iconst 0, 1) := by decide +kernel
theorem dX10_type_2 : decode cX10_type 2 = .ok (.sipush 255, 3) := by decide +kernel
theorem dX10_type_5 : decode cX10_type 5 = .ok (.invokestatic 75, 3) := by decide +kernel
theorem dX10_type_8 : decode cX10_type 8 = .ok (.ifCond .ne 6, 3) := by decide +kernel
theorem dX10_type_11 : decode cX10_type 11 = .ok (.bipush (-2), 2) := by decide +kernel
theorem dX10_type_13 : decode cX10_type 13 = .ok (.ireturn, 1) := by decide +kernel
theorem dX10_type_14 : decode cX10_type 14 = .ok (.aload_n 0, 1) := by decide +kernel
theorem dX10_type_15 : decode cX10_type 15 = .ok (.getfield 95, 3) := by decide +kernel
theorem dX10_type_18 : decode cX10_type 18 = .ok (.bipush 60, 2) := by decide +kernel
theorem dX10_type_20 : decode cX10_type 20 = .ok (.if_icmp .ne 6, 3) := by decide +kernel
theorem dX10_type_23 : decode cX10_type 23 = .ok (.bipush (-4), 2) := by decide +kernel
theorem dX10_type_25 : decode cX10_type 25 = .ok (.ireturn, 1) := by decide +kernel
theorem dX10_type_26 : decode cX10_type 26 = .ok (.aload_n 0, 1) := by decide +kernel
theorem dX10_type_27 : decode cX10_type 27 = .ok (.getfield 20, 3) := by decide +kernel
theorem dX10_type_30 : decode cX10_type 30 = .ok (.aload_n 0, 1) := by decide +kernel
theorem dX10_type_31 : decode cX10_type 31 = .ok (.getfield 95, 3) := by decide +kernel
theorem dX10_type_34 : decode cX10_type 34 = .ok (.iload_n 1, 1) := by decide +kernel
theorem dX10_type_35 : decode cX10_type 35 = .ok (.iastore, 1) := by decide +kernel
theorem dX10_type_36 : decode cX10_type 36 = .ok (.aload_n 0, 1) := by decide +kernel
theorem dX10_type_37 : decode cX10_type 37 = .ok (.dup, 1) := by decide +kernel
theorem dX10_type_38 : decode cX10_type 38 = .ok (.getfield 95, 3) := by decide +kernel
theorem dX10_type_41 : decode cX10_type 41 = .ok (.iconst 1, 1) := by decide +kernel
theorem dX10_type_42 : decode cX10_type 42 = .ok (.iadd, 1) := by decide +kernel
theorem dX10_type_43 : decode cX10_type 43 = .ok (.putfield 95, 3) := by decide +kernel
theorem dX10_type_46 : decode cX10_type 46 = .ok (.aload_n 0, 1) := by decide +kernel
theorem dX10_type_47 : decode cX10_type 47 = .ok (.getfield 95, 3) := by decide +kernel
theorem dX10_type_50 : decode cX10_type 50 = .ok (.ireturn, 1) := by decide +kernel
theorem dX10_repeal_0 : decode cX10_repeal 0 = .ok (.aload_n 0, 1) := by decide +kernel
theorem dX10_repeal_1 : decode cX10_repeal 1 = .ok (.getfield 95, 3) := by decide +kernel
theorem dX10_repeal_4 : decode cX10_repeal 4 = .ok (.istore_n 1, 1) := by decide +kernel
theorem dX10_repeal_5 : decode cX10_repeal 5 = .ok (.aload_n 0, 1) := by decide +kernel
theorem dX10_repeal_6 : decode cX10_repeal 6 = .ok (.iconst 0, 1) := by decide +kernel
theorem dX10_repeal_7 : decode cX10_repeal 7 = .ok (.putfield 95, 3) := by decide +kernel
theorem dX10_repeal_10 : decode cX10_repeal 10 = .ok (.iload_n 1, 1) := by decide +kernel
theorem dX10_repeal_11 : decode cX10_repeal 11 = .ok (.ireturn, 1) := by decide +kernel
theorem dX10_byteAt_0 : decode cX10_byteAt 0 = .ok (.iload_n 1, 1) := by decide +kernel
theorem dX10_byteAt_1 : decode cX10_byteAt 1 = .ok (.aload_n 0, 1) := by decide +kernel
theorem dX10_byteAt_2 : decode cX10_byteAt 2 = .ok (.getfield 95, 3) := by decide +kernel
theorem dX10_byteAt_5 : decode cX10_byteAt 5 = .ok (.if_icmp .ge 12, 3) := by decide +kernel
theorem dX10_byteAt_8 : decode cX10_byteAt 8 = .ok (.aload_n 0, 1) := by decide +kernel
theorem dX10_byteAt_9 : decode cX10_byteAt 9 = .ok (.getfield 20, 3) := by decide +kernel
theorem dX10_byteAt_12 : decode cX10_byteAt 12 = .ok (.iload_n 1, 1) := by decide +kernel
theorem dX10_byteAt_13 : decode cX10_byteAt 13 = .ok (.iaload, 1) := by decide +kernel
theorem dX10_byteAt_14 : decode cX10_byteAt 14 = .ok (.goto 4, 3) := by decide +kernel
theorem dX10_byteAt_17 : decode cX10_byteAt 17 = .ok (.iconst (-1), 1) := by decide +kernel
theorem dX10_byteAt_18 : decode cX10_byteAt 18 = .ok (.ireturn, 1) := by decide +kernel
theorem dX10_expect_0 : decode cX10_expect 0 = .ok (.aload_n 0, 1) := by decide +kernel
theorem dX10_expect_1 : decode cX10_expect 1 = .ok (.getfield 98, 3) := by decide +kernel
theorem dX10_expect_4 : decode cX10_expect 4 = .ok (.iconst (-1), 1) := by decide +kernel
theorem dX10_expect_5 : decode cX10_expect 5 = .ok (.if_icmp .ne 23, 3) := by decide +kernel
theorem dX10_expect_8 : decode cX10_expect 8 = .ok (.aload_n 0, 1) := by decide +kernel
theorem dX10_expect_9 : decode cX10_expect 9 = .ok (.aload_n 0, 1) := by decide +kernel
theorem dX10_expect_10 : decode cX10_expect 10 = .ok (.getfield 101, 3) := by decide +kernel
theorem dX10_expect_13 : decode cX10_expect 13 = .ok (.invokevirtual 104, 3) := by decide +kernel
theorem dX10_expect_16 : decode cX10_expect 16 = .ok (.iload_n 1, 1) := by decide +kernel
theorem dX10_expect_17 : decode cX10_expect 17 = .ok (.if_icmp .eq 11, 3) := by decide +kernel
theorem dX10_expect_20 : decode cX10_expect 20 = .ok (.aload_n 0, 1) := by decide +kernel
theorem dX10_expect_21 : decode cX10_expect 21 = .ok (.aload_n 0, 1) := by decide +kernel
theorem dX10_expect_22 : decode cX10_expect 22 = .ok (.getfield 101, 3) := by decide +kernel
theorem dX10_expect_25 : decode cX10_expect 25 = .ok (.putfield 98, 3) := by decide +kernel
theorem dX10_expect_28 : decode cX10_expect 28 = .ok (.aload_n 0, 1) := by decide +kernel
theorem dX10_expect_29 : decode cX10_expect 29 = .ok (.dup, 1) := by decide +kernel
theorem dX10_expect_30 : decode cX10_expect 30 = .ok (.getfield 101, 3) := by decide +kernel
theorem dX10_expect_33 : decode cX10_expect 33 = .ok (.iconst 1, 1) := by decide +kernel
theorem dX10_expect_34 : decode cX10_expect 34 = .ok (.iadd, 1) := by decide +kernel
theorem dX10_expect_35 : decode cX10_expect 35 = .ok (.putfield 101, 3) := by decide +kernel
theorem dX10_expect_38 : decode cX10_expect 38 = .ok (.return_, 1) := by decide +kernel
theorem dX10_number_0 : decode cX10_number 0 = .ok (.aload_n 0, 1) := by decide +kernel
theorem dX10_number_1 : decode cX10_number 1 = .ok (.getfield 101, 3) := by decide +kernel
theorem dX10_number_4 : decode cX10_number 4 = .ok (.istore_n 2, 1) := by decide +kernel
theorem dX10_number_5 : decode cX10_number 5 = .ok (.iconst 0, 1) := by decide +kernel
theorem dX10_number_6 : decode cX10_number 6 = .ok (.istore_n 3, 1) := by decide +kernel
theorem dX10_number_7 : decode cX10_number 7 = .ok (.aload_n 0, 1) := by decide +kernel
theorem dX10_number_8 : decode cX10_number 8 = .ok (.getfield 101, 3) := by decide +kernel
theorem dX10_number_11 : decode cX10_number 11 = .ok (.iload_n 2, 1) := by decide +kernel
theorem dX10_number_12 : decode cX10_number 12 = .ok (.iconst 3, 1) := by decide +kernel
theorem dX10_number_13 : decode cX10_number 13 = .ok (.iadd, 1) := by decide +kernel
theorem dX10_number_14 : decode cX10_number 14 = .ok (.if_icmp .ge 59, 3) := by decide +kernel
theorem dX10_number_17 : decode cX10_number 17 = .ok (.aload_n 0, 1) := by decide +kernel
theorem dX10_number_18 : decode cX10_number 18 = .ok (.aload_n 0, 1) := by decide +kernel
theorem dX10_number_19 : decode cX10_number 19 = .ok (.getfield 101, 3) := by decide +kernel
theorem dX10_number_22 : decode cX10_number 22 = .ok (.invokevirtual 104, 3) := by decide +kernel
theorem dX10_number_25 : decode cX10_number 25 = .ok (.bipush 48, 2) := by decide +kernel
theorem dX10_number_27 : decode cX10_number 27 = .ok (.if_icmp .lt 46, 3) := by decide +kernel
theorem dX10_number_30 : decode cX10_number 30 = .ok (.aload_n 0, 1) := by decide +kernel
theorem dX10_number_31 : decode cX10_number 31 = .ok (.aload_n 0, 1) := by decide +kernel
theorem dX10_number_32 : decode cX10_number 32 = .ok (.getfield 101, 3) := by decide +kernel
theorem dX10_number_35 : decode cX10_number 35 = .ok (.invokevirtual 104, 3) := by decide +kernel
theorem dX10_number_38 : decode cX10_number 38 = .ok (.bipush 57, 2) := by decide +kernel
theorem dX10_number_40 : decode cX10_number 40 = .ok (.if_icmp .gt 33, 3) := by decide +kernel
theorem dX10_number_43 : decode cX10_number 43 = .ok (.bipush 10, 2) := by decide +kernel
theorem dX10_number_45 : decode cX10_number 45 = .ok (.iload_n 3, 1) := by decide +kernel
theorem dX10_number_46 : decode cX10_number 46 = .ok (.imul, 1) := by decide +kernel
theorem dX10_number_47 : decode cX10_number 47 = .ok (.aload_n 0, 1) := by decide +kernel
theorem dX10_number_48 : decode cX10_number 48 = .ok (.aload_n 0, 1) := by decide +kernel
theorem dX10_number_49 : decode cX10_number 49 = .ok (.getfield 101, 3) := by decide +kernel
theorem dX10_number_52 : decode cX10_number 52 = .ok (.invokevirtual 104, 3) := by decide +kernel
theorem dX10_number_55 : decode cX10_number 55 = .ok (.iadd, 1) := by decide +kernel
theorem dX10_number_56 : decode cX10_number 56 = .ok (.bipush 48, 2) := by decide +kernel
theorem dX10_number_58 : decode cX10_number 58 = .ok (.isub, 1) := by decide +kernel
theorem dX10_number_59 : decode cX10_number 59 = .ok (.istore_n 3, 1) := by decide +kernel
theorem dX10_number_60 : decode cX10_number 60 = .ok (.aload_n 0, 1) := by decide +kernel
theorem dX10_number_61 : decode cX10_number 61 = .ok (.dup, 1) := by decide +kernel
theorem dX10_number_62 : decode cX10_number 62 = .ok (.getfield 101, 3) := by decide +kernel
theorem dX10_number_65 : decode cX10_number 65 = .ok (.iconst 1, 1) := by decide +kernel
theorem dX10_number_66 : decode cX10_number 66 = .ok (.iadd, 1) := by decide +kernel
theorem dX10_number_67 : decode cX10_number 67 = .ok (.putfield 101, 3) := by decide +kernel
theorem dX10_number_70 : decode cX10_number 70 = .ok (.goto (-63), 3) := by decide +kernel
theorem dX10_number_73 : decode cX10_number 73 = .ok (.aload_n 0, 1) := by decide +kernel
theorem dX10_number_74 : decode cX10_number 74 = .ok (.getfield 98, 3) := by decide +kernel
theorem dX10_number_77 : decode cX10_number 77 = .ok (.iconst (-1), 1) := by decide +kernel
theorem dX10_number_78 : decode cX10_number 78 = .ok (.if_icmp .ne 25, 3) := by decide +kernel
theorem dX10_number_81 : decode cX10_number 81 = .ok (.aload_n 0, 1) := by decide +kernel
theorem dX10_number_82 : decode cX10_number 82 = .ok (.getfield 101, 3) := by decide +kernel
theorem dX10_number_85 : decode cX10_number 85 = .ok (.iload_n 2, 1) := by decide +kernel
theorem dX10_number_86 : decode cX10_number 86 = .ok (.if_icmp .eq 12, 3) := by decide +kernel
theorem dX10_number_89 : decode cX10_number 89 = .ok (.iload_n 3, 1) := by decide +kernel
theorem dX10_number_90 : decode cX10_number 90 = .ok (.iconst 1, 1) := by decide +kernel
theorem dX10_number_91 : decode cX10_number 91 = .ok (.iload_n 1, 1) := by decide +kernel
theorem dX10_number_92 : decode cX10_number 92 = .ok (.invokestatic 75, 3) := by decide +kernel
theorem dX10_number_95 : decode cX10_number 95 = .ok (.ifCond .ne 8, 3) := by decide +kernel
theorem dX10_number_98 : decode cX10_number 98 = .ok (.aload_n 0, 1) := by decide +kernel
theorem dX10_number_99 : decode cX10_number 99 = .ok (.iload_n 2, 1) := by decide +kernel
theorem dX10_number_100 : decode cX10_number 100 = .ok (.putfield 98, 3) := by decide +kernel
theorem dX10_number_103 : decode cX10_number 103 = .ok (.iload_n 3, 1) := by decide +kernel
theorem dX10_number_104 : decode cX10_number 104 = .ok (.ireturn, 1) := by decide +kernel
theorem dX10_read_0 : decode cX10_read 0 = .ok (.aload_n 0, 1) := by decide +kernel
theorem dX10_read_1 : decode cX10_read 1 = .ok (.iconst 0, 1) := by decide +kernel
theorem dX10_read_2 : decode cX10_read 2 = .ok (.putfield 101, 3) := by decide +kernel
theorem dX10_read_5 : decode cX10_read 5 = .ok (.aload_n 0, 1) := by decide +kernel
theorem dX10_read_6 : decode cX10_read 6 = .ok (.iconst (-1), 1) := by decide +kernel
theorem dX10_read_7 : decode cX10_read 7 = .ok (.putfield 98, 3) := by decide +kernel
theorem dX10_read_10 : decode cX10_read 10 = .ok (.aload_n 0, 1) := by decide +kernel
theorem dX10_read_11 : decode cX10_read 11 = .ok (.iconst 0, 1) := by decide +kernel
theorem dX10_read_12 : decode cX10_read 12 = .ok (.putfield 108, 3) := by decide +kernel
theorem dX10_read_15 : decode cX10_read 15 = .ok (.iconst 1, 1) := by decide +kernel
theorem dX10_read_16 : decode cX10_read 16 = .ok (.istore_n 1, 1) := by decide +kernel
theorem dX10_read_17 : decode cX10_read 17 = .ok (.iload_n 1, 1) := by decide +kernel
theorem dX10_read_18 : decode cX10_read 18 = .ok (.ifCond .eq 191, 3) := by decide +kernel
theorem dX10_read_21 : decode cX10_read 21 = .ok (.aload_n 0, 1) := by decide +kernel
theorem dX10_read_22 : decode cX10_read 22 = .ok (.getfield 98, 3) := by decide +kernel
theorem dX10_read_25 : decode cX10_read 25 = .ok (.iconst (-1), 1) := by decide +kernel
theorem dX10_read_26 : decode cX10_read 26 = .ok (.if_icmp .ne 183, 3) := by decide +kernel
theorem dX10_read_29 : decode cX10_read 29 = .ok (.aload_n 0, 1) := by decide +kernel
theorem dX10_read_30 : decode cX10_read 30 = .ok (.getfield 108, 3) := by decide +kernel
theorem dX10_read_33 : decode cX10_read 33 = .ok (.iconst 4, 1) := by decide +kernel
theorem dX10_read_34 : decode cX10_read 34 = .ok (.if_icmp .ne 16, 3) := by decide +kernel
theorem dX10_read_37 : decode cX10_read 37 = .ok (.aload_n 0, 1) := by decide +kernel
theorem dX10_read_38 : decode cX10_read 38 = .ok (.aload_n 0, 1) := by decide +kernel
theorem dX10_read_39 : decode cX10_read 39 = .ok (.getfield 101, 3) := by decide +kernel
theorem dX10_read_42 : decode cX10_read 42 = .ok (.iconst 1, 1) := by decide +kernel
theorem dX10_read_43 : decode cX10_read 43 = .ok (.isub, 1) := by decide +kernel
theorem dX10_read_44 : decode cX10_read 44 = .ok (.putfield 98, 3) := by decide +kernel
theorem dX10_read_47 : decode cX10_read 47 = .ok (.goto (-30), 3) := by decide +kernel
theorem dX10_read_50 : decode cX10_read 50 = .ok (.aload_n 0, 1) := by decide +kernel
theorem dX10_read_51 : decode cX10_read 51 = .ok (.bipush 118, 2) := by decide +kernel
theorem dX10_read_53 : decode cX10_read 53 = .ok (.invokevirtual 111, 3) := by decide +kernel
theorem dX10_read_56 : decode cX10_read 56 = .ok (.aload_n 0, 1) := by decide +kernel
theorem dX10_read_57 : decode cX10_read 57 = .ok (.getfield 23, 3) := by decide +kernel
theorem dX10_read_60 : decode cX10_read 60 = .ok (.aload_n 0, 1) := by decide +kernel
theorem dX10_read_61 : decode cX10_read 61 = .ok (.getfield 108, 3) := by decide +kernel
theorem dX10_read_64 : decode cX10_read 64 = .ok (.aload_n 0, 1) := by decide +kernel
theorem dX10_read_65 : decode cX10_read 65 = .ok (.bipush 100, 2) := by decide +kernel
theorem dX10_read_67 : decode cX10_read 67 = .ok (.invokevirtual 115, 3) := by decide +kernel
theorem dX10_read_70 : decode cX10_read 70 = .ok (.iastore, 1) := by decide +kernel
theorem dX10_read_71 : decode cX10_read 71 = .ok (.aload_n 0, 1) := by decide +kernel
theorem dX10_read_72 : decode cX10_read 72 = .ok (.bipush 97, 2) := by decide +kernel
theorem dX10_read_74 : decode cX10_read 74 = .ok (.invokevirtual 111, 3) := by decide +kernel
theorem dX10_read_77 : decode cX10_read 77 = .ok (.aload_n 0, 1) := by decide +kernel
theorem dX10_read_78 : decode cX10_read 78 = .ok (.getfield 26, 3) := by decide +kernel
theorem dX10_read_81 : decode cX10_read 81 = .ok (.aload_n 0, 1) := by decide +kernel
theorem dX10_read_82 : decode cX10_read 82 = .ok (.getfield 108, 3) := by decide +kernel
theorem dX10_read_85 : decode cX10_read 85 = .ok (.aload_n 0, 1) := by decide +kernel
theorem dX10_read_86 : decode cX10_read 86 = .ok (.bipush 24, 2) := by decide +kernel
theorem dX10_read_88 : decode cX10_read 88 = .ok (.invokevirtual 115, 3) := by decide +kernel
theorem dX10_read_91 : decode cX10_read 91 = .ok (.iastore, 1) := by decide +kernel
theorem dX10_read_92 : decode cX10_read 92 = .ok (.aload_n 0, 1) := by decide +kernel
theorem dX10_read_93 : decode cX10_read 93 = .ok (.aload_n 0, 1) := by decide +kernel
theorem dX10_read_94 : decode cX10_read 94 = .ok (.getfield 101, 3) := by decide +kernel
theorem dX10_read_97 : decode cX10_read 97 = .ok (.invokevirtual 104, 3) := by decide +kernel
theorem dX10_read_100 : decode cX10_read 100 = .ok (.istore_n 2, 1) := by decide +kernel
theorem dX10_read_101 : decode cX10_read 101 = .ok (.aload_n 0, 1) := by decide +kernel
theorem dX10_read_102 : decode cX10_read 102 = .ok (.getfield 98, 3) := by decide +kernel
theorem dX10_read_105 : decode cX10_read 105 = .ok (.iconst (-1), 1) := by decide +kernel
theorem dX10_read_106 : decode cX10_read 106 = .ok (.if_icmp .ne 35, 3) := by decide +kernel
theorem dX10_read_109 : decode cX10_read 109 = .ok (.iload_n 2, 1) := by decide +kernel
theorem dX10_read_110 : decode cX10_read 110 = .ok (.bipush 97, 2) := by decide +kernel
theorem dX10_read_112 : decode cX10_read 112 = .ok (.if_icmp .eq 29, 3) := by decide +kernel
theorem dX10_read_115 : decode cX10_read 115 = .ok (.iload_n 2, 1) := by decide +kernel
theorem dX10_read_116 : decode cX10_read 116 = .ok (.bipush 110, 2) := by decide +kernel
theorem dX10_read_118 : decode cX10_read 118 = .ok (.if_icmp .eq 23, 3) := by decide +kernel
theorem dX10_read_121 : decode cX10_read 121 = .ok (.iload_n 2, 1) := by decide +kernel
theorem dX10_read_122 : decode cX10_read 122 = .ok (.bipush 100, 2) := by decide +kernel
theorem dX10_read_124 : decode cX10_read 124 = .ok (.if_icmp .eq 17, 3) := by decide +kernel
theorem dX10_read_127 : decode cX10_read 127 = .ok (.iload_n 2, 1) := by decide +kernel
theorem dX10_read_128 : decode cX10_read 128 = .ok (.bipush 115, 2) := by decide +kernel
theorem dX10_read_130 : decode cX10_read 130 = .ok (.if_icmp .eq 11, 3) := by decide +kernel
theorem dX10_read_133 : decode cX10_read 133 = .ok (.aload_n 0, 1) := by decide +kernel
theorem dX10_read_134 : decode cX10_read 134 = .ok (.aload_n 0, 1) := by decide +kernel
theorem dX10_read_135 : decode cX10_read 135 = .ok (.getfield 101, 3) := by decide +kernel
theorem dX10_read_138 : decode cX10_read 138 = .ok (.putfield 98, 3) := by decide +kernel
theorem dX10_read_141 : decode cX10_read 141 = .ok (.aload_n 0, 1) := by decide +kernel
theorem dX10_read_142 : decode cX10_read 142 = .ok (.getfield 29, 3) := by decide +kernel
theorem dX10_read_145 : decode cX10_read 145 = .ok (.aload_n 0, 1) := by decide +kernel
theorem dX10_read_146 : decode cX10_read 146 = .ok (.getfield 108, 3) := by decide +kernel
theorem dX10_read_149 : decode cX10_read 149 = .ok (.iload_n 2, 1) := by decide +kernel
theorem dX10_read_150 : decode cX10_read 150 = .ok (.iastore, 1) := by decide +kernel
theorem dX10_read_151 : decode cX10_read 151 = .ok (.aload_n 0, 1) := by decide +kernel
theorem dX10_read_152 : decode cX10_read 152 = .ok (.dup, 1) := by decide +kernel
theorem dX10_read_153 : decode cX10_read 153 = .ok (.getfield 101, 3) := by decide +kernel
theorem dX10_read_156 : decode cX10_read 156 = .ok (.iconst 1, 1) := by decide +kernel
theorem dX10_read_157 : decode cX10_read 157 = .ok (.iadd, 1) := by decide +kernel
theorem dX10_read_158 : decode cX10_read 158 = .ok (.putfield 101, 3) := by decide +kernel
theorem dX10_read_161 : decode cX10_read 161 = .ok (.aload_n 0, 1) := by decide +kernel
theorem dX10_read_162 : decode cX10_read 162 = .ok (.dup, 1) := by decide +kernel
theorem dX10_read_163 : decode cX10_read 163 = .ok (.getfield 108, 3) := by decide +kernel
theorem dX10_read_166 : decode cX10_read 166 = .ok (.iconst 1, 1) := by decide +kernel
theorem dX10_read_167 : decode cX10_read 167 = .ok (.iadd, 1) := by decide +kernel
theorem dX10_read_168 : decode cX10_read 168 = .ok (.putfield 108, 3) := by decide +kernel
theorem dX10_read_171 : decode cX10_read 171 = .ok (.aload_n 0, 1) := by decide +kernel
theorem dX10_read_172 : decode cX10_read 172 = .ok (.getfield 98, 3) := by decide +kernel
theorem dX10_read_175 : decode cX10_read 175 = .ok (.iconst (-1), 1) := by decide +kernel
theorem dX10_read_176 : decode cX10_read 176 = .ok (.if_icmp .ne 18, 3) := by decide +kernel
theorem dX10_read_179 : decode cX10_read 179 = .ok (.aload_n 0, 1) := by decide +kernel
theorem dX10_read_180 : decode cX10_read 180 = .ok (.getfield 101, 3) := by decide +kernel
theorem dX10_read_183 : decode cX10_read 183 = .ok (.aload_n 0, 1) := by decide +kernel
theorem dX10_read_184 : decode cX10_read 184 = .ok (.getfield 95, 3) := by decide +kernel
theorem dX10_read_187 : decode cX10_read 187 = .ok (.if_icmp .ge 7, 3) := by decide +kernel
theorem dX10_read_190 : decode cX10_read 190 = .ok (.iconst 1, 1) := by decide +kernel
theorem dX10_read_191 : decode cX10_read 191 = .ok (.goto 4, 3) := by decide +kernel
theorem dX10_read_194 : decode cX10_read 194 = .ok (.iconst 0, 1) := by decide +kernel
theorem dX10_read_195 : decode cX10_read 195 = .ok (.istore_n 1, 1) := by decide +kernel
theorem dX10_read_196 : decode cX10_read 196 = .ok (.iload_n 1, 1) := by decide +kernel
theorem dX10_read_197 : decode cX10_read 197 = .ok (.ifCond .eq 9, 3) := by decide +kernel
theorem dX10_read_200 : decode cX10_read 200 = .ok (.aload_n 0, 1) := by decide +kernel
theorem dX10_read_201 : decode cX10_read 201 = .ok (.bipush 59, 2) := by decide +kernel
theorem dX10_read_203 : decode cX10_read 203 = .ok (.invokevirtual 111, 3) := by decide +kernel
theorem dX10_read_206 : decode cX10_read 206 = .ok (.goto (-189), 3) := by decide +kernel
theorem dX10_read_209 : decode cX10_read 209 = .ok (.return_, 1) := by decide +kernel
theorem dX10_fault_0 : decode cX10_fault 0 = .ok (.aload_n 0, 1) := by decide +kernel
theorem dX10_fault_1 : decode cX10_fault 1 = .ok (.invokevirtual 118, 3) := by decide +kernel
theorem dX10_fault_4 : decode cX10_fault 4 = .ok (.aload_n 0, 1) := by decide +kernel
theorem dX10_fault_5 : decode cX10_fault 5 = .ok (.getfield 98, 3) := by decide +kernel
theorem dX10_fault_8 : decode cX10_fault 8 = .ok (.ireturn, 1) := by decide +kernel
theorem dX10_refuses_0 : decode cX10_refuses 0 = .ok (.iload_n 1, 1) := by decide +kernel
theorem dX10_refuses_1 : decode cX10_refuses 1 = .ok (.iconst 0, 1) := by decide +kernel
theorem dX10_refuses_2 : decode cX10_refuses 2 = .ok (.iconst 3, 1) := by decide +kernel
theorem dX10_refuses_3 : decode cX10_refuses 3 = .ok (.invokestatic 75, 3) := by decide +kernel
theorem dX10_refuses_6 : decode cX10_refuses 6 = .ok (.ifCond .ne 6, 3) := by decide +kernel
theorem dX10_refuses_9 : decode cX10_refuses 9 = .ok (.bipush (-2), 2) := by decide +kernel
theorem dX10_refuses_11 : decode cX10_refuses 11 = .ok (.ireturn, 1) := by decide +kernel
theorem dX10_refuses_12 : decode cX10_refuses 12 = .ok (.aload_n 0, 1) := by decide +kernel
theorem dX10_refuses_13 : decode cX10_refuses 13 = .ok (.invokevirtual 118, 3) := by decide +kernel
theorem dX10_refuses_16 : decode cX10_refuses 16 = .ok (.aload_n 0, 1) := by decide +kernel
theorem dX10_refuses_17 : decode cX10_refuses 17 = .ok (.getfield 98, 3) := by decide +kernel
theorem dX10_refuses_20 : decode cX10_refuses 20 = .ok (.iconst (-1), 1) := by decide +kernel
theorem dX10_refuses_21 : decode cX10_refuses 21 = .ok (.if_icmp .eq 8, 3) := by decide +kernel
theorem dX10_refuses_24 : decode cX10_refuses 24 = .ok (.bipush (-3), 2) := by decide +kernel
theorem dX10_refuses_26 : decode cX10_refuses 26 = .ok (.goto 17, 3) := by decide +kernel
theorem dX10_refuses_29 : decode cX10_refuses 29 = .ok (.iload_n 1, 1) := by decide +kernel
theorem dX10_refuses_30 : decode cX10_refuses 30 = .ok (.aload_n 0, 1) := by decide +kernel
theorem dX10_refuses_31 : decode cX10_refuses 31 = .ok (.getfield 108, 3) := by decide +kernel
theorem dX10_refuses_34 : decode cX10_refuses 34 = .ok (.if_icmp .lt 8, 3) := by decide +kernel
theorem dX10_refuses_37 : decode cX10_refuses 37 = .ok (.bipush (-2), 2) := by decide +kernel
theorem dX10_refuses_39 : decode cX10_refuses 39 = .ok (.goto 4, 3) := by decide +kernel
theorem dX10_refuses_42 : decode cX10_refuses 42 = .ok (.iconst 0, 1) := by decide +kernel
theorem dX10_refuses_43 : decode cX10_refuses 43 = .ok (.ireturn, 1) := by decide +kernel
theorem dX10_law_0 : decode cX10_law 0 = .ok (.iload_n 2, 1) := by decide +kernel
theorem dX10_law_1 : decode cX10_law 1 = .ok (.iconst 0, 1) := by decide +kernel
theorem dX10_law_2 : decode cX10_law 2 = .ok (.iconst 2, 1) := by decide +kernel
theorem dX10_law_3 : decode cX10_law 3 = .ok (.invokestatic 75, 3) := by decide +kernel
theorem dX10_law_6 : decode cX10_law 6 = .ok (.ifCond .ne 6, 3) := by decide +kernel
theorem dX10_law_9 : decode cX10_law 9 = .ok (.bipush (-2), 2) := by decide +kernel
theorem dX10_law_11 : decode cX10_law 11 = .ok (.ireturn, 1) := by decide +kernel
theorem dX10_law_12 : decode cX10_law 12 = .ok (.aload_n 0, 1) := by decide +kernel
theorem dX10_law_13 : decode cX10_law 13 = .ok (.iload_n 1, 1) := by decide +kernel
theorem dX10_law_14 : decode cX10_law 14 = .ok (.invokevirtual 121, 3) := by decide +kernel
theorem dX10_law_17 : decode cX10_law 17 = .ok (.istore_n 3, 1) := by decide +kernel
theorem dX10_law_18 : decode cX10_law 18 = .ok (.iload_n 3, 1) := by decide +kernel
theorem dX10_law_19 : decode cX10_law 19 = .ok (.ifCond .eq 7, 3) := by decide +kernel
theorem dX10_law_22 : decode cX10_law 22 = .ok (.iload_n 3, 1) := by decide +kernel
theorem dX10_law_23 : decode cX10_law 23 = .ok (.goto 36, 3) := by decide +kernel
theorem dX10_law_26 : decode cX10_law 26 = .ok (.iload_n 2, 1) := by decide +kernel
theorem dX10_law_27 : decode cX10_law 27 = .ok (.ifCond .ne 12, 3) := by decide +kernel
theorem dX10_law_30 : decode cX10_law 30 = .ok (.aload_n 0, 1) := by decide +kernel
theorem dX10_law_31 : decode cX10_law 31 = .ok (.getfield 23, 3) := by decide +kernel
theorem dX10_law_34 : decode cX10_law 34 = .ok (.iload_n 1, 1) := by decide +kernel
theorem dX10_law_35 : decode cX10_law 35 = .ok (.iaload, 1) := by decide +kernel
theorem dX10_law_36 : decode cX10_law 36 = .ok (.goto 23, 3) := by decide +kernel
theorem dX10_law_39 : decode cX10_law 39 = .ok (.iload_n 2, 1) := by decide +kernel
theorem dX10_law_40 : decode cX10_law 40 = .ok (.iconst 1, 1) := by decide +kernel
theorem dX10_law_41 : decode cX10_law 41 = .ok (.if_icmp .ne 12, 3) := by decide +kernel
theorem dX10_law_44 : decode cX10_law 44 = .ok (.aload_n 0, 1) := by decide +kernel
theorem dX10_law_45 : decode cX10_law 45 = .ok (.getfield 26, 3) := by decide +kernel
theorem dX10_law_48 : decode cX10_law 48 = .ok (.iload_n 1, 1) := by decide +kernel
theorem dX10_law_49 : decode cX10_law 49 = .ok (.iaload, 1) := by decide +kernel
theorem dX10_law_50 : decode cX10_law 50 = .ok (.goto 9, 3) := by decide +kernel
theorem dX10_law_53 : decode cX10_law 53 = .ok (.aload_n 0, 1) := by decide +kernel
theorem dX10_law_54 : decode cX10_law 54 = .ok (.getfield 29, 3) := by decide +kernel
theorem dX10_law_57 : decode cX10_law 57 = .ok (.iload_n 1, 1) := by decide +kernel
theorem dX10_law_58 : decode cX10_law 58 = .ok (.iaload, 1) := by decide +kernel
theorem dX10_law_59 : decode cX10_law 59 = .ok (.ireturn, 1) := by decide +kernel
theorem dX10_dearer_0 : decode cX10_dearer 0 = .ok (.aload_n 0, 1) := by decide +kernel
theorem dX10_dearer_1 : decode cX10_dearer 1 = .ok (.iload_n 1, 1) := by decide +kernel
theorem dX10_dearer_2 : decode cX10_dearer 2 = .ok (.iload_n 3, 1) := by decide +kernel
theorem dX10_dearer_3 : decode cX10_dearer 3 = .ok (.invokevirtual 92, 3) := by decide +kernel
theorem dX10_dearer_6 : decode cX10_dearer 6 = .ok (.aload_n 0, 1) := by decide +kernel
theorem dX10_dearer_7 : decode cX10_dearer 7 = .ok (.iload_n 2, 1) := by decide +kernel
theorem dX10_dearer_8 : decode cX10_dearer 8 = .ok (.iload_n 3, 1) := by decide +kernel
theorem dX10_dearer_9 : decode cX10_dearer 9 = .ok (.invokevirtual 88, 3) := by decide +kernel
theorem dX10_dearer_12 : decode cX10_dearer 12 = .ok (.imul, 1) := by decide +kernel
theorem dX10_dearer_13 : decode cX10_dearer 13 = .ok (.aload_n 0, 1) := by decide +kernel
theorem dX10_dearer_14 : decode cX10_dearer 14 = .ok (.iload_n 2, 1) := by decide +kernel
theorem dX10_dearer_15 : decode cX10_dearer 15 = .ok (.iload_n 3, 1) := by decide +kernel
theorem dX10_dearer_16 : decode cX10_dearer 16 = .ok (.invokevirtual 92, 3) := by decide +kernel
theorem dX10_dearer_19 : decode cX10_dearer 19 = .ok (.aload_n 0, 1) := by decide +kernel
theorem dX10_dearer_20 : decode cX10_dearer 20 = .ok (.iload_n 1, 1) := by decide +kernel
theorem dX10_dearer_21 : decode cX10_dearer 21 = .ok (.iload_n 3, 1) := by decide +kernel
theorem dX10_dearer_22 : decode cX10_dearer 22 = .ok (.invokevirtual 88, 3) := by decide +kernel
theorem dX10_dearer_25 : decode cX10_dearer 25 = .ok (.imul, 1) := by decide +kernel
theorem dX10_dearer_26 : decode cX10_dearer 26 = .ok (.isub, 1) := by decide +kernel
theorem dX10_dearer_27 : decode cX10_dearer 27 = .ok (.ireturn, 1) := by decide +kernel
theorem dX10_yesSoFar_0 : decode cX10_yesSoFar 0 = .ok (.iconst 0, 1) := by decide +kernel
theorem dX10_yesSoFar_1 : decode cX10_yesSoFar 1 = .ok (.istore_n 3, 1) := by decide +kernel
theorem dX10_yesSoFar_2 : decode cX10_yesSoFar 2 = .ok (.iconst 0, 1) := by decide +kernel
theorem dX10_yesSoFar_3 : decode cX10_yesSoFar 3 = .ok (.istore 4, 2) := by decide +kernel
theorem dX10_yesSoFar_5 : decode cX10_yesSoFar 5 = .ok (.iload 4, 2) := by decide +kernel
theorem dX10_yesSoFar_7 : decode cX10_yesSoFar 7 = .ok (.iload_n 2, 1) := by decide +kernel
theorem dX10_yesSoFar_8 : decode cX10_yesSoFar 8 = .ok (.if_icmp .gt 19, 3) := by decide +kernel
theorem dX10_yesSoFar_11 : decode cX10_yesSoFar 11 = .ok (.iload_n 3, 1) := by decide +kernel
theorem dX10_yesSoFar_12 : decode cX10_yesSoFar 12 = .ok (.aload_n 0, 1) := by decide +kernel
theorem dX10_yesSoFar_13 : decode cX10_yesSoFar 13 = .ok (.iload_n 1, 1) := by decide +kernel
theorem dX10_yesSoFar_14 : decode cX10_yesSoFar 14 = .ok (.iload 4, 2) := by decide +kernel
theorem dX10_yesSoFar_16 : decode cX10_yesSoFar 16 = .ok (.invokevirtual 92, 3) := by decide +kernel
theorem dX10_yesSoFar_19 : decode cX10_yesSoFar 19 = .ok (.iadd, 1) := by decide +kernel
theorem dX10_yesSoFar_20 : decode cX10_yesSoFar 20 = .ok (.istore_n 3, 1) := by decide +kernel
theorem dX10_yesSoFar_21 : decode cX10_yesSoFar 21 = .ok (.iinc 4 1, 3) := by decide +kernel
theorem dX10_yesSoFar_24 : decode cX10_yesSoFar 24 = .ok (.goto (-19), 3) := by decide +kernel
theorem dX10_yesSoFar_27 : decode cX10_yesSoFar 27 = .ok (.iload_n 3, 1) := by decide +kernel
theorem dX10_yesSoFar_28 : decode cX10_yesSoFar 28 = .ok (.ireturn, 1) := by decide +kernel
theorem dX10_placeOf_0 : decode cX10_placeOf 0 = .ok (.iconst 0, 1) := by decide +kernel
theorem dX10_placeOf_1 : decode cX10_placeOf 1 = .ok (.istore_n 2, 1) := by decide +kernel
theorem dX10_placeOf_2 : decode cX10_placeOf 2 = .ok (.aload_n 0, 1) := by decide +kernel
theorem dX10_placeOf_3 : decode cX10_placeOf 3 = .ok (.getfield 13, 3) := by decide +kernel
theorem dX10_placeOf_6 : decode cX10_placeOf 6 = .ok (.iload_n 2, 1) := by decide +kernel
theorem dX10_placeOf_7 : decode cX10_placeOf 7 = .ok (.iaload, 1) := by decide +kernel
theorem dX10_placeOf_8 : decode cX10_placeOf 8 = .ok (.iload_n 1, 1) := by decide +kernel
theorem dX10_placeOf_9 : decode cX10_placeOf 9 = .ok (.if_icmp .eq 9, 3) := by decide +kernel
theorem dX10_placeOf_12 : decode cX10_placeOf 12 = .ok (.iinc 2 1, 3) := by decide +kernel
theorem dX10_placeOf_15 : decode cX10_placeOf 15 = .ok (.goto (-13), 3) := by decide +kernel
theorem dX10_placeOf_18 : decode cX10_placeOf 18 = .ok (.iload_n 2, 1) := by decide +kernel
theorem dX10_placeOf_19 : decode cX10_placeOf 19 = .ok (.ireturn, 1) := by decide +kernel
theorem dX10_isAhead_0 : decode cX10_isAhead 0 = .ok (.aload_n 0, 1) := by decide +kernel
theorem dX10_isAhead_1 : decode cX10_isAhead 1 = .ok (.getfield 29, 3) := by decide +kernel
theorem dX10_isAhead_4 : decode cX10_isAhead 4 = .ok (.iload_n 3, 1) := by decide +kernel
theorem dX10_isAhead_5 : decode cX10_isAhead 5 = .ok (.iaload, 1) := by decide +kernel
theorem dX10_isAhead_6 : decode cX10_isAhead 6 = .ok (.bipush 115, 2) := by decide +kernel
theorem dX10_isAhead_8 : decode cX10_isAhead 8 = .ok (.if_icmp .ne 19, 3) := by decide +kernel
theorem dX10_isAhead_11 : decode cX10_isAhead 11 = .ok (.aload_n 0, 1) := by decide +kernel
theorem dX10_isAhead_12 : decode cX10_isAhead 12 = .ok (.iload_n 1, 1) := by decide +kernel
theorem dX10_isAhead_13 : decode cX10_isAhead 13 = .ok (.iload_n 3, 1) := by decide +kernel
theorem dX10_isAhead_14 : decode cX10_isAhead 14 = .ok (.invokevirtual 124, 3) := by decide +kernel
theorem dX10_isAhead_17 : decode cX10_isAhead 17 = .ok (.aload_n 0, 1) := by decide +kernel
theorem dX10_isAhead_18 : decode cX10_isAhead 18 = .ok (.iload_n 2, 1) := by decide +kernel
theorem dX10_isAhead_19 : decode cX10_isAhead 19 = .ok (.iload_n 3, 1) := by decide +kernel
theorem dX10_isAhead_20 : decode cX10_isAhead 20 = .ok (.invokevirtual 124, 3) := by decide +kernel
theorem dX10_isAhead_23 : decode cX10_isAhead 23 = .ok (.isub, 1) := by decide +kernel
theorem dX10_isAhead_24 : decode cX10_isAhead 24 = .ok (.goto 4, 3) := by decide +kernel
theorem dX10_isAhead_27 : decode cX10_isAhead 27 = .ok (.iconst 0, 1) := by decide +kernel
theorem dX10_isAhead_28 : decode cX10_isAhead 28 = .ok (.istore 4, 2) := by decide +kernel
theorem dX10_isAhead_30 : decode cX10_isAhead 30 = .ok (.iload 4, 2) := by decide +kernel
theorem dX10_isAhead_32 : decode cX10_isAhead 32 = .ok (.ifCond .eq 16, 3) := by decide +kernel
theorem dX10_isAhead_35 : decode cX10_isAhead 35 = .ok (.iload 4, 2) := by decide +kernel
theorem dX10_isAhead_37 : decode cX10_isAhead 37 = .ok (.ifCond .le 7, 3) := by decide +kernel
theorem dX10_isAhead_40 : decode cX10_isAhead 40 = .ok (.iconst 1, 1) := by decide +kernel
theorem dX10_isAhead_41 : decode cX10_isAhead 41 = .ok (.goto 25, 3) := by decide +kernel
theorem dX10_isAhead_44 : decode cX10_isAhead 44 = .ok (.iconst 0, 1) := by decide +kernel
theorem dX10_isAhead_45 : decode cX10_isAhead 45 = .ok (.goto 21, 3) := by decide +kernel
theorem dX10_isAhead_48 : decode cX10_isAhead 48 = .ok (.aload_n 0, 1) := by decide +kernel
theorem dX10_isAhead_49 : decode cX10_isAhead 49 = .ok (.iload_n 1, 1) := by decide +kernel
theorem dX10_isAhead_50 : decode cX10_isAhead 50 = .ok (.invokevirtual 127, 3) := by decide +kernel
theorem dX10_isAhead_53 : decode cX10_isAhead 53 = .ok (.aload_n 0, 1) := by decide +kernel
theorem dX10_isAhead_54 : decode cX10_isAhead 54 = .ok (.iload_n 2, 1) := by decide +kernel
theorem dX10_isAhead_55 : decode cX10_isAhead 55 = .ok (.invokevirtual 127, 3) := by decide +kernel
theorem dX10_isAhead_58 : decode cX10_isAhead 58 = .ok (.if_icmp .ge 7, 3) := by decide +kernel
theorem dX10_isAhead_61 : decode cX10_isAhead 61 = .ok (.iconst 1, 1) := by decide +kernel
theorem dX10_isAhead_62 : decode cX10_isAhead 62 = .ok (.goto 4, 3) := by decide +kernel
theorem dX10_isAhead_65 : decode cX10_isAhead 65 = .ok (.iconst 0, 1) := by decide +kernel
theorem dX10_isAhead_66 : decode cX10_isAhead 66 = .ok (.ireturn, 1) := by decide +kernel
theorem dX10_passesIn_0 : decode cX10_passesIn 0 = .ok (.aload_n 0, 1) := by decide +kernel
theorem dX10_passesIn_1 : decode cX10_passesIn 1 = .ok (.iload_n 1, 1) := by decide +kernel
theorem dX10_passesIn_2 : decode cX10_passesIn 2 = .ok (.iload_n 2, 1) := by decide +kernel
theorem dX10_passesIn_3 : decode cX10_passesIn 3 = .ok (.invokevirtual 88, 3) := by decide +kernel
theorem dX10_passesIn_6 : decode cX10_passesIn 6 = .ok (.istore_n 3, 1) := by decide +kernel
theorem dX10_passesIn_7 : decode cX10_passesIn 7 = .ok (.iload_n 3, 1) := by decide +kernel
theorem dX10_passesIn_8 : decode cX10_passesIn 8 = .ok (.ifCond .le 27, 3) := by decide +kernel
theorem dX10_passesIn_11 : decode cX10_passesIn 11 = .ok (.bipush 100, 2) := by decide +kernel
theorem dX10_passesIn_13 : decode cX10_passesIn 13 = .ok (.aload_n 0, 1) := by decide +kernel
theorem dX10_passesIn_14 : decode cX10_passesIn 14 = .ok (.iload_n 1, 1) := by decide +kernel
theorem dX10_passesIn_15 : decode cX10_passesIn 15 = .ok (.iload_n 2, 1) := by decide +kernel
theorem dX10_passesIn_16 : decode cX10_passesIn 16 = .ok (.invokevirtual 92, 3) := by decide +kernel
theorem dX10_passesIn_19 : decode cX10_passesIn 19 = .ok (.imul, 1) := by decide +kernel
theorem dX10_passesIn_20 : decode cX10_passesIn 20 = .ok (.aload_n 0, 1) := by decide +kernel
theorem dX10_passesIn_21 : decode cX10_passesIn 21 = .ok (.getfield 23, 3) := by decide +kernel
theorem dX10_passesIn_24 : decode cX10_passesIn 24 = .ok (.iload_n 2, 1) := by decide +kernel
theorem dX10_passesIn_25 : decode cX10_passesIn 25 = .ok (.iaload, 1) := by decide +kernel
theorem dX10_passesIn_26 : decode cX10_passesIn 26 = .ok (.iload_n 3, 1) := by decide +kernel
theorem dX10_passesIn_27 : decode cX10_passesIn 27 = .ok (.imul, 1) := by decide +kernel
theorem dX10_passesIn_28 : decode cX10_passesIn 28 = .ok (.if_icmp .lt 7, 3) := by decide +kernel
theorem dX10_passesIn_31 : decode cX10_passesIn 31 = .ok (.iconst 1, 1) := by decide +kernel
theorem dX10_passesIn_32 : decode cX10_passesIn 32 = .ok (.goto 4, 3) := by decide +kernel
theorem dX10_passesIn_35 : decode cX10_passesIn 35 = .ok (.iconst 0, 1) := by decide +kernel
theorem dX10_passesIn_36 : decode cX10_passesIn 36 = .ok (.ireturn, 1) := by decide +kernel
theorem dX10_advances_0 : decode cX10_advances 0 = .ok (.iconst 0, 1) := by decide +kernel
theorem dX10_advances_1 : decode cX10_advances 1 = .ok (.istore_n 3, 1) := by decide +kernel
theorem dX10_advances_2 : decode cX10_advances 2 = .ok (.iconst 0, 1) := by decide +kernel
theorem dX10_advances_3 : decode cX10_advances 3 = .ok (.istore 4, 2) := by decide +kernel
theorem dX10_advances_5 : decode cX10_advances 5 = .ok (.iload 4, 2) := by decide +kernel
theorem dX10_advances_7 : decode cX10_advances 7 = .ok (.aload_n 0, 1) := by decide +kernel
theorem dX10_advances_8 : decode cX10_advances 8 = .ok (.getfield 72, 3) := by decide +kernel
theorem dX10_advances_11 : decode cX10_advances 11 = .ok (.if_icmp .ge 40, 3) := by decide +kernel
theorem dX10_advances_14 : decode cX10_advances 14 = .ok (.iload_n 3, 1) := by decide +kernel
theorem dX10_advances_15 : decode cX10_advances 15 = .ok (.iload_n 1, 1) := by decide +kernel
theorem dX10_advances_16 : decode cX10_advances 16 = .ok (.iload 4, 2) := by decide +kernel
theorem dX10_advances_18 : decode cX10_advances 18 = .ok (.ishr, 1) := by decide +kernel
theorem dX10_advances_19 : decode cX10_advances 19 = .ok (.iconst 1, 1) := by decide +kernel
theorem dX10_advances_20 : decode cX10_advances 20 = .ok (.iand, 1) := by decide +kernel
theorem dX10_advances_21 : decode cX10_advances 21 = .ok (.iconst 1, 1) := by decide +kernel
theorem dX10_advances_22 : decode cX10_advances 22 = .ok (.if_icmp .ne 20, 3) := by decide +kernel
theorem dX10_advances_25 : decode cX10_advances 25 = .ok (.aload_n 0, 1) := by decide +kernel
theorem dX10_advances_26 : decode cX10_advances 26 = .ok (.iload 4, 2) := by decide +kernel
theorem dX10_advances_28 : decode cX10_advances 28 = .ok (.iload_n 2, 1) := by decide +kernel
theorem dX10_advances_29 : decode cX10_advances 29 = .ok (.invokevirtual 130, 3) := by decide +kernel
theorem dX10_advances_32 : decode cX10_advances 32 = .ok (.ifCond .eq 10, 3) := by decide +kernel
theorem dX10_advances_35 : decode cX10_advances 35 = .ok (.iconst 1, 1) := by decide +kernel
theorem dX10_advances_36 : decode cX10_advances 36 = .ok (.iload 4, 2) := by decide +kernel
theorem dX10_advances_38 : decode cX10_advances 38 = .ok (.ishl, 1) := by decide +kernel
theorem dX10_advances_39 : decode cX10_advances 39 = .ok (.goto 4, 3) := by decide +kernel
theorem dX10_advances_42 : decode cX10_advances 42 = .ok (.iconst 0, 1) := by decide +kernel
theorem dX10_advances_43 : decode cX10_advances 43 = .ok (.ior, 1) := by decide +kernel
theorem dX10_advances_44 : decode cX10_advances 44 = .ok (.istore_n 3, 1) := by decide +kernel
theorem dX10_advances_45 : decode cX10_advances 45 = .ok (.iinc 4 1, 3) := by decide +kernel
theorem dX10_advances_48 : decode cX10_advances 48 = .ok (.goto (-43), 3) := by decide +kernel
theorem dX10_advances_51 : decode cX10_advances 51 = .ok (.iconst 0, 1) := by decide +kernel
theorem dX10_advances_52 : decode cX10_advances 52 = .ok (.istore 4, 2) := by decide +kernel
theorem dX10_advances_54 : decode cX10_advances 54 = .ok (.iconst 0, 1) := by decide +kernel
theorem dX10_advances_55 : decode cX10_advances 55 = .ok (.istore 5, 2) := by decide +kernel
theorem dX10_advances_57 : decode cX10_advances 57 = .ok (.iload 5, 2) := by decide +kernel
theorem dX10_advances_59 : decode cX10_advances 59 = .ok (.aload_n 0, 1) := by decide +kernel
theorem dX10_advances_60 : decode cX10_advances 60 = .ok (.getfield 72, 3) := by decide +kernel
theorem dX10_advances_63 : decode cX10_advances 63 = .ok (.if_icmp .ge 241, 3) := by decide +kernel
theorem dX10_advances_66 : decode cX10_advances 66 = .ok (.iload_n 3, 1) := by decide +kernel
theorem dX10_advances_67 : decode cX10_advances 67 = .ok (.iload 5, 2) := by decide +kernel
theorem dX10_advances_69 : decode cX10_advances 69 = .ok (.ishr, 1) := by decide +kernel
theorem dX10_advances_70 : decode cX10_advances 70 = .ok (.iconst 1, 1) := by decide +kernel
theorem dX10_advances_71 : decode cX10_advances 71 = .ok (.iand, 1) := by decide +kernel
theorem dX10_advances_72 : decode cX10_advances 72 = .ok (.iconst 1, 1) := by decide +kernel
theorem dX10_advances_73 : decode cX10_advances 73 = .ok (.if_icmp .ne 225, 3) := by decide +kernel
theorem dX10_advances_76 : decode cX10_advances 76 = .ok (.iconst 0, 1) := by decide +kernel
theorem dX10_advances_77 : decode cX10_advances 77 = .ok (.istore 6, 2) := by decide +kernel
theorem dX10_advances_79 : decode cX10_advances 79 = .ok (.iconst 0, 1) := by decide +kernel
theorem dX10_advances_80 : decode cX10_advances 80 = .ok (.istore 7, 2) := by decide +kernel
theorem dX10_advances_82 : decode cX10_advances 82 = .ok (.iconst 0, 1) := by decide +kernel
theorem dX10_advances_83 : decode cX10_advances 83 = .ok (.istore 8, 2) := by decide +kernel
theorem dX10_advances_85 : decode cX10_advances 85 = .ok (.iconst 0, 1) := by decide +kernel
theorem dX10_advances_86 : decode cX10_advances 86 = .ok (.istore 9, 2) := by decide +kernel
theorem dX10_advances_88 : decode cX10_advances 88 = .ok (.iload 9, 2) := by decide +kernel
theorem dX10_advances_90 : decode cX10_advances 90 = .ok (.aload_n 0, 1) := by decide +kernel
theorem dX10_advances_91 : decode cX10_advances 91 = .ok (.getfield 72, 3) := by decide +kernel
theorem dX10_advances_94 : decode cX10_advances 94 = .ok (.if_icmp .ge 94, 3) := by decide +kernel
theorem dX10_advances_97 : decode cX10_advances 97 = .ok (.iload_n 3, 1) := by decide +kernel
theorem dX10_advances_98 : decode cX10_advances 98 = .ok (.iload 9, 2) := by decide +kernel
theorem dX10_advances_100 : decode cX10_advances 100 = .ok (.ishr, 1) := by decide +kernel
theorem dX10_advances_101 : decode cX10_advances 101 = .ok (.iconst 1, 1) := by decide +kernel
theorem dX10_advances_102 : decode cX10_advances 102 = .ok (.iand, 1) := by decide +kernel
theorem dX10_advances_103 : decode cX10_advances 103 = .ok (.iconst 1, 1) := by decide +kernel
theorem dX10_advances_104 : decode cX10_advances 104 = .ok (.if_icmp .ne 78, 3) := by decide +kernel
theorem dX10_advances_107 : decode cX10_advances 107 = .ok (.aload_n 0, 1) := by decide +kernel
theorem dX10_advances_108 : decode cX10_advances 108 = .ok (.iload 9, 2) := by decide +kernel
theorem dX10_advances_110 : decode cX10_advances 110 = .ok (.iload 5, 2) := by decide +kernel
theorem dX10_advances_112 : decode cX10_advances 112 = .ok (.iload_n 2, 1) := by decide +kernel
theorem dX10_advances_113 : decode cX10_advances 113 = .ok (.invokevirtual 134, 3) := by decide +kernel
theorem dX10_advances_116 : decode cX10_advances 116 = .ok (.istore 10, 2) := by decide +kernel
theorem dX10_advances_118 : decode cX10_advances 118 = .ok (.iload 6, 2) := by decide +kernel
theorem dX10_advances_120 : decode cX10_advances 120 = .ok (.iload 10, 2) := by decide +kernel
theorem dX10_advances_122 : decode cX10_advances 122 = .ok (.ifCond .le 7, 3) := by decide +kernel
theorem dX10_advances_125 : decode cX10_advances 125 = .ok (.iconst 1, 1) := by decide +kernel
theorem dX10_advances_126 : decode cX10_advances 126 = .ok (.goto 4, 3) := by decide +kernel
theorem dX10_advances_129 : decode cX10_advances 129 = .ok (.iconst 0, 1) := by decide +kernel
theorem dX10_advances_130 : decode cX10_advances 130 = .ok (.iadd, 1) := by decide +kernel
theorem dX10_advances_131 : decode cX10_advances 131 = .ok (.istore 6, 2) := by decide +kernel
theorem dX10_advances_133 : decode cX10_advances 133 = .ok (.iload 7, 2) := by decide +kernel
theorem dX10_advances_135 : decode cX10_advances 135 = .ok (.iload 10, 2) := by decide +kernel
theorem dX10_advances_137 : decode cX10_advances 137 = .ok (.ifCond .ne 7, 3) := by decide +kernel
theorem dX10_advances_140 : decode cX10_advances 140 = .ok (.iconst 1, 1) := by decide +kernel
theorem dX10_advances_141 : decode cX10_advances 141 = .ok (.goto 4, 3) := by decide +kernel
theorem dX10_advances_144 : decode cX10_advances 144 = .ok (.iconst 0, 1) := by decide +kernel
theorem dX10_advances_145 : decode cX10_advances 145 = .ok (.iadd, 1) := by decide +kernel
theorem dX10_advances_146 : decode cX10_advances 146 = .ok (.istore 7, 2) := by decide +kernel
theorem dX10_advances_148 : decode cX10_advances 148 = .ok (.iload 8, 2) := by decide +kernel
theorem dX10_advances_150 : decode cX10_advances 150 = .ok (.iload 10, 2) := by decide +kernel
theorem dX10_advances_152 : decode cX10_advances 152 = .ok (.ifCond .ne 26, 3) := by decide +kernel
theorem dX10_advances_155 : decode cX10_advances 155 = .ok (.iload 9, 2) := by decide +kernel
theorem dX10_advances_157 : decode cX10_advances 157 = .ok (.iload 5, 2) := by decide +kernel
theorem dX10_advances_159 : decode cX10_advances 159 = .ok (.if_icmp .eq 19, 3) := by decide +kernel
theorem dX10_advances_162 : decode cX10_advances 162 = .ok (.aload_n 0, 1) := by decide +kernel
theorem dX10_advances_163 : decode cX10_advances 163 = .ok (.iload 9, 2) := by decide +kernel
theorem dX10_advances_165 : decode cX10_advances 165 = .ok (.iload 5, 2) := by decide +kernel
theorem dX10_advances_167 : decode cX10_advances 167 = .ok (.iload_n 2, 1) := by decide +kernel
theorem dX10_advances_168 : decode cX10_advances 168 = .ok (.invokevirtual 137, 3) := by decide +kernel
theorem dX10_advances_171 : decode cX10_advances 171 = .ok (.ifCond .eq 7, 3) := by decide +kernel
theorem dX10_advances_174 : decode cX10_advances 174 = .ok (.iconst 1, 1) := by decide +kernel
theorem dX10_advances_175 : decode cX10_advances 175 = .ok (.goto 4, 3) := by decide +kernel
theorem dX10_advances_178 : decode cX10_advances 178 = .ok (.iconst 0, 1) := by decide +kernel
theorem dX10_advances_179 : decode cX10_advances 179 = .ok (.iadd, 1) := by decide +kernel
theorem dX10_advances_180 : decode cX10_advances 180 = .ok (.istore 8, 2) := by decide +kernel
theorem dX10_advances_182 : decode cX10_advances 182 = .ok (.iinc 9 1, 3) := by decide +kernel
theorem dX10_advances_185 : decode cX10_advances 185 = .ok (.goto (-97), 3) := by decide +kernel
theorem dX10_advances_188 : decode cX10_advances 188 = .ok (.iload 6, 2) := by decide +kernel
theorem dX10_advances_190 : decode cX10_advances 190 = .ok (.iload 7, 2) := by decide +kernel
theorem dX10_advances_192 : decode cX10_advances 192 = .ok (.iadd, 1) := by decide +kernel
theorem dX10_advances_193 : decode cX10_advances 193 = .ok (.aload_n 0, 1) := by decide +kernel
theorem dX10_advances_194 : decode cX10_advances 194 = .ok (.getfield 26, 3) := by decide +kernel
theorem dX10_advances_197 : decode cX10_advances 197 = .ok (.iload_n 2, 1) := by decide +kernel
theorem dX10_advances_198 : decode cX10_advances 198 = .ok (.iaload, 1) := by decide +kernel
theorem dX10_advances_199 : decode cX10_advances 199 = .ok (.if_icmp .gt 7, 3) := by decide +kernel
theorem dX10_advances_202 : decode cX10_advances 202 = .ok (.iconst 1, 1) := by decide +kernel
theorem dX10_advances_203 : decode cX10_advances 203 = .ok (.goto 4, 3) := by decide +kernel
theorem dX10_advances_206 : decode cX10_advances 206 = .ok (.iconst 0, 1) := by decide +kernel
theorem dX10_advances_207 : decode cX10_advances 207 = .ok (.istore 9, 2) := by decide +kernel
theorem dX10_advances_209 : decode cX10_advances 209 = .ok (.iload 6, 2) := by decide +kernel
theorem dX10_advances_211 : decode cX10_advances 211 = .ok (.aload_n 0, 1) := by decide +kernel
theorem dX10_advances_212 : decode cX10_advances 212 = .ok (.getfield 26, 3) := by decide +kernel
theorem dX10_advances_215 : decode cX10_advances 215 = .ok (.iload_n 2, 1) := by decide +kernel
theorem dX10_advances_216 : decode cX10_advances 216 = .ok (.iaload, 1) := by decide +kernel
theorem dX10_advances_217 : decode cX10_advances 217 = .ok (.if_icmp .ge 7, 3) := by decide +kernel
theorem dX10_advances_220 : decode cX10_advances 220 = .ok (.iconst 1, 1) := by decide +kernel
theorem dX10_advances_221 : decode cX10_advances 221 = .ok (.goto 4, 3) := by decide +kernel
theorem dX10_advances_224 : decode cX10_advances 224 = .ok (.iconst 0, 1) := by decide +kernel
theorem dX10_advances_225 : decode cX10_advances 225 = .ok (.istore 10, 2) := by decide +kernel
theorem dX10_advances_227 : decode cX10_advances 227 = .ok (.aload_n 0, 1) := by decide +kernel
theorem dX10_advances_228 : decode cX10_advances 228 = .ok (.getfield 29, 3) := by decide +kernel
theorem dX10_advances_231 : decode cX10_advances 231 = .ok (.iload_n 2, 1) := by decide +kernel
theorem dX10_advances_232 : decode cX10_advances 232 = .ok (.iaload, 1) := by decide +kernel
theorem dX10_advances_233 : decode cX10_advances 233 = .ok (.istore 11, 2) := by decide +kernel
theorem dX10_advances_235 : decode cX10_advances 235 = .ok (.iload 9, 2) := by decide +kernel
theorem dX10_advances_237 : decode cX10_advances 237 = .ok (.ifCond .ne 36, 3) := by decide +kernel
theorem dX10_advances_240 : decode cX10_advances 240 = .ok (.iload 10, 2) := by decide +kernel
theorem dX10_advances_242 : decode cX10_advances 242 = .ok (.ifCond .eq 35, 3) := by decide +kernel
theorem dX10_advances_245 : decode cX10_advances 245 = .ok (.iload 11, 2) := by decide +kernel
theorem dX10_advances_247 : decode cX10_advances 247 = .ok (.bipush 97, 2) := by decide +kernel
theorem dX10_advances_249 : decode cX10_advances 249 = .ok (.if_icmp .eq 24, 3) := by decide +kernel
theorem dX10_advances_252 : decode cX10_advances 252 = .ok (.iload 11, 2) := by decide +kernel
theorem dX10_advances_254 : decode cX10_advances 254 = .ok (.bipush 110, 2) := by decide +kernel
theorem dX10_advances_256 : decode cX10_advances 256 = .ok (.if_icmp .eq 21, 3) := by decide +kernel
theorem dX10_advances_259 : decode cX10_advances 259 = .ok (.iload 6, 2) := by decide +kernel
theorem dX10_advances_261 : decode cX10_advances 261 = .ok (.iload 8, 2) := by decide +kernel
theorem dX10_advances_263 : decode cX10_advances 263 = .ok (.iadd, 1) := by decide +kernel
theorem dX10_advances_264 : decode cX10_advances 264 = .ok (.aload_n 0, 1) := by decide +kernel
theorem dX10_advances_265 : decode cX10_advances 265 = .ok (.getfield 26, 3) := by decide +kernel
theorem dX10_advances_268 : decode cX10_advances 268 = .ok (.iload_n 2, 1) := by decide +kernel
theorem dX10_advances_269 : decode cX10_advances 269 = .ok (.iaload, 1) := by decide +kernel
theorem dX10_advances_270 : decode cX10_advances 270 = .ok (.if_icmp .ge 7, 3) := by decide +kernel
theorem dX10_advances_273 : decode cX10_advances 273 = .ok (.iconst 1, 1) := by decide +kernel
theorem dX10_advances_274 : decode cX10_advances 274 = .ok (.goto 4, 3) := by decide +kernel
theorem dX10_advances_277 : decode cX10_advances 277 = .ok (.iconst 0, 1) := by decide +kernel
theorem dX10_advances_278 : decode cX10_advances 278 = .ok (.istore 12, 2) := by decide +kernel
theorem dX10_advances_280 : decode cX10_advances 280 = .ok (.iload 4, 2) := by decide +kernel
theorem dX10_advances_282 : decode cX10_advances 282 = .ok (.iload 12, 2) := by decide +kernel
theorem dX10_advances_284 : decode cX10_advances 284 = .ok (.ifCond .eq 10, 3) := by decide +kernel
theorem dX10_advances_287 : decode cX10_advances 287 = .ok (.iconst 1, 1) := by decide +kernel
theorem dX10_advances_288 : decode cX10_advances 288 = .ok (.iload 5, 2) := by decide +kernel
theorem dX10_advances_290 : decode cX10_advances 290 = .ok (.ishl, 1) := by decide +kernel
theorem dX10_advances_291 : decode cX10_advances 291 = .ok (.goto 4, 3) := by decide +kernel
theorem dX10_advances_294 : decode cX10_advances 294 = .ok (.iconst 0, 1) := by decide +kernel
theorem dX10_advances_295 : decode cX10_advances 295 = .ok (.ior, 1) := by decide +kernel
theorem dX10_advances_296 : decode cX10_advances 296 = .ok (.istore 4, 2) := by decide +kernel
theorem dX10_advances_298 : decode cX10_advances 298 = .ok (.iinc 5 1, 3) := by decide +kernel
theorem dX10_advances_301 : decode cX10_advances 301 = .ok (.goto (-244), 3) := by decide +kernel
theorem dX10_advances_304 : decode cX10_advances 304 = .ok (.iload 4, 2) := by decide +kernel
theorem dX10_advances_306 : decode cX10_advances 306 = .ok (.ireturn, 1) := by decide +kernel
theorem dX10_out_0 : decode cX10_out 0 = .ok (.aload_n 0, 1) := by decide +kernel
theorem dX10_out_1 : decode cX10_out 1 = .ok (.getfield 72, 3) := by decide +kernel
theorem dX10_out_4 : decode cX10_out 4 = .ok (.ifCond .ne 7, 3) := by decide +kernel
theorem dX10_out_7 : decode cX10_out 7 = .ok (.iconst 0, 1) := by decide +kernel
theorem dX10_out_8 : decode cX10_out 8 = .ok (.goto 11, 3) := by decide +kernel
theorem dX10_out_11 : decode cX10_out 11 = .ok (.iconst 1, 1) := by decide +kernel
theorem dX10_out_12 : decode cX10_out 12 = .ok (.aload_n 0, 1) := by decide +kernel
theorem dX10_out_13 : decode cX10_out 13 = .ok (.getfield 72, 3) := by decide +kernel
theorem dX10_out_16 : decode cX10_out 16 = .ok (.ishl, 1) := by decide +kernel
theorem dX10_out_17 : decode cX10_out 17 = .ok (.iconst 1, 1) := by decide +kernel
theorem dX10_out_18 : decode cX10_out 18 = .ok (.isub, 1) := by decide +kernel
theorem dX10_out_19 : decode cX10_out 19 = .ok (.istore_n 2, 1) := by decide +kernel
theorem dX10_out_20 : decode cX10_out 20 = .ok (.iconst 0, 1) := by decide +kernel
theorem dX10_out_21 : decode cX10_out 21 = .ok (.istore_n 3, 1) := by decide +kernel
theorem dX10_out_22 : decode cX10_out 22 = .ok (.iload_n 3, 1) := by decide +kernel
theorem dX10_out_23 : decode cX10_out 23 = .ok (.iload_n 1, 1) := by decide +kernel
theorem dX10_out_24 : decode cX10_out 24 = .ok (.if_icmp .gt 16, 3) := by decide +kernel
theorem dX10_out_27 : decode cX10_out 27 = .ok (.aload_n 0, 1) := by decide +kernel
theorem dX10_out_28 : decode cX10_out 28 = .ok (.iload_n 2, 1) := by decide +kernel
theorem dX10_out_29 : decode cX10_out 29 = .ok (.iload_n 3, 1) := by decide +kernel
theorem dX10_out_30 : decode cX10_out 30 = .ok (.invokevirtual 140, 3) := by decide +kernel
theorem dX10_out_33 : decode cX10_out 33 = .ok (.istore_n 2, 1) := by decide +kernel
theorem dX10_out_34 : decode cX10_out 34 = .ok (.iinc 3 1, 3) := by decide +kernel
theorem dX10_out_37 : decode cX10_out 37 = .ok (.goto (-15), 3) := by decide +kernel
theorem dX10_out_40 : decode cX10_out 40 = .ok (.iload_n 2, 1) := by decide +kernel
theorem dX10_out_41 : decode cX10_out 41 = .ok (.ireturn, 1) := by decide +kernel
theorem dX10_ones_0 : decode cX10_ones 0 = .ok (.iconst 0, 1) := by decide +kernel
theorem dX10_ones_1 : decode cX10_ones 1 = .ok (.istore_n 1, 1) := by decide +kernel
theorem dX10_ones_2 : decode cX10_ones 2 = .ok (.iconst 0, 1) := by decide +kernel
theorem dX10_ones_3 : decode cX10_ones 3 = .ok (.istore_n 2, 1) := by decide +kernel
theorem dX10_ones_4 : decode cX10_ones 4 = .ok (.iload_n 2, 1) := by decide +kernel
theorem dX10_ones_5 : decode cX10_ones 5 = .ok (.bipush 24, 2) := by decide +kernel
theorem dX10_ones_7 : decode cX10_ones 7 = .ok (.if_icmp .ge 17, 3) := by decide +kernel
theorem dX10_ones_10 : decode cX10_ones 10 = .ok (.iload_n 1, 1) := by decide +kernel
theorem dX10_ones_11 : decode cX10_ones 11 = .ok (.iload_n 0, 1) := by decide +kernel
theorem dX10_ones_12 : decode cX10_ones 12 = .ok (.iload_n 2, 1) := by decide +kernel
theorem dX10_ones_13 : decode cX10_ones 13 = .ok (.ishr, 1) := by decide +kernel
theorem dX10_ones_14 : decode cX10_ones 14 = .ok (.iconst 1, 1) := by decide +kernel
theorem dX10_ones_15 : decode cX10_ones 15 = .ok (.iand, 1) := by decide +kernel
theorem dX10_ones_16 : decode cX10_ones 16 = .ok (.iadd, 1) := by decide +kernel
theorem dX10_ones_17 : decode cX10_ones 17 = .ok (.istore_n 1, 1) := by decide +kernel
theorem dX10_ones_18 : decode cX10_ones 18 = .ok (.iinc 2 1, 3) := by decide +kernel
theorem dX10_ones_21 : decode cX10_ones 21 = .ok (.goto (-17), 3) := by decide +kernel
theorem dX10_ones_24 : decode cX10_ones 24 = .ok (.iload_n 1, 1) := by decide +kernel
theorem dX10_ones_25 : decode cX10_ones 25 = .ok (.ireturn, 1) := by decide +kernel
theorem dX10_advance_0 : decode cX10_advance 0 = .ok (.aload_n 0, 1) := by decide +kernel
theorem dX10_advance_1 : decode cX10_advance 1 = .ok (.iload_n 1, 1) := by decide +kernel
theorem dX10_advance_2 : decode cX10_advance 2 = .ok (.invokevirtual 121, 3) := by decide +kernel
theorem dX10_advance_5 : decode cX10_advance 5 = .ok (.istore_n 2, 1) := by decide +kernel
theorem dX10_advance_6 : decode cX10_advance 6 = .ok (.iload_n 2, 1) := by decide +kernel
theorem dX10_advance_7 : decode cX10_advance 7 = .ok (.ifCond .eq 7, 3) := by decide +kernel
theorem dX10_advance_10 : decode cX10_advance 10 = .ok (.iload_n 2, 1) := by decide +kernel
theorem dX10_advance_11 : decode cX10_advance 11 = .ok (.goto 11, 3) := by decide +kernel
theorem dX10_advance_14 : decode cX10_advance 14 = .ok (.aload_n 0, 1) := by decide +kernel
theorem dX10_advance_15 : decode cX10_advance 15 = .ok (.iload_n 1, 1) := by decide +kernel
theorem dX10_advance_16 : decode cX10_advance 16 = .ok (.invokevirtual 143, 3) := by decide +kernel
theorem dX10_advance_19 : decode cX10_advance 19 = .ok (.invokestatic 146, 3) := by decide +kernel
theorem dX10_advance_22 : decode cX10_advance 22 = .ok (.ireturn, 1) := by decide +kernel
theorem dX10_through_0 : decode cX10_through 0 = .ok (.aload_n 0, 1) := by decide +kernel
theorem dX10_through_1 : decode cX10_through 1 = .ok (.iload_n 1, 1) := by decide +kernel
theorem dX10_through_2 : decode cX10_through 2 = .ok (.invokevirtual 121, 3) := by decide +kernel
theorem dX10_through_5 : decode cX10_through 5 = .ok (.istore_n 2, 1) := by decide +kernel
theorem dX10_through_6 : decode cX10_through 6 = .ok (.iload_n 2, 1) := by decide +kernel
theorem dX10_through_7 : decode cX10_through 7 = .ok (.ifCond .eq 7, 3) := by decide +kernel
theorem dX10_through_10 : decode cX10_through 10 = .ok (.iload_n 2, 1) := by decide +kernel
theorem dX10_through_11 : decode cX10_through 11 = .ok (.goto 8, 3) := by decide +kernel
theorem dX10_through_14 : decode cX10_through 14 = .ok (.aload_n 0, 1) := by decide +kernel
theorem dX10_through_15 : decode cX10_through 15 = .ok (.iload_n 1, 1) := by decide +kernel
theorem dX10_through_16 : decode cX10_through 16 = .ok (.invokevirtual 143, 3) := by decide +kernel
theorem dX10_through_19 : decode cX10_through 19 = .ok (.ireturn, 1) := by decide +kernel
theorem dX10_chosenOne_0 : decode cX10_chosenOne 0 = .ok (.aload_n 0, 1) := by decide +kernel
theorem dX10_chosenOne_1 : decode cX10_chosenOne 1 = .ok (.aload_n 0, 1) := by decide +kernel
theorem dX10_chosenOne_2 : decode cX10_chosenOne 2 = .ok (.getfield 108, 3) := by decide +kernel
theorem dX10_chosenOne_5 : decode cX10_chosenOne 5 = .ok (.iconst 1, 1) := by decide +kernel
theorem dX10_chosenOne_6 : decode cX10_chosenOne 6 = .ok (.isub, 1) := by decide +kernel
theorem dX10_chosenOne_7 : decode cX10_chosenOne 7 = .ok (.invokevirtual 143, 3) := by decide +kernel
theorem dX10_chosenOne_10 : decode cX10_chosenOne 10 = .ok (.istore_n 1, 1) := by decide +kernel
theorem dX10_chosenOne_11 : decode cX10_chosenOne 11 = .ok (.iload_n 1, 1) := by decide +kernel
theorem dX10_chosenOne_12 : decode cX10_chosenOne 12 = .ok (.invokestatic 146, 3) := by decide +kernel
theorem dX10_chosenOne_15 : decode cX10_chosenOne 15 = .ok (.iconst 1, 1) := by decide +kernel
theorem dX10_chosenOne_16 : decode cX10_chosenOne 16 = .ok (.if_icmp .eq 5, 3) := by decide +kernel
theorem dX10_chosenOne_19 : decode cX10_chosenOne 19 = .ok (.iconst (-1), 1) := by decide +kernel
theorem dX10_chosenOne_20 : decode cX10_chosenOne 20 = .ok (.ireturn, 1) := by decide +kernel
theorem dX10_chosenOne_21 : decode cX10_chosenOne 21 = .ok (.iconst 0, 1) := by decide +kernel
theorem dX10_chosenOne_22 : decode cX10_chosenOne 22 = .ok (.istore_n 2, 1) := by decide +kernel
theorem dX10_chosenOne_23 : decode cX10_chosenOne 23 = .ok (.iload_n 1, 1) := by decide +kernel
theorem dX10_chosenOne_24 : decode cX10_chosenOne 24 = .ok (.iload_n 2, 1) := by decide +kernel
theorem dX10_chosenOne_25 : decode cX10_chosenOne 25 = .ok (.ishr, 1) := by decide +kernel
theorem dX10_chosenOne_26 : decode cX10_chosenOne 26 = .ok (.iconst 1, 1) := by decide +kernel
theorem dX10_chosenOne_27 : decode cX10_chosenOne 27 = .ok (.iand, 1) := by decide +kernel
theorem dX10_chosenOne_28 : decode cX10_chosenOne 28 = .ok (.ifCond .ne 9, 3) := by decide +kernel
theorem dX10_chosenOne_31 : decode cX10_chosenOne 31 = .ok (.iinc 2 1, 3) := by decide +kernel
theorem dX10_chosenOne_34 : decode cX10_chosenOne 34 = .ok (.goto (-11), 3) := by decide +kernel
theorem dX10_chosenOne_37 : decode cX10_chosenOne 37 = .ok (.iload_n 2, 1) := by decide +kernel
theorem dX10_chosenOne_38 : decode cX10_chosenOne 38 = .ok (.ireturn, 1) := by decide +kernel
theorem dX10_chosen_0 : decode cX10_chosen 0 = .ok (.aload_n 0, 1) := by decide +kernel
theorem dX10_chosen_1 : decode cX10_chosen 1 = .ok (.invokevirtual 118, 3) := by decide +kernel
theorem dX10_chosen_4 : decode cX10_chosen 4 = .ok (.aload_n 0, 1) := by decide +kernel
theorem dX10_chosen_5 : decode cX10_chosen 5 = .ok (.getfield 98, 3) := by decide +kernel
theorem dX10_chosen_8 : decode cX10_chosen 8 = .ok (.iconst (-1), 1) := by decide +kernel
theorem dX10_chosen_9 : decode cX10_chosen 9 = .ok (.if_icmp .eq 8, 3) := by decide +kernel
theorem dX10_chosen_12 : decode cX10_chosen 12 = .ok (.bipush (-3), 2) := by decide +kernel
theorem dX10_chosen_14 : decode cX10_chosen 14 = .ok (.goto 7, 3) := by decide +kernel
theorem dX10_chosen_17 : decode cX10_chosen 17 = .ok (.aload_n 0, 1) := by decide +kernel
theorem dX10_chosen_18 : decode cX10_chosen 18 = .ok (.invokevirtual 149, 3) := by decide +kernel
theorem dX10_chosen_21 : decode cX10_chosen 21 = .ok (.ireturn, 1) := by decide +kernel
theorem dX10_allVotes_0 : decode cX10_allVotes 0 = .ok (.iconst 0, 1) := by decide +kernel
theorem dX10_allVotes_1 : decode cX10_allVotes 1 = .ok (.istore_n 3, 1) := by decide +kernel
theorem dX10_allVotes_2 : decode cX10_allVotes 2 = .ok (.iconst 0, 1) := by decide +kernel
theorem dX10_allVotes_3 : decode cX10_allVotes 3 = .ok (.istore 4, 2) := by decide +kernel
theorem dX10_allVotes_5 : decode cX10_allVotes 5 = .ok (.iload 4, 2) := by decide +kernel
theorem dX10_allVotes_7 : decode cX10_allVotes 7 = .ok (.aload_n 0, 1) := by decide +kernel
theorem dX10_allVotes_8 : decode cX10_allVotes 8 = .ok (.getfield 108, 3) := by decide +kernel
theorem dX10_allVotes_11 : decode cX10_allVotes 11 = .ok (.if_icmp .ge 33, 3) := by decide +kernel
theorem dX10_allVotes_14 : decode cX10_allVotes 14 = .ok (.iload_n 3, 1) := by decide +kernel
theorem dX10_allVotes_15 : decode cX10_allVotes 15 = .ok (.iload_n 2, 1) := by decide +kernel
theorem dX10_allVotes_16 : decode cX10_allVotes 16 = .ok (.ifCond .eq 13, 3) := by decide +kernel
theorem dX10_allVotes_19 : decode cX10_allVotes 19 = .ok (.aload_n 0, 1) := by decide +kernel
theorem dX10_allVotes_20 : decode cX10_allVotes 20 = .ok (.iload_n 1, 1) := by decide +kernel
theorem dX10_allVotes_21 : decode cX10_allVotes 21 = .ok (.iload 4, 2) := by decide +kernel
theorem dX10_allVotes_23 : decode cX10_allVotes 23 = .ok (.invokevirtual 92, 3) := by decide +kernel
theorem dX10_allVotes_26 : decode cX10_allVotes 26 = .ok (.goto 10, 3) := by decide +kernel
theorem dX10_allVotes_29 : decode cX10_allVotes 29 = .ok (.aload_n 0, 1) := by decide +kernel
theorem dX10_allVotes_30 : decode cX10_allVotes 30 = .ok (.iload_n 1, 1) := by decide +kernel
theorem dX10_allVotes_31 : decode cX10_allVotes 31 = .ok (.iload 4, 2) := by decide +kernel
theorem dX10_allVotes_33 : decode cX10_allVotes 33 = .ok (.invokevirtual 88, 3) := by decide +kernel
theorem dX10_allVotes_36 : decode cX10_allVotes 36 = .ok (.iadd, 1) := by decide +kernel
theorem dX10_allVotes_37 : decode cX10_allVotes 37 = .ok (.istore_n 3, 1) := by decide +kernel
theorem dX10_allVotes_38 : decode cX10_allVotes 38 = .ok (.iinc 4 1, 3) := by decide +kernel
theorem dX10_allVotes_41 : decode cX10_allVotes 41 = .ok (.goto (-36), 3) := by decide +kernel
theorem dX10_allVotes_44 : decode cX10_allVotes 44 = .ok (.iload_n 3, 1) := by decide +kernel
theorem dX10_allVotes_45 : decode cX10_allVotes 45 = .ok (.ireturn, 1) := by decide +kernel
theorem dX10_parts_0 : decode cX10_parts 0 = .ok (.iconst 0, 1) := by decide +kernel
theorem dX10_parts_1 : decode cX10_parts 1 = .ok (.istore_n 3, 1) := by decide +kernel
theorem dX10_parts_2 : decode cX10_parts 2 = .ok (.iconst 0, 1) := by decide +kernel
theorem dX10_parts_3 : decode cX10_parts 3 = .ok (.istore 4, 2) := by decide +kernel
theorem dX10_parts_5 : decode cX10_parts 5 = .ok (.iload 4, 2) := by decide +kernel
theorem dX10_parts_7 : decode cX10_parts 7 = .ok (.bipush 9, 2) := by decide +kernel
theorem dX10_parts_9 : decode cX10_parts 9 = .ok (.if_icmp .ge 40, 3) := by decide +kernel
theorem dX10_parts_12 : decode cX10_parts 12 = .ok (.iload_n 3, 1) := by decide +kernel
theorem dX10_parts_13 : decode cX10_parts 13 = .ok (.aload_n 0, 1) := by decide +kernel
theorem dX10_parts_14 : decode cX10_parts 14 = .ok (.iload_n 1, 1) := by decide +kernel
theorem dX10_parts_15 : decode cX10_parts 15 = .ok (.iconst 0, 1) := by decide +kernel
theorem dX10_parts_16 : decode cX10_parts 16 = .ok (.iload 4, 2) := by decide +kernel
theorem dX10_parts_18 : decode cX10_parts 18 = .ok (.invokevirtual 80, 3) := by decide +kernel
theorem dX10_parts_21 : decode cX10_parts 21 = .ok (.iconst 1, 1) := by decide +kernel
theorem dX10_parts_22 : decode cX10_parts 22 = .ok (.if_icmp .ne 18, 3) := by decide +kernel
theorem dX10_parts_25 : decode cX10_parts 25 = .ok (.aload_n 0, 1) := by decide +kernel
theorem dX10_parts_26 : decode cX10_parts 26 = .ok (.iload_n 2, 1) := by decide +kernel
theorem dX10_parts_27 : decode cX10_parts 27 = .ok (.iconst 0, 1) := by decide +kernel
theorem dX10_parts_28 : decode cX10_parts 28 = .ok (.iload 4, 2) := by decide +kernel
theorem dX10_parts_30 : decode cX10_parts 30 = .ok (.invokevirtual 80, 3) := by decide +kernel
theorem dX10_parts_33 : decode cX10_parts 33 = .ok (.ifCond .ne 7, 3) := by decide +kernel
theorem dX10_parts_36 : decode cX10_parts 36 = .ok (.iconst 1, 1) := by decide +kernel
theorem dX10_parts_37 : decode cX10_parts 37 = .ok (.goto 4, 3) := by decide +kernel
theorem dX10_parts_40 : decode cX10_parts 40 = .ok (.iconst 0, 1) := by decide +kernel
theorem dX10_parts_41 : decode cX10_parts 41 = .ok (.iadd, 1) := by decide +kernel
theorem dX10_parts_42 : decode cX10_parts 42 = .ok (.istore_n 3, 1) := by decide +kernel
theorem dX10_parts_43 : decode cX10_parts 43 = .ok (.iinc 4 1, 3) := by decide +kernel
theorem dX10_parts_46 : decode cX10_parts 46 = .ok (.goto (-41), 3) := by decide +kernel
theorem dX10_parts_49 : decode cX10_parts 49 = .ok (.iload_n 3, 1) := by decide +kernel
theorem dX10_parts_50 : decode cX10_parts 50 = .ok (.ireturn, 1) := by decide +kernel
theorem dX10_beatsAll_0 : decode cX10_beatsAll 0 = .ok (.iconst 0, 1) := by decide +kernel
theorem dX10_beatsAll_1 : decode cX10_beatsAll 1 = .ok (.istore_n 2, 1) := by decide +kernel
theorem dX10_beatsAll_2 : decode cX10_beatsAll 2 = .ok (.iload_n 2, 1) := by decide +kernel
theorem dX10_beatsAll_3 : decode cX10_beatsAll 3 = .ok (.aload_n 0, 1) := by decide +kernel
theorem dX10_beatsAll_4 : decode cX10_beatsAll 4 = .ok (.getfield 72, 3) := by decide +kernel
theorem dX10_beatsAll_7 : decode cX10_beatsAll 7 = .ok (.if_icmp .ge 31, 3) := by decide +kernel
theorem dX10_beatsAll_10 : decode cX10_beatsAll 10 = .ok (.iload_n 2, 1) := by decide +kernel
theorem dX10_beatsAll_11 : decode cX10_beatsAll 11 = .ok (.iload_n 1, 1) := by decide +kernel
theorem dX10_beatsAll_12 : decode cX10_beatsAll 12 = .ok (.if_icmp .eq 20, 3) := by decide +kernel
theorem dX10_beatsAll_15 : decode cX10_beatsAll 15 = .ok (.aload_n 0, 1) := by decide +kernel
theorem dX10_beatsAll_16 : decode cX10_beatsAll 16 = .ok (.iload_n 1, 1) := by decide +kernel
theorem dX10_beatsAll_17 : decode cX10_beatsAll 17 = .ok (.iload_n 2, 1) := by decide +kernel
theorem dX10_beatsAll_18 : decode cX10_beatsAll 18 = .ok (.invokevirtual 153, 3) := by decide +kernel
theorem dX10_beatsAll_21 : decode cX10_beatsAll 21 = .ok (.aload_n 0, 1) := by decide +kernel
theorem dX10_beatsAll_22 : decode cX10_beatsAll 22 = .ok (.iload_n 2, 1) := by decide +kernel
theorem dX10_beatsAll_23 : decode cX10_beatsAll 23 = .ok (.iload_n 1, 1) := by decide +kernel
theorem dX10_beatsAll_24 : decode cX10_beatsAll 24 = .ok (.invokevirtual 153, 3) := by decide +kernel
theorem dX10_beatsAll_27 : decode cX10_beatsAll 27 = .ok (.if_icmp .gt 5, 3) := by decide +kernel
theorem dX10_beatsAll_30 : decode cX10_beatsAll 30 = .ok (.iconst 0, 1) := by decide +kernel
theorem dX10_beatsAll_31 : decode cX10_beatsAll 31 = .ok (.ireturn, 1) := by decide +kernel
theorem dX10_beatsAll_32 : decode cX10_beatsAll 32 = .ok (.iinc 2 1, 3) := by decide +kernel
theorem dX10_beatsAll_35 : decode cX10_beatsAll 35 = .ok (.goto (-33), 3) := by decide +kernel
theorem dX10_beatsAll_38 : decode cX10_beatsAll 38 = .ok (.iconst 1, 1) := by decide +kernel
theorem dX10_beatsAll_39 : decode cX10_beatsAll 39 = .ok (.ireturn, 1) := by decide +kernel
theorem dX10_other_0 : decode cX10_other 0 = .ok (.iload_n 1, 1) := by decide +kernel
theorem dX10_other_1 : decode cX10_other 1 = .ok (.iconst 1, 1) := by decide +kernel
theorem dX10_other_2 : decode cX10_other 2 = .ok (.iconst 3, 1) := by decide +kernel
theorem dX10_other_3 : decode cX10_other 3 = .ok (.invokestatic 75, 3) := by decide +kernel
theorem dX10_other_6 : decode cX10_other 6 = .ok (.ifCond .ne 6, 3) := by decide +kernel
theorem dX10_other_9 : decode cX10_other 9 = .ok (.bipush (-2), 2) := by decide +kernel
theorem dX10_other_11 : decode cX10_other 11 = .ok (.ireturn, 1) := by decide +kernel
theorem dX10_other_12 : decode cX10_other 12 = .ok (.aload_n 0, 1) := by decide +kernel
theorem dX10_other_13 : decode cX10_other 13 = .ok (.invokevirtual 118, 3) := by decide +kernel
theorem dX10_other_16 : decode cX10_other 16 = .ok (.iload_n 1, 1) := by decide +kernel
theorem dX10_other_17 : decode cX10_other 17 = .ok (.iconst 3, 1) := by decide +kernel
theorem dX10_other_18 : decode cX10_other 18 = .ok (.if_icmp .ge 14, 3) := by decide +kernel
theorem dX10_other_21 : decode cX10_other 21 = .ok (.aload_n 0, 1) := by decide +kernel
theorem dX10_other_22 : decode cX10_other 22 = .ok (.getfield 98, 3) := by decide +kernel
theorem dX10_other_25 : decode cX10_other 25 = .ok (.iconst (-1), 1) := by decide +kernel
theorem dX10_other_26 : decode cX10_other 26 = .ok (.if_icmp .eq 6, 3) := by decide +kernel
theorem dX10_other_29 : decode cX10_other 29 = .ok (.bipush (-3), 2) := by decide +kernel
theorem dX10_other_31 : decode cX10_other 31 = .ok (.ireturn, 1) := by decide +kernel
theorem dX10_other_32 : decode cX10_other 32 = .ok (.iconst (-1), 1) := by decide +kernel
theorem dX10_other_33 : decode cX10_other 33 = .ok (.istore_n 2, 1) := by decide +kernel
theorem dX10_other_34 : decode cX10_other 34 = .ok (.iconst 0, 1) := by decide +kernel
theorem dX10_other_35 : decode cX10_other 35 = .ok (.istore_n 3, 1) := by decide +kernel
theorem dX10_other_36 : decode cX10_other 36 = .ok (.iload_n 3, 1) := by decide +kernel
theorem dX10_other_37 : decode cX10_other 37 = .ok (.aload_n 0, 1) := by decide +kernel
theorem dX10_other_38 : decode cX10_other 38 = .ok (.getfield 72, 3) := by decide +kernel
theorem dX10_other_41 : decode cX10_other 41 = .ok (.if_icmp .ge 142, 3) := by decide +kernel
theorem dX10_other_44 : decode cX10_other 44 = .ok (.aload_n 0, 1) := by decide +kernel
theorem dX10_other_45 : decode cX10_other 45 = .ok (.getfield 13, 3) := by decide +kernel
theorem dX10_other_48 : decode cX10_other 48 = .ok (.iload_n 3, 1) := by decide +kernel
theorem dX10_other_49 : decode cX10_other 49 = .ok (.iaload, 1) := by decide +kernel
theorem dX10_other_50 : decode cX10_other 50 = .ok (.istore 4, 2) := by decide +kernel
theorem dX10_other_52 : decode cX10_other 52 = .ok (.iload_n 1, 1) := by decide +kernel
theorem dX10_other_53 : decode cX10_other 53 = .ok (.iconst 3, 1) := by decide +kernel
theorem dX10_other_54 : decode cX10_other 54 = .ok (.if_icmp .ne 22, 3) := by decide +kernel
theorem dX10_other_57 : decode cX10_other 57 = .ok (.aload_n 0, 1) := by decide +kernel
theorem dX10_other_58 : decode cX10_other 58 = .ok (.iload 4, 2) := by decide +kernel
theorem dX10_other_60 : decode cX10_other 60 = .ok (.invokevirtual 156, 3) := by decide +kernel
theorem dX10_other_63 : decode cX10_other 63 = .ok (.ifCond .eq 8, 3) := by decide +kernel
theorem dX10_other_66 : decode cX10_other 66 = .ok (.iload 4, 2) := by decide +kernel
theorem dX10_other_68 : decode cX10_other 68 = .ok (.goto 4, 3) := by decide +kernel
theorem dX10_other_71 : decode cX10_other 71 = .ok (.iload_n 2, 1) := by decide +kernel
theorem dX10_other_72 : decode cX10_other 72 = .ok (.istore_n 2, 1) := by decide +kernel
theorem dX10_other_73 : decode cX10_other 73 = .ok (.goto 104, 3) := by decide +kernel
theorem dX10_other_76 : decode cX10_other 76 = .ok (.iload_n 1, 1) := by decide +kernel
theorem dX10_other_77 : decode cX10_other 77 = .ok (.iconst 1, 1) := by decide +kernel
theorem dX10_other_78 : decode cX10_other 78 = .ok (.if_icmp .ne 34, 3) := by decide +kernel
theorem dX10_other_81 : decode cX10_other 81 = .ok (.iload_n 2, 1) := by decide +kernel
theorem dX10_other_82 : decode cX10_other 82 = .ok (.iconst (-1), 1) := by decide +kernel
theorem dX10_other_83 : decode cX10_other 83 = .ok (.if_icmp .eq 19, 3) := by decide +kernel
theorem dX10_other_86 : decode cX10_other 86 = .ok (.aload_n 0, 1) := by decide +kernel
theorem dX10_other_87 : decode cX10_other 87 = .ok (.iload 4, 2) := by decide +kernel
theorem dX10_other_89 : decode cX10_other 89 = .ok (.iconst 1, 1) := by decide +kernel
theorem dX10_other_90 : decode cX10_other 90 = .ok (.invokevirtual 159, 3) := by decide +kernel
theorem dX10_other_93 : decode cX10_other 93 = .ok (.aload_n 0, 1) := by decide +kernel
theorem dX10_other_94 : decode cX10_other 94 = .ok (.iload_n 2, 1) := by decide +kernel
theorem dX10_other_95 : decode cX10_other 95 = .ok (.iconst 1, 1) := by decide +kernel
theorem dX10_other_96 : decode cX10_other 96 = .ok (.invokevirtual 159, 3) := by decide +kernel
theorem dX10_other_99 : decode cX10_other 99 = .ok (.if_icmp .le 8, 3) := by decide +kernel
theorem dX10_other_102 : decode cX10_other 102 = .ok (.iload 4, 2) := by decide +kernel
theorem dX10_other_104 : decode cX10_other 104 = .ok (.goto 4, 3) := by decide +kernel
theorem dX10_other_107 : decode cX10_other 107 = .ok (.iload_n 2, 1) := by decide +kernel
theorem dX10_other_108 : decode cX10_other 108 = .ok (.istore_n 2, 1) := by decide +kernel
theorem dX10_other_109 : decode cX10_other 109 = .ok (.goto 68, 3) := by decide +kernel
theorem dX10_other_112 : decode cX10_other 112 = .ok (.aload_n 0, 1) := by decide +kernel
theorem dX10_other_113 : decode cX10_other 113 = .ok (.iload 4, 2) := by decide +kernel
theorem dX10_other_115 : decode cX10_other 115 = .ok (.iconst 0, 1) := by decide +kernel
theorem dX10_other_116 : decode cX10_other 116 = .ok (.invokevirtual 159, 3) := by decide +kernel
theorem dX10_other_119 : decode cX10_other 119 = .ok (.ifCond .le 58, 3) := by decide +kernel
theorem dX10_other_122 : decode cX10_other 122 = .ok (.iload_n 2, 1) := by decide +kernel
theorem dX10_other_123 : decode cX10_other 123 = .ok (.iconst (-1), 1) := by decide +kernel
theorem dX10_other_124 : decode cX10_other 124 = .ok (.if_icmp .eq 34, 3) := by decide +kernel
theorem dX10_other_127 : decode cX10_other 127 = .ok (.aload_n 0, 1) := by decide +kernel
theorem dX10_other_128 : decode cX10_other 128 = .ok (.iload 4, 2) := by decide +kernel
theorem dX10_other_130 : decode cX10_other 130 = .ok (.iconst 1, 1) := by decide +kernel
theorem dX10_other_131 : decode cX10_other 131 = .ok (.invokevirtual 159, 3) := by decide +kernel
theorem dX10_other_134 : decode cX10_other 134 = .ok (.aload_n 0, 1) := by decide +kernel
theorem dX10_other_135 : decode cX10_other 135 = .ok (.iload_n 2, 1) := by decide +kernel
theorem dX10_other_136 : decode cX10_other 136 = .ok (.iconst 0, 1) := by decide +kernel
theorem dX10_other_137 : decode cX10_other 137 = .ok (.invokevirtual 159, 3) := by decide +kernel
theorem dX10_other_140 : decode cX10_other 140 = .ok (.imul, 1) := by decide +kernel
theorem dX10_other_141 : decode cX10_other 141 = .ok (.aload_n 0, 1) := by decide +kernel
theorem dX10_other_142 : decode cX10_other 142 = .ok (.iload_n 2, 1) := by decide +kernel
theorem dX10_other_143 : decode cX10_other 143 = .ok (.iconst 1, 1) := by decide +kernel
theorem dX10_other_144 : decode cX10_other 144 = .ok (.invokevirtual 159, 3) := by decide +kernel
theorem dX10_other_147 : decode cX10_other 147 = .ok (.aload_n 0, 1) := by decide +kernel
theorem dX10_other_148 : decode cX10_other 148 = .ok (.iload 4, 2) := by decide +kernel
theorem dX10_other_150 : decode cX10_other 150 = .ok (.iconst 0, 1) := by decide +kernel
theorem dX10_other_151 : decode cX10_other 151 = .ok (.invokevirtual 159, 3) := by decide +kernel
theorem dX10_other_154 : decode cX10_other 154 = .ok (.imul, 1) := by decide +kernel
theorem dX10_other_155 : decode cX10_other 155 = .ok (.if_icmp .le 7, 3) := by decide +kernel
theorem dX10_other_158 : decode cX10_other 158 = .ok (.iconst 1, 1) := by decide +kernel
theorem dX10_other_159 : decode cX10_other 159 = .ok (.goto 4, 3) := by decide +kernel
theorem dX10_other_162 : decode cX10_other 162 = .ok (.iconst 0, 1) := by decide +kernel
theorem dX10_other_163 : decode cX10_other 163 = .ok (.istore 5, 2) := by decide +kernel
theorem dX10_other_165 : decode cX10_other 165 = .ok (.iload 5, 2) := by decide +kernel
theorem dX10_other_167 : decode cX10_other 167 = .ok (.ifCond .eq 8, 3) := by decide +kernel
theorem dX10_other_170 : decode cX10_other 170 = .ok (.iload 4, 2) := by decide +kernel
theorem dX10_other_172 : decode cX10_other 172 = .ok (.goto 4, 3) := by decide +kernel
theorem dX10_other_175 : decode cX10_other 175 = .ok (.iload_n 2, 1) := by decide +kernel
theorem dX10_other_176 : decode cX10_other 176 = .ok (.istore_n 2, 1) := by decide +kernel
theorem dX10_other_177 : decode cX10_other 177 = .ok (.iinc 3 1, 3) := by decide +kernel
theorem dX10_other_180 : decode cX10_other 180 = .ok (.goto (-144), 3) := by decide +kernel
theorem dX10_other_183 : decode cX10_other 183 = .ok (.iload_n 2, 1) := by decide +kernel
theorem dX10_other_184 : decode cX10_other 184 = .ok (.ireturn, 1) := by decide +kernel
theorem dX10_chance_0 : decode cX10_chance 0 = .ok (.iload_n 1, 1) := by decide +kernel
theorem dX10_chance_1 : decode cX10_chance 1 = .ok (.iconst 0, 1) := by decide +kernel
theorem dX10_chance_2 : decode cX10_chance 2 = .ok (.iconst 4, 1) := by decide +kernel
theorem dX10_chance_3 : decode cX10_chance 3 = .ok (.invokestatic 75, 3) := by decide +kernel
theorem dX10_chance_6 : decode cX10_chance 6 = .ok (.ifCond .eq 13, 3) := by decide +kernel
theorem dX10_chance_9 : decode cX10_chance 9 = .ok (.iload_n 2, 1) := by decide +kernel
theorem dX10_chance_10 : decode cX10_chance 10 = .ok (.iconst 0, 1) := by decide +kernel
theorem dX10_chance_11 : decode cX10_chance 11 = .ok (.bipush 100, 2) := by decide +kernel
theorem dX10_chance_13 : decode cX10_chance 13 = .ok (.invokestatic 75, 3) := by decide +kernel
theorem dX10_chance_16 : decode cX10_chance 16 = .ok (.ifCond .ne 6, 3) := by decide +kernel
theorem dX10_chance_19 : decode cX10_chance 19 = .ok (.bipush (-2), 2) := by decide +kernel
theorem dX10_chance_21 : decode cX10_chance 21 = .ok (.ireturn, 1) := by decide +kernel
theorem dX10_chance_22 : decode cX10_chance 22 = .ok (.aload_n 0, 1) := by decide +kernel
theorem dX10_chance_23 : decode cX10_chance 23 = .ok (.getfield 32, 3) := by decide +kernel
theorem dX10_chance_26 : decode cX10_chance 26 = .ok (.iload_n 1, 1) := by decide +kernel
theorem dX10_chance_27 : decode cX10_chance 27 = .ok (.iaload, 1) := by decide +kernel
theorem dX10_chance_28 : decode cX10_chance 28 = .ok (.istore_n 3, 1) := by decide +kernel
theorem dX10_chance_29 : decode cX10_chance 29 = .ok (.aload_n 0, 1) := by decide +kernel
theorem dX10_chance_30 : decode cX10_chance 30 = .ok (.getfield 32, 3) := by decide +kernel
theorem dX10_chance_33 : decode cX10_chance 33 = .ok (.iload_n 1, 1) := by decide +kernel
theorem dX10_chance_34 : decode cX10_chance 34 = .ok (.iload_n 2, 1) := by decide +kernel
theorem dX10_chance_35 : decode cX10_chance 35 = .ok (.iastore, 1) := by decide +kernel
theorem dX10_chance_36 : decode cX10_chance 36 = .ok (.iload_n 3, 1) := by decide +kernel
theorem dX10_chance_37 : decode cX10_chance 37 = .ok (.ireturn, 1) := by decide +kernel
theorem dX10_choose_0 : decode cX10_choose 0 = .ok (.lconst 1, 1) := by decide +kernel
theorem dX10_choose_1 : decode cX10_choose 1 = .ok (.lstore_n 2, 1) := by decide +kernel
theorem dX10_choose_2 : decode cX10_choose 2 = .ok (.iconst 1, 1) := by decide +kernel
theorem dX10_choose_3 : decode cX10_choose 3 = .ok (.istore 4, 2) := by decide +kernel
theorem dX10_choose_5 : decode cX10_choose 5 = .ok (.iload 4, 2) := by decide +kernel
theorem dX10_choose_7 : decode cX10_choose 7 = .ok (.iload_n 1, 1) := by decide +kernel
theorem dX10_choose_8 : decode cX10_choose 8 = .ok (.if_icmp .gt 23, 3) := by decide +kernel
theorem dX10_choose_11 : decode cX10_choose 11 = .ok (.lload_n 2, 1) := by decide +kernel
theorem dX10_choose_12 : decode cX10_choose 12 = .ok (.iload_n 0, 1) := by decide +kernel
theorem dX10_choose_13 : decode cX10_choose 13 = .ok (.iload_n 1, 1) := by decide +kernel
theorem dX10_choose_14 : decode cX10_choose 14 = .ok (.isub, 1) := by decide +kernel
theorem dX10_choose_15 : decode cX10_choose 15 = .ok (.iload 4, 2) := by decide +kernel
theorem dX10_choose_17 : decode cX10_choose 17 = .ok (.iadd, 1) := by decide +kernel
theorem dX10_choose_18 : decode cX10_choose 18 = .ok (.i2l, 1) := by decide +kernel
theorem dX10_choose_19 : decode cX10_choose 19 = .ok (.lmul, 1) := by decide +kernel
theorem dX10_choose_20 : decode cX10_choose 20 = .ok (.iload 4, 2) := by decide +kernel
theorem dX10_choose_22 : decode cX10_choose 22 = .ok (.i2l, 1) := by decide +kernel
theorem dX10_choose_23 : decode cX10_choose 23 = .ok (.ldiv, 1) := by decide +kernel
theorem dX10_choose_24 : decode cX10_choose 24 = .ok (.lstore_n 2, 1) := by decide +kernel
theorem dX10_choose_25 : decode cX10_choose 25 = .ok (.iinc 4 1, 3) := by decide +kernel
theorem dX10_choose_28 : decode cX10_choose 28 = .ok (.goto (-23), 3) := by decide +kernel
theorem dX10_choose_31 : decode cX10_choose 31 = .ok (.lload_n 2, 1) := by decide +kernel
theorem dX10_choose_32 : decode cX10_choose 32 = .ok (.lreturn, 1) := by decide +kernel
theorem dX10_toThe_0 : decode cX10_toThe 0 = .ok (.lconst 1, 1) := by decide +kernel
theorem dX10_toThe_1 : decode cX10_toThe 1 = .ok (.lstore_n 3, 1) := by decide +kernel
theorem dX10_toThe_2 : decode cX10_toThe 2 = .ok (.iconst 0, 1) := by decide +kernel
theorem dX10_toThe_3 : decode cX10_toThe 3 = .ok (.istore 5, 2) := by decide +kernel
theorem dX10_toThe_5 : decode cX10_toThe 5 = .ok (.iload 5, 2) := by decide +kernel
theorem dX10_toThe_7 : decode cX10_toThe 7 = .ok (.iload_n 2, 1) := by decide +kernel
theorem dX10_toThe_8 : decode cX10_toThe 8 = .ok (.if_icmp .ge 13, 3) := by decide +kernel
theorem dX10_toThe_11 : decode cX10_toThe 11 = .ok (.lload_n 3, 1) := by decide +kernel
theorem dX10_toThe_12 : decode cX10_toThe 12 = .ok (.lload_n 0, 1) := by decide +kernel
theorem dX10_toThe_13 : decode cX10_toThe 13 = .ok (.lmul, 1) := by decide +kernel
theorem dX10_toThe_14 : decode cX10_toThe 14 = .ok (.lstore_n 3, 1) := by decide +kernel
theorem dX10_toThe_15 : decode cX10_toThe 15 = .ok (.iinc 5 1, 3) := by decide +kernel
theorem dX10_toThe_18 : decode cX10_toThe 18 = .ok (.goto (-13), 3) := by decide +kernel
theorem dX10_toThe_21 : decode cX10_toThe 21 = .ok (.lload_n 3, 1) := by decide +kernel
theorem dX10_toThe_22 : decode cX10_toThe 22 = .ok (.lreturn, 1) := by decide +kernel
theorem dX10_comes_0 : decode cX10_comes 0 = .ok (.lconst 0, 1) := by decide +kernel
theorem dX10_comes_1 : decode cX10_comes 1 = .ok (.lstore_n 3, 1) := by decide +kernel
theorem dX10_comes_2 : decode cX10_comes 2 = .ok (.iconst 0, 1) := by decide +kernel
theorem dX10_comes_3 : decode cX10_comes 3 = .ok (.istore 5, 2) := by decide +kernel
theorem dX10_comes_5 : decode cX10_comes 5 = .ok (.iload 5, 2) := by decide +kernel
theorem dX10_comes_7 : decode cX10_comes 7 = .ok (.aload_n 0, 1) := by decide +kernel
theorem dX10_comes_8 : decode cX10_comes 8 = .ok (.getfield 16, 3) := by decide +kernel
theorem dX10_comes_11 : decode cX10_comes 11 = .ok (.if_icmp .gt 69, 3) := by decide +kernel
theorem dX10_comes_14 : decode cX10_comes 14 = .ok (.bipush 100, 2) := by decide +kernel
theorem dX10_comes_16 : decode cX10_comes 16 = .ok (.iload 5, 2) := by decide +kernel
theorem dX10_comes_18 : decode cX10_comes 18 = .ok (.imul, 1) := by decide +kernel
theorem dX10_comes_19 : decode cX10_comes 19 = .ok (.iload_n 2, 1) := by decide +kernel
theorem dX10_comes_20 : decode cX10_comes 20 = .ok (.aload_n 0, 1) := by decide +kernel
theorem dX10_comes_21 : decode cX10_comes 21 = .ok (.getfield 16, 3) := by decide +kernel
theorem dX10_comes_24 : decode cX10_comes 24 = .ok (.imul, 1) := by decide +kernel
theorem dX10_comes_25 : decode cX10_comes 25 = .ok (.if_icmp .lt 49, 3) := by decide +kernel
theorem dX10_comes_28 : decode cX10_comes 28 = .ok (.lload_n 3, 1) := by decide +kernel
theorem dX10_comes_29 : decode cX10_comes 29 = .ok (.aload_n 0, 1) := by decide +kernel
theorem dX10_comes_30 : decode cX10_comes 30 = .ok (.getfield 16, 3) := by decide +kernel
theorem dX10_comes_33 : decode cX10_comes 33 = .ok (.iload 5, 2) := by decide +kernel
theorem dX10_comes_35 : decode cX10_comes 35 = .ok (.invokestatic 163, 3) := by decide +kernel
theorem dX10_comes_38 : decode cX10_comes 38 = .ok (.aload_n 0, 1) := by decide +kernel
theorem dX10_comes_39 : decode cX10_comes 39 = .ok (.getfield 32, 3) := by decide +kernel
theorem dX10_comes_42 : decode cX10_comes 42 = .ok (.iload_n 1, 1) := by decide +kernel
theorem dX10_comes_43 : decode cX10_comes 43 = .ok (.iaload, 1) := by decide +kernel
theorem dX10_comes_44 : decode cX10_comes 44 = .ok (.i2l, 1) := by decide +kernel
theorem dX10_comes_45 : decode cX10_comes 45 = .ok (.iload 5, 2) := by decide +kernel
theorem dX10_comes_47 : decode cX10_comes 47 = .ok (.invokestatic 167, 3) := by decide +kernel
theorem dX10_comes_50 : decode cX10_comes 50 = .ok (.lmul, 1) := by decide +kernel
theorem dX10_comes_51 : decode cX10_comes 51 = .ok (.bipush 100, 2) := by decide +kernel
theorem dX10_comes_53 : decode cX10_comes 53 = .ok (.aload_n 0, 1) := by decide +kernel
theorem dX10_comes_54 : decode cX10_comes 54 = .ok (.getfield 32, 3) := by decide +kernel
theorem dX10_comes_57 : decode cX10_comes 57 = .ok (.iload_n 1, 1) := by decide +kernel
theorem dX10_comes_58 : decode cX10_comes 58 = .ok (.iaload, 1) := by decide +kernel
theorem dX10_comes_59 : decode cX10_comes 59 = .ok (.isub, 1) := by decide +kernel
theorem dX10_comes_60 : decode cX10_comes 60 = .ok (.i2l, 1) := by decide +kernel
theorem dX10_comes_61 : decode cX10_comes 61 = .ok (.aload_n 0, 1) := by decide +kernel
theorem dX10_comes_62 : decode cX10_comes 62 = .ok (.getfield 16, 3) := by decide +kernel
theorem dX10_comes_65 : decode cX10_comes 65 = .ok (.iload 5, 2) := by decide +kernel
theorem dX10_comes_67 : decode cX10_comes 67 = .ok (.isub, 1) := by decide +kernel
theorem dX10_comes_68 : decode cX10_comes 68 = .ok (.invokestatic 167, 3) := by decide +kernel
theorem dX10_comes_71 : decode cX10_comes 71 = .ok (.lmul, 1) := by decide +kernel
theorem dX10_comes_72 : decode cX10_comes 72 = .ok (.ladd, 1) := by decide +kernel
theorem dX10_comes_73 : decode cX10_comes 73 = .ok (.lstore_n 3, 1) := by decide +kernel
theorem dX10_comes_74 : decode cX10_comes 74 = .ok (.iinc 5 1, 3) := by decide +kernel
theorem dX10_comes_77 : decode cX10_comes 77 = .ok (.goto (-72), 3) := by decide +kernel
theorem dX10_comes_80 : decode cX10_comes 80 = .ok (.aload_n 0, 1) := by decide +kernel
theorem dX10_comes_81 : decode cX10_comes 81 = .ok (.getfield 16, 3) := by decide +kernel
theorem dX10_comes_84 : decode cX10_comes 84 = .ok (.iconst 3, 1) := by decide +kernel
theorem dX10_comes_85 : decode cX10_comes 85 = .ok (.if_icmp .ge 20, 3) := by decide +kernel
theorem dX10_comes_88 : decode cX10_comes 88 = .ok (.lload_n 3, 1) := by decide +kernel
theorem dX10_comes_89 : decode cX10_comes 89 = .ok (.ldc2_w 171, 3) := by decide +kernel
theorem dX10_comes_92 : decode cX10_comes 92 = .ok (.iconst 3, 1) := by decide +kernel
theorem dX10_comes_93 : decode cX10_comes 93 = .ok (.aload_n 0, 1) := by decide +kernel
theorem dX10_comes_94 : decode cX10_comes 94 = .ok (.getfield 16, 3) := by decide +kernel
theorem dX10_comes_97 : decode cX10_comes 97 = .ok (.isub, 1) := by decide +kernel
theorem dX10_comes_98 : decode cX10_comes 98 = .ok (.invokestatic 167, 3) := by decide +kernel
theorem dX10_comes_101 : decode cX10_comes 101 = .ok (.lmul, 1) := by decide +kernel
theorem dX10_comes_102 : decode cX10_comes 102 = .ok (.goto 17, 3) := by decide +kernel
theorem dX10_comes_105 : decode cX10_comes 105 = .ok (.lload_n 3, 1) := by decide +kernel
theorem dX10_comes_106 : decode cX10_comes 106 = .ok (.ldc2_w 171, 3) := by decide +kernel
theorem dX10_comes_109 : decode cX10_comes 109 = .ok (.aload_n 0, 1) := by decide +kernel
theorem dX10_comes_110 : decode cX10_comes 110 = .ok (.getfield 16, 3) := by decide +kernel
theorem dX10_comes_113 : decode cX10_comes 113 = .ok (.iconst 3, 1) := by decide +kernel
theorem dX10_comes_114 : decode cX10_comes 114 = .ok (.isub, 1) := by decide +kernel
theorem dX10_comes_115 : decode cX10_comes 115 = .ok (.invokestatic 167, 3) := by decide +kernel
theorem dX10_comes_118 : decode cX10_comes 118 = .ok (.ldiv, 1) := by decide +kernel
theorem dX10_comes_119 : decode cX10_comes 119 = .ok (.l2i, 1) := by decide +kernel
theorem dX10_comes_120 : decode cX10_comes 120 = .ok (.ireturn, 1) := by decide +kernel
theorem dX10_passes_0 : decode cX10_passes 0 = .ok (.iload_n 1, 1) := by decide +kernel
theorem dX10_passes_1 : decode cX10_passes 1 = .ok (.iconst 0, 1) := by decide +kernel
theorem dX10_passes_2 : decode cX10_passes 2 = .ok (.iconst 4, 1) := by decide +kernel
theorem dX10_passes_3 : decode cX10_passes 3 = .ok (.invokestatic 75, 3) := by decide +kernel
theorem dX10_passes_6 : decode cX10_passes 6 = .ok (.ifCond .eq 22, 3) := by decide +kernel
theorem dX10_passes_9 : decode cX10_passes 9 = .ok (.iload_n 2, 1) := by decide +kernel
theorem dX10_passes_10 : decode cX10_passes 10 = .ok (.iconst 1, 1) := by decide +kernel
theorem dX10_passes_11 : decode cX10_passes 11 = .ok (.bipush 100, 2) := by decide +kernel
theorem dX10_passes_13 : decode cX10_passes 13 = .ok (.invokestatic 75, 3) := by decide +kernel
theorem dX10_passes_16 : decode cX10_passes 16 = .ok (.ifCond .eq 12, 3) := by decide +kernel
theorem dX10_passes_19 : decode cX10_passes 19 = .ok (.aload_n 0, 1) := by decide +kernel
theorem dX10_passes_20 : decode cX10_passes 20 = .ok (.iload_n 1, 1) := by decide +kernel
theorem dX10_passes_21 : decode cX10_passes 21 = .ok (.iload_n 2, 1) := by decide +kernel
theorem dX10_passes_22 : decode cX10_passes 22 = .ok (.invokevirtual 173, 3) := by decide +kernel
theorem dX10_passes_25 : decode cX10_passes 25 = .ok (.goto 5, 3) := by decide +kernel
theorem dX10_passes_28 : decode cX10_passes 28 = .ok (.bipush (-2), 2) := by decide +kernel
theorem dX10_passes_30 : decode cX10_passes 30 = .ok (.ireturn, 1) := by decide +kernel
theorem dX10_all_0 : decode cX10_all 0 = .ok (.iload_n 1, 1) := by decide +kernel
theorem dX10_all_1 : decode cX10_all 1 = .ok (.iconst 0, 1) := by decide +kernel
theorem dX10_all_2 : decode cX10_all 2 = .ok (.iconst 4, 1) := by decide +kernel
theorem dX10_all_3 : decode cX10_all 3 = .ok (.invokestatic 75, 3) := by decide +kernel
theorem dX10_all_6 : decode cX10_all 6 = .ok (.ifCond .ne 6, 3) := by decide +kernel
theorem dX10_all_9 : decode cX10_all 9 = .ok (.bipush (-2), 2) := by decide +kernel
theorem dX10_all_11 : decode cX10_all 11 = .ok (.ireturn, 1) := by decide +kernel
theorem dX10_all_12 : decode cX10_all 12 = .ok (.aload_n 0, 1) := by decide +kernel
theorem dX10_all_13 : decode cX10_all 13 = .ok (.invokevirtual 118, 3) := by decide +kernel
theorem dX10_all_16 : decode cX10_all 16 = .ok (.aload_n 0, 1) := by decide +kernel
theorem dX10_all_17 : decode cX10_all 17 = .ok (.getfield 98, 3) := by decide +kernel
theorem dX10_all_20 : decode cX10_all 20 = .ok (.iconst (-1), 1) := by decide +kernel
theorem dX10_all_21 : decode cX10_all 21 = .ok (.if_icmp .eq 6, 3) := by decide +kernel
theorem dX10_all_24 : decode cX10_all 24 = .ok (.bipush (-3), 2) := by decide +kernel
theorem dX10_all_26 : decode cX10_all 26 = .ok (.ireturn, 1) := by decide +kernel
theorem dX10_all_27 : decode cX10_all 27 = .ok (.ldc2_w 176, 3) := by decide +kernel
theorem dX10_all_30 : decode cX10_all 30 = .ok (.lstore_n 2, 1) := by decide +kernel
theorem dX10_all_31 : decode cX10_all 31 = .ok (.iconst 0, 1) := by decide +kernel
theorem dX10_all_32 : decode cX10_all 32 = .ok (.istore 4, 2) := by decide +kernel
theorem dX10_all_34 : decode cX10_all 34 = .ok (.iload 4, 2) := by decide +kernel
theorem dX10_all_36 : decode cX10_all 36 = .ok (.aload_n 0, 1) := by decide +kernel
theorem dX10_all_37 : decode cX10_all 37 = .ok (.getfield 108, 3) := by decide +kernel
theorem dX10_all_40 : decode cX10_all 40 = .ok (.if_icmp .ge 29, 3) := by decide +kernel
theorem dX10_all_43 : decode cX10_all 43 = .ok (.lload_n 2, 1) := by decide +kernel
theorem dX10_all_44 : decode cX10_all 44 = .ok (.aload_n 0, 1) := by decide +kernel
theorem dX10_all_45 : decode cX10_all 45 = .ok (.iload_n 1, 1) := by decide +kernel
theorem dX10_all_46 : decode cX10_all 46 = .ok (.aload_n 0, 1) := by decide +kernel
theorem dX10_all_47 : decode cX10_all 47 = .ok (.getfield 23, 3) := by decide +kernel
theorem dX10_all_50 : decode cX10_all 50 = .ok (.iload 4, 2) := by decide +kernel
theorem dX10_all_52 : decode cX10_all 52 = .ok (.iaload, 1) := by decide +kernel
theorem dX10_all_53 : decode cX10_all 53 = .ok (.invokevirtual 173, 3) := by decide +kernel
theorem dX10_all_56 : decode cX10_all 56 = .ok (.i2l, 1) := by decide +kernel
theorem dX10_all_57 : decode cX10_all 57 = .ok (.lmul, 1) := by decide +kernel
theorem dX10_all_58 : decode cX10_all 58 = .ok (.ldc2_w 176, 3) := by decide +kernel
theorem dX10_all_61 : decode cX10_all 61 = .ok (.ldiv, 1) := by decide +kernel
theorem dX10_all_62 : decode cX10_all 62 = .ok (.lstore_n 2, 1) := by decide +kernel
theorem dX10_all_63 : decode cX10_all 63 = .ok (.iinc 4 1, 3) := by decide +kernel
theorem dX10_all_66 : decode cX10_all 66 = .ok (.goto (-32), 3) := by decide +kernel
theorem dX10_all_69 : decode cX10_all 69 = .ok (.lload_n 2, 1) := by decide +kernel
theorem dX10_all_70 : decode cX10_all 70 = .ok (.l2i, 1) := by decide +kernel
theorem dX10_all_71 : decode cX10_all 71 = .ok (.ireturn, 1) := by decide +kernel
theorem dX10_falseShare_0 : decode cX10_falseShare 0 = .ok (.iload_n 0, 1) := by decide +kernel
theorem dX10_falseShare_1 : decode cX10_falseShare 1 = .ok (.iload_n 1, 1) := by decide +kernel
theorem dX10_falseShare_2 : decode cX10_falseShare 2 = .ok (.iadd, 1) := by decide +kernel
theorem dX10_falseShare_3 : decode cX10_falseShare 3 = .ok (.istore 4, 2) := by decide +kernel
theorem dX10_falseShare_5 : decode cX10_falseShare 5 = .ok (.iload_n 2, 1) := by decide +kernel
theorem dX10_falseShare_6 : decode cX10_falseShare 6 = .ok (.iload_n 3, 1) := by decide +kernel
theorem dX10_falseShare_7 : decode cX10_falseShare 7 = .ok (.iadd, 1) := by decide +kernel
theorem dX10_falseShare_8 : decode cX10_falseShare 8 = .ok (.istore 5, 2) := by decide +kernel
theorem dX10_falseShare_10 : decode cX10_falseShare 10 = .ok (.iload_n 0, 1) := by decide +kernel
theorem dX10_falseShare_11 : decode cX10_falseShare 11 = .ok (.iload_n 2, 1) := by decide +kernel
theorem dX10_falseShare_12 : decode cX10_falseShare 12 = .ok (.iadd, 1) := by decide +kernel
theorem dX10_falseShare_13 : decode cX10_falseShare 13 = .ok (.istore 6, 2) := by decide +kernel
theorem dX10_falseShare_15 : decode cX10_falseShare 15 = .ok (.iload 4, 2) := by decide +kernel
theorem dX10_falseShare_17 : decode cX10_falseShare 17 = .ok (.iload 5, 2) := by decide +kernel
theorem dX10_falseShare_19 : decode cX10_falseShare 19 = .ok (.iadd, 1) := by decide +kernel
theorem dX10_falseShare_20 : decode cX10_falseShare 20 = .ok (.istore 7, 2) := by decide +kernel
theorem dX10_falseShare_22 : decode cX10_falseShare 22 = .ok (.iload 4, 2) := by decide +kernel
theorem dX10_falseShare_24 : decode cX10_falseShare 24 = .ok (.ifCond .ne 17, 3) := by decide +kernel
theorem dX10_falseShare_27 : decode cX10_falseShare 27 = .ok (.iload 5, 2) := by decide +kernel
theorem dX10_falseShare_29 : decode cX10_falseShare 29 = .ok (.ifCond .ne 7, 3) := by decide +kernel
theorem dX10_falseShare_32 : decode cX10_falseShare 32 = .ok (.iconst 0, 1) := by decide +kernel
theorem dX10_falseShare_33 : decode cX10_falseShare 33 = .ok (.goto 26, 3) := by decide +kernel
theorem dX10_falseShare_36 : decode cX10_falseShare 36 = .ok (.iload_n 2, 1) := by decide +kernel
theorem dX10_falseShare_37 : decode cX10_falseShare 37 = .ok (.ineg, 1) := by decide +kernel
theorem dX10_falseShare_38 : decode cX10_falseShare 38 = .ok (.goto 21, 3) := by decide +kernel
theorem dX10_falseShare_41 : decode cX10_falseShare 41 = .ok (.iload 5, 2) := by decide +kernel
theorem dX10_falseShare_43 : decode cX10_falseShare 43 = .ok (.ifCond .ne 7, 3) := by decide +kernel
theorem dX10_falseShare_46 : decode cX10_falseShare 46 = .ok (.iload_n 0, 1) := by decide +kernel
theorem dX10_falseShare_47 : decode cX10_falseShare 47 = .ok (.goto 12, 3) := by decide +kernel
theorem dX10_falseShare_50 : decode cX10_falseShare 50 = .ok (.iload_n 0, 1) := by decide +kernel
theorem dX10_falseShare_51 : decode cX10_falseShare 51 = .ok (.iload 5, 2) := by decide +kernel
theorem dX10_falseShare_53 : decode cX10_falseShare 53 = .ok (.imul, 1) := by decide +kernel
theorem dX10_falseShare_54 : decode cX10_falseShare 54 = .ok (.iload_n 2, 1) := by decide +kernel
theorem dX10_falseShare_55 : decode cX10_falseShare 55 = .ok (.iload 4, 2) := by decide +kernel
theorem dX10_falseShare_57 : decode cX10_falseShare 57 = .ok (.imul, 1) := by decide +kernel
theorem dX10_falseShare_58 : decode cX10_falseShare 58 = .ok (.isub, 1) := by decide +kernel
theorem dX10_falseShare_59 : decode cX10_falseShare 59 = .ok (.istore 8, 2) := by decide +kernel
theorem dX10_falseShare_61 : decode cX10_falseShare 61 = .ok (.lconst 0, 1) := by decide +kernel
theorem dX10_falseShare_62 : decode cX10_falseShare 62 = .ok (.lstore 9, 2) := by decide +kernel
theorem dX10_falseShare_64 : decode cX10_falseShare 64 = .ok (.iconst 0, 1) := by decide +kernel
theorem dX10_falseShare_65 : decode cX10_falseShare 65 = .ok (.istore 11, 2) := by decide +kernel
theorem dX10_falseShare_67 : decode cX10_falseShare 67 = .ok (.iload 11, 2) := by decide +kernel
theorem dX10_falseShare_69 : decode cX10_falseShare 69 = .ok (.iload 4, 2) := by decide +kernel
theorem dX10_falseShare_71 : decode cX10_falseShare 71 = .ok (.if_icmp .gt 96, 3) := by decide +kernel
theorem dX10_falseShare_74 : decode cX10_falseShare 74 = .ok (.iload 8, 2) := by decide +kernel
theorem dX10_falseShare_76 : decode cX10_falseShare 76 = .ok (.ifCond .lt 17, 3) := by decide +kernel
theorem dX10_falseShare_79 : decode cX10_falseShare 79 = .ok (.iload 11, 2) := by decide +kernel
theorem dX10_falseShare_81 : decode cX10_falseShare 81 = .ok (.iload_n 0, 1) := by decide +kernel
theorem dX10_falseShare_82 : decode cX10_falseShare 82 = .ok (.if_icmp .lt 7, 3) := by decide +kernel
theorem dX10_falseShare_85 : decode cX10_falseShare 85 = .ok (.iconst 1, 1) := by decide +kernel
theorem dX10_falseShare_86 : decode cX10_falseShare 86 = .ok (.goto 18, 3) := by decide +kernel
theorem dX10_falseShare_89 : decode cX10_falseShare 89 = .ok (.iconst 0, 1) := by decide +kernel
theorem dX10_falseShare_90 : decode cX10_falseShare 90 = .ok (.goto 14, 3) := by decide +kernel
theorem dX10_falseShare_93 : decode cX10_falseShare 93 = .ok (.iload 11, 2) := by decide +kernel
theorem dX10_falseShare_95 : decode cX10_falseShare 95 = .ok (.iload_n 0, 1) := by decide +kernel
theorem dX10_falseShare_96 : decode cX10_falseShare 96 = .ok (.if_icmp .gt 7, 3) := by decide +kernel
theorem dX10_falseShare_99 : decode cX10_falseShare 99 = .ok (.iconst 1, 1) := by decide +kernel
theorem dX10_falseShare_100 : decode cX10_falseShare 100 = .ok (.goto 4, 3) := by decide +kernel
theorem dX10_falseShare_103 : decode cX10_falseShare 103 = .ok (.iconst 0, 1) := by decide +kernel
theorem dX10_falseShare_104 : decode cX10_falseShare 104 = .ok (.istore 12, 2) := by decide +kernel
theorem dX10_falseShare_106 : decode cX10_falseShare 106 = .ok (.lload 9, 2) := by decide +kernel
theorem dX10_falseShare_108 : decode cX10_falseShare 108 = .ok (.iload 12, 2) := by decide +kernel
theorem dX10_falseShare_110 : decode cX10_falseShare 110 = .ok (.ifCond .eq 47, 3) := by decide +kernel
theorem dX10_falseShare_113 : decode cX10_falseShare 113 = .ok (.iload 11, 2) := by decide +kernel
theorem dX10_falseShare_115 : decode cX10_falseShare 115 = .ok (.iload 6, 2) := by decide +kernel
theorem dX10_falseShare_117 : decode cX10_falseShare 117 = .ok (.if_icmp .gt 40, 3) := by decide +kernel
theorem dX10_falseShare_120 : decode cX10_falseShare 120 = .ok (.iload 4, 2) := by decide +kernel
theorem dX10_falseShare_122 : decode cX10_falseShare 122 = .ok (.iload 11, 2) := by decide +kernel
theorem dX10_falseShare_124 : decode cX10_falseShare 124 = .ok (.isub, 1) := by decide +kernel
theorem dX10_falseShare_125 : decode cX10_falseShare 125 = .ok (.iload 7, 2) := by decide +kernel
theorem dX10_falseShare_127 : decode cX10_falseShare 127 = .ok (.iload 6, 2) := by decide +kernel
theorem dX10_falseShare_129 : decode cX10_falseShare 129 = .ok (.isub, 1) := by decide +kernel
theorem dX10_falseShare_130 : decode cX10_falseShare 130 = .ok (.if_icmp .gt 27, 3) := by decide +kernel
theorem dX10_falseShare_133 : decode cX10_falseShare 133 = .ok (.iload 6, 2) := by decide +kernel
theorem dX10_falseShare_135 : decode cX10_falseShare 135 = .ok (.iload 11, 2) := by decide +kernel
theorem dX10_falseShare_137 : decode cX10_falseShare 137 = .ok (.invokestatic 163, 3) := by decide +kernel
theorem dX10_falseShare_140 : decode cX10_falseShare 140 = .ok (.iload 7, 2) := by decide +kernel
theorem dX10_falseShare_142 : decode cX10_falseShare 142 = .ok (.iload 6, 2) := by decide +kernel
theorem dX10_falseShare_144 : decode cX10_falseShare 144 = .ok (.isub, 1) := by decide +kernel
theorem dX10_falseShare_145 : decode cX10_falseShare 145 = .ok (.iload 4, 2) := by decide +kernel
theorem dX10_falseShare_147 : decode cX10_falseShare 147 = .ok (.iload 11, 2) := by decide +kernel
theorem dX10_falseShare_149 : decode cX10_falseShare 149 = .ok (.isub, 1) := by decide +kernel
theorem dX10_falseShare_150 : decode cX10_falseShare 150 = .ok (.invokestatic 163, 3) := by decide +kernel
theorem dX10_falseShare_153 : decode cX10_falseShare 153 = .ok (.lmul, 1) := by decide +kernel
theorem dX10_falseShare_154 : decode cX10_falseShare 154 = .ok (.goto 4, 3) := by decide +kernel
theorem dX10_falseShare_157 : decode cX10_falseShare 157 = .ok (.lconst 0, 1) := by decide +kernel
theorem dX10_falseShare_158 : decode cX10_falseShare 158 = .ok (.ladd, 1) := by decide +kernel
theorem dX10_falseShare_159 : decode cX10_falseShare 159 = .ok (.lstore 9, 2) := by decide +kernel
theorem dX10_falseShare_161 : decode cX10_falseShare 161 = .ok (.iinc 11 1, 3) := by decide +kernel
theorem dX10_falseShare_164 : decode cX10_falseShare 164 = .ok (.goto (-97), 3) := by decide +kernel
theorem dX10_falseShare_167 : decode cX10_falseShare 167 = .ok (.iload 7, 2) := by decide +kernel
theorem dX10_falseShare_169 : decode cX10_falseShare 169 = .ok (.iload 4, 2) := by decide +kernel
theorem dX10_falseShare_171 : decode cX10_falseShare 171 = .ok (.invokestatic 163, 3) := by decide +kernel
theorem dX10_falseShare_174 : decode cX10_falseShare 174 = .ok (.lstore 11, 2) := by decide +kernel
theorem dX10_falseShare_176 : decode cX10_falseShare 176 = .ok (.iconst 0, 1) := by decide +kernel
theorem dX10_falseShare_177 : decode cX10_falseShare 177 = .ok (.istore 13, 2) := by decide +kernel
theorem dX10_falseShare_179 : decode cX10_falseShare 179 = .ok (.iconst 0, 1) := by decide +kernel
theorem dX10_falseShare_180 : decode cX10_falseShare 180 = .ok (.istore 14, 2) := by decide +kernel
theorem dX10_falseShare_182 : decode cX10_falseShare 182 = .ok (.iload 14, 2) := by decide +kernel
theorem dX10_falseShare_184 : decode cX10_falseShare 184 = .ok (.bipush 6, 2) := by decide +kernel
theorem dX10_falseShare_186 : decode cX10_falseShare 186 = .ok (.if_icmp .ge 38, 3) := by decide +kernel
theorem dX10_falseShare_189 : decode cX10_falseShare 189 = .ok (.lload 9, 2) := by decide +kernel
theorem dX10_falseShare_191 : decode cX10_falseShare 191 = .ok (.ldc2_w 178, 3) := by decide +kernel
theorem dX10_falseShare_194 : decode cX10_falseShare 194 = .ok (.lmul, 1) := by decide +kernel
theorem dX10_falseShare_195 : decode cX10_falseShare 195 = .ok (.lstore 9, 2) := by decide +kernel
theorem dX10_falseShare_197 : decode cX10_falseShare 197 = .ok (.bipush 10, 2) := by decide +kernel
theorem dX10_falseShare_199 : decode cX10_falseShare 199 = .ok (.iload 13, 2) := by decide +kernel
theorem dX10_falseShare_201 : decode cX10_falseShare 201 = .ok (.imul, 1) := by decide +kernel
theorem dX10_falseShare_202 : decode cX10_falseShare 202 = .ok (.lload 9, 2) := by decide +kernel
theorem dX10_falseShare_204 : decode cX10_falseShare 204 = .ok (.lload 11, 2) := by decide +kernel
theorem dX10_falseShare_206 : decode cX10_falseShare 206 = .ok (.ldiv, 1) := by decide +kernel
theorem dX10_falseShare_207 : decode cX10_falseShare 207 = .ok (.l2i, 1) := by decide +kernel
theorem dX10_falseShare_208 : decode cX10_falseShare 208 = .ok (.iadd, 1) := by decide +kernel
theorem dX10_falseShare_209 : decode cX10_falseShare 209 = .ok (.istore 13, 2) := by decide +kernel
theorem dX10_falseShare_211 : decode cX10_falseShare 211 = .ok (.lload 9, 2) := by decide +kernel
theorem dX10_falseShare_213 : decode cX10_falseShare 213 = .ok (.lload 11, 2) := by decide +kernel
theorem dX10_falseShare_215 : decode cX10_falseShare 215 = .ok (.lrem, 1) := by decide +kernel
theorem dX10_falseShare_216 : decode cX10_falseShare 216 = .ok (.lstore 9, 2) := by decide +kernel
theorem dX10_falseShare_218 : decode cX10_falseShare 218 = .ok (.iinc 14 1, 3) := by decide +kernel
theorem dX10_falseShare_221 : decode cX10_falseShare 221 = .ok (.goto (-39), 3) := by decide +kernel
theorem dX10_falseShare_224 : decode cX10_falseShare 224 = .ok (.iload 13, 2) := by decide +kernel
theorem dX10_falseShare_226 : decode cX10_falseShare 226 = .ok (.ireturn, 1) := by decide +kernel
theorem dX10_doubt_0 : decode cX10_doubt 0 = .ok (.iload_n 1, 1) := by decide +kernel
theorem dX10_doubt_1 : decode cX10_doubt 1 = .ok (.iconst 0, 1) := by decide +kernel
theorem dX10_doubt_2 : decode cX10_doubt 2 = .ok (.bipush 15, 2) := by decide +kernel
theorem dX10_doubt_4 : decode cX10_doubt 4 = .ok (.invokestatic 75, 3) := by decide +kernel
theorem dX10_doubt_7 : decode cX10_doubt 7 = .ok (.ifCond .eq 45, 3) := by decide +kernel
theorem dX10_doubt_10 : decode cX10_doubt 10 = .ok (.iload_n 2, 1) := by decide +kernel
theorem dX10_doubt_11 : decode cX10_doubt 11 = .ok (.iconst 0, 1) := by decide +kernel
theorem dX10_doubt_12 : decode cX10_doubt 12 = .ok (.bipush 15, 2) := by decide +kernel
theorem dX10_doubt_14 : decode cX10_doubt 14 = .ok (.invokestatic 75, 3) := by decide +kernel
theorem dX10_doubt_17 : decode cX10_doubt 17 = .ok (.ifCond .eq 35, 3) := by decide +kernel
theorem dX10_doubt_20 : decode cX10_doubt 20 = .ok (.iload_n 3, 1) := by decide +kernel
theorem dX10_doubt_21 : decode cX10_doubt 21 = .ok (.iconst 0, 1) := by decide +kernel
theorem dX10_doubt_22 : decode cX10_doubt 22 = .ok (.bipush 15, 2) := by decide +kernel
theorem dX10_doubt_24 : decode cX10_doubt 24 = .ok (.invokestatic 75, 3) := by decide +kernel
theorem dX10_doubt_27 : decode cX10_doubt 27 = .ok (.ifCond .eq 25, 3) := by decide +kernel
theorem dX10_doubt_30 : decode cX10_doubt 30 = .ok (.iload 4, 2) := by decide +kernel
theorem dX10_doubt_32 : decode cX10_doubt 32 = .ok (.iconst 0, 1) := by decide +kernel
theorem dX10_doubt_33 : decode cX10_doubt 33 = .ok (.bipush 15, 2) := by decide +kernel
theorem dX10_doubt_35 : decode cX10_doubt 35 = .ok (.invokestatic 75, 3) := by decide +kernel
theorem dX10_doubt_38 : decode cX10_doubt 38 = .ok (.ifCond .eq 14, 3) := by decide +kernel
theorem dX10_doubt_41 : decode cX10_doubt 41 = .ok (.iload_n 1, 1) := by decide +kernel
theorem dX10_doubt_42 : decode cX10_doubt 42 = .ok (.iload_n 2, 1) := by decide +kernel
theorem dX10_doubt_43 : decode cX10_doubt 43 = .ok (.iload_n 3, 1) := by decide +kernel
theorem dX10_doubt_44 : decode cX10_doubt 44 = .ok (.iload 4, 2) := by decide +kernel
theorem dX10_doubt_46 : decode cX10_doubt 46 = .ok (.invokestatic 180, 3) := by decide +kernel
theorem dX10_doubt_49 : decode cX10_doubt 49 = .ok (.goto 5, 3) := by decide +kernel
theorem dX10_doubt_52 : decode cX10_doubt 52 = .ok (.bipush (-2), 2) := by decide +kernel
theorem dX10_doubt_54 : decode cX10_doubt 54 = .ok (.ireturn, 1) := by decide +kernel
theorem dX10_morning_0 : decode cX10_morning 0 = .ok (.iload_n 2, 1) := by decide +kernel
theorem dX10_morning_1 : decode cX10_morning 1 = .ok (.iconst 0, 1) := by decide +kernel
theorem dX10_morning_2 : decode cX10_morning 2 = .ok (.iconst 4, 1) := by decide +kernel
theorem dX10_morning_3 : decode cX10_morning 3 = .ok (.invokestatic 75, 3) := by decide +kernel
theorem dX10_morning_6 : decode cX10_morning 6 = .ok (.ifCond .ne 6, 3) := by decide +kernel
theorem dX10_morning_9 : decode cX10_morning 9 = .ok (.bipush (-2), 2) := by decide +kernel
theorem dX10_morning_11 : decode cX10_morning 11 = .ok (.ireturn, 1) := by decide +kernel
theorem dX10_morning_12 : decode cX10_morning 12 = .ok (.aload_n 0, 1) := by decide +kernel
theorem dX10_morning_13 : decode cX10_morning 13 = .ok (.iload_n 1, 1) := by decide +kernel
theorem dX10_morning_14 : decode cX10_morning 14 = .ok (.invokevirtual 121, 3) := by decide +kernel
theorem dX10_morning_17 : decode cX10_morning 17 = .ok (.istore_n 3, 1) := by decide +kernel
theorem dX10_morning_18 : decode cX10_morning 18 = .ok (.iload_n 3, 1) := by decide +kernel
theorem dX10_morning_19 : decode cX10_morning 19 = .ok (.ifCond .eq 5, 3) := by decide +kernel
theorem dX10_morning_22 : decode cX10_morning 22 = .ok (.iload_n 3, 1) := by decide +kernel
theorem dX10_morning_23 : decode cX10_morning 23 = .ok (.ireturn, 1) := by decide +kernel
theorem dX10_morning_24 : decode cX10_morning 24 = .ok (.iconst 0, 1) := by decide +kernel
theorem dX10_morning_25 : decode cX10_morning 25 = .ok (.istore 4, 2) := by decide +kernel
theorem dX10_morning_27 : decode cX10_morning 27 = .ok (.iload 4, 2) := by decide +kernel
theorem dX10_morning_29 : decode cX10_morning 29 = .ok (.iconst 4, 1) := by decide +kernel
theorem dX10_morning_30 : decode cX10_morning 30 = .ok (.if_icmp .ge 17, 3) := by decide +kernel
theorem dX10_morning_33 : decode cX10_morning 33 = .ok (.aload_n 0, 1) := by decide +kernel
theorem dX10_morning_34 : decode cX10_morning 34 = .ok (.getfield 35, 3) := by decide +kernel
theorem dX10_morning_37 : decode cX10_morning 37 = .ok (.iload 4, 2) := by decide +kernel
theorem dX10_morning_39 : decode cX10_morning 39 = .ok (.iconst 0, 1) := by decide +kernel
theorem dX10_morning_40 : decode cX10_morning 40 = .ok (.iastore, 1) := by decide +kernel
theorem dX10_morning_41 : decode cX10_morning 41 = .ok (.iinc 4 1, 3) := by decide +kernel
theorem dX10_morning_44 : decode cX10_morning 44 = .ok (.goto (-17), 3) := by decide +kernel
theorem dX10_morning_47 : decode cX10_morning 47 = .ok (.iconst 0, 1) := by decide +kernel
theorem dX10_morning_48 : decode cX10_morning 48 = .ok (.istore 4, 2) := by decide +kernel
theorem dX10_morning_50 : decode cX10_morning 50 = .ok (.iload 4, 2) := by decide +kernel
theorem dX10_morning_52 : decode cX10_morning 52 = .ok (.aload_n 0, 1) := by decide +kernel
theorem dX10_morning_53 : decode cX10_morning 53 = .ok (.getfield 72, 3) := by decide +kernel
theorem dX10_morning_56 : decode cX10_morning 56 = .ok (.if_icmp .ge 69, 3) := by decide +kernel
theorem dX10_morning_59 : decode cX10_morning 59 = .ok (.aload_n 0, 1) := by decide +kernel
theorem dX10_morning_60 : decode cX10_morning 60 = .ok (.getfield 13, 3) := by decide +kernel
theorem dX10_morning_63 : decode cX10_morning 63 = .ok (.iload 4, 2) := by decide +kernel
theorem dX10_morning_65 : decode cX10_morning 65 = .ok (.iaload, 1) := by decide +kernel
theorem dX10_morning_66 : decode cX10_morning 66 = .ok (.istore 5, 2) := by decide +kernel
theorem dX10_morning_68 : decode cX10_morning 68 = .ok (.aload_n 0, 1) := by decide +kernel
theorem dX10_morning_69 : decode cX10_morning 69 = .ok (.iload 5, 2) := by decide +kernel
theorem dX10_morning_71 : decode cX10_morning 71 = .ok (.iload_n 1, 1) := by decide +kernel
theorem dX10_morning_72 : decode cX10_morning 72 = .ok (.invokevirtual 88, 3) := by decide +kernel
theorem dX10_morning_75 : decode cX10_morning 75 = .ok (.ifCond .le 44, 3) := by decide +kernel
theorem dX10_morning_78 : decode cX10_morning 78 = .ok (.aload_n 0, 1) := by decide +kernel
theorem dX10_morning_79 : decode cX10_morning 79 = .ok (.getfield 35, 3) := by decide +kernel
theorem dX10_morning_82 : decode cX10_morning 82 = .ok (.iload 4, 2) := by decide +kernel
theorem dX10_morning_84 : decode cX10_morning 84 = .ok (.aload_n 0, 1) := by decide +kernel
theorem dX10_morning_85 : decode cX10_morning 85 = .ok (.getfield 72, 3) := by decide +kernel
theorem dX10_morning_88 : decode cX10_morning 88 = .ok (.iconst 2, 1) := by decide +kernel
theorem dX10_morning_89 : decode cX10_morning 89 = .ok (.idiv, 1) := by decide +kernel
theorem dX10_morning_90 : decode cX10_morning 90 = .ok (.if_icmp .ge 7, 3) := by decide +kernel
theorem dX10_morning_93 : decode cX10_morning 93 = .ok (.iconst 0, 1) := by decide +kernel
theorem dX10_morning_94 : decode cX10_morning 94 = .ok (.goto 4, 3) := by decide +kernel
theorem dX10_morning_97 : decode cX10_morning 97 = .ok (.iconst 2, 1) := by decide +kernel
theorem dX10_morning_98 : decode cX10_morning 98 = .ok (.aload_n 0, 1) := by decide +kernel
theorem dX10_morning_99 : decode cX10_morning 99 = .ok (.iload 5, 2) := by decide +kernel
theorem dX10_morning_101 : decode cX10_morning 101 = .ok (.iload_n 1, 1) := by decide +kernel
theorem dX10_morning_102 : decode cX10_morning 102 = .ok (.invokevirtual 130, 3) := by decide +kernel
theorem dX10_morning_105 : decode cX10_morning 105 = .ok (.ifCond .eq 7, 3) := by decide +kernel
theorem dX10_morning_108 : decode cX10_morning 108 = .ok (.iconst 0, 1) := by decide +kernel
theorem dX10_morning_109 : decode cX10_morning 109 = .ok (.goto 4, 3) := by decide +kernel
theorem dX10_morning_112 : decode cX10_morning 112 = .ok (.iconst 1, 1) := by decide +kernel
theorem dX10_morning_113 : decode cX10_morning 113 = .ok (.iadd, 1) := by decide +kernel
theorem dX10_morning_114 : decode cX10_morning 114 = .ok (.dup2, 1) := by decide +kernel
theorem dX10_morning_115 : decode cX10_morning 115 = .ok (.iaload, 1) := by decide +kernel
theorem dX10_morning_116 : decode cX10_morning 116 = .ok (.iconst 1, 1) := by decide +kernel
theorem dX10_morning_117 : decode cX10_morning 117 = .ok (.iadd, 1) := by decide +kernel
theorem dX10_morning_118 : decode cX10_morning 118 = .ok (.iastore, 1) := by decide +kernel
theorem dX10_morning_119 : decode cX10_morning 119 = .ok (.iinc 4 1, 3) := by decide +kernel
theorem dX10_morning_122 : decode cX10_morning 122 = .ok (.goto (-72), 3) := by decide +kernel
theorem dX10_morning_125 : decode cX10_morning 125 = .ok (.iload_n 2, 1) := by decide +kernel
theorem dX10_morning_126 : decode cX10_morning 126 = .ok (.iconst 4, 1) := by decide +kernel
theorem dX10_morning_127 : decode cX10_morning 127 = .ok (.if_icmp .ne 33, 3) := by decide +kernel
theorem dX10_morning_130 : decode cX10_morning 130 = .ok (.aload_n 0, 1) := by decide +kernel
theorem dX10_morning_131 : decode cX10_morning 131 = .ok (.getfield 35, 3) := by decide +kernel
theorem dX10_morning_134 : decode cX10_morning 134 = .ok (.iconst 0, 1) := by decide +kernel
theorem dX10_morning_135 : decode cX10_morning 135 = .ok (.iaload, 1) := by decide +kernel
theorem dX10_morning_136 : decode cX10_morning 136 = .ok (.aload_n 0, 1) := by decide +kernel
theorem dX10_morning_137 : decode cX10_morning 137 = .ok (.getfield 35, 3) := by decide +kernel
theorem dX10_morning_140 : decode cX10_morning 140 = .ok (.iconst 1, 1) := by decide +kernel
theorem dX10_morning_141 : decode cX10_morning 141 = .ok (.iaload, 1) := by decide +kernel
theorem dX10_morning_142 : decode cX10_morning 142 = .ok (.aload_n 0, 1) := by decide +kernel
theorem dX10_morning_143 : decode cX10_morning 143 = .ok (.getfield 35, 3) := by decide +kernel
theorem dX10_morning_146 : decode cX10_morning 146 = .ok (.iconst 2, 1) := by decide +kernel
theorem dX10_morning_147 : decode cX10_morning 147 = .ok (.iaload, 1) := by decide +kernel
theorem dX10_morning_148 : decode cX10_morning 148 = .ok (.aload_n 0, 1) := by decide +kernel
theorem dX10_morning_149 : decode cX10_morning 149 = .ok (.getfield 35, 3) := by decide +kernel
theorem dX10_morning_152 : decode cX10_morning 152 = .ok (.iconst 3, 1) := by decide +kernel
theorem dX10_morning_153 : decode cX10_morning 153 = .ok (.iaload, 1) := by decide +kernel
theorem dX10_morning_154 : decode cX10_morning 154 = .ok (.invokestatic 180, 3) := by decide +kernel
theorem dX10_morning_157 : decode cX10_morning 157 = .ok (.goto 9, 3) := by decide +kernel
theorem dX10_morning_160 : decode cX10_morning 160 = .ok (.aload_n 0, 1) := by decide +kernel
theorem dX10_morning_161 : decode cX10_morning 161 = .ok (.getfield 35, 3) := by decide +kernel
theorem dX10_morning_164 : decode cX10_morning 164 = .ok (.iload_n 2, 1) := by decide +kernel
theorem dX10_morning_165 : decode cX10_morning 165 = .ok (.iaload, 1) := by decide +kernel
theorem dX10_morning_166 : decode cX10_morning 166 = .ok (.ireturn, 1) := by decide +kernel
theorem dX10_trial_0 : decode cX10_trial 0 = .ok (.aload_n 0, 1) := by decide +kernel
theorem dX10_trial_1 : decode cX10_trial 1 = .ok (.iload_n 1, 1) := by decide +kernel
theorem dX10_trial_2 : decode cX10_trial 2 = .ok (.invokevirtual 84, 3) := by decide +kernel
theorem dX10_trial_5 : decode cX10_trial 5 = .ok (.ifCond .ne 6, 3) := by decide +kernel
theorem dX10_trial_8 : decode cX10_trial 8 = .ok (.bipush (-2), 2) := by decide +kernel
theorem dX10_trial_10 : decode cX10_trial 10 = .ok (.ireturn, 1) := by decide +kernel
theorem dX10_trial_11 : decode cX10_trial 11 = .ok (.iconst 0, 1) := by decide +kernel
theorem dX10_trial_12 : decode cX10_trial 12 = .ok (.istore_n 2, 1) := by decide +kernel
theorem dX10_trial_13 : decode cX10_trial 13 = .ok (.iload_n 2, 1) := by decide +kernel
theorem dX10_trial_14 : decode cX10_trial 14 = .ok (.aload_n 0, 1) := by decide +kernel
theorem dX10_trial_15 : decode cX10_trial 15 = .ok (.getfield 184, 3) := by decide +kernel
theorem dX10_trial_18 : decode cX10_trial 18 = .ok (.if_icmp .ge 22, 3) := by decide +kernel
theorem dX10_trial_21 : decode cX10_trial 21 = .ok (.aload_n 0, 1) := by decide +kernel
theorem dX10_trial_22 : decode cX10_trial 22 = .ok (.getfield 38, 3) := by decide +kernel
theorem dX10_trial_25 : decode cX10_trial 25 = .ok (.iload_n 2, 1) := by decide +kernel
theorem dX10_trial_26 : decode cX10_trial 26 = .ok (.iaload, 1) := by decide +kernel
theorem dX10_trial_27 : decode cX10_trial 27 = .ok (.iload_n 1, 1) := by decide +kernel
theorem dX10_trial_28 : decode cX10_trial 28 = .ok (.if_icmp .ne 6, 3) := by decide +kernel
theorem dX10_trial_31 : decode cX10_trial 31 = .ok (.bipush (-3), 2) := by decide +kernel
theorem dX10_trial_33 : decode cX10_trial 33 = .ok (.ireturn, 1) := by decide +kernel
theorem dX10_trial_34 : decode cX10_trial 34 = .ok (.iinc 2 1, 3) := by decide +kernel
theorem dX10_trial_37 : decode cX10_trial 37 = .ok (.goto (-24), 3) := by decide +kernel
theorem dX10_trial_40 : decode cX10_trial 40 = .ok (.aload_n 0, 1) := by decide +kernel
theorem dX10_trial_41 : decode cX10_trial 41 = .ok (.getfield 184, 3) := by decide +kernel
theorem dX10_trial_44 : decode cX10_trial 44 = .ok (.bipush 6, 2) := by decide +kernel
theorem dX10_trial_46 : decode cX10_trial 46 = .ok (.if_icmp .ne 6, 3) := by decide +kernel
theorem dX10_trial_49 : decode cX10_trial 49 = .ok (.bipush (-4), 2) := by decide +kernel
theorem dX10_trial_51 : decode cX10_trial 51 = .ok (.ireturn, 1) := by decide +kernel
theorem dX10_trial_52 : decode cX10_trial 52 = .ok (.aload_n 0, 1) := by decide +kernel
theorem dX10_trial_53 : decode cX10_trial 53 = .ok (.getfield 38, 3) := by decide +kernel
theorem dX10_trial_56 : decode cX10_trial 56 = .ok (.aload_n 0, 1) := by decide +kernel
theorem dX10_trial_57 : decode cX10_trial 57 = .ok (.getfield 184, 3) := by decide +kernel
theorem dX10_trial_60 : decode cX10_trial 60 = .ok (.iload_n 1, 1) := by decide +kernel
theorem dX10_trial_61 : decode cX10_trial 61 = .ok (.iastore, 1) := by decide +kernel
theorem dX10_trial_62 : decode cX10_trial 62 = .ok (.aload_n 0, 1) := by decide +kernel
theorem dX10_trial_63 : decode cX10_trial 63 = .ok (.dup, 1) := by decide +kernel
theorem dX10_trial_64 : decode cX10_trial 64 = .ok (.getfield 184, 3) := by decide +kernel
theorem dX10_trial_67 : decode cX10_trial 67 = .ok (.iconst 1, 1) := by decide +kernel
theorem dX10_trial_68 : decode cX10_trial 68 = .ok (.iadd, 1) := by decide +kernel
theorem dX10_trial_69 : decode cX10_trial 69 = .ok (.putfield 184, 3) := by decide +kernel
theorem dX10_trial_72 : decode cX10_trial 72 = .ok (.aload_n 0, 1) := by decide +kernel
theorem dX10_trial_73 : decode cX10_trial 73 = .ok (.getfield 184, 3) := by decide +kernel
theorem dX10_trial_76 : decode cX10_trial 76 = .ok (.iconst 1, 1) := by decide +kernel
theorem dX10_trial_77 : decode cX10_trial 77 = .ok (.isub, 1) := by decide +kernel
theorem dX10_trial_78 : decode cX10_trial 78 = .ok (.ireturn, 1) := by decide +kernel
theorem dX10_week_0 : decode cX10_week 0 = .ok (.iload_n 1, 1) := by decide +kernel
theorem dX10_week_1 : decode cX10_week 1 = .ok (.iconst 0, 1) := by decide +kernel
theorem dX10_week_2 : decode cX10_week 2 = .ok (.aload_n 0, 1) := by decide +kernel
theorem dX10_week_3 : decode cX10_week 3 = .ok (.getfield 184, 3) := by decide +kernel
theorem dX10_week_6 : decode cX10_week 6 = .ok (.iconst 1, 1) := by decide +kernel
theorem dX10_week_7 : decode cX10_week 7 = .ok (.isub, 1) := by decide +kernel
theorem dX10_week_8 : decode cX10_week 8 = .ok (.invokestatic 75, 3) := by decide +kernel
theorem dX10_week_11 : decode cX10_week 11 = .ok (.ifCond .eq 13, 3) := by decide +kernel
theorem dX10_week_14 : decode cX10_week 14 = .ok (.iload_n 2, 1) := by decide +kernel
theorem dX10_week_15 : decode cX10_week 15 = .ok (.iconst 0, 1) := by decide +kernel
theorem dX10_week_16 : decode cX10_week 16 = .ok (.bipush 20, 2) := by decide +kernel
theorem dX10_week_18 : decode cX10_week 18 = .ok (.invokestatic 75, 3) := by decide +kernel
theorem dX10_week_21 : decode cX10_week 21 = .ok (.ifCond .ne 6, 3) := by decide +kernel
theorem dX10_week_24 : decode cX10_week 24 = .ok (.bipush (-2), 2) := by decide +kernel
theorem dX10_week_26 : decode cX10_week 26 = .ok (.ireturn, 1) := by decide +kernel
theorem dX10_week_27 : decode cX10_week 27 = .ok (.aload_n 0, 1) := by decide +kernel
theorem dX10_week_28 : decode cX10_week 28 = .ok (.getfield 41, 3) := by decide +kernel
theorem dX10_week_31 : decode cX10_week 31 = .ok (.iload_n 1, 1) := by decide +kernel
theorem dX10_week_32 : decode cX10_week 32 = .ok (.iaload, 1) := by decide +kernel
theorem dX10_week_33 : decode cX10_week 33 = .ok (.bipush 10, 2) := by decide +kernel
theorem dX10_week_35 : decode cX10_week 35 = .ok (.if_icmp .ne 6, 3) := by decide +kernel
theorem dX10_week_38 : decode cX10_week 38 = .ok (.bipush (-4), 2) := by decide +kernel
theorem dX10_week_40 : decode cX10_week 40 = .ok (.ireturn, 1) := by decide +kernel
theorem dX10_week_41 : decode cX10_week 41 = .ok (.aload_n 0, 1) := by decide +kernel
theorem dX10_week_42 : decode cX10_week 42 = .ok (.getfield 44, 3) := by decide +kernel
theorem dX10_week_45 : decode cX10_week 45 = .ok (.bipush 10, 2) := by decide +kernel
theorem dX10_week_47 : decode cX10_week 47 = .ok (.iload_n 1, 1) := by decide +kernel
theorem dX10_week_48 : decode cX10_week 48 = .ok (.imul, 1) := by decide +kernel
theorem dX10_week_49 : decode cX10_week 49 = .ok (.aload_n 0, 1) := by decide +kernel
theorem dX10_week_50 : decode cX10_week 50 = .ok (.getfield 41, 3) := by decide +kernel
theorem dX10_week_53 : decode cX10_week 53 = .ok (.iload_n 1, 1) := by decide +kernel
theorem dX10_week_54 : decode cX10_week 54 = .ok (.iaload, 1) := by decide +kernel
theorem dX10_week_55 : decode cX10_week 55 = .ok (.iadd, 1) := by decide +kernel
theorem dX10_week_56 : decode cX10_week 56 = .ok (.iload_n 2, 1) := by decide +kernel
theorem dX10_week_57 : decode cX10_week 57 = .ok (.iastore, 1) := by decide +kernel
theorem dX10_week_58 : decode cX10_week 58 = .ok (.aload_n 0, 1) := by decide +kernel
theorem dX10_week_59 : decode cX10_week 59 = .ok (.getfield 41, 3) := by decide +kernel
theorem dX10_week_62 : decode cX10_week 62 = .ok (.iload_n 1, 1) := by decide +kernel
theorem dX10_week_63 : decode cX10_week 63 = .ok (.dup2, 1) := by decide +kernel
theorem dX10_week_64 : decode cX10_week 64 = .ok (.iaload, 1) := by decide +kernel
theorem dX10_week_65 : decode cX10_week 65 = .ok (.iconst 1, 1) := by decide +kernel
theorem dX10_week_66 : decode cX10_week 66 = .ok (.iadd, 1) := by decide +kernel
theorem dX10_week_67 : decode cX10_week 67 = .ok (.iastore, 1) := by decide +kernel
theorem dX10_week_68 : decode cX10_week 68 = .ok (.aload_n 0, 1) := by decide +kernel
theorem dX10_week_69 : decode cX10_week 69 = .ok (.getfield 41, 3) := by decide +kernel
theorem dX10_week_72 : decode cX10_week 72 = .ok (.iload_n 1, 1) := by decide +kernel
theorem dX10_week_73 : decode cX10_week 73 = .ok (.iaload, 1) := by decide +kernel
theorem dX10_week_74 : decode cX10_week 74 = .ok (.ireturn, 1) := by decide +kernel
theorem dX10_betterOf_0 : decode cX10_betterOf 0 = .ok (.iconst 0, 1) := by decide +kernel
theorem dX10_betterOf_1 : decode cX10_betterOf 1 = .ok (.istore_n 3, 1) := by decide +kernel
theorem dX10_betterOf_2 : decode cX10_betterOf 2 = .ok (.iconst 0, 1) := by decide +kernel
theorem dX10_betterOf_3 : decode cX10_betterOf 3 = .ok (.istore 4, 2) := by decide +kernel
theorem dX10_betterOf_5 : decode cX10_betterOf 5 = .ok (.iconst 0, 1) := by decide +kernel
theorem dX10_betterOf_6 : decode cX10_betterOf 6 = .ok (.istore 5, 2) := by decide +kernel
theorem dX10_betterOf_8 : decode cX10_betterOf 8 = .ok (.iload 5, 2) := by decide +kernel
theorem dX10_betterOf_10 : decode cX10_betterOf 10 = .ok (.aload_n 0, 1) := by decide +kernel
theorem dX10_betterOf_11 : decode cX10_betterOf 11 = .ok (.getfield 41, 3) := by decide +kernel
theorem dX10_betterOf_14 : decode cX10_betterOf 14 = .ok (.iload_n 1, 1) := by decide +kernel
theorem dX10_betterOf_15 : decode cX10_betterOf 15 = .ok (.iaload, 1) := by decide +kernel
theorem dX10_betterOf_16 : decode cX10_betterOf 16 = .ok (.if_icmp .ge 76, 3) := by decide +kernel
theorem dX10_betterOf_19 : decode cX10_betterOf 19 = .ok (.iload 5, 2) := by decide +kernel
theorem dX10_betterOf_21 : decode cX10_betterOf 21 = .ok (.aload_n 0, 1) := by decide +kernel
theorem dX10_betterOf_22 : decode cX10_betterOf 22 = .ok (.getfield 41, 3) := by decide +kernel
theorem dX10_betterOf_25 : decode cX10_betterOf 25 = .ok (.iload_n 2, 1) := by decide +kernel
theorem dX10_betterOf_26 : decode cX10_betterOf 26 = .ok (.iaload, 1) := by decide +kernel
theorem dX10_betterOf_27 : decode cX10_betterOf 27 = .ok (.if_icmp .ge 65, 3) := by decide +kernel
theorem dX10_betterOf_30 : decode cX10_betterOf 30 = .ok (.aload_n 0, 1) := by decide +kernel
theorem dX10_betterOf_31 : decode cX10_betterOf 31 = .ok (.getfield 44, 3) := by decide +kernel
theorem dX10_betterOf_34 : decode cX10_betterOf 34 = .ok (.bipush 10, 2) := by decide +kernel
theorem dX10_betterOf_36 : decode cX10_betterOf 36 = .ok (.iload_n 1, 1) := by decide +kernel
theorem dX10_betterOf_37 : decode cX10_betterOf 37 = .ok (.imul, 1) := by decide +kernel
theorem dX10_betterOf_38 : decode cX10_betterOf 38 = .ok (.iload 5, 2) := by decide +kernel
theorem dX10_betterOf_40 : decode cX10_betterOf 40 = .ok (.iadd, 1) := by decide +kernel
theorem dX10_betterOf_41 : decode cX10_betterOf 41 = .ok (.iaload, 1) := by decide +kernel
theorem dX10_betterOf_42 : decode cX10_betterOf 42 = .ok (.aload_n 0, 1) := by decide +kernel
theorem dX10_betterOf_43 : decode cX10_betterOf 43 = .ok (.getfield 44, 3) := by decide +kernel
theorem dX10_betterOf_46 : decode cX10_betterOf 46 = .ok (.bipush 10, 2) := by decide +kernel
theorem dX10_betterOf_48 : decode cX10_betterOf 48 = .ok (.iload_n 2, 1) := by decide +kernel
theorem dX10_betterOf_49 : decode cX10_betterOf 49 = .ok (.imul, 1) := by decide +kernel
theorem dX10_betterOf_50 : decode cX10_betterOf 50 = .ok (.iload 5, 2) := by decide +kernel
theorem dX10_betterOf_52 : decode cX10_betterOf 52 = .ok (.iadd, 1) := by decide +kernel
theorem dX10_betterOf_53 : decode cX10_betterOf 53 = .ok (.iaload, 1) := by decide +kernel
theorem dX10_betterOf_54 : decode cX10_betterOf 54 = .ok (.isub, 1) := by decide +kernel
theorem dX10_betterOf_55 : decode cX10_betterOf 55 = .ok (.istore 6, 2) := by decide +kernel
theorem dX10_betterOf_57 : decode cX10_betterOf 57 = .ok (.iload_n 3, 1) := by decide +kernel
theorem dX10_betterOf_58 : decode cX10_betterOf 58 = .ok (.iload 6, 2) := by decide +kernel
theorem dX10_betterOf_60 : decode cX10_betterOf 60 = .ok (.ifCond .le 7, 3) := by decide +kernel
theorem dX10_betterOf_63 : decode cX10_betterOf 63 = .ok (.iconst 1, 1) := by decide +kernel
theorem dX10_betterOf_64 : decode cX10_betterOf 64 = .ok (.goto 13, 3) := by decide +kernel
theorem dX10_betterOf_67 : decode cX10_betterOf 67 = .ok (.iload 6, 2) := by decide +kernel
theorem dX10_betterOf_69 : decode cX10_betterOf 69 = .ok (.ifCond .ge 7, 3) := by decide +kernel
theorem dX10_betterOf_72 : decode cX10_betterOf 72 = .ok (.iconst (-1), 1) := by decide +kernel
theorem dX10_betterOf_73 : decode cX10_betterOf 73 = .ok (.goto 4, 3) := by decide +kernel
theorem dX10_betterOf_76 : decode cX10_betterOf 76 = .ok (.iconst 0, 1) := by decide +kernel
theorem dX10_betterOf_77 : decode cX10_betterOf 77 = .ok (.iadd, 1) := by decide +kernel
theorem dX10_betterOf_78 : decode cX10_betterOf 78 = .ok (.istore_n 3, 1) := by decide +kernel
theorem dX10_betterOf_79 : decode cX10_betterOf 79 = .ok (.iload 4, 2) := by decide +kernel
theorem dX10_betterOf_81 : decode cX10_betterOf 81 = .ok (.iload 6, 2) := by decide +kernel
theorem dX10_betterOf_83 : decode cX10_betterOf 83 = .ok (.iadd, 1) := by decide +kernel
theorem dX10_betterOf_84 : decode cX10_betterOf 84 = .ok (.istore 4, 2) := by decide +kernel
theorem dX10_betterOf_86 : decode cX10_betterOf 86 = .ok (.iinc 5 1, 3) := by decide +kernel
theorem dX10_betterOf_89 : decode cX10_betterOf 89 = .ok (.goto (-81), 3) := by decide +kernel
theorem dX10_betterOf_92 : decode cX10_betterOf 92 = .ok (.iload_n 3, 1) := by decide +kernel
theorem dX10_betterOf_93 : decode cX10_betterOf 93 = .ok (.ifCond .eq 7, 3) := by decide +kernel
theorem dX10_betterOf_96 : decode cX10_betterOf 96 = .ok (.iload_n 3, 1) := by decide +kernel
theorem dX10_betterOf_97 : decode cX10_betterOf 97 = .ok (.goto 5, 3) := by decide +kernel
theorem dX10_betterOf_100 : decode cX10_betterOf 100 = .ok (.iload 4, 2) := by decide +kernel
theorem dX10_betterOf_102 : decode cX10_betterOf 102 = .ok (.istore 5, 2) := by decide +kernel
theorem dX10_betterOf_104 : decode cX10_betterOf 104 = .ok (.iload 5, 2) := by decide +kernel
theorem dX10_betterOf_106 : decode cX10_betterOf 106 = .ok (.ifCond .le 7, 3) := by decide +kernel
theorem dX10_betterOf_109 : decode cX10_betterOf 109 = .ok (.iconst 1, 1) := by decide +kernel
theorem dX10_betterOf_110 : decode cX10_betterOf 110 = .ok (.goto 13, 3) := by decide +kernel
theorem dX10_betterOf_113 : decode cX10_betterOf 113 = .ok (.iload 5, 2) := by decide +kernel
theorem dX10_betterOf_115 : decode cX10_betterOf 115 = .ok (.ifCond .ge 7, 3) := by decide +kernel
theorem dX10_betterOf_118 : decode cX10_betterOf 118 = .ok (.iconst 0, 1) := by decide +kernel
theorem dX10_betterOf_119 : decode cX10_betterOf 119 = .ok (.goto 4, 3) := by decide +kernel
theorem dX10_betterOf_122 : decode cX10_betterOf 122 = .ok (.iconst (-1), 1) := by decide +kernel
theorem dX10_betterOf_123 : decode cX10_betterOf 123 = .ok (.ireturn, 1) := by decide +kernel
theorem dX10_better_0 : decode cX10_better 0 = .ok (.iload_n 1, 1) := by decide +kernel
theorem dX10_better_1 : decode cX10_better 1 = .ok (.iconst 0, 1) := by decide +kernel
theorem dX10_better_2 : decode cX10_better 2 = .ok (.aload_n 0, 1) := by decide +kernel
theorem dX10_better_3 : decode cX10_better 3 = .ok (.getfield 184, 3) := by decide +kernel
theorem dX10_better_6 : decode cX10_better 6 = .ok (.iconst 1, 1) := by decide +kernel
theorem dX10_better_7 : decode cX10_better 7 = .ok (.isub, 1) := by decide +kernel
theorem dX10_better_8 : decode cX10_better 8 = .ok (.invokestatic 75, 3) := by decide +kernel
theorem dX10_better_11 : decode cX10_better 11 = .ok (.ifCond .eq 31, 3) := by decide +kernel
theorem dX10_better_14 : decode cX10_better 14 = .ok (.iload_n 2, 1) := by decide +kernel
theorem dX10_better_15 : decode cX10_better 15 = .ok (.iconst 0, 1) := by decide +kernel
theorem dX10_better_16 : decode cX10_better 16 = .ok (.aload_n 0, 1) := by decide +kernel
theorem dX10_better_17 : decode cX10_better 17 = .ok (.getfield 184, 3) := by decide +kernel
theorem dX10_better_20 : decode cX10_better 20 = .ok (.iconst 1, 1) := by decide +kernel
theorem dX10_better_21 : decode cX10_better 21 = .ok (.isub, 1) := by decide +kernel
theorem dX10_better_22 : decode cX10_better 22 = .ok (.invokestatic 75, 3) := by decide +kernel
theorem dX10_better_25 : decode cX10_better 25 = .ok (.ifCond .eq 17, 3) := by decide +kernel
theorem dX10_better_28 : decode cX10_better 28 = .ok (.iload_n 1, 1) := by decide +kernel
theorem dX10_better_29 : decode cX10_better 29 = .ok (.iload_n 2, 1) := by decide +kernel
theorem dX10_better_30 : decode cX10_better 30 = .ok (.if_icmp .eq 12, 3) := by decide +kernel
theorem dX10_better_33 : decode cX10_better 33 = .ok (.aload_n 0, 1) := by decide +kernel
theorem dX10_better_34 : decode cX10_better 34 = .ok (.iload_n 1, 1) := by decide +kernel
theorem dX10_better_35 : decode cX10_better 35 = .ok (.iload_n 2, 1) := by decide +kernel
theorem dX10_better_36 : decode cX10_better 36 = .ok (.invokevirtual 187, 3) := by decide +kernel
theorem dX10_better_39 : decode cX10_better 39 = .ok (.goto 5, 3) := by decide +kernel
theorem dX10_better_42 : decode cX10_better 42 = .ok (.bipush (-2), 2) := by decide +kernel
theorem dX10_better_44 : decode cX10_better 44 = .ok (.ireturn, 1) := by decide +kernel
theorem dX10_seat_0 : decode cX10_seat 0 = .ok (.iconst 0, 1) := by decide +kernel
theorem dX10_seat_1 : decode cX10_seat 1 = .ok (.istore_n 1, 1) := by decide +kernel
theorem dX10_seat_2 : decode cX10_seat 2 = .ok (.iload_n 1, 1) := by decide +kernel
theorem dX10_seat_3 : decode cX10_seat 3 = .ok (.aload_n 0, 1) := by decide +kernel
theorem dX10_seat_4 : decode cX10_seat 4 = .ok (.getfield 184, 3) := by decide +kernel
theorem dX10_seat_7 : decode cX10_seat 7 = .ok (.if_icmp .ge 61, 3) := by decide +kernel
theorem dX10_seat_10 : decode cX10_seat 10 = .ok (.iconst 1, 1) := by decide +kernel
theorem dX10_seat_11 : decode cX10_seat 11 = .ok (.istore_n 2, 1) := by decide +kernel
theorem dX10_seat_12 : decode cX10_seat 12 = .ok (.iconst 0, 1) := by decide +kernel
theorem dX10_seat_13 : decode cX10_seat 13 = .ok (.istore_n 3, 1) := by decide +kernel
theorem dX10_seat_14 : decode cX10_seat 14 = .ok (.iload_n 3, 1) := by decide +kernel
theorem dX10_seat_15 : decode cX10_seat 15 = .ok (.aload_n 0, 1) := by decide +kernel
theorem dX10_seat_16 : decode cX10_seat 16 = .ok (.getfield 184, 3) := by decide +kernel
theorem dX10_seat_19 : decode cX10_seat 19 = .ok (.if_icmp .ge 32, 3) := by decide +kernel
theorem dX10_seat_22 : decode cX10_seat 22 = .ok (.iload_n 2, 1) := by decide +kernel
theorem dX10_seat_23 : decode cX10_seat 23 = .ok (.iload_n 1, 1) := by decide +kernel
theorem dX10_seat_24 : decode cX10_seat 24 = .ok (.iload_n 3, 1) := by decide +kernel
theorem dX10_seat_25 : decode cX10_seat 25 = .ok (.if_icmp .eq 13, 3) := by decide +kernel
theorem dX10_seat_28 : decode cX10_seat 28 = .ok (.aload_n 0, 1) := by decide +kernel
theorem dX10_seat_29 : decode cX10_seat 29 = .ok (.iload_n 1, 1) := by decide +kernel
theorem dX10_seat_30 : decode cX10_seat 30 = .ok (.iload_n 3, 1) := by decide +kernel
theorem dX10_seat_31 : decode cX10_seat 31 = .ok (.invokevirtual 187, 3) := by decide +kernel
theorem dX10_seat_34 : decode cX10_seat 34 = .ok (.iconst 1, 1) := by decide +kernel
theorem dX10_seat_35 : decode cX10_seat 35 = .ok (.if_icmp .ne 7, 3) := by decide +kernel
theorem dX10_seat_38 : decode cX10_seat 38 = .ok (.iconst 1, 1) := by decide +kernel
theorem dX10_seat_39 : decode cX10_seat 39 = .ok (.goto 4, 3) := by decide +kernel
theorem dX10_seat_42 : decode cX10_seat 42 = .ok (.iconst 0, 1) := by decide +kernel
theorem dX10_seat_43 : decode cX10_seat 43 = .ok (.iand, 1) := by decide +kernel
theorem dX10_seat_44 : decode cX10_seat 44 = .ok (.istore_n 2, 1) := by decide +kernel
theorem dX10_seat_45 : decode cX10_seat 45 = .ok (.iinc 3 1, 3) := by decide +kernel
theorem dX10_seat_48 : decode cX10_seat 48 = .ok (.goto (-34), 3) := by decide +kernel
theorem dX10_seat_51 : decode cX10_seat 51 = .ok (.iload_n 2, 1) := by decide +kernel
theorem dX10_seat_52 : decode cX10_seat 52 = .ok (.ifCond .eq 10, 3) := by decide +kernel
theorem dX10_seat_55 : decode cX10_seat 55 = .ok (.aload_n 0, 1) := by decide +kernel
theorem dX10_seat_56 : decode cX10_seat 56 = .ok (.getfield 38, 3) := by decide +kernel
theorem dX10_seat_59 : decode cX10_seat 59 = .ok (.iload_n 1, 1) := by decide +kernel
theorem dX10_seat_60 : decode cX10_seat 60 = .ok (.iaload, 1) := by decide +kernel
theorem dX10_seat_61 : decode cX10_seat 61 = .ok (.ireturn, 1) := by decide +kernel
theorem dX10_seat_62 : decode cX10_seat 62 = .ok (.iinc 1 1, 3) := by decide +kernel
theorem dX10_seat_65 : decode cX10_seat 65 = .ok (.goto (-63), 3) := by decide +kernel
theorem dX10_seat_68 : decode cX10_seat 68 = .ok (.iconst (-1), 1) := by decide +kernel
theorem dX10_seat_69 : decode cX10_seat 69 = .ok (.ireturn, 1) := by decide +kernel
theorem dX10_hear_0 : decode cX10_hear 0 = .ok (.iload_n 1, 1) := by decide +kernel
theorem dX10_hear_1 : decode cX10_hear 1 = .ok (.iconst 0, 1) := by decide +kernel
theorem dX10_hear_2 : decode cX10_hear 2 = .ok (.ldc 190, 2) := by decide +kernel
theorem dX10_hear_4 : decode cX10_hear 4 = .ok (.invokestatic 75, 3) := by decide +kernel
theorem dX10_hear_7 : decode cX10_hear 7 = .ok (.ifCond .eq 22, 3) := by decide +kernel
theorem dX10_hear_10 : decode cX10_hear 10 = .ok (.iload_n 2, 1) := by decide +kernel
theorem dX10_hear_11 : decode cX10_hear 11 = .ok (.iconst 0, 1) := by decide +kernel
theorem dX10_hear_12 : decode cX10_hear 12 = .ok (.bipush 99, 2) := by decide +kernel
theorem dX10_hear_14 : decode cX10_hear 14 = .ok (.invokestatic 75, 3) := by decide +kernel
theorem dX10_hear_17 : decode cX10_hear 17 = .ok (.ifCond .eq 12, 3) := by decide +kernel
theorem dX10_hear_20 : decode cX10_hear 20 = .ok (.iload_n 3, 1) := by decide +kernel
theorem dX10_hear_21 : decode cX10_hear 21 = .ok (.iconst 0, 1) := by decide +kernel
theorem dX10_hear_22 : decode cX10_hear 22 = .ok (.iconst 4, 1) := by decide +kernel
theorem dX10_hear_23 : decode cX10_hear 23 = .ok (.invokestatic 75, 3) := by decide +kernel
theorem dX10_hear_26 : decode cX10_hear 26 = .ok (.ifCond .ne 6, 3) := by decide +kernel
theorem dX10_hear_29 : decode cX10_hear 29 = .ok (.bipush (-2), 2) := by decide +kernel
theorem dX10_hear_31 : decode cX10_hear 31 = .ok (.ireturn, 1) := by decide +kernel
theorem dX10_hear_32 : decode cX10_hear 32 = .ok (.aload_n 0, 1) := by decide +kernel
theorem dX10_hear_33 : decode cX10_hear 33 = .ok (.getfield 191, 3) := by decide +kernel
theorem dX10_hear_36 : decode cX10_hear 36 = .ok (.bipush 60, 2) := by decide +kernel
theorem dX10_hear_38 : decode cX10_hear 38 = .ok (.if_icmp .ne 6, 3) := by decide +kernel
theorem dX10_hear_41 : decode cX10_hear 41 = .ok (.bipush (-4), 2) := by decide +kernel
theorem dX10_hear_43 : decode cX10_hear 43 = .ok (.ireturn, 1) := by decide +kernel
theorem dX10_hear_44 : decode cX10_hear 44 = .ok (.aload_n 0, 1) := by decide +kernel
theorem dX10_hear_45 : decode cX10_hear 45 = .ok (.getfield 47, 3) := by decide +kernel
theorem dX10_hear_48 : decode cX10_hear 48 = .ok (.aload_n 0, 1) := by decide +kernel
theorem dX10_hear_49 : decode cX10_hear 49 = .ok (.getfield 191, 3) := by decide +kernel
theorem dX10_hear_52 : decode cX10_hear 52 = .ok (.iload_n 1, 1) := by decide +kernel
theorem dX10_hear_53 : decode cX10_hear 53 = .ok (.iastore, 1) := by decide +kernel
theorem dX10_hear_54 : decode cX10_hear 54 = .ok (.aload_n 0, 1) := by decide +kernel
theorem dX10_hear_55 : decode cX10_hear 55 = .ok (.getfield 50, 3) := by decide +kernel
theorem dX10_hear_58 : decode cX10_hear 58 = .ok (.aload_n 0, 1) := by decide +kernel
theorem dX10_hear_59 : decode cX10_hear 59 = .ok (.getfield 191, 3) := by decide +kernel
theorem dX10_hear_62 : decode cX10_hear 62 = .ok (.iload_n 2, 1) := by decide +kernel
theorem dX10_hear_63 : decode cX10_hear 63 = .ok (.iastore, 1) := by decide +kernel
theorem dX10_hear_64 : decode cX10_hear 64 = .ok (.aload_n 0, 1) := by decide +kernel
theorem dX10_hear_65 : decode cX10_hear 65 = .ok (.getfield 53, 3) := by decide +kernel
theorem dX10_hear_68 : decode cX10_hear 68 = .ok (.aload_n 0, 1) := by decide +kernel
theorem dX10_hear_69 : decode cX10_hear 69 = .ok (.getfield 191, 3) := by decide +kernel
theorem dX10_hear_72 : decode cX10_hear 72 = .ok (.iload_n 3, 1) := by decide +kernel
theorem dX10_hear_73 : decode cX10_hear 73 = .ok (.iastore, 1) := by decide +kernel
theorem dX10_hear_74 : decode cX10_hear 74 = .ok (.aload_n 0, 1) := by decide +kernel
theorem dX10_hear_75 : decode cX10_hear 75 = .ok (.dup, 1) := by decide +kernel
theorem dX10_hear_76 : decode cX10_hear 76 = .ok (.getfield 191, 3) := by decide +kernel
theorem dX10_hear_79 : decode cX10_hear 79 = .ok (.iconst 1, 1) := by decide +kernel
theorem dX10_hear_80 : decode cX10_hear 80 = .ok (.iadd, 1) := by decide +kernel
theorem dX10_hear_81 : decode cX10_hear 81 = .ok (.putfield 191, 3) := by decide +kernel
theorem dX10_hear_84 : decode cX10_hear 84 = .ok (.aload_n 0, 1) := by decide +kernel
theorem dX10_hear_85 : decode cX10_hear 85 = .ok (.getfield 191, 3) := by decide +kernel
theorem dX10_hear_88 : decode cX10_hear 88 = .ok (.ireturn, 1) := by decide +kernel
theorem dX10_known_0 : decode cX10_known 0 = .ok (.iload_n 1, 1) := by decide +kernel
theorem dX10_known_1 : decode cX10_known 1 = .ok (.iconst 0, 1) := by decide +kernel
theorem dX10_known_2 : decode cX10_known 2 = .ok (.ldc 190, 2) := by decide +kernel
theorem dX10_known_4 : decode cX10_known 4 = .ok (.invokestatic 75, 3) := by decide +kernel
theorem dX10_known_7 : decode cX10_known 7 = .ok (.ifCond .eq 12, 3) := by decide +kernel
theorem dX10_known_10 : decode cX10_known 10 = .ok (.iload_n 2, 1) := by decide +kernel
theorem dX10_known_11 : decode cX10_known 11 = .ok (.iconst 0, 1) := by decide +kernel
theorem dX10_known_12 : decode cX10_known 12 = .ok (.iconst 2, 1) := by decide +kernel
theorem dX10_known_13 : decode cX10_known 13 = .ok (.invokestatic 75, 3) := by decide +kernel
theorem dX10_known_16 : decode cX10_known 16 = .ok (.ifCond .ne 6, 3) := by decide +kernel
theorem dX10_known_19 : decode cX10_known 19 = .ok (.bipush (-2), 2) := by decide +kernel
theorem dX10_known_21 : decode cX10_known 21 = .ok (.ireturn, 1) := by decide +kernel
theorem dX10_known_22 : decode cX10_known 22 = .ok (.iconst 0, 1) := by decide +kernel
theorem dX10_known_23 : decode cX10_known 23 = .ok (.istore_n 3, 1) := by decide +kernel
theorem dX10_known_24 : decode cX10_known 24 = .ok (.iconst (-1), 1) := by decide +kernel
theorem dX10_known_25 : decode cX10_known 25 = .ok (.istore 4, 2) := by decide +kernel
theorem dX10_known_27 : decode cX10_known 27 = .ok (.iconst (-1), 1) := by decide +kernel
theorem dX10_known_28 : decode cX10_known 28 = .ok (.istore 5, 2) := by decide +kernel
theorem dX10_known_30 : decode cX10_known 30 = .ok (.iconst 0, 1) := by decide +kernel
theorem dX10_known_31 : decode cX10_known 31 = .ok (.istore 6, 2) := by decide +kernel
theorem dX10_known_33 : decode cX10_known 33 = .ok (.iload 6, 2) := by decide +kernel
theorem dX10_known_35 : decode cX10_known 35 = .ok (.aload_n 0, 1) := by decide +kernel
theorem dX10_known_36 : decode cX10_known 36 = .ok (.getfield 191, 3) := by decide +kernel
theorem dX10_known_39 : decode cX10_known 39 = .ok (.if_icmp .ge 75, 3) := by decide +kernel
theorem dX10_known_42 : decode cX10_known 42 = .ok (.aload_n 0, 1) := by decide +kernel
theorem dX10_known_43 : decode cX10_known 43 = .ok (.getfield 47, 3) := by decide +kernel
theorem dX10_known_46 : decode cX10_known 46 = .ok (.iload 6, 2) := by decide +kernel
theorem dX10_known_48 : decode cX10_known 48 = .ok (.iaload, 1) := by decide +kernel
theorem dX10_known_49 : decode cX10_known 49 = .ok (.iload_n 1, 1) := by decide +kernel
theorem dX10_known_50 : decode cX10_known 50 = .ok (.if_icmp .ne 58, 3) := by decide +kernel
theorem dX10_known_53 : decode cX10_known 53 = .ok (.iinc 3 1, 3) := by decide +kernel
theorem dX10_known_56 : decode cX10_known 56 = .ok (.aload_n 0, 1) := by decide +kernel
theorem dX10_known_57 : decode cX10_known 57 = .ok (.getfield 53, 3) := by decide +kernel
theorem dX10_known_60 : decode cX10_known 60 = .ok (.iload 6, 2) := by decide +kernel
theorem dX10_known_62 : decode cX10_known 62 = .ok (.iaload, 1) := by decide +kernel
theorem dX10_known_63 : decode cX10_known 63 = .ok (.iload 4, 2) := by decide +kernel
theorem dX10_known_65 : decode cX10_known 65 = .ok (.if_icmp .le 13, 3) := by decide +kernel
theorem dX10_known_68 : decode cX10_known 68 = .ok (.aload_n 0, 1) := by decide +kernel
theorem dX10_known_69 : decode cX10_known 69 = .ok (.getfield 53, 3) := by decide +kernel
theorem dX10_known_72 : decode cX10_known 72 = .ok (.iload 6, 2) := by decide +kernel
theorem dX10_known_74 : decode cX10_known 74 = .ok (.iaload, 1) := by decide +kernel
theorem dX10_known_75 : decode cX10_known 75 = .ok (.goto 5, 3) := by decide +kernel
theorem dX10_known_78 : decode cX10_known 78 = .ok (.iload 4, 2) := by decide +kernel
theorem dX10_known_80 : decode cX10_known 80 = .ok (.istore 4, 2) := by decide +kernel
theorem dX10_known_82 : decode cX10_known 82 = .ok (.aload_n 0, 1) := by decide +kernel
theorem dX10_known_83 : decode cX10_known 83 = .ok (.getfield 50, 3) := by decide +kernel
theorem dX10_known_86 : decode cX10_known 86 = .ok (.iload 6, 2) := by decide +kernel
theorem dX10_known_88 : decode cX10_known 88 = .ok (.iaload, 1) := by decide +kernel
theorem dX10_known_89 : decode cX10_known 89 = .ok (.iload 5, 2) := by decide +kernel
theorem dX10_known_91 : decode cX10_known 91 = .ok (.if_icmp .le 13, 3) := by decide +kernel
theorem dX10_known_94 : decode cX10_known 94 = .ok (.aload_n 0, 1) := by decide +kernel
theorem dX10_known_95 : decode cX10_known 95 = .ok (.getfield 50, 3) := by decide +kernel
theorem dX10_known_98 : decode cX10_known 98 = .ok (.iload 6, 2) := by decide +kernel
theorem dX10_known_100 : decode cX10_known 100 = .ok (.iaload, 1) := by decide +kernel
theorem dX10_known_101 : decode cX10_known 101 = .ok (.goto 5, 3) := by decide +kernel
theorem dX10_known_104 : decode cX10_known 104 = .ok (.iload 5, 2) := by decide +kernel
theorem dX10_known_106 : decode cX10_known 106 = .ok (.istore 5, 2) := by decide +kernel
theorem dX10_known_108 : decode cX10_known 108 = .ok (.iinc 6 1, 3) := by decide +kernel
theorem dX10_known_111 : decode cX10_known 111 = .ok (.goto (-78), 3) := by decide +kernel
theorem dX10_known_114 : decode cX10_known 114 = .ok (.iload_n 2, 1) := by decide +kernel
theorem dX10_known_115 : decode cX10_known 115 = .ok (.ifCond .ne 7, 3) := by decide +kernel
theorem dX10_known_118 : decode cX10_known 118 = .ok (.iload_n 3, 1) := by decide +kernel
theorem dX10_known_119 : decode cX10_known 119 = .ok (.goto 15, 3) := by decide +kernel
theorem dX10_known_122 : decode cX10_known 122 = .ok (.iload_n 2, 1) := by decide +kernel
theorem dX10_known_123 : decode cX10_known 123 = .ok (.iconst 1, 1) := by decide +kernel
theorem dX10_known_124 : decode cX10_known 124 = .ok (.if_icmp .ne 8, 3) := by decide +kernel
theorem dX10_known_127 : decode cX10_known 127 = .ok (.iload 4, 2) := by decide +kernel
theorem dX10_known_129 : decode cX10_known 129 = .ok (.goto 5, 3) := by decide +kernel
theorem dX10_known_132 : decode cX10_known 132 = .ok (.iload 5, 2) := by decide +kernel
theorem dX10_known_134 : decode cX10_known 134 = .ok (.ireturn, 1) := by decide +kernel
theorem dX10_meets_0 : decode cX10_meets 0 = .ok (.aload_n 0, 1) := by decide +kernel
theorem dX10_meets_1 : decode cX10_meets 1 = .ok (.iload_n 1, 1) := by decide +kernel
theorem dX10_meets_2 : decode cX10_meets 2 = .ok (.putfield 194, 3) := by decide +kernel
theorem dX10_meets_5 : decode cX10_meets 5 = .ok (.bipush (-10), 2) := by decide +kernel
theorem dX10_meets_7 : decode cX10_meets 7 = .ok (.iload_n 1, 1) := by decide +kernel
theorem dX10_meets_8 : decode cX10_meets 8 = .ok (.isub, 1) := by decide +kernel
theorem dX10_meets_9 : decode cX10_meets 9 = .ok (.ireturn, 1) := by decide +kernel
theorem dX10_isSheet_0 : decode cX10_isSheet 0 = .ok (.iload_n 0, 1) := by decide +kernel
theorem dX10_isSheet_1 : decode cX10_isSheet 1 = .ok (.iconst 0, 1) := by decide +kernel
theorem dX10_isSheet_2 : decode cX10_isSheet 2 = .ok (.iconst 3, 1) := by decide +kernel
theorem dX10_isSheet_3 : decode cX10_isSheet 3 = .ok (.invokestatic 75, 3) := by decide +kernel
theorem dX10_isSheet_6 : decode cX10_isSheet 6 = .ok (.ireturn, 1) := by decide +kernel
theorem dX10_sheet_0 : decode cX10_sheet 0 = .ok (.iload_n 1, 1) := by decide +kernel
theorem dX10_sheet_1 : decode cX10_sheet 1 = .ok (.invokestatic 197, 3) := by decide +kernel
theorem dX10_sheet_4 : decode cX10_sheet 4 = .ok (.ifCond .eq 19, 3) := by decide +kernel
theorem dX10_sheet_7 : decode cX10_sheet 7 = .ok (.iload_n 2, 1) := by decide +kernel
theorem dX10_sheet_8 : decode cX10_sheet 8 = .ok (.iconst 0, 1) := by decide +kernel
theorem dX10_sheet_9 : decode cX10_sheet 9 = .ok (.iconst 2, 1) := by decide +kernel
theorem dX10_sheet_10 : decode cX10_sheet 10 = .ok (.invokestatic 75, 3) := by decide +kernel
theorem dX10_sheet_13 : decode cX10_sheet 13 = .ok (.ifCond .eq 10, 3) := by decide +kernel
theorem dX10_sheet_16 : decode cX10_sheet 16 = .ok (.iload_n 3, 1) := by decide +kernel
theorem dX10_sheet_17 : decode cX10_sheet 17 = .ok (.sipush 240, 3) := by decide +kernel
theorem dX10_sheet_20 : decode cX10_sheet 20 = .ok (.if_icmp .le 6, 3) := by decide +kernel
theorem dX10_sheet_23 : decode cX10_sheet 23 = .ok (.bipush (-2), 2) := by decide +kernel
theorem dX10_sheet_25 : decode cX10_sheet 25 = .ok (.ireturn, 1) := by decide +kernel
theorem dX10_sheet_26 : decode cX10_sheet 26 = .ok (.iload_n 3, 1) := by decide +kernel
theorem dX10_sheet_27 : decode cX10_sheet 27 = .ok (.ifCond .ge 9, 3) := by decide +kernel
theorem dX10_sheet_30 : decode cX10_sheet 30 = .ok (.aload_n 0, 1) := by decide +kernel
theorem dX10_sheet_31 : decode cX10_sheet 31 = .ok (.iconst 5, 1) := by decide +kernel
theorem dX10_sheet_32 : decode cX10_sheet 32 = .ok (.invokevirtual 200, 3) := by decide +kernel
theorem dX10_sheet_35 : decode cX10_sheet 35 = .ok (.ireturn, 1) := by decide +kernel
theorem dX10_sheet_36 : decode cX10_sheet 36 = .ok (.aload_n 0, 1) := by decide +kernel
theorem dX10_sheet_37 : decode cX10_sheet 37 = .ok (.getfield 56, 3) := by decide +kernel
theorem dX10_sheet_40 : decode cX10_sheet 40 = .ok (.iload_n 1, 1) := by decide +kernel
theorem dX10_sheet_41 : decode cX10_sheet 41 = .ok (.iconst 1, 1) := by decide +kernel
theorem dX10_sheet_42 : decode cX10_sheet 42 = .ok (.bastore, 1) := by decide +kernel
theorem dX10_sheet_43 : decode cX10_sheet 43 = .ok (.aload_n 0, 1) := by decide +kernel
theorem dX10_sheet_44 : decode cX10_sheet 44 = .ok (.getfield 60, 3) := by decide +kernel
theorem dX10_sheet_47 : decode cX10_sheet 47 = .ok (.iload_n 1, 1) := by decide +kernel
theorem dX10_sheet_48 : decode cX10_sheet 48 = .ok (.iload_n 2, 1) := by decide +kernel
theorem dX10_sheet_49 : decode cX10_sheet 49 = .ok (.iastore, 1) := by decide +kernel
theorem dX10_sheet_50 : decode cX10_sheet 50 = .ok (.aload_n 0, 1) := by decide +kernel
theorem dX10_sheet_51 : decode cX10_sheet 51 = .ok (.getfield 63, 3) := by decide +kernel
theorem dX10_sheet_54 : decode cX10_sheet 54 = .ok (.iload_n 1, 1) := by decide +kernel
theorem dX10_sheet_55 : decode cX10_sheet 55 = .ok (.iload_n 3, 1) := by decide +kernel
theorem dX10_sheet_56 : decode cX10_sheet 56 = .ok (.iastore, 1) := by decide +kernel
theorem dX10_sheet_57 : decode cX10_sheet 57 = .ok (.iconst 0, 1) := by decide +kernel
theorem dX10_sheet_58 : decode cX10_sheet 58 = .ok (.istore 4, 2) := by decide +kernel
theorem dX10_sheet_60 : decode cX10_sheet 60 = .ok (.iload 4, 2) := by decide +kernel
theorem dX10_sheet_62 : decode cX10_sheet 62 = .ok (.sipush 240, 3) := by decide +kernel
theorem dX10_sheet_65 : decode cX10_sheet 65 = .ok (.if_icmp .ge 23, 3) := by decide +kernel
theorem dX10_sheet_68 : decode cX10_sheet 68 = .ok (.aload_n 0, 1) := by decide +kernel
theorem dX10_sheet_69 : decode cX10_sheet 69 = .ok (.getfield 66, 3) := by decide +kernel
theorem dX10_sheet_72 : decode cX10_sheet 72 = .ok (.sipush 240, 3) := by decide +kernel
theorem dX10_sheet_75 : decode cX10_sheet 75 = .ok (.iload_n 1, 1) := by decide +kernel
theorem dX10_sheet_76 : decode cX10_sheet 76 = .ok (.imul, 1) := by decide +kernel
theorem dX10_sheet_77 : decode cX10_sheet 77 = .ok (.iload 4, 2) := by decide +kernel
theorem dX10_sheet_79 : decode cX10_sheet 79 = .ok (.iadd, 1) := by decide +kernel
theorem dX10_sheet_80 : decode cX10_sheet 80 = .ok (.iconst 0, 1) := by decide +kernel
theorem dX10_sheet_81 : decode cX10_sheet 81 = .ok (.iastore, 1) := by decide +kernel
theorem dX10_sheet_82 : decode cX10_sheet 82 = .ok (.iinc 4 1, 3) := by decide +kernel
theorem dX10_sheet_85 : decode cX10_sheet 85 = .ok (.goto (-25), 3) := by decide +kernel
theorem dX10_sheet_88 : decode cX10_sheet 88 = .ok (.iload_n 3, 1) := by decide +kernel
theorem dX10_sheet_89 : decode cX10_sheet 89 = .ok (.ireturn, 1) := by decide +kernel
theorem dX10_lose_0 : decode cX10_lose 0 = .ok (.iload_n 1, 1) := by decide +kernel
theorem dX10_lose_1 : decode cX10_lose 1 = .ok (.invokestatic 197, 3) := by decide +kernel
theorem dX10_lose_4 : decode cX10_lose 4 = .ok (.ifCond .ne 6, 3) := by decide +kernel
theorem dX10_lose_7 : decode cX10_lose 7 = .ok (.bipush (-2), 2) := by decide +kernel
theorem dX10_lose_9 : decode cX10_lose 9 = .ok (.ireturn, 1) := by decide +kernel
theorem dX10_lose_10 : decode cX10_lose 10 = .ok (.aload_n 0, 1) := by decide +kernel
theorem dX10_lose_11 : decode cX10_lose 11 = .ok (.getfield 56, 3) := by decide +kernel
theorem dX10_lose_14 : decode cX10_lose 14 = .ok (.iload_n 1, 1) := by decide +kernel
theorem dX10_lose_15 : decode cX10_lose 15 = .ok (.baload, 1) := by decide +kernel
theorem dX10_lose_16 : decode cX10_lose 16 = .ok (.ifCond .ne 9, 3) := by decide +kernel
theorem dX10_lose_19 : decode cX10_lose 19 = .ok (.aload_n 0, 1) := by decide +kernel
theorem dX10_lose_20 : decode cX10_lose 20 = .ok (.iconst 1, 1) := by decide +kernel
theorem dX10_lose_21 : decode cX10_lose 21 = .ok (.invokevirtual 200, 3) := by decide +kernel
theorem dX10_lose_24 : decode cX10_lose 24 = .ok (.ireturn, 1) := by decide +kernel
theorem dX10_lose_25 : decode cX10_lose 25 = .ok (.aload_n 0, 1) := by decide +kernel
theorem dX10_lose_26 : decode cX10_lose 26 = .ok (.getfield 56, 3) := by decide +kernel
theorem dX10_lose_29 : decode cX10_lose 29 = .ok (.iload_n 1, 1) := by decide +kernel
theorem dX10_lose_30 : decode cX10_lose 30 = .ok (.iconst 0, 1) := by decide +kernel
theorem dX10_lose_31 : decode cX10_lose 31 = .ok (.bastore, 1) := by decide +kernel
theorem dX10_lose_32 : decode cX10_lose 32 = .ok (.aload_n 0, 1) := by decide +kernel
theorem dX10_lose_33 : decode cX10_lose 33 = .ok (.getfield 63, 3) := by decide +kernel
theorem dX10_lose_36 : decode cX10_lose 36 = .ok (.iload_n 1, 1) := by decide +kernel
theorem dX10_lose_37 : decode cX10_lose 37 = .ok (.iaload, 1) := by decide +kernel
theorem dX10_lose_38 : decode cX10_lose 38 = .ok (.ireturn, 1) := by decide +kernel
theorem dX10_lacks_0 : decode cX10_lacks 0 = .ok (.aload_n 0, 1) := by decide +kernel
theorem dX10_lacks_1 : decode cX10_lacks 1 = .ok (.getfield 56, 3) := by decide +kernel
theorem dX10_lacks_4 : decode cX10_lacks 4 = .ok (.iload_n 1, 1) := by decide +kernel
theorem dX10_lacks_5 : decode cX10_lacks 5 = .ok (.baload, 1) := by decide +kernel
theorem dX10_lacks_6 : decode cX10_lacks 6 = .ok (.ifCond .ne 7, 3) := by decide +kernel
theorem dX10_lacks_9 : decode cX10_lacks 9 = .ok (.iconst 1, 1) := by decide +kernel
theorem dX10_lacks_10 : decode cX10_lacks 10 = .ok (.goto 38, 3) := by decide +kernel
theorem dX10_lacks_13 : decode cX10_lacks 13 = .ok (.aload_n 0, 1) := by decide +kernel
theorem dX10_lacks_14 : decode cX10_lacks 14 = .ok (.getfield 60, 3) := by decide +kernel
theorem dX10_lacks_17 : decode cX10_lacks 17 = .ok (.iload_n 1, 1) := by decide +kernel
theorem dX10_lacks_18 : decode cX10_lacks 18 = .ok (.iaload, 1) := by decide +kernel
theorem dX10_lacks_19 : decode cX10_lacks 19 = .ok (.iload_n 2, 1) := by decide +kernel
theorem dX10_lacks_20 : decode cX10_lacks 20 = .ok (.if_icmp .eq 7, 3) := by decide +kernel
theorem dX10_lacks_23 : decode cX10_lacks 23 = .ok (.iconst 3, 1) := by decide +kernel
theorem dX10_lacks_24 : decode cX10_lacks 24 = .ok (.goto 24, 3) := by decide +kernel
theorem dX10_lacks_27 : decode cX10_lacks 27 = .ok (.iload_n 3, 1) := by decide +kernel
theorem dX10_lacks_28 : decode cX10_lacks 28 = .ok (.iconst 0, 1) := by decide +kernel
theorem dX10_lacks_29 : decode cX10_lacks 29 = .ok (.aload_n 0, 1) := by decide +kernel
theorem dX10_lacks_30 : decode cX10_lacks 30 = .ok (.getfield 63, 3) := by decide +kernel
theorem dX10_lacks_33 : decode cX10_lacks 33 = .ok (.iload_n 1, 1) := by decide +kernel
theorem dX10_lacks_34 : decode cX10_lacks 34 = .ok (.iaload, 1) := by decide +kernel
theorem dX10_lacks_35 : decode cX10_lacks 35 = .ok (.iconst 1, 1) := by decide +kernel
theorem dX10_lacks_36 : decode cX10_lacks 36 = .ok (.isub, 1) := by decide +kernel
theorem dX10_lacks_37 : decode cX10_lacks 37 = .ok (.invokestatic 75, 3) := by decide +kernel
theorem dX10_lacks_40 : decode cX10_lacks 40 = .ok (.ifCond .eq 7, 3) := by decide +kernel
theorem dX10_lacks_43 : decode cX10_lacks 43 = .ok (.iconst 0, 1) := by decide +kernel
theorem dX10_lacks_44 : decode cX10_lacks 44 = .ok (.goto 4, 3) := by decide +kernel
theorem dX10_lacks_47 : decode cX10_lacks 47 = .ok (.iconst 2, 1) := by decide +kernel
theorem dX10_lacks_48 : decode cX10_lacks 48 = .ok (.ireturn, 1) := by decide +kernel
theorem dX10_put_0 : decode cX10_put 0 = .ok (.iload_n 1, 1) := by decide +kernel
theorem dX10_put_1 : decode cX10_put 1 = .ok (.invokestatic 197, 3) := by decide +kernel
theorem dX10_put_4 : decode cX10_put 4 = .ok (.ifCond .eq 12, 3) := by decide +kernel
theorem dX10_put_7 : decode cX10_put 7 = .ok (.iload_n 2, 1) := by decide +kernel
theorem dX10_put_8 : decode cX10_put 8 = .ok (.iconst 0, 1) := by decide +kernel
theorem dX10_put_9 : decode cX10_put 9 = .ok (.iconst 2, 1) := by decide +kernel
theorem dX10_put_10 : decode cX10_put 10 = .ok (.invokestatic 75, 3) := by decide +kernel
theorem dX10_put_13 : decode cX10_put 13 = .ok (.ifCond .ne 6, 3) := by decide +kernel
theorem dX10_put_16 : decode cX10_put 16 = .ok (.bipush (-2), 2) := by decide +kernel
theorem dX10_put_18 : decode cX10_put 18 = .ok (.ireturn, 1) := by decide +kernel
theorem dX10_put_19 : decode cX10_put 19 = .ok (.aload_n 0, 1) := by decide +kernel
theorem dX10_put_20 : decode cX10_put 20 = .ok (.iload_n 1, 1) := by decide +kernel
theorem dX10_put_21 : decode cX10_put 21 = .ok (.iload_n 2, 1) := by decide +kernel
theorem dX10_put_22 : decode cX10_put 22 = .ok (.iload_n 3, 1) := by decide +kernel
theorem dX10_put_23 : decode cX10_put 23 = .ok (.invokevirtual 203, 3) := by decide +kernel
theorem dX10_put_26 : decode cX10_put 26 = .ok (.istore 5, 2) := by decide +kernel
theorem dX10_put_28 : decode cX10_put 28 = .ok (.iload 5, 2) := by decide +kernel
theorem dX10_put_30 : decode cX10_put 30 = .ok (.ifCond .le 10, 3) := by decide +kernel
theorem dX10_put_33 : decode cX10_put 33 = .ok (.aload_n 0, 1) := by decide +kernel
theorem dX10_put_34 : decode cX10_put 34 = .ok (.iload 5, 2) := by decide +kernel
theorem dX10_put_36 : decode cX10_put 36 = .ok (.invokevirtual 200, 3) := by decide +kernel
theorem dX10_put_39 : decode cX10_put 39 = .ok (.ireturn, 1) := by decide +kernel
theorem dX10_put_40 : decode cX10_put 40 = .ok (.aload_n 0, 1) := by decide +kernel
theorem dX10_put_41 : decode cX10_put 41 = .ok (.getfield 66, 3) := by decide +kernel
theorem dX10_put_44 : decode cX10_put 44 = .ok (.sipush 240, 3) := by decide +kernel
theorem dX10_put_47 : decode cX10_put 47 = .ok (.iload_n 1, 1) := by decide +kernel
theorem dX10_put_48 : decode cX10_put 48 = .ok (.imul, 1) := by decide +kernel
theorem dX10_put_49 : decode cX10_put 49 = .ok (.iload_n 3, 1) := by decide +kernel
theorem dX10_put_50 : decode cX10_put 50 = .ok (.iadd, 1) := by decide +kernel
theorem dX10_put_51 : decode cX10_put 51 = .ok (.iload_n 2, 1) := by decide +kernel
theorem dX10_put_52 : decode cX10_put 52 = .ok (.ifCond .ne 9, 3) := by decide +kernel
theorem dX10_put_55 : decode cX10_put 55 = .ok (.iload 4, 2) := by decide +kernel
theorem dX10_put_57 : decode cX10_put 57 = .ok (.i2b, 1) := by decide +kernel
theorem dX10_put_58 : decode cX10_put 58 = .ok (.goto 16, 3) := by decide +kernel
theorem dX10_put_61 : decode cX10_put 61 = .ok (.iload_n 2, 1) := by decide +kernel
theorem dX10_put_62 : decode cX10_put 62 = .ok (.iconst 1, 1) := by decide +kernel
theorem dX10_put_63 : decode cX10_put 63 = .ok (.if_icmp .ne 9, 3) := by decide +kernel
theorem dX10_put_66 : decode cX10_put 66 = .ok (.iload 4, 2) := by decide +kernel
theorem dX10_put_68 : decode cX10_put 68 = .ok (.i2s, 1) := by decide +kernel
theorem dX10_put_69 : decode cX10_put 69 = .ok (.goto 5, 3) := by decide +kernel
theorem dX10_put_72 : decode cX10_put 72 = .ok (.iload 4, 2) := by decide +kernel
theorem dX10_put_74 : decode cX10_put 74 = .ok (.iastore, 1) := by decide +kernel
theorem dX10_put_75 : decode cX10_put 75 = .ok (.iconst 1, 1) := by decide +kernel
theorem dX10_put_76 : decode cX10_put 76 = .ok (.ireturn, 1) := by decide +kernel
theorem dX10_get_0 : decode cX10_get 0 = .ok (.iload_n 1, 1) := by decide +kernel
theorem dX10_get_1 : decode cX10_get 1 = .ok (.invokestatic 197, 3) := by decide +kernel
theorem dX10_get_4 : decode cX10_get 4 = .ok (.ifCond .eq 12, 3) := by decide +kernel
theorem dX10_get_7 : decode cX10_get 7 = .ok (.iload_n 2, 1) := by decide +kernel
theorem dX10_get_8 : decode cX10_get 8 = .ok (.iconst 0, 1) := by decide +kernel
theorem dX10_get_9 : decode cX10_get 9 = .ok (.iconst 2, 1) := by decide +kernel
theorem dX10_get_10 : decode cX10_get 10 = .ok (.invokestatic 75, 3) := by decide +kernel
theorem dX10_get_13 : decode cX10_get 13 = .ok (.ifCond .ne 6, 3) := by decide +kernel
theorem dX10_get_16 : decode cX10_get 16 = .ok (.ldc 206, 2) := by decide +kernel
theorem dX10_get_18 : decode cX10_get 18 = .ok (.ireturn, 1) := by decide +kernel
theorem dX10_get_19 : decode cX10_get 19 = .ok (.aload_n 0, 1) := by decide +kernel
theorem dX10_get_20 : decode cX10_get 20 = .ok (.iload_n 1, 1) := by decide +kernel
theorem dX10_get_21 : decode cX10_get 21 = .ok (.iload_n 2, 1) := by decide +kernel
theorem dX10_get_22 : decode cX10_get 22 = .ok (.iload_n 3, 1) := by decide +kernel
theorem dX10_get_23 : decode cX10_get 23 = .ok (.invokevirtual 203, 3) := by decide +kernel
theorem dX10_get_26 : decode cX10_get 26 = .ok (.istore 4, 2) := by decide +kernel
theorem dX10_get_28 : decode cX10_get 28 = .ok (.iload 4, 2) := by decide +kernel
theorem dX10_get_30 : decode cX10_get 30 = .ok (.ifCond .le 12, 3) := by decide +kernel
theorem dX10_get_33 : decode cX10_get 33 = .ok (.aload_n 0, 1) := by decide +kernel
theorem dX10_get_34 : decode cX10_get 34 = .ok (.iload 4, 2) := by decide +kernel
theorem dX10_get_36 : decode cX10_get 36 = .ok (.putfield 194, 3) := by decide +kernel
theorem dX10_get_39 : decode cX10_get 39 = .ok (.ldc 206, 2) := by decide +kernel
theorem dX10_get_41 : decode cX10_get 41 = .ok (.ireturn, 1) := by decide +kernel
theorem dX10_get_42 : decode cX10_get 42 = .ok (.aload_n 0, 1) := by decide +kernel
theorem dX10_get_43 : decode cX10_get 43 = .ok (.getfield 66, 3) := by decide +kernel
theorem dX10_get_46 : decode cX10_get 46 = .ok (.sipush 240, 3) := by decide +kernel
theorem dX10_get_49 : decode cX10_get 49 = .ok (.iload_n 1, 1) := by decide +kernel
theorem dX10_get_50 : decode cX10_get 50 = .ok (.imul, 1) := by decide +kernel
theorem dX10_get_51 : decode cX10_get 51 = .ok (.iload_n 3, 1) := by decide +kernel
theorem dX10_get_52 : decode cX10_get 52 = .ok (.iadd, 1) := by decide +kernel
theorem dX10_get_53 : decode cX10_get 53 = .ok (.iaload, 1) := by decide +kernel
theorem dX10_get_54 : decode cX10_get 54 = .ok (.ireturn, 1) := by decide +kernel
theorem dX10_copy_0 : decode cX10_copy 0 = .ok (.iload_n 1, 1) := by decide +kernel
theorem dX10_copy_1 : decode cX10_copy 1 = .ok (.invokestatic 197, 3) := by decide +kernel
theorem dX10_copy_4 : decode cX10_copy 4 = .ok (.ifCond .eq 10, 3) := by decide +kernel
theorem dX10_copy_7 : decode cX10_copy 7 = .ok (.iload_n 3, 1) := by decide +kernel
theorem dX10_copy_8 : decode cX10_copy 8 = .ok (.invokestatic 197, 3) := by decide +kernel
theorem dX10_copy_11 : decode cX10_copy 11 = .ok (.ifCond .ne 6, 3) := by decide +kernel
theorem dX10_copy_14 : decode cX10_copy 14 = .ok (.bipush (-2), 2) := by decide +kernel
theorem dX10_copy_16 : decode cX10_copy 16 = .ok (.ireturn, 1) := by decide +kernel
theorem dX10_copy_17 : decode cX10_copy 17 = .ok (.aload_n 0, 1) := by decide +kernel
theorem dX10_copy_18 : decode cX10_copy 18 = .ok (.getfield 56, 3) := by decide +kernel
theorem dX10_copy_21 : decode cX10_copy 21 = .ok (.iload_n 1, 1) := by decide +kernel
theorem dX10_copy_22 : decode cX10_copy 22 = .ok (.baload, 1) := by decide +kernel
theorem dX10_copy_23 : decode cX10_copy 23 = .ok (.ifCond .eq 12, 3) := by decide +kernel
theorem dX10_copy_26 : decode cX10_copy 26 = .ok (.aload_n 0, 1) := by decide +kernel
theorem dX10_copy_27 : decode cX10_copy 27 = .ok (.getfield 56, 3) := by decide +kernel
theorem dX10_copy_30 : decode cX10_copy 30 = .ok (.iload_n 3, 1) := by decide +kernel
theorem dX10_copy_31 : decode cX10_copy 31 = .ok (.baload, 1) := by decide +kernel
theorem dX10_copy_32 : decode cX10_copy 32 = .ok (.ifCond .ne 9, 3) := by decide +kernel
theorem dX10_copy_35 : decode cX10_copy 35 = .ok (.aload_n 0, 1) := by decide +kernel
theorem dX10_copy_36 : decode cX10_copy 36 = .ok (.iconst 1, 1) := by decide +kernel
theorem dX10_copy_37 : decode cX10_copy 37 = .ok (.invokevirtual 200, 3) := by decide +kernel
theorem dX10_copy_40 : decode cX10_copy 40 = .ok (.ireturn, 1) := by decide +kernel
theorem dX10_copy_41 : decode cX10_copy 41 = .ok (.aload_n 0, 1) := by decide +kernel
theorem dX10_copy_42 : decode cX10_copy 42 = .ok (.getfield 60, 3) := by decide +kernel
theorem dX10_copy_45 : decode cX10_copy 45 = .ok (.iload_n 1, 1) := by decide +kernel
theorem dX10_copy_46 : decode cX10_copy 46 = .ok (.iaload, 1) := by decide +kernel
theorem dX10_copy_47 : decode cX10_copy 47 = .ok (.aload_n 0, 1) := by decide +kernel
theorem dX10_copy_48 : decode cX10_copy 48 = .ok (.getfield 60, 3) := by decide +kernel
theorem dX10_copy_51 : decode cX10_copy 51 = .ok (.iload_n 3, 1) := by decide +kernel
theorem dX10_copy_52 : decode cX10_copy 52 = .ok (.iaload, 1) := by decide +kernel
theorem dX10_copy_53 : decode cX10_copy 53 = .ok (.if_icmp .eq 9, 3) := by decide +kernel
theorem dX10_copy_56 : decode cX10_copy 56 = .ok (.aload_n 0, 1) := by decide +kernel
theorem dX10_copy_57 : decode cX10_copy 57 = .ok (.iconst 4, 1) := by decide +kernel
theorem dX10_copy_58 : decode cX10_copy 58 = .ok (.invokevirtual 200, 3) := by decide +kernel
theorem dX10_copy_61 : decode cX10_copy 61 = .ok (.ireturn, 1) := by decide +kernel
theorem dX10_copy_62 : decode cX10_copy 62 = .ok (.iload_n 2, 1) := by decide +kernel
theorem dX10_copy_63 : decode cX10_copy 63 = .ok (.ifCond .lt 48, 3) := by decide +kernel
theorem dX10_copy_66 : decode cX10_copy 66 = .ok (.iload 4, 2) := by decide +kernel
theorem dX10_copy_68 : decode cX10_copy 68 = .ok (.ifCond .lt 43, 3) := by decide +kernel
theorem dX10_copy_71 : decode cX10_copy 71 = .ok (.iload 5, 2) := by decide +kernel
theorem dX10_copy_73 : decode cX10_copy 73 = .ok (.ifCond .lt 38, 3) := by decide +kernel
theorem dX10_copy_76 : decode cX10_copy 76 = .ok (.iload_n 2, 1) := by decide +kernel
theorem dX10_copy_77 : decode cX10_copy 77 = .ok (.i2l, 1) := by decide +kernel
theorem dX10_copy_78 : decode cX10_copy 78 = .ok (.iload 5, 2) := by decide +kernel
theorem dX10_copy_80 : decode cX10_copy 80 = .ok (.i2l, 1) := by decide +kernel
theorem dX10_copy_81 : decode cX10_copy 81 = .ok (.ladd, 1) := by decide +kernel
theorem dX10_copy_82 : decode cX10_copy 82 = .ok (.aload_n 0, 1) := by decide +kernel
theorem dX10_copy_83 : decode cX10_copy 83 = .ok (.getfield 63, 3) := by decide +kernel
theorem dX10_copy_86 : decode cX10_copy 86 = .ok (.iload_n 1, 1) := by decide +kernel
theorem dX10_copy_87 : decode cX10_copy 87 = .ok (.iaload, 1) := by decide +kernel
theorem dX10_copy_88 : decode cX10_copy 88 = .ok (.i2l, 1) := by decide +kernel
theorem dX10_copy_89 : decode cX10_copy 89 = .ok (.lcmp, 1) := by decide +kernel
theorem dX10_copy_90 : decode cX10_copy 90 = .ok (.ifCond .gt 21, 3) := by decide +kernel
theorem dX10_copy_93 : decode cX10_copy 93 = .ok (.iload 4, 2) := by decide +kernel
theorem dX10_copy_95 : decode cX10_copy 95 = .ok (.i2l, 1) := by decide +kernel
theorem dX10_copy_96 : decode cX10_copy 96 = .ok (.iload 5, 2) := by decide +kernel
theorem dX10_copy_98 : decode cX10_copy 98 = .ok (.i2l, 1) := by decide +kernel
theorem dX10_copy_99 : decode cX10_copy 99 = .ok (.ladd, 1) := by decide +kernel
theorem dX10_copy_100 : decode cX10_copy 100 = .ok (.aload_n 0, 1) := by decide +kernel
theorem dX10_copy_101 : decode cX10_copy 101 = .ok (.getfield 63, 3) := by decide +kernel
theorem dX10_copy_104 : decode cX10_copy 104 = .ok (.iload_n 3, 1) := by decide +kernel
theorem dX10_copy_105 : decode cX10_copy 105 = .ok (.iaload, 1) := by decide +kernel
theorem dX10_copy_106 : decode cX10_copy 106 = .ok (.i2l, 1) := by decide +kernel
theorem dX10_copy_107 : decode cX10_copy 107 = .ok (.lcmp, 1) := by decide +kernel
theorem dX10_copy_108 : decode cX10_copy 108 = .ok (.ifCond .le 9, 3) := by decide +kernel
theorem dX10_copy_111 : decode cX10_copy 111 = .ok (.aload_n 0, 1) := by decide +kernel
theorem dX10_copy_112 : decode cX10_copy 112 = .ok (.iconst 2, 1) := by decide +kernel
theorem dX10_copy_113 : decode cX10_copy 113 = .ok (.invokevirtual 200, 3) := by decide +kernel
theorem dX10_copy_116 : decode cX10_copy 116 = .ok (.ireturn, 1) := by decide +kernel
theorem dX10_copy_117 : decode cX10_copy 117 = .ok (.iconst 0, 1) := by decide +kernel
theorem dX10_copy_118 : decode cX10_copy 118 = .ok (.istore 6, 2) := by decide +kernel
theorem dX10_copy_120 : decode cX10_copy 120 = .ok (.iload 6, 2) := by decide +kernel
theorem dX10_copy_122 : decode cX10_copy 122 = .ok (.iload 5, 2) := by decide +kernel
theorem dX10_copy_124 : decode cX10_copy 124 = .ok (.if_icmp .ge 31, 3) := by decide +kernel
theorem dX10_copy_127 : decode cX10_copy 127 = .ok (.aload_n 0, 1) := by decide +kernel
theorem dX10_copy_128 : decode cX10_copy 128 = .ok (.getfield 69, 3) := by decide +kernel
theorem dX10_copy_131 : decode cX10_copy 131 = .ok (.iload 6, 2) := by decide +kernel
theorem dX10_copy_133 : decode cX10_copy 133 = .ok (.aload_n 0, 1) := by decide +kernel
theorem dX10_copy_134 : decode cX10_copy 134 = .ok (.getfield 66, 3) := by decide +kernel
theorem dX10_copy_137 : decode cX10_copy 137 = .ok (.sipush 240, 3) := by decide +kernel
theorem dX10_copy_140 : decode cX10_copy 140 = .ok (.iload_n 1, 1) := by decide +kernel
theorem dX10_copy_141 : decode cX10_copy 141 = .ok (.imul, 1) := by decide +kernel
theorem dX10_copy_142 : decode cX10_copy 142 = .ok (.iload_n 2, 1) := by decide +kernel
theorem dX10_copy_143 : decode cX10_copy 143 = .ok (.iadd, 1) := by decide +kernel
theorem dX10_copy_144 : decode cX10_copy 144 = .ok (.iload 6, 2) := by decide +kernel
theorem dX10_copy_146 : decode cX10_copy 146 = .ok (.iadd, 1) := by decide +kernel
theorem dX10_copy_147 : decode cX10_copy 147 = .ok (.iaload, 1) := by decide +kernel
theorem dX10_copy_148 : decode cX10_copy 148 = .ok (.iastore, 1) := by decide +kernel
theorem dX10_copy_149 : decode cX10_copy 149 = .ok (.iinc 6 1, 3) := by decide +kernel
theorem dX10_copy_152 : decode cX10_copy 152 = .ok (.goto (-32), 3) := by decide +kernel
theorem dX10_copy_155 : decode cX10_copy 155 = .ok (.iconst 0, 1) := by decide +kernel
theorem dX10_copy_156 : decode cX10_copy 156 = .ok (.istore 6, 2) := by decide +kernel
theorem dX10_copy_158 : decode cX10_copy 158 = .ok (.iload 6, 2) := by decide +kernel
theorem dX10_copy_160 : decode cX10_copy 160 = .ok (.iload 5, 2) := by decide +kernel
theorem dX10_copy_162 : decode cX10_copy 162 = .ok (.if_icmp .ge 32, 3) := by decide +kernel
theorem dX10_copy_165 : decode cX10_copy 165 = .ok (.aload_n 0, 1) := by decide +kernel
theorem dX10_copy_166 : decode cX10_copy 166 = .ok (.getfield 66, 3) := by decide +kernel
theorem dX10_copy_169 : decode cX10_copy 169 = .ok (.sipush 240, 3) := by decide +kernel
theorem dX10_copy_172 : decode cX10_copy 172 = .ok (.iload_n 3, 1) := by decide +kernel
theorem dX10_copy_173 : decode cX10_copy 173 = .ok (.imul, 1) := by decide +kernel
theorem dX10_copy_174 : decode cX10_copy 174 = .ok (.iload 4, 2) := by decide +kernel
theorem dX10_copy_176 : decode cX10_copy 176 = .ok (.iadd, 1) := by decide +kernel
theorem dX10_copy_177 : decode cX10_copy 177 = .ok (.iload 6, 2) := by decide +kernel
theorem dX10_copy_179 : decode cX10_copy 179 = .ok (.iadd, 1) := by decide +kernel
theorem dX10_copy_180 : decode cX10_copy 180 = .ok (.aload_n 0, 1) := by decide +kernel
theorem dX10_copy_181 : decode cX10_copy 181 = .ok (.getfield 69, 3) := by decide +kernel
theorem dX10_copy_184 : decode cX10_copy 184 = .ok (.iload 6, 2) := by decide +kernel
theorem dX10_copy_186 : decode cX10_copy 186 = .ok (.iaload, 1) := by decide +kernel
theorem dX10_copy_187 : decode cX10_copy 187 = .ok (.iastore, 1) := by decide +kernel
theorem dX10_copy_188 : decode cX10_copy 188 = .ok (.iinc 6 1, 3) := by decide +kernel
theorem dX10_copy_191 : decode cX10_copy 191 = .ok (.goto (-33), 3) := by decide +kernel
theorem dX10_copy_194 : decode cX10_copy 194 = .ok (.iconst 1, 1) := by decide +kernel
theorem dX10_copy_195 : decode cX10_copy 195 = .ok (.ireturn, 1) := by decide +kernel
theorem dX10_count_0 : decode cX10_count 0 = .ok (.iload_n 1, 1) := by decide +kernel
theorem dX10_count_1 : decode cX10_count 1 = .ok (.tableswitch 94 0 6 #[43, 48, 53, 58, 79, 84, 89], 43) := by decide +kernel
theorem dX10_count_44 : decode cX10_count 44 = .ok (.aload_n 0, 1) := by decide +kernel
theorem dX10_count_45 : decode cX10_count 45 = .ok (.getfield 72, 3) := by decide +kernel
theorem dX10_count_48 : decode cX10_count 48 = .ok (.ireturn, 1) := by decide +kernel
theorem dX10_count_49 : decode cX10_count 49 = .ok (.aload_n 0, 1) := by decide +kernel
theorem dX10_count_50 : decode cX10_count 50 = .ok (.getfield 16, 3) := by decide +kernel
theorem dX10_count_53 : decode cX10_count 53 = .ok (.ireturn, 1) := by decide +kernel
theorem dX10_count_54 : decode cX10_count 54 = .ok (.aload_n 0, 1) := by decide +kernel
theorem dX10_count_55 : decode cX10_count 55 = .ok (.getfield 95, 3) := by decide +kernel
theorem dX10_count_58 : decode cX10_count 58 = .ok (.ireturn, 1) := by decide +kernel
theorem dX10_count_59 : decode cX10_count 59 = .ok (.aload_n 0, 1) := by decide +kernel
theorem dX10_count_60 : decode cX10_count 60 = .ok (.invokevirtual 118, 3) := by decide +kernel
theorem dX10_count_63 : decode cX10_count 63 = .ok (.aload_n 0, 1) := by decide +kernel
theorem dX10_count_64 : decode cX10_count 64 = .ok (.getfield 98, 3) := by decide +kernel
theorem dX10_count_67 : decode cX10_count 67 = .ok (.iconst (-1), 1) := by decide +kernel
theorem dX10_count_68 : decode cX10_count 68 = .ok (.if_icmp .eq 7, 3) := by decide +kernel
theorem dX10_count_71 : decode cX10_count 71 = .ok (.iconst 0, 1) := by decide +kernel
theorem dX10_count_72 : decode cX10_count 72 = .ok (.goto 7, 3) := by decide +kernel
theorem dX10_count_75 : decode cX10_count 75 = .ok (.aload_n 0, 1) := by decide +kernel
theorem dX10_count_76 : decode cX10_count 76 = .ok (.getfield 108, 3) := by decide +kernel
theorem dX10_count_79 : decode cX10_count 79 = .ok (.ireturn, 1) := by decide +kernel
theorem dX10_count_80 : decode cX10_count 80 = .ok (.aload_n 0, 1) := by decide +kernel
theorem dX10_count_81 : decode cX10_count 81 = .ok (.getfield 184, 3) := by decide +kernel
theorem dX10_count_84 : decode cX10_count 84 = .ok (.ireturn, 1) := by decide +kernel
theorem dX10_count_85 : decode cX10_count 85 = .ok (.aload_n 0, 1) := by decide +kernel
theorem dX10_count_86 : decode cX10_count 86 = .ok (.getfield 191, 3) := by decide +kernel
theorem dX10_count_89 : decode cX10_count 89 = .ok (.ireturn, 1) := by decide +kernel
theorem dX10_count_90 : decode cX10_count 90 = .ok (.aload_n 0, 1) := by decide +kernel
theorem dX10_count_91 : decode cX10_count 91 = .ok (.getfield 194, 3) := by decide +kernel
theorem dX10_count_94 : decode cX10_count 94 = .ok (.ireturn, 1) := by decide +kernel
theorem dX10_count_95 : decode cX10_count 95 = .ok (.bipush (-2), 2) := by decide +kernel
theorem dX10_count_97 : decode cX10_count 97 = .ok (.ireturn, 1) := by decide +kernel
theorem dX10_digest_0 : decode cX10_digest 0 = .ok (.ldc2_w 207, 3) := by decide +kernel
theorem dX10_digest_3 : decode cX10_digest 3 = .ok (.lstore_n 1, 1) := by decide +kernel
theorem dX10_digest_4 : decode cX10_digest 4 = .ok (.iconst 0, 1) := by decide +kernel
theorem dX10_digest_5 : decode cX10_digest 5 = .ok (.istore_n 3, 1) := by decide +kernel
theorem dX10_digest_6 : decode cX10_digest 6 = .ok (.iload_n 3, 1) := by decide +kernel
theorem dX10_digest_7 : decode cX10_digest 7 = .ok (.bipush 6, 2) := by decide +kernel
theorem dX10_digest_9 : decode cX10_digest 9 = .ok (.if_icmp .ge 22, 3) := by decide +kernel
theorem dX10_digest_12 : decode cX10_digest 12 = .ok (.ldc2_w 209, 3) := by decide +kernel
theorem dX10_digest_15 : decode cX10_digest 15 = .ok (.lload_n 1, 1) := by decide +kernel
theorem dX10_digest_16 : decode cX10_digest 16 = .ok (.lmul, 1) := by decide +kernel
theorem dX10_digest_17 : decode cX10_digest 17 = .ok (.aload_n 0, 1) := by decide +kernel
theorem dX10_digest_18 : decode cX10_digest 18 = .ok (.iload_n 3, 1) := by decide +kernel
theorem dX10_digest_19 : decode cX10_digest 19 = .ok (.invokevirtual 211, 3) := by decide +kernel
theorem dX10_digest_22 : decode cX10_digest 22 = .ok (.i2l, 1) := by decide +kernel
theorem dX10_digest_23 : decode cX10_digest 23 = .ok (.ladd, 1) := by decide +kernel
theorem dX10_digest_24 : decode cX10_digest 24 = .ok (.lstore_n 1, 1) := by decide +kernel
theorem dX10_digest_25 : decode cX10_digest 25 = .ok (.iinc 3 1, 3) := by decide +kernel
theorem dX10_digest_28 : decode cX10_digest 28 = .ok (.goto (-22), 3) := by decide +kernel
theorem dX10_digest_31 : decode cX10_digest 31 = .ok (.iconst 0, 1) := by decide +kernel
theorem dX10_digest_32 : decode cX10_digest 32 = .ok (.istore_n 3, 1) := by decide +kernel
theorem dX10_digest_33 : decode cX10_digest 33 = .ok (.iload_n 3, 1) := by decide +kernel
theorem dX10_digest_34 : decode cX10_digest 34 = .ok (.aload_n 0, 1) := by decide +kernel
theorem dX10_digest_35 : decode cX10_digest 35 = .ok (.getfield 72, 3) := by decide +kernel
theorem dX10_digest_38 : decode cX10_digest 38 = .ok (.if_icmp .ge 23, 3) := by decide +kernel
theorem dX10_digest_41 : decode cX10_digest 41 = .ok (.ldc2_w 209, 3) := by decide +kernel
theorem dX10_digest_44 : decode cX10_digest 44 = .ok (.lload_n 1, 1) := by decide +kernel
theorem dX10_digest_45 : decode cX10_digest 45 = .ok (.lmul, 1) := by decide +kernel
theorem dX10_digest_46 : decode cX10_digest 46 = .ok (.aload_n 0, 1) := by decide +kernel
theorem dX10_digest_47 : decode cX10_digest 47 = .ok (.getfield 13, 3) := by decide +kernel
theorem dX10_digest_50 : decode cX10_digest 50 = .ok (.iload_n 3, 1) := by decide +kernel
theorem dX10_digest_51 : decode cX10_digest 51 = .ok (.iaload, 1) := by decide +kernel
theorem dX10_digest_52 : decode cX10_digest 52 = .ok (.i2l, 1) := by decide +kernel
theorem dX10_digest_53 : decode cX10_digest 53 = .ok (.ladd, 1) := by decide +kernel
theorem dX10_digest_54 : decode cX10_digest 54 = .ok (.lstore_n 1, 1) := by decide +kernel
theorem dX10_digest_55 : decode cX10_digest 55 = .ok (.iinc 3 1, 3) := by decide +kernel
theorem dX10_digest_58 : decode cX10_digest 58 = .ok (.goto (-25), 3) := by decide +kernel
theorem dX10_digest_61 : decode cX10_digest 61 = .ok (.iconst 0, 1) := by decide +kernel
theorem dX10_digest_62 : decode cX10_digest 62 = .ok (.istore_n 3, 1) := by decide +kernel
theorem dX10_digest_63 : decode cX10_digest 63 = .ok (.iload_n 3, 1) := by decide +kernel
theorem dX10_digest_64 : decode cX10_digest 64 = .ok (.aload_n 0, 1) := by decide +kernel
theorem dX10_digest_65 : decode cX10_digest 65 = .ok (.getfield 72, 3) := by decide +kernel
theorem dX10_digest_68 : decode cX10_digest 68 = .ok (.if_icmp .ge 54, 3) := by decide +kernel
theorem dX10_digest_71 : decode cX10_digest 71 = .ok (.iconst 0, 1) := by decide +kernel
theorem dX10_digest_72 : decode cX10_digest 72 = .ok (.istore 4, 2) := by decide +kernel
theorem dX10_digest_74 : decode cX10_digest 74 = .ok (.iload 4, 2) := by decide +kernel
theorem dX10_digest_76 : decode cX10_digest 76 = .ok (.iconst 4, 1) := by decide +kernel
theorem dX10_digest_77 : decode cX10_digest 77 = .ok (.if_icmp .ge 39, 3) := by decide +kernel
theorem dX10_digest_80 : decode cX10_digest 80 = .ok (.ldc2_w 209, 3) := by decide +kernel
theorem dX10_digest_83 : decode cX10_digest 83 = .ok (.lload_n 1, 1) := by decide +kernel
theorem dX10_digest_84 : decode cX10_digest 84 = .ok (.lmul, 1) := by decide +kernel
theorem dX10_digest_85 : decode cX10_digest 85 = .ok (.aload_n 0, 1) := by decide +kernel
theorem dX10_digest_86 : decode cX10_digest 86 = .ok (.iload_n 3, 1) := by decide +kernel
theorem dX10_digest_87 : decode cX10_digest 87 = .ok (.iload 4, 2) := by decide +kernel
theorem dX10_digest_89 : decode cX10_digest 89 = .ok (.invokevirtual 88, 3) := by decide +kernel
theorem dX10_digest_92 : decode cX10_digest 92 = .ok (.i2l, 1) := by decide +kernel
theorem dX10_digest_93 : decode cX10_digest 93 = .ok (.ladd, 1) := by decide +kernel
theorem dX10_digest_94 : decode cX10_digest 94 = .ok (.lstore_n 1, 1) := by decide +kernel
theorem dX10_digest_95 : decode cX10_digest 95 = .ok (.ldc2_w 209, 3) := by decide +kernel
theorem dX10_digest_98 : decode cX10_digest 98 = .ok (.lload_n 1, 1) := by decide +kernel
theorem dX10_digest_99 : decode cX10_digest 99 = .ok (.lmul, 1) := by decide +kernel
theorem dX10_digest_100 : decode cX10_digest 100 = .ok (.aload_n 0, 1) := by decide +kernel
theorem dX10_digest_101 : decode cX10_digest 101 = .ok (.iload_n 3, 1) := by decide +kernel
theorem dX10_digest_102 : decode cX10_digest 102 = .ok (.iload 4, 2) := by decide +kernel
theorem dX10_digest_104 : decode cX10_digest 104 = .ok (.invokevirtual 92, 3) := by decide +kernel
theorem dX10_digest_107 : decode cX10_digest 107 = .ok (.i2l, 1) := by decide +kernel
theorem dX10_digest_108 : decode cX10_digest 108 = .ok (.ladd, 1) := by decide +kernel
theorem dX10_digest_109 : decode cX10_digest 109 = .ok (.lstore_n 1, 1) := by decide +kernel
theorem dX10_digest_110 : decode cX10_digest 110 = .ok (.iinc 4 1, 3) := by decide +kernel
theorem dX10_digest_113 : decode cX10_digest 113 = .ok (.goto (-39), 3) := by decide +kernel
theorem dX10_digest_116 : decode cX10_digest 116 = .ok (.iinc 3 1, 3) := by decide +kernel
theorem dX10_digest_119 : decode cX10_digest 119 = .ok (.goto (-56), 3) := by decide +kernel
theorem dX10_digest_122 : decode cX10_digest 122 = .ok (.ldc2_w 209, 3) := by decide +kernel
theorem dX10_digest_125 : decode cX10_digest 125 = .ok (.lload_n 1, 1) := by decide +kernel
theorem dX10_digest_126 : decode cX10_digest 126 = .ok (.lmul, 1) := by decide +kernel
theorem dX10_digest_127 : decode cX10_digest 127 = .ok (.aload_n 0, 1) := by decide +kernel
theorem dX10_digest_128 : decode cX10_digest 128 = .ok (.invokevirtual 214, 3) := by decide +kernel
theorem dX10_digest_131 : decode cX10_digest 131 = .ok (.i2l, 1) := by decide +kernel
theorem dX10_digest_132 : decode cX10_digest 132 = .ok (.ladd, 1) := by decide +kernel
theorem dX10_digest_133 : decode cX10_digest 133 = .ok (.lstore_n 1, 1) := by decide +kernel
theorem dX10_digest_134 : decode cX10_digest 134 = .ok (.ldc2_w 209, 3) := by decide +kernel
theorem dX10_digest_137 : decode cX10_digest 137 = .ok (.lload_n 1, 1) := by decide +kernel
theorem dX10_digest_138 : decode cX10_digest 138 = .ok (.lmul, 1) := by decide +kernel
theorem dX10_digest_139 : decode cX10_digest 139 = .ok (.aload_n 0, 1) := by decide +kernel
theorem dX10_digest_140 : decode cX10_digest 140 = .ok (.invokevirtual 217, 3) := by decide +kernel
theorem dX10_digest_143 : decode cX10_digest 143 = .ok (.i2l, 1) := by decide +kernel
theorem dX10_digest_144 : decode cX10_digest 144 = .ok (.ladd, 1) := by decide +kernel
theorem dX10_digest_145 : decode cX10_digest 145 = .ok (.lreturn, 1) := by decide +kernel
end

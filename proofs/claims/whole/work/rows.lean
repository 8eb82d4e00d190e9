section
-- ===== PART A: goes FIRST, ahead of the names: the tables' words, and 'selects' of the private methods out of them =====
/-- a private method of a class that the tables say can be made, by its rows of tables_1 -/
def lw_okq (q : MethodName × Nat) : Prop := (q.1.cls ≠ "java/lang/invoke/MethodHandle" ∧ q.1.cls ≠ "java/lang/invoke/VarHandle") ∧ Cond.instantiable q.1.cls q.2 ∈ tables_1 ∧ Cond.privateMethod q.1 ∈ tables_1 ∧ Cond.instanceMethod q.1 ∈ tables_1
theorem lw_p0 : lw_okq (⟨"ScreenVotes$Panel", "place", "(II)V"⟩, 6) := ⟨⟨by decide +kernel, by decide +kernel⟩, List.mem_of_getElem? (i := 48) (by decide +kernel), List.mem_of_getElem? (i := 261) (by decide +kernel), List.mem_of_getElem? (i := 262) (by decide +kernel)⟩
theorem lw_p1 : lw_okq (⟨"ScreenVotes", "isPlayer", "(I)Z"⟩, 9) := ⟨⟨by decide +kernel, by decide +kernel⟩, List.mem_of_getElem? (i := 16) (by decide +kernel), List.mem_of_getElem? (i := 282) (by decide +kernel), List.mem_of_getElem? (i := 283) (by decide +kernel)⟩
theorem lw_p2 : lw_okq (⟨"ScreenVotes$Bylaw", "readText", "()V"⟩, 9) := ⟨⟨by decide +kernel, by decide +kernel⟩, List.mem_of_getElem? (i := 82) (by decide +kernel), List.mem_of_getElem? (i := 317) (by decide +kernel), List.mem_of_getElem? (i := 318) (by decide +kernel)⟩
theorem lw_p3 : lw_okq (⟨"ScreenVotes$Bylaw", "readRounds", "()Z"⟩, 9) := ⟨⟨by decide +kernel, by decide +kernel⟩, List.mem_of_getElem? (i := 82) (by decide +kernel), List.mem_of_getElem? (i := 321) (by decide +kernel), List.mem_of_getElem? (i := 322) (by decide +kernel)⟩
theorem lw_p4 : lw_okq (⟨"ScreenVotes$Bylaw", "readRound", "(I)Z"⟩, 9) := ⟨⟨by decide +kernel, by decide +kernel⟩, List.mem_of_getElem? (i := 82) (by decide +kernel), List.mem_of_getElem? (i := 325) (by decide +kernel), List.mem_of_getElem? (i := 326) (by decide +kernel)⟩
theorem lw_p5 : lw_okq (⟨"ScreenVotes$Bylaw", "readByte", "(I)Z"⟩, 9) := ⟨⟨by decide +kernel, by decide +kernel⟩, List.mem_of_getElem? (i := 82) (by decide +kernel), List.mem_of_getElem? (i := 329) (by decide +kernel), List.mem_of_getElem? (i := 330) (by decide +kernel)⟩
theorem lw_p6 : lw_okq (⟨"ScreenVotes$Bylaw", "readNumber", "(I)Z"⟩, 9) := ⟨⟨by decide +kernel, by decide +kernel⟩, List.mem_of_getElem? (i := 82) (by decide +kernel), List.mem_of_getElem? (i := 333) (by decide +kernel), List.mem_of_getElem? (i := 334) (by decide +kernel)⟩
theorem lw_p7 : lw_okq (⟨"ScreenVotes$Bylaw", "isFigure", "(I)Z"⟩, 9) := ⟨⟨by decide +kernel, by decide +kernel⟩, List.mem_of_getElem? (i := 82) (by decide +kernel), List.mem_of_getElem? (i := 337) (by decide +kernel), List.mem_of_getElem? (i := 338) (by decide +kernel)⟩
theorem lw_p8 : lw_okq (⟨"ScreenVotes$Bylaw", "readLetter", "(I)Z"⟩, 9) := ⟨⟨by decide +kernel, by decide +kernel⟩, List.mem_of_getElem? (i := 82) (by decide +kernel), List.mem_of_getElem? (i := 341) (by decide +kernel), List.mem_of_getElem? (i := 342) (by decide +kernel)⟩
theorem lw_p9 : lw_okq (⟨"ScreenVotes", "refusalOfRound", "(I)I"⟩, 9) := ⟨⟨by decide +kernel, by decide +kernel⟩, List.mem_of_getElem? (i := 16) (by decide +kernel), List.mem_of_getElem? (i := 361) (by decide +kernel), List.mem_of_getElem? (i := 362) (by decide +kernel)⟩
theorem lw_p10 : lw_okq (⟨"ScreenVotes$Contest", "tally", "(I)V"⟩, 5) := ⟨⟨by decide +kernel, by decide +kernel⟩, List.mem_of_getElem? (i := 127) (by decide +kernel), List.mem_of_getElem? (i := 377) (by decide +kernel), List.mem_of_getElem? (i := 378) (by decide +kernel)⟩
theorem lw_p11 : lw_okq (⟨"ScreenVotes$Contest", "whoPass", "(II)I"⟩, 5) := ⟨⟨by decide +kernel, by decide +kernel⟩, List.mem_of_getElem? (i := 127) (by decide +kernel), List.mem_of_getElem? (i := 383) (by decide +kernel), List.mem_of_getElem? (i := 384) (by decide +kernel)⟩
theorem lw_p12 : lw_okq (⟨"ScreenVotes$Contest", "whoAdvance", "(II)I"⟩, 5) := ⟨⟨by decide +kernel, by decide +kernel⟩, List.mem_of_getElem? (i := 127) (by decide +kernel), List.mem_of_getElem? (i := 390) (by decide +kernel), List.mem_of_getElem? (i := 391) (by decide +kernel)⟩
theorem lw_p13 : lw_okq (⟨"ScreenVotes$Contest", "withShare", "(III)I"⟩, 5) := ⟨⟨by decide +kernel, by decide +kernel⟩, List.mem_of_getElem? (i := 127) (by decide +kernel), List.mem_of_getElem? (i := 394) (by decide +kernel), List.mem_of_getElem? (i := 395) (by decide +kernel)⟩
theorem lw_p14 : lw_okq (⟨"ScreenVotes$Contest", "compareShares", "(II)I"⟩, 5) := ⟨⟨by decide +kernel, by decide +kernel⟩, List.mem_of_getElem? (i := 127) (by decide +kernel), List.mem_of_getElem? (i := 398) (by decide +kernel), List.mem_of_getElem? (i := 399) (by decide +kernel)⟩
theorem lw_p15 : lw_okq (⟨"ScreenVotes$Contest", "outOfTie", "(III)I"⟩, 5) := ⟨⟨by decide +kernel, by decide +kernel⟩, List.mem_of_getElem? (i := 127) (by decide +kernel), List.mem_of_getElem? (i := 405) (by decide +kernel), List.mem_of_getElem? (i := 406) (by decide +kernel)⟩
def lw_privs_1 : List (MethodName × Nat) := [(⟨"ScreenVotes$Panel", "place", "(II)V"⟩, 6), (⟨"ScreenVotes", "isPlayer", "(I)Z"⟩, 9), (⟨"ScreenVotes$Bylaw", "readText", "()V"⟩, 9), (⟨"ScreenVotes$Bylaw", "readRounds", "()Z"⟩, 9), (⟨"ScreenVotes$Bylaw", "readRound", "(I)Z"⟩, 9), (⟨"ScreenVotes$Bylaw", "readByte", "(I)Z"⟩, 9), (⟨"ScreenVotes$Bylaw", "readNumber", "(I)Z"⟩, 9), (⟨"ScreenVotes$Bylaw", "isFigure", "(I)Z"⟩, 9), (⟨"ScreenVotes$Bylaw", "readLetter", "(I)Z"⟩, 9), (⟨"ScreenVotes", "refusalOfRound", "(I)I"⟩, 9), (⟨"ScreenVotes$Contest", "tally", "(I)V"⟩, 5), (⟨"ScreenVotes$Contest", "whoPass", "(II)I"⟩, 5), (⟨"ScreenVotes$Contest", "whoAdvance", "(II)I"⟩, 5), (⟨"ScreenVotes$Contest", "withShare", "(III)I"⟩, 5), (⟨"ScreenVotes$Contest", "compareShares", "(II)I"⟩, 5), (⟨"ScreenVotes$Contest", "outOfTie", "(III)I"⟩, 5)]
theorem lw_r1 : ∀ q ∈ lw_privs_1, lw_okq q := List.forall_mem_cons.mpr ⟨lw_p0, List.forall_mem_cons.mpr ⟨lw_p1, List.forall_mem_cons.mpr ⟨lw_p2, List.forall_mem_cons.mpr ⟨lw_p3, List.forall_mem_cons.mpr ⟨lw_p4, List.forall_mem_cons.mpr ⟨lw_p5, List.forall_mem_cons.mpr ⟨lw_p6, List.forall_mem_cons.mpr ⟨lw_p7, List.forall_mem_cons.mpr ⟨lw_p8, List.forall_mem_cons.mpr ⟨lw_p9, List.forall_mem_cons.mpr ⟨lw_p10, List.forall_mem_cons.mpr ⟨lw_p11, List.forall_mem_cons.mpr ⟨lw_p12, List.forall_mem_cons.mpr ⟨lw_p13, List.forall_mem_cons.mpr ⟨lw_p14, List.forall_mem_cons.mpr ⟨lw_p15, fun _ h => absurd h List.not_mem_nil⟩⟩⟩⟩⟩⟩⟩⟩⟩⟩⟩⟩⟩⟩⟩⟩
theorem lw_p16 : lw_okq (⟨"ScreenVotes$Contest", "firstOf", "(IIZ)I"⟩, 5) := ⟨⟨by decide +kernel, by decide +kernel⟩, List.mem_of_getElem? (i := 127) (by decide +kernel), List.mem_of_getElem? (i := 409) (by decide +kernel), List.mem_of_getElem? (i := 410) (by decide +kernel)⟩
theorem lw_p17 : lw_okq (⟨"ScreenVotes$Contest", "ahead", "(IIZ)I"⟩, 5) := ⟨⟨by decide +kernel, by decide +kernel⟩, List.mem_of_getElem? (i := 127) (by decide +kernel), List.mem_of_getElem? (i := 413) (by decide +kernel), List.mem_of_getElem? (i := 414) (by decide +kernel)⟩
theorem lw_p18 : lw_okq (⟨"ScreenVotes$Contest", "isBefore", "(IIZ)Z"⟩, 5) := ⟨⟨by decide +kernel, by decide +kernel⟩, List.mem_of_getElem? (i := 127) (by decide +kernel), List.mem_of_getElem? (i := 417) (by decide +kernel), List.mem_of_getElem? (i := 418) (by decide +kernel)⟩
theorem lw_p19 : lw_okq (⟨"ScreenVotes$OtherRules", "winsAllPairs", "(I)Z"⟩, 2) := ⟨⟨by decide +kernel, by decide +kernel⟩, List.mem_of_getElem? (i := 149) (by decide +kernel), List.mem_of_getElem? (i := 443) (by decide +kernel), List.mem_of_getElem? (i := 444) (by decide +kernel)⟩
theorem lw_p20 : lw_okq (⟨"ScreenVotes$OtherRules", "yesInAll", "(I)I"⟩, 2) := ⟨⟨by decide +kernel, by decide +kernel⟩, List.mem_of_getElem? (i := 149) (by decide +kernel), List.mem_of_getElem? (i := 455) (by decide +kernel), List.mem_of_getElem? (i := 456) (by decide +kernel)⟩
theorem lw_p21 : lw_okq (⟨"ScreenVotes$OtherRules", "votesInAll", "(I)I"⟩, 2) := ⟨⟨by decide +kernel, by decide +kernel⟩, List.mem_of_getElem? (i := 149) (by decide +kernel), List.mem_of_getElem? (i := 464) (by decide +kernel), List.mem_of_getElem? (i := 465) (by decide +kernel)⟩
theorem lw_p22 : lw_okq (⟨"ScreenVotes", "isSkill", "(I)Z"⟩, 9) := ⟨⟨by decide +kernel, by decide +kernel⟩, List.mem_of_getElem? (i := 16) (by decide +kernel), List.mem_of_getElem? (i := 473) (by decide +kernel), List.mem_of_getElem? (i := 474) (by decide +kernel)⟩
theorem lw_p23 : lw_okq (⟨"ScreenVotes$Mornings", "fill", "(I)V"⟩, 3) := ⟨⟨by decide +kernel, by decide +kernel⟩, List.mem_of_getElem? (i := 162) (by decide +kernel), List.mem_of_getElem? (i := 521) (by decide +kernel), List.mem_of_getElem? (i := 522) (by decide +kernel)⟩
theorem lw_p24 : lw_okq (⟨"ScreenVotes", "isPlace", "(I)Z"⟩, 9) := ⟨⟨by decide +kernel, by decide +kernel⟩, List.mem_of_getElem? (i := 16) (by decide +kernel), List.mem_of_getElem? (i := 544) (by decide +kernel), List.mem_of_getElem? (i := 545) (by decide +kernel)⟩
theorem lw_p25 : lw_okq (⟨"ScreenVotes$Trials", "leadsAll", "(I)Z"⟩, 4) := ⟨⟨by decide +kernel, by decide +kernel⟩, List.mem_of_getElem? (i := 178) (by decide +kernel), List.mem_of_getElem? (i := 569) (by decide +kernel), List.mem_of_getElem? (i := 570) (by decide +kernel)⟩
theorem lw_p26 : lw_okq (⟨"ScreenVotesModel", "isPlayer", "(I)Z"⟩, 28) := ⟨⟨by decide +kernel, by decide +kernel⟩, List.mem_of_getElem? (i := 676) (by decide +kernel), List.mem_of_getElem? (i := 792) (by decide +kernel), List.mem_of_getElem? (i := 793) (by decide +kernel)⟩
theorem lw_p27 : lw_okq (⟨"ScreenVotesModel", "counted", "(II)I"⟩, 28) := ⟨⟨by decide +kernel, by decide +kernel⟩, List.mem_of_getElem? (i := 676) (by decide +kernel), List.mem_of_getElem? (i := 796) (by decide +kernel), List.mem_of_getElem? (i := 797) (by decide +kernel)⟩
theorem lw_p28 : lw_okq (⟨"ScreenVotesModel", "vote", "(III)I"⟩, 28) := ⟨⟨by decide +kernel, by decide +kernel⟩, List.mem_of_getElem? (i := 676) (by decide +kernel), List.mem_of_getElem? (i := 800) (by decide +kernel), List.mem_of_getElem? (i := 801) (by decide +kernel)⟩
theorem lw_p29 : lw_okq (⟨"ScreenVotesModel", "yes", "(II)I"⟩, 28) := ⟨⟨by decide +kernel, by decide +kernel⟩, List.mem_of_getElem? (i := 676) (by decide +kernel), List.mem_of_getElem? (i := 804) (by decide +kernel), List.mem_of_getElem? (i := 805) (by decide +kernel)⟩
theorem lw_p30 : lw_okq (⟨"ScreenVotesModel", "read", "()V"⟩, 28) := ⟨⟨by decide +kernel, by decide +kernel⟩, List.mem_of_getElem? (i := 676) (by decide +kernel), List.mem_of_getElem? (i := 820) (by decide +kernel), List.mem_of_getElem? (i := 821) (by decide +kernel)⟩
theorem lw_p31 : lw_okq (⟨"ScreenVotesModel", "expect", "(I)V"⟩, 28) := ⟨⟨by decide +kernel, by decide +kernel⟩, List.mem_of_getElem? (i := 676) (by decide +kernel), List.mem_of_getElem? (i := 824) (by decide +kernel), List.mem_of_getElem? (i := 825) (by decide +kernel)⟩
def lw_privs_2 : List (MethodName × Nat) := [(⟨"ScreenVotes$Contest", "firstOf", "(IIZ)I"⟩, 5), (⟨"ScreenVotes$Contest", "ahead", "(IIZ)I"⟩, 5), (⟨"ScreenVotes$Contest", "isBefore", "(IIZ)Z"⟩, 5), (⟨"ScreenVotes$OtherRules", "winsAllPairs", "(I)Z"⟩, 2), (⟨"ScreenVotes$OtherRules", "yesInAll", "(I)I"⟩, 2), (⟨"ScreenVotes$OtherRules", "votesInAll", "(I)I"⟩, 2), (⟨"ScreenVotes", "isSkill", "(I)Z"⟩, 9), (⟨"ScreenVotes$Mornings", "fill", "(I)V"⟩, 3), (⟨"ScreenVotes", "isPlace", "(I)Z"⟩, 9), (⟨"ScreenVotes$Trials", "leadsAll", "(I)Z"⟩, 4), (⟨"ScreenVotesModel", "isPlayer", "(I)Z"⟩, 28), (⟨"ScreenVotesModel", "counted", "(II)I"⟩, 28), (⟨"ScreenVotesModel", "vote", "(III)I"⟩, 28), (⟨"ScreenVotesModel", "yes", "(II)I"⟩, 28), (⟨"ScreenVotesModel", "read", "()V"⟩, 28), (⟨"ScreenVotesModel", "expect", "(I)V"⟩, 28)]
theorem lw_r2 : ∀ q ∈ lw_privs_2, lw_okq q := List.forall_mem_cons.mpr ⟨lw_p16, List.forall_mem_cons.mpr ⟨lw_p17, List.forall_mem_cons.mpr ⟨lw_p18, List.forall_mem_cons.mpr ⟨lw_p19, List.forall_mem_cons.mpr ⟨lw_p20, List.forall_mem_cons.mpr ⟨lw_p21, List.forall_mem_cons.mpr ⟨lw_p22, List.forall_mem_cons.mpr ⟨lw_p23, List.forall_mem_cons.mpr ⟨lw_p24, List.forall_mem_cons.mpr ⟨lw_p25, List.forall_mem_cons.mpr ⟨lw_p26, List.forall_mem_cons.mpr ⟨lw_p27, List.forall_mem_cons.mpr ⟨lw_p28, List.forall_mem_cons.mpr ⟨lw_p29, List.forall_mem_cons.mpr ⟨lw_p30, List.forall_mem_cons.mpr ⟨lw_p31, fun _ h => absurd h List.not_mem_nil⟩⟩⟩⟩⟩⟩⟩⟩⟩⟩⟩⟩⟩⟩⟩⟩
theorem lw_p32 : lw_okq (⟨"ScreenVotesModel", "byteAt", "(I)I"⟩, 28) := ⟨⟨by decide +kernel, by decide +kernel⟩, List.mem_of_getElem? (i := 676) (by decide +kernel), List.mem_of_getElem? (i := 828) (by decide +kernel), List.mem_of_getElem? (i := 829) (by decide +kernel)⟩
theorem lw_p33 : lw_okq (⟨"ScreenVotesModel", "number", "(I)I"⟩, 28) := ⟨⟨by decide +kernel, by decide +kernel⟩, List.mem_of_getElem? (i := 676) (by decide +kernel), List.mem_of_getElem? (i := 832) (by decide +kernel), List.mem_of_getElem? (i := 833) (by decide +kernel)⟩
theorem lw_p34 : lw_okq (⟨"ScreenVotesModel", "refuses", "(I)I"⟩, 28) := ⟨⟨by decide +kernel, by decide +kernel⟩, List.mem_of_getElem? (i := 676) (by decide +kernel), List.mem_of_getElem? (i := 840) (by decide +kernel), List.mem_of_getElem? (i := 841) (by decide +kernel)⟩
theorem lw_p35 : lw_okq (⟨"ScreenVotesModel", "out", "(I)I"⟩, 28) := ⟨⟨by decide +kernel, by decide +kernel⟩, List.mem_of_getElem? (i := 676) (by decide +kernel), List.mem_of_getElem? (i := 848) (by decide +kernel), List.mem_of_getElem? (i := 849) (by decide +kernel)⟩
theorem lw_p36 : lw_okq (⟨"ScreenVotesModel", "advances", "(II)I"⟩, 28) := ⟨⟨by decide +kernel, by decide +kernel⟩, List.mem_of_getElem? (i := 676) (by decide +kernel), List.mem_of_getElem? (i := 852) (by decide +kernel), List.mem_of_getElem? (i := 853) (by decide +kernel)⟩
theorem lw_p37 : lw_okq (⟨"ScreenVotesModel", "passesIn", "(II)Z"⟩, 28) := ⟨⟨by decide +kernel, by decide +kernel⟩, List.mem_of_getElem? (i := 676) (by decide +kernel), List.mem_of_getElem? (i := 856) (by decide +kernel), List.mem_of_getElem? (i := 857) (by decide +kernel)⟩
theorem lw_p38 : lw_okq (⟨"ScreenVotesModel", "dearer", "(III)I"⟩, 28) := ⟨⟨by decide +kernel, by decide +kernel⟩, List.mem_of_getElem? (i := 676) (by decide +kernel), List.mem_of_getElem? (i := 860) (by decide +kernel), List.mem_of_getElem? (i := 861) (by decide +kernel)⟩
theorem lw_p39 : lw_okq (⟨"ScreenVotesModel", "isAhead", "(III)Z"⟩, 28) := ⟨⟨by decide +kernel, by decide +kernel⟩, List.mem_of_getElem? (i := 676) (by decide +kernel), List.mem_of_getElem? (i := 864) (by decide +kernel), List.mem_of_getElem? (i := 865) (by decide +kernel)⟩
theorem lw_p40 : lw_okq (⟨"ScreenVotesModel", "yesSoFar", "(II)I"⟩, 28) := ⟨⟨by decide +kernel, by decide +kernel⟩, List.mem_of_getElem? (i := 676) (by decide +kernel), List.mem_of_getElem? (i := 868) (by decide +kernel), List.mem_of_getElem? (i := 869) (by decide +kernel)⟩
theorem lw_p41 : lw_okq (⟨"ScreenVotesModel", "placeOf", "(I)I"⟩, 28) := ⟨⟨by decide +kernel, by decide +kernel⟩, List.mem_of_getElem? (i := 676) (by decide +kernel), List.mem_of_getElem? (i := 872) (by decide +kernel), List.mem_of_getElem? (i := 873) (by decide +kernel)⟩
theorem lw_p42 : lw_okq (⟨"ScreenVotesModel", "chosenOne", "()I"⟩, 28) := ⟨⟨by decide +kernel, by decide +kernel⟩, List.mem_of_getElem? (i := 676) (by decide +kernel), List.mem_of_getElem? (i := 887) (by decide +kernel), List.mem_of_getElem? (i := 888) (by decide +kernel)⟩
theorem lw_p43 : lw_okq (⟨"ScreenVotesModel", "beatsAll", "(I)Z"⟩, 28) := ⟨⟨by decide +kernel, by decide +kernel⟩, List.mem_of_getElem? (i := 676) (by decide +kernel), List.mem_of_getElem? (i := 895) (by decide +kernel), List.mem_of_getElem? (i := 896) (by decide +kernel)⟩
theorem lw_p44 : lw_okq (⟨"ScreenVotesModel", "parts", "(II)I"⟩, 28) := ⟨⟨by decide +kernel, by decide +kernel⟩, List.mem_of_getElem? (i := 676) (by decide +kernel), List.mem_of_getElem? (i := 899) (by decide +kernel), List.mem_of_getElem? (i := 900) (by decide +kernel)⟩
theorem lw_p45 : lw_okq (⟨"ScreenVotesModel", "allVotes", "(IZ)I"⟩, 28) := ⟨⟨by decide +kernel, by decide +kernel⟩, List.mem_of_getElem? (i := 676) (by decide +kernel), List.mem_of_getElem? (i := 903) (by decide +kernel), List.mem_of_getElem? (i := 904) (by decide +kernel)⟩
theorem lw_p46 : lw_okq (⟨"ScreenVotesModel", "comes", "(II)I"⟩, 28) := ⟨⟨by decide +kernel, by decide +kernel⟩, List.mem_of_getElem? (i := 676) (by decide +kernel), List.mem_of_getElem? (i := 915) (by decide +kernel), List.mem_of_getElem? (i := 916) (by decide +kernel)⟩
theorem lw_p47 : lw_okq (⟨"ScreenVotesModel", "betterOf", "(II)I"⟩, 28) := ⟨⟨by decide +kernel, by decide +kernel⟩, List.mem_of_getElem? (i := 676) (by decide +kernel), List.mem_of_getElem? (i := 955) (by decide +kernel), List.mem_of_getElem? (i := 956) (by decide +kernel)⟩
def lw_privs_3 : List (MethodName × Nat) := [(⟨"ScreenVotesModel", "byteAt", "(I)I"⟩, 28), (⟨"ScreenVotesModel", "number", "(I)I"⟩, 28), (⟨"ScreenVotesModel", "refuses", "(I)I"⟩, 28), (⟨"ScreenVotesModel", "out", "(I)I"⟩, 28), (⟨"ScreenVotesModel", "advances", "(II)I"⟩, 28), (⟨"ScreenVotesModel", "passesIn", "(II)Z"⟩, 28), (⟨"ScreenVotesModel", "dearer", "(III)I"⟩, 28), (⟨"ScreenVotesModel", "isAhead", "(III)Z"⟩, 28), (⟨"ScreenVotesModel", "yesSoFar", "(II)I"⟩, 28), (⟨"ScreenVotesModel", "placeOf", "(I)I"⟩, 28), (⟨"ScreenVotesModel", "chosenOne", "()I"⟩, 28), (⟨"ScreenVotesModel", "beatsAll", "(I)Z"⟩, 28), (⟨"ScreenVotesModel", "parts", "(II)I"⟩, 28), (⟨"ScreenVotesModel", "allVotes", "(IZ)I"⟩, 28), (⟨"ScreenVotesModel", "comes", "(II)I"⟩, 28), (⟨"ScreenVotesModel", "betterOf", "(II)I"⟩, 28)]
theorem lw_r3 : ∀ q ∈ lw_privs_3, lw_okq q := List.forall_mem_cons.mpr ⟨lw_p32, List.forall_mem_cons.mpr ⟨lw_p33, List.forall_mem_cons.mpr ⟨lw_p34, List.forall_mem_cons.mpr ⟨lw_p35, List.forall_mem_cons.mpr ⟨lw_p36, List.forall_mem_cons.mpr ⟨lw_p37, List.forall_mem_cons.mpr ⟨lw_p38, List.forall_mem_cons.mpr ⟨lw_p39, List.forall_mem_cons.mpr ⟨lw_p40, List.forall_mem_cons.mpr ⟨lw_p41, List.forall_mem_cons.mpr ⟨lw_p42, List.forall_mem_cons.mpr ⟨lw_p43, List.forall_mem_cons.mpr ⟨lw_p44, List.forall_mem_cons.mpr ⟨lw_p45, List.forall_mem_cons.mpr ⟨lw_p46, List.forall_mem_cons.mpr ⟨lw_p47, fun _ h => absurd h List.not_mem_nil⟩⟩⟩⟩⟩⟩⟩⟩⟩⟩⟩⟩⟩⟩⟩⟩
theorem lw_p48 : lw_okq (⟨"ScreenVotesModel", "meets", "(I)I"⟩, 28) := ⟨⟨by decide +kernel, by decide +kernel⟩, List.mem_of_getElem? (i := 676) (by decide +kernel), List.mem_of_getElem? (i := 979) (by decide +kernel), List.mem_of_getElem? (i := 980) (by decide +kernel)⟩
theorem lw_p49 : lw_okq (⟨"ScreenVotesModel", "lacks", "(III)I"⟩, 28) := ⟨⟨by decide +kernel, by decide +kernel⟩, List.mem_of_getElem? (i := 676) (by decide +kernel), List.mem_of_getElem? (i := 991) (by decide +kernel), List.mem_of_getElem? (i := 992) (by decide +kernel)⟩
def lw_privs_4 : List (MethodName × Nat) := [(⟨"ScreenVotesModel", "meets", "(I)I"⟩, 28), (⟨"ScreenVotesModel", "lacks", "(III)I"⟩, 28)]
theorem lw_r4 : ∀ q ∈ lw_privs_4, lw_okq q := List.forall_mem_cons.mpr ⟨lw_p48, List.forall_mem_cons.mpr ⟨lw_p49, fun _ h => absurd h List.not_mem_nil⟩⟩
def lw_privs : List (MethodName × Nat) := lw_privs_1 ++ (lw_privs_2 ++ (lw_privs_3 ++ (lw_privs_4)))
def lw_tbl : List Cond := k2_sels lw_privs ++ tables_1
theorem lw_privs_ok : ∀ q ∈ lw_privs, lw_okq q := by
  show ∀ q ∈ lw_privs_1 ++ (lw_privs_2 ++ (lw_privs_3 ++ (lw_privs_4))), lw_okq q
  exact List.forall_mem_append.mpr ⟨lw_r1, List.forall_mem_append.mpr ⟨lw_r2, List.forall_mem_append.mpr ⟨lw_r3, lw_r4⟩⟩⟩
-- ===== end of PART A; then your names; then what follows =====
end
section
def RX0 : String := "ScreenVotes$Bylaw"
def TX0 : u_T := fun k => match k with
  | 0 => ("ScreenVotes$Bylaw", "text", "[I", true)
  | 1 => ("ScreenVotes$Bylaw", "hundredths", "[I", true)
  | 2 => ("ScreenVotes$Bylaw", "seats", "[I", true)
  | 3 => ("ScreenVotes$Bylaw", "letters", "[I", true)
  | 4 => ("ScreenVotes$Bylaw", "length", "I", false)
  | 5 => ("ScreenVotes$Bylaw", "rounds", "I", false)
  | 6 => ("ScreenVotes$Bylaw", "faultPlace", "I", false)
  | 7 => ("ScreenVotes$Bylaw", "cursor", "I", false)
  | _ => ("ScreenVotes$Bylaw", "number", "I", false)
def tyX0 : Nat → FieldType := fun k => match k with
  | 0 => .array .int
  | 1 => .array .int
  | 2 => .array .int
  | 3 => .array .int
  | 4 => .int
  | 5 => .int
  | 6 => .int
  | 7 => .int
  | _ => .int
abbrev wsX00 : List Cond := u_ws RX0 TX0 9
theorem nmX0 : ∀ a, a < 9 → ∀ b, b < 9 → a ≠ b → (TX0 a).2.1 ≠ (TX0 b).2.1 := by decide +kernel
theorem tyX0_ok : ∀ k, k < 9 → parseFieldDescriptor (TX0 k).2.2.1 = some (tyX0 k) := by decide +kernel
abbrev cX0_init : ByteArray := prog_2_method_1_code
def yX0_init : MethodName := ⟨RX0, "<init>", "()V"⟩
abbrev cX0_append : ByteArray := prog_2_method_2_code
def yX0_append : MethodName := ⟨RX0, "append", "(I)I"⟩
abbrev cX0_clear : ByteArray := prog_2_method_3_code
def yX0_clear : MethodName := ⟨RX0, "clear", "()I"⟩
abbrev cX0_readText : ByteArray := prog_2_method_4_code
def yX0_readText : MethodName := ⟨RX0, "readText", "()V"⟩
abbrev cX0_readRounds : ByteArray := prog_2_method_5_code
def yX0_readRounds : MethodName := ⟨RX0, "readRounds", "()Z"⟩
abbrev cX0_readRound : ByteArray := prog_2_method_6_code
def yX0_readRound : MethodName := ⟨RX0, "readRound", "(I)Z"⟩
abbrev cX0_readByte : ByteArray := prog_2_method_7_code
def yX0_readByte : MethodName := ⟨RX0, "readByte", "(I)Z"⟩
abbrev cX0_readLetter : ByteArray := prog_2_method_8_code
def yX0_readLetter : MethodName := ⟨RX0, "readLetter", "(I)Z"⟩
abbrev cX0_readNumber : ByteArray := prog_2_method_9_code
def yX0_readNumber : MethodName := ⟨RX0, "readNumber", "(I)Z"⟩
abbrev cX0_isFigure : ByteArray := prog_2_method_10_code
def yX0_isFigure : MethodName := ⟨RX0, "isFigure", "(I)Z"⟩
def RX1 : String := "ScreenVotes$Contest"
def TX1 : u_T := fun k => match k with
  | 0 => ("ScreenVotes$Contest", "panel", "LScreenVotes$Panel;", true)
  | 1 => ("ScreenVotes$Contest", "bylaw", "LScreenVotes$Bylaw;", true)
  | 2 => ("ScreenVotes$Contest", "votes", "[I", true)
  | 3 => ("ScreenVotes$Contest", "yes", "[I", true)
  | _ => ("ScreenVotes$Contest", "yesSoFar", "[I", true)
def tyX1 : Nat → FieldType := fun k => match k with
  | 0 => .object "ScreenVotes$Panel"
  | 1 => .object "ScreenVotes$Bylaw"
  | 2 => .array .int
  | 3 => .array .int
  | _ => .array .int
abbrev wsX10 : List Cond := u_ws RX1 TX1 5
theorem nmX1 : ∀ a, a < 5 → ∀ b, b < 5 → a ≠ b → (TX1 a).2.1 ≠ (TX1 b).2.1 := by decide +kernel
theorem tyX1_ok : ∀ k, k < 5 → parseFieldDescriptor (TX1 k).2.2.1 = some (tyX1 k) := by decide +kernel
abbrev cX1_init : ByteArray := prog_3_method_1_code
def yX1_init : MethodName := ⟨RX1, "<init>", "(LScreenVotes$Panel;LScreenVotes$Bylaw;)V"⟩
abbrev cX1_advancedOutOf : ByteArray := prog_3_method_2_code
def yX1_advancedOutOf : MethodName := ⟨RX1, "advancedOutOf", "(I)I"⟩
abbrev cX1_tally : ByteArray := prog_3_method_3_code
def yX1_tally : MethodName := ⟨RX1, "tally", "(I)V"⟩
abbrev cX1_whoPass : ByteArray := prog_3_method_4_code
def yX1_whoPass : MethodName := ⟨RX1, "whoPass", "(II)I"⟩
abbrev cX1_whoAdvance : ByteArray := prog_3_method_5_code
def yX1_whoAdvance : MethodName := ⟨RX1, "whoAdvance", "(II)I"⟩
abbrev cX1_withShare : ByteArray := prog_3_method_6_code
def yX1_withShare : MethodName := ⟨RX1, "withShare", "(III)I"⟩
abbrev cX1_compareShares : ByteArray := prog_3_method_7_code
def yX1_compareShares : MethodName := ⟨RX1, "compareShares", "(II)I"⟩
abbrev cX1_outOfTie : ByteArray := prog_3_method_8_code
def yX1_outOfTie : MethodName := ⟨RX1, "outOfTie", "(III)I"⟩
abbrev cX1_firstOf : ByteArray := prog_3_method_9_code
def yX1_firstOf : MethodName := ⟨RX1, "firstOf", "(IIZ)I"⟩
abbrev cX1_ahead : ByteArray := prog_3_method_10_code
def yX1_ahead : MethodName := ⟨RX1, "ahead", "(IIZ)I"⟩
abbrev cX1_isBefore : ByteArray := prog_3_method_11_code
def yX1_isBefore : MethodName := ⟨RX1, "isBefore", "(IIZ)Z"⟩
abbrev cX1_has : ByteArray := prog_3_method_12_code
def yX1_has : MethodName := ⟨RX1, "has", "(II)Z"⟩
def RX2 : String := "ScreenVotes$Heard"
def TX2 : u_T := fun k => match k with
  | 0 => ("ScreenVotes$Heard", "numbers", "[I", true)
  | 1 => ("ScreenVotes$Heard", "years", "[I", true)
  | 2 => ("ScreenVotes$Heard", "rounds", "[I", true)
  | _ => ("ScreenVotes$Heard", "kept", "I", false)
def tyX2 : Nat → FieldType := fun k => match k with
  | 0 => .array .int
  | 1 => .array .int
  | 2 => .array .int
  | _ => .int
abbrev wsX20 : List Cond := u_ws RX2 TX2 4
theorem nmX2 : ∀ a, a < 4 → ∀ b, b < 4 → a ≠ b → (TX2 a).2.1 ≠ (TX2 b).2.1 := by decide +kernel
theorem tyX2_ok : ∀ k, k < 4 → parseFieldDescriptor (TX2 k).2.2.1 = some (tyX2 k) := by decide +kernel
abbrev cX2_init : ByteArray := prog_4_method_1_code
def yX2_init : MethodName := ⟨RX2, "<init>", "()V"⟩
abbrev cX2_keep : ByteArray := prog_4_method_2_code
def yX2_keep : MethodName := ⟨RX2, "keep", "(III)I"⟩
abbrev cX2_howOften : ByteArray := prog_4_method_3_code
def yX2_howOften : MethodName := ⟨RX2, "howOften", "(I)I"⟩
abbrev cX2_greatest : ByteArray := prog_4_method_4_code
def yX2_greatest : MethodName := ⟨RX2, "greatest", "(I[I)I"⟩
def RX3 : String := "ScreenVotes$Mornings"
def TX3 : u_T := fun k => match k with
  | 0 => ("ScreenVotes$Mornings", "panel", "LScreenVotes$Panel;", true)
  | 1 => ("ScreenVotes$Mornings", "bylaw", "LScreenVotes$Bylaw;", true)
  | _ => ("ScreenVotes$Mornings", "table", "[I", true)
def tyX3 : Nat → FieldType := fun k => match k with
  | 0 => .object "ScreenVotes$Panel"
  | 1 => .object "ScreenVotes$Bylaw"
  | _ => .array .int
abbrev wsX30 : List Cond := u_ws RX3 TX3 3
theorem nmX3 : ∀ a, a < 3 → ∀ b, b < 3 → a ≠ b → (TX3 a).2.1 ≠ (TX3 b).2.1 := by decide +kernel
theorem tyX3_ok : ∀ k, k < 3 → parseFieldDescriptor (TX3 k).2.2.1 = some (tyX3 k) := by decide +kernel
abbrev cX3_init : ByteArray := prog_5_method_1_code
def yX3_init : MethodName := ⟨RX3, "<init>", "(LScreenVotes$Panel;LScreenVotes$Bylaw;)V"⟩
abbrev cX3_tell : ByteArray := prog_5_method_2_code
def yX3_tell : MethodName := ⟨RX3, "tell", "(II)I"⟩
abbrev cX3_fill : ByteArray := prog_5_method_3_code
def yX3_fill : MethodName := ⟨RX3, "fill", "(I)V"⟩
def RX4 : String := "ScreenVotes$Odds"
def TX4 : u_T := fun k => match k with
  | _ => ("", "", "", false)
def tyX4 : Nat → FieldType := fun k => match k with
  | _ => .int
abbrev wsX40 : List Cond := u_ws RX4 TX4 0
theorem nmX4 : ∀ a, a < 0 → ∀ b, b < 0 → a ≠ b → (TX4 a).2.1 ≠ (TX4 b).2.1 := by decide +kernel
theorem tyX4_ok : ∀ k, k < 0 → parseFieldDescriptor (TX4 k).2.2.1 = some (tyX4 k) := by decide +kernel
abbrev cX4_ofPassing : ByteArray := prog_6_method_2_code
def yX4_ofPassing : MethodName := ⟨RX4, "ofPassing", "(III)I"⟩
abbrev cX4_falseShare : ByteArray := prog_6_method_3_code
def yX4_falseShare : MethodName := ⟨RX4, "falseShare", "(IIII)I"⟩
abbrev cX4_isNotBelow : ByteArray := prog_6_method_4_code
def yX4_isNotBelow : MethodName := ⟨RX4, "isNotBelow", "(IIII)Z"⟩
abbrev cX4_millionths : ByteArray := prog_6_method_5_code
def yX4_millionths : MethodName := ⟨RX4, "millionths", "(JJ)I"⟩
abbrev cX4_choose : ByteArray := prog_6_method_6_code
def yX4_choose : MethodName := ⟨RX4, "choose", "(II)J"⟩
abbrev cX4_power : ByteArray := prog_6_method_7_code
def yX4_power : MethodName := ⟨RX4, "power", "(II)J"⟩
def RX5 : String := "ScreenVotes$OtherRules"
def TX5 : u_T := fun k => match k with
  | 0 => ("ScreenVotes$OtherRules", "panel", "LScreenVotes$Panel;", true)
  | _ => ("ScreenVotes$OtherRules", "bylaw", "LScreenVotes$Bylaw;", true)
def tyX5 : Nat → FieldType := fun k => match k with
  | 0 => .object "ScreenVotes$Panel"
  | _ => .object "ScreenVotes$Bylaw"
abbrev wsX50 : List Cond := u_ws RX5 TX5 2
theorem nmX5 : ∀ a, a < 2 → ∀ b, b < 2 → a ≠ b → (TX5 a).2.1 ≠ (TX5 b).2.1 := by decide +kernel
theorem tyX5_ok : ∀ k, k < 2 → parseFieldDescriptor (TX5 k).2.2.1 = some (tyX5 k) := by decide +kernel
abbrev cX5_init : ByteArray := prog_7_method_1_code
def yX5_init : MethodName := ⟨RX5, "<init>", "(LScreenVotes$Panel;LScreenVotes$Bylaw;)V"⟩
abbrev cX5_mostYes : ByteArray := prog_7_method_2_code
def yX5_mostYes : MethodName := ⟨RX5, "mostYes", "()I"⟩
abbrev cX5_greatestShare : ByteArray := prog_7_method_3_code
def yX5_greatestShare : MethodName := ⟨RX5, "greatestShare", "()I"⟩
abbrev cX5_winnerOfAllPairs : ByteArray := prog_7_method_4_code
def yX5_winnerOfAllPairs : MethodName := ⟨RX5, "winnerOfAllPairs", "()I"⟩
abbrev cX5_winsAllPairs : ByteArray := prog_7_method_5_code
def yX5_winsAllPairs : MethodName := ⟨RX5, "winsAllPairs", "(I)Z"⟩
abbrev cX5_yesInAll : ByteArray := prog_7_method_6_code
def yX5_yesInAll : MethodName := ⟨RX5, "yesInAll", "(I)I"⟩
abbrev cX5_votesInAll : ByteArray := prog_7_method_7_code
def yX5_votesInAll : MethodName := ⟨RX5, "votesInAll", "(I)I"⟩
def RX6 : String := "ScreenVotes$Panel"
def TX6 : u_T := fun k => match k with
  | 0 => ("ScreenVotes$Panel", "sheets", "LScreenVotes$Sheets;", true)
  | 1 => ("ScreenVotes$Panel", "kin", "[I", true)
  | 2 => ("ScreenVotes$Panel", "row", "[I", true)
  | 3 => ("ScreenVotes$Panel", "placeInRow", "[I", true)
  | 4 => ("ScreenVotes$Panel", "players", "I", false)
  | _ => ("ScreenVotes$Panel", "voting", "I", false)
def tyX6 : Nat → FieldType := fun k => match k with
  | 0 => .object "ScreenVotes$Sheets"
  | 1 => .array .int
  | 2 => .array .int
  | 3 => .array .int
  | 4 => .int
  | _ => .int
abbrev wsX60 : List Cond := u_ws RX6 TX6 6
theorem nmX6 : ∀ a, a < 6 → ∀ b, b < 6 → a ≠ b → (TX6 a).2.1 ≠ (TX6 b).2.1 := by decide +kernel
theorem tyX6_ok : ∀ k, k < 6 → parseFieldDescriptor (TX6 k).2.2.1 = some (tyX6 k) := by decide +kernel
abbrev cX6_init : ByteArray := prog_8_method_1_code
def yX6_init : MethodName := ⟨RX6, "<init>", "(LScreenVotes$Sheets;)V"⟩
abbrev cX6_addPlayer : ByteArray := prog_8_method_2_code
def yX6_addPlayer : MethodName := ⟨RX6, "addPlayer", "(I)I"⟩
abbrev cX6_shuffle : ByteArray := prog_8_method_3_code
def yX6_shuffle : MethodName := ⟨RX6, "shuffle", "(I)V"⟩
abbrev cX6_place : ByteArray := prog_8_method_4_code
def yX6_place : MethodName := ⟨RX6, "place", "(II)V"⟩
abbrev cX6_everyone : ByteArray := prog_8_method_5_code
def yX6_everyone : MethodName := ⟨RX6, "everyone", "()I"⟩
abbrev cX6_countingVote : ByteArray := prog_8_method_6_code
def yX6_countingVote : MethodName := ⟨RX6, "countingVote", "(III)I"⟩
abbrev cX6_countingVotes : ByteArray := prog_8_method_7_code
def yX6_countingVotes : MethodName := ⟨RX6, "countingVotes", "(II)I"⟩
abbrev cX6_yesVotes : ByteArray := prog_8_method_8_code
def yX6_yesVotes : MethodName := ⟨RX6, "yesVotes", "(II)I"⟩
abbrev cX6_jurorsOnPart : ByteArray := prog_8_method_9_code
def yX6_jurorsOnPart : MethodName := ⟨RX6, "jurorsOnPart", "(III)I"⟩
def RX7 : String := "ScreenVotes$Sheets"
def TX7 : u_T := fun k => match k with
  | 0 => ("ScreenVotes$Sheets", "items", "[[I", true)
  | 1 => ("ScreenVotes$Sheets", "forms", "[I", true)
  | 2 => ("ScreenVotes$Sheets", "sizes", "[I", true)
  | _ => ("ScreenVotes$Sheets", "latestFinding", "I", false)
def tyX7 : Nat → FieldType := fun k => match k with
  | 0 => .array (.array .int)
  | 1 => .array .int
  | 2 => .array .int
  | _ => .int
abbrev wsX70 : List Cond := u_ws RX7 TX7 4
theorem nmX7 : ∀ a, a < 4 → ∀ b, b < 4 → a ≠ b → (TX7 a).2.1 ≠ (TX7 b).2.1 := by decide +kernel
theorem tyX7_ok : ∀ k, k < 4 → parseFieldDescriptor (TX7 k).2.2.1 = some (tyX7 k) := by decide +kernel
abbrev cX7_init : ByteArray := prog_9_method_1_code
def yX7_init : MethodName := ⟨RX7, "<init>", "()V"⟩
abbrev cX7_isLost : ByteArray := prog_9_method_2_code
def yX7_isLost : MethodName := ⟨RX7, "isLost", "(I)Z"⟩
abbrev cX7_found : ByteArray := prog_9_method_3_code
def yX7_found : MethodName := ⟨RX7, "found", "(I)I"⟩
abbrev cX7_lay : ByteArray := prog_9_method_4_code
def yX7_lay : MethodName := ⟨RX7, "lay", "(III)I"⟩
abbrev cX7_drop : ByteArray := prog_9_method_5_code
def yX7_drop : MethodName := ⟨RX7, "drop", "(I)I"⟩
abbrev cX7_findingOfItem : ByteArray := prog_9_method_6_code
def yX7_findingOfItem : MethodName := ⟨RX7, "findingOfItem", "(III)I"⟩
abbrev cX7_findingOfSheets : ByteArray := prog_9_method_7_code
def yX7_findingOfSheets : MethodName := ⟨RX7, "findingOfSheets", "(II)I"⟩
abbrev cX7_hasSpan : ByteArray := prog_9_method_8_code
def yX7_hasSpan : MethodName := ⟨RX7, "hasSpan", "(III)Z"⟩
abbrev cX7_lowestBits : ByteArray := prog_9_method_9_code
def yX7_lowestBits : MethodName := ⟨RX7, "lowestBits", "(II)I"⟩
abbrev cX7_voteAt : ByteArray := prog_9_method_10_code
def yX7_voteAt : MethodName := ⟨RX7, "voteAt", "(II)I"⟩
def RX8 : String := "ScreenVotes$Trials"
def TX8 : u_T := fun k => match k with
  | 0 => ("ScreenVotes$Trials", "onTrial", "[I", true)
  | 1 => ("ScreenVotes$Trials", "weeks", "[I", true)
  | 2 => ("ScreenVotes$Trials", "marks", "[[I", true)
  | _ => ("ScreenVotes$Trials", "places", "I", false)
def tyX8 : Nat → FieldType := fun k => match k with
  | 0 => .array .int
  | 1 => .array .int
  | 2 => .array (.array .int)
  | _ => .int
abbrev wsX80 : List Cond := u_ws RX8 TX8 4
theorem nmX8 : ∀ a, a < 4 → ∀ b, b < 4 → a ≠ b → (TX8 a).2.1 ≠ (TX8 b).2.1 := by decide +kernel
theorem tyX8_ok : ∀ k, k < 4 → parseFieldDescriptor (TX8 k).2.2.1 = some (tyX8 k) := by decide +kernel
abbrev cX8_init : ByteArray := prog_10_method_1_code
def yX8_init : MethodName := ⟨RX8, "<init>", "()V"⟩
abbrev cX8_has : ByteArray := prog_10_method_2_code
def yX8_has : MethodName := ⟨RX8, "has", "(I)Z"⟩
abbrev cX8_open : ByteArray := prog_10_method_3_code
def yX8_open : MethodName := ⟨RX8, "open", "(I)I"⟩
abbrev cX8_addMark : ByteArray := prog_10_method_4_code
def yX8_addMark : MethodName := ⟨RX8, "addMark", "(II)I"⟩
abbrev cX8_lead : ByteArray := prog_10_method_5_code
def yX8_lead : MethodName := ⟨RX8, "lead", "(II)I"⟩
abbrev cX8_seated : ByteArray := prog_10_method_6_code
def yX8_seated : MethodName := ⟨RX8, "seated", "()I"⟩
abbrev cX8_leadsAll : ByteArray := prog_10_method_7_code
def yX8_leadsAll : MethodName := ⟨RX8, "leadsAll", "(I)Z"⟩
def RX9 : String := "ScreenVotes"
def TX9 : u_T := fun k => match k with
  | 0 => ("ScreenVotes", "sheets", "LScreenVotes$Sheets;", true)
  | 1 => ("ScreenVotes", "panel", "LScreenVotes$Panel;", true)
  | 2 => ("ScreenVotes", "bylaw", "LScreenVotes$Bylaw;", true)
  | 3 => ("ScreenVotes", "contest", "LScreenVotes$Contest;", true)
  | 4 => ("ScreenVotes", "otherRules", "LScreenVotes$OtherRules;", true)
  | 5 => ("ScreenVotes", "mornings", "LScreenVotes$Mornings;", true)
  | 6 => ("ScreenVotes", "trials", "LScreenVotes$Trials;", true)
  | 7 => ("ScreenVotes", "heard", "LScreenVotes$Heard;", true)
  | _ => ("ScreenVotes", "chances", "[I", true)
def tyX9 : Nat → FieldType := fun k => match k with
  | 0 => .object "ScreenVotes$Sheets"
  | 1 => .object "ScreenVotes$Panel"
  | 2 => .object "ScreenVotes$Bylaw"
  | 3 => .object "ScreenVotes$Contest"
  | 4 => .object "ScreenVotes$OtherRules"
  | 5 => .object "ScreenVotes$Mornings"
  | 6 => .object "ScreenVotes$Trials"
  | 7 => .object "ScreenVotes$Heard"
  | _ => .array .int
abbrev wsX90 : List Cond := u_ws RX9 TX9 9
theorem nmX9 : ∀ a, a < 9 → ∀ b, b < 9 → a ≠ b → (TX9 a).2.1 ≠ (TX9 b).2.1 := by decide +kernel
theorem tyX9_ok : ∀ k, k < 9 → parseFieldDescriptor (TX9 k).2.2.1 = some (tyX9 k) := by decide +kernel
abbrev cX9_init : ByteArray := prog_1_method_1_code
def yX9_init : MethodName := ⟨RX9, "<init>", "()V"⟩
abbrev cX9_player : ByteArray := prog_1_method_2_code
def yX9_player : MethodName := ⟨RX9, "player", "(I)I"⟩
abbrev cX9_jurors : ByteArray := prog_1_method_3_code
def yX9_jurors : MethodName := ⟨RX9, "jurors", "(I)I"⟩
abbrev cX9_draw : ByteArray := prog_1_method_4_code
def yX9_draw : MethodName := ⟨RX9, "draw", "(I)I"⟩
abbrev cX9_order : ByteArray := prog_1_method_5_code
def yX9_order : MethodName := ⟨RX9, "order", "(I)I"⟩
abbrev cX9_votes : ByteArray := prog_1_method_6_code
def yX9_votes : MethodName := ⟨RX9, "votes", "(III)I"⟩
abbrev cX9_type : ByteArray := prog_1_method_7_code
def yX9_type : MethodName := ⟨RX9, "type", "(I)I"⟩
abbrev cX9_repeal : ByteArray := prog_1_method_8_code
def yX9_repeal : MethodName := ⟨RX9, "repeal", "()I"⟩
abbrev cX9_fault : ByteArray := prog_1_method_9_code
def yX9_fault : MethodName := ⟨RX9, "fault", "()I"⟩
abbrev cX9_law : ByteArray := prog_1_method_10_code
def yX9_law : MethodName := ⟨RX9, "law", "(II)I"⟩
abbrev cX9_advance : ByteArray := prog_1_method_11_code
def yX9_advance : MethodName := ⟨RX9, "advance", "(I)I"⟩
abbrev cX9_through : ByteArray := prog_1_method_12_code
def yX9_through : MethodName := ⟨RX9, "through", "(I)I"⟩
abbrev cX9_chosen : ByteArray := prog_1_method_13_code
def yX9_chosen : MethodName := ⟨RX9, "chosen", "()I"⟩
abbrev cX9_other : ByteArray := prog_1_method_14_code
def yX9_other : MethodName := ⟨RX9, "other", "(I)I"⟩
abbrev cX9_chance : ByteArray := prog_1_method_15_code
def yX9_chance : MethodName := ⟨RX9, "chance", "(II)I"⟩
abbrev cX9_passes : ByteArray := prog_1_method_16_code
def yX9_passes : MethodName := ⟨RX9, "passes", "(II)I"⟩
abbrev cX9_all : ByteArray := prog_1_method_17_code
def yX9_all : MethodName := ⟨RX9, "all", "(I)I"⟩
abbrev cX9_doubt : ByteArray := prog_1_method_18_code
def yX9_doubt : MethodName := ⟨RX9, "doubt", "(IIII)I"⟩
abbrev cX9_morning : ByteArray := prog_1_method_19_code
def yX9_morning : MethodName := ⟨RX9, "morning", "(II)I"⟩
abbrev cX9_trial : ByteArray := prog_1_method_20_code
def yX9_trial : MethodName := ⟨RX9, "trial", "(I)I"⟩
abbrev cX9_week : ByteArray := prog_1_method_21_code
def yX9_week : MethodName := ⟨RX9, "week", "(II)I"⟩
abbrev cX9_better : ByteArray := prog_1_method_22_code
def yX9_better : MethodName := ⟨RX9, "better", "(II)I"⟩
abbrev cX9_seat : ByteArray := prog_1_method_23_code
def yX9_seat : MethodName := ⟨RX9, "seat", "()I"⟩
abbrev cX9_hear : ByteArray := prog_1_method_24_code
def yX9_hear : MethodName := ⟨RX9, "hear", "(III)I"⟩
abbrev cX9_known : ByteArray := prog_1_method_25_code
def yX9_known : MethodName := ⟨RX9, "known", "(II)I"⟩
abbrev cX9_sheet : ByteArray := prog_1_method_26_code
def yX9_sheet : MethodName := ⟨RX9, "sheet", "(III)I"⟩
abbrev cX9_lose : ByteArray := prog_1_method_27_code
def yX9_lose : MethodName := ⟨RX9, "lose", "(I)I"⟩
abbrev cX9_put : ByteArray := prog_1_method_28_code
def yX9_put : MethodName := ⟨RX9, "put", "(IIII)I"⟩
abbrev cX9_get : ByteArray := prog_1_method_29_code
def yX9_get : MethodName := ⟨RX9, "get", "(III)I"⟩
abbrev cX9_copy : ByteArray := prog_1_method_30_code
def yX9_copy : MethodName := ⟨RX9, "copy", "(IIIII)I"⟩
abbrev cX9_count : ByteArray := prog_1_method_31_code
def yX9_count : MethodName := ⟨RX9, "count", "(I)I"⟩
abbrev cX9_digest : ByteArray := prog_1_method_32_code
def yX9_digest : MethodName := ⟨RX9, "digest", "()J"⟩
abbrev cX9_within : ByteArray := prog_1_method_33_code
def yX9_within : MethodName := ⟨RX9, "within", "(III)Z"⟩
abbrev cX9_isRound : ByteArray := prog_1_method_34_code
def yX9_isRound : MethodName := ⟨RX9, "isRound", "(I)Z"⟩
abbrev cX9_isSheet : ByteArray := prog_1_method_35_code
def yX9_isSheet : MethodName := ⟨RX9, "isSheet", "(I)Z"⟩
abbrev cX9_isForm : ByteArray := prog_1_method_36_code
def yX9_isForm : MethodName := ⟨RX9, "isForm", "(I)Z"⟩
abbrev cX9_inTable : ByteArray := prog_1_method_37_code
def yX9_inTable : MethodName := ⟨RX9, "inTable", "(I)Z"⟩
abbrev cX9_isNumber : ByteArray := prog_1_method_38_code
def yX9_isNumber : MethodName := ⟨RX9, "isNumber", "(I)Z"⟩
abbrev cX9_isSkill : ByteArray := prog_1_method_39_code
def yX9_isSkill : MethodName := ⟨RX9, "isSkill", "(I)Z"⟩
abbrev cX9_isPlayer : ByteArray := prog_1_method_40_code
def yX9_isPlayer : MethodName := ⟨RX9, "isPlayer", "(I)Z"⟩
abbrev cX9_isPlace : ByteArray := prog_1_method_41_code
def yX9_isPlace : MethodName := ⟨RX9, "isPlace", "(I)Z"⟩
abbrev cX9_refusalOfRound : ByteArray := prog_1_method_42_code
def yX9_refusalOfRound : MethodName := ⟨RX9, "refusalOfRound", "(I)I"⟩
def RX10 : String := "ScreenVotesModel"
def TX10 : u_T := fun k => match k with
  | 0 => ("ScreenVotesModel", "players", "I", false)
  | 1 => ("ScreenVotesModel", "kin", "[I", true)
  | 2 => ("ScreenVotesModel", "line", "[I", true)
  | 3 => ("ScreenVotesModel", "jurors", "I", false)
  | 4 => ("ScreenVotesModel", "typed", "I", false)
  | 5 => ("ScreenVotesModel", "text", "[I", true)
  | 6 => ("ScreenVotesModel", "rounds", "I", false)
  | 7 => ("ScreenVotesModel", "shares", "[I", true)
  | 8 => ("ScreenVotesModel", "places", "[I", true)
  | 9 => ("ScreenVotesModel", "letters", "[I", true)
  | 10 => ("ScreenVotesModel", "at", "I", false)
  | 11 => ("ScreenVotesModel", "fault", "I", false)
  | 12 => ("ScreenVotesModel", "chances", "[I", true)
  | 13 => ("ScreenVotesModel", "half", "[I", true)
  | 14 => ("ScreenVotesModel", "trials", "I", false)
  | 15 => ("ScreenVotesModel", "tried", "[I", true)
  | 16 => ("ScreenVotesModel", "weeks", "[I", true)
  | 17 => ("ScreenVotesModel", "marks", "[I", true)
  | 18 => ("ScreenVotesModel", "heard", "I", false)
  | 19 => ("ScreenVotesModel", "numbers", "[I", true)
  | 20 => ("ScreenVotesModel", "years", "[I", true)
  | 21 => ("ScreenVotesModel", "reached", "[I", true)
  | 22 => ("ScreenVotesModel", "isThere", "[Z", true)
  | 23 => ("ScreenVotesModel", "forms", "[I", true)
  | 24 => ("ScreenVotesModel", "sizes", "[I", true)
  | 25 => ("ScreenVotesModel", "items", "[I", true)
  | 26 => ("ScreenVotesModel", "moved", "[I", true)
  | _ => ("ScreenVotesModel", "finding", "I", false)
def tyX10 : Nat → FieldType := fun k => match k with
  | 0 => .int
  | 1 => .array .int
  | 2 => .array .int
  | 3 => .int
  | 4 => .int
  | 5 => .array .int
  | 6 => .int
  | 7 => .array .int
  | 8 => .array .int
  | 9 => .array .int
  | 10 => .int
  | 11 => .int
  | 12 => .array .int
  | 13 => .array .int
  | 14 => .int
  | 15 => .array .int
  | 16 => .array .int
  | 17 => .array .int
  | 18 => .int
  | 19 => .array .int
  | 20 => .array .int
  | 21 => .array .int
  | 22 => .array .boolean
  | 23 => .array .int
  | 24 => .array .int
  | 25 => .array .int
  | 26 => .array .int
  | _ => .int
abbrev wsX100 : List Cond := u_ws RX10 TX10 28
theorem nmX10 : ∀ a, a < 28 → ∀ b, b < 28 → a ≠ b → (TX10 a).2.1 ≠ (TX10 b).2.1 := by decide +kernel
theorem tyX10_ok : ∀ k, k < 28 → parseFieldDescriptor (TX10 k).2.2.1 = some (tyX10 k) := by decide +kernel
abbrev cX10_init : ByteArray := prog_12_method_1_code
def yX10_init : MethodName := ⟨RX10, "<init>", "()V"⟩
abbrev cX10_in : ByteArray := prog_12_method_3_code
def yX10_in : MethodName := ⟨RX10, "in", "(III)Z"⟩
abbrev cX10_isPlayer : ByteArray := prog_12_method_4_code
def yX10_isPlayer : MethodName := ⟨RX10, "isPlayer", "(I)Z"⟩
abbrev cX10_player : ByteArray := prog_12_method_5_code
def yX10_player : MethodName := ⟨RX10, "player", "(I)I"⟩
abbrev cX10_jurors : ByteArray := prog_12_method_6_code
def yX10_jurors : MethodName := ⟨RX10, "jurors", "(I)I"⟩
abbrev cX10_draw : ByteArray := prog_12_method_7_code
def yX10_draw : MethodName := ⟨RX10, "draw", "(I)I"⟩
abbrev cX10_order : ByteArray := prog_12_method_8_code
def yX10_order : MethodName := ⟨RX10, "order", "(I)I"⟩
abbrev cX10_vote : ByteArray := prog_12_method_9_code
def yX10_vote : MethodName := ⟨RX10, "vote", "(III)I"⟩
abbrev cX10_counted : ByteArray := prog_12_method_10_code
def yX10_counted : MethodName := ⟨RX10, "counted", "(II)I"⟩
abbrev cX10_yes : ByteArray := prog_12_method_11_code
def yX10_yes : MethodName := ⟨RX10, "yes", "(II)I"⟩
abbrev cX10_votes : ByteArray := prog_12_method_12_code
def yX10_votes : MethodName := ⟨RX10, "votes", "(III)I"⟩
abbrev cX10_type : ByteArray := prog_12_method_13_code
def yX10_type : MethodName := ⟨RX10, "type", "(I)I"⟩
abbrev cX10_repeal : ByteArray := prog_12_method_14_code
def yX10_repeal : MethodName := ⟨RX10, "repeal", "()I"⟩
abbrev cX10_byteAt : ByteArray := prog_12_method_15_code
def yX10_byteAt : MethodName := ⟨RX10, "byteAt", "(I)I"⟩
abbrev cX10_expect : ByteArray := prog_12_method_16_code
def yX10_expect : MethodName := ⟨RX10, "expect", "(I)V"⟩
abbrev cX10_number : ByteArray := prog_12_method_17_code
def yX10_number : MethodName := ⟨RX10, "number", "(I)I"⟩
abbrev cX10_read : ByteArray := prog_12_method_18_code
def yX10_read : MethodName := ⟨RX10, "read", "()V"⟩
abbrev cX10_fault : ByteArray := prog_12_method_19_code
def yX10_fault : MethodName := ⟨RX10, "fault", "()I"⟩
abbrev cX10_refuses : ByteArray := prog_12_method_20_code
def yX10_refuses : MethodName := ⟨RX10, "refuses", "(I)I"⟩
abbrev cX10_law : ByteArray := prog_12_method_21_code
def yX10_law : MethodName := ⟨RX10, "law", "(II)I"⟩
abbrev cX10_dearer : ByteArray := prog_12_method_22_code
def yX10_dearer : MethodName := ⟨RX10, "dearer", "(III)I"⟩
abbrev cX10_yesSoFar : ByteArray := prog_12_method_23_code
def yX10_yesSoFar : MethodName := ⟨RX10, "yesSoFar", "(II)I"⟩
abbrev cX10_placeOf : ByteArray := prog_12_method_24_code
def yX10_placeOf : MethodName := ⟨RX10, "placeOf", "(I)I"⟩
abbrev cX10_isAhead : ByteArray := prog_12_method_25_code
def yX10_isAhead : MethodName := ⟨RX10, "isAhead", "(III)Z"⟩
abbrev cX10_passesIn : ByteArray := prog_12_method_26_code
def yX10_passesIn : MethodName := ⟨RX10, "passesIn", "(II)Z"⟩
abbrev cX10_advances : ByteArray := prog_12_method_27_code
def yX10_advances : MethodName := ⟨RX10, "advances", "(II)I"⟩
abbrev cX10_out : ByteArray := prog_12_method_28_code
def yX10_out : MethodName := ⟨RX10, "out", "(I)I"⟩
abbrev cX10_ones : ByteArray := prog_12_method_29_code
def yX10_ones : MethodName := ⟨RX10, "ones", "(I)I"⟩
abbrev cX10_advance : ByteArray := prog_12_method_30_code
def yX10_advance : MethodName := ⟨RX10, "advance", "(I)I"⟩
abbrev cX10_through : ByteArray := prog_12_method_31_code
def yX10_through : MethodName := ⟨RX10, "through", "(I)I"⟩
abbrev cX10_chosenOne : ByteArray := prog_12_method_32_code
def yX10_chosenOne : MethodName := ⟨RX10, "chosenOne", "()I"⟩
abbrev cX10_chosen : ByteArray := prog_12_method_33_code
def yX10_chosen : MethodName := ⟨RX10, "chosen", "()I"⟩
abbrev cX10_allVotes : ByteArray := prog_12_method_34_code
def yX10_allVotes : MethodName := ⟨RX10, "allVotes", "(IZ)I"⟩
abbrev cX10_parts : ByteArray := prog_12_method_35_code
def yX10_parts : MethodName := ⟨RX10, "parts", "(II)I"⟩
abbrev cX10_beatsAll : ByteArray := prog_12_method_36_code
def yX10_beatsAll : MethodName := ⟨RX10, "beatsAll", "(I)Z"⟩
abbrev cX10_other : ByteArray := prog_12_method_37_code
def yX10_other : MethodName := ⟨RX10, "other", "(I)I"⟩
abbrev cX10_chance : ByteArray := prog_12_method_38_code
def yX10_chance : MethodName := ⟨RX10, "chance", "(II)I"⟩
abbrev cX10_choose : ByteArray := prog_12_method_39_code
def yX10_choose : MethodName := ⟨RX10, "choose", "(II)J"⟩
abbrev cX10_toThe : ByteArray := prog_12_method_40_code
def yX10_toThe : MethodName := ⟨RX10, "toThe", "(JI)J"⟩
abbrev cX10_comes : ByteArray := prog_12_method_41_code
def yX10_comes : MethodName := ⟨RX10, "comes", "(II)I"⟩
abbrev cX10_passes : ByteArray := prog_12_method_42_code
def yX10_passes : MethodName := ⟨RX10, "passes", "(II)I"⟩
abbrev cX10_all : ByteArray := prog_12_method_43_code
def yX10_all : MethodName := ⟨RX10, "all", "(I)I"⟩
abbrev cX10_falseShare : ByteArray := prog_12_method_44_code
def yX10_falseShare : MethodName := ⟨RX10, "falseShare", "(IIII)I"⟩
abbrev cX10_doubt : ByteArray := prog_12_method_45_code
def yX10_doubt : MethodName := ⟨RX10, "doubt", "(IIII)I"⟩
abbrev cX10_morning : ByteArray := prog_12_method_46_code
def yX10_morning : MethodName := ⟨RX10, "morning", "(II)I"⟩
abbrev cX10_trial : ByteArray := prog_12_method_47_code
def yX10_trial : MethodName := ⟨RX10, "trial", "(I)I"⟩
abbrev cX10_week : ByteArray := prog_12_method_48_code
def yX10_week : MethodName := ⟨RX10, "week", "(II)I"⟩
abbrev cX10_betterOf : ByteArray := prog_12_method_49_code
def yX10_betterOf : MethodName := ⟨RX10, "betterOf", "(II)I"⟩
abbrev cX10_better : ByteArray := prog_12_method_50_code
def yX10_better : MethodName := ⟨RX10, "better", "(II)I"⟩
abbrev cX10_seat : ByteArray := prog_12_method_51_code
def yX10_seat : MethodName := ⟨RX10, "seat", "()I"⟩
abbrev cX10_hear : ByteArray := prog_12_method_52_code
def yX10_hear : MethodName := ⟨RX10, "hear", "(III)I"⟩
abbrev cX10_known : ByteArray := prog_12_method_53_code
def yX10_known : MethodName := ⟨RX10, "known", "(II)I"⟩
abbrev cX10_meets : ByteArray := prog_12_method_54_code
def yX10_meets : MethodName := ⟨RX10, "meets", "(I)I"⟩
abbrev cX10_isSheet : ByteArray := prog_12_method_55_code
def yX10_isSheet : MethodName := ⟨RX10, "isSheet", "(I)Z"⟩
abbrev cX10_sheet : ByteArray := prog_12_method_56_code
def yX10_sheet : MethodName := ⟨RX10, "sheet", "(III)I"⟩
abbrev cX10_lose : ByteArray := prog_12_method_57_code
def yX10_lose : MethodName := ⟨RX10, "lose", "(I)I"⟩
abbrev cX10_lacks : ByteArray := prog_12_method_58_code
def yX10_lacks : MethodName := ⟨RX10, "lacks", "(III)I"⟩
abbrev cX10_put : ByteArray := prog_12_method_59_code
def yX10_put : MethodName := ⟨RX10, "put", "(IIII)I"⟩
abbrev cX10_get : ByteArray := prog_12_method_60_code
def yX10_get : MethodName := ⟨RX10, "get", "(III)I"⟩
abbrev cX10_copy : ByteArray := prog_12_method_61_code
def yX10_copy : MethodName := ⟨RX10, "copy", "(IIIII)I"⟩
abbrev cX10_count : ByteArray := prog_12_method_62_code
def yX10_count : MethodName := ⟨RX10, "count", "(I)I"⟩
abbrev cX10_digest : ByteArray := prog_12_method_63_code
def yX10_digest : MethodName := ⟨RX10, "digest", "()J"⟩
def RJ6 : String := "java/lang/Integer"
def TJ6 : u_T := fun k => match k with
  | _ => ("", "", "", false)
def tyJ6 : Nat → FieldType := fun k => match k with
  | _ => .int
abbrev wsJ60 : List Cond := u_ws RJ6 TJ6 0
theorem nmJ6 : ∀ a, a < 0 → ∀ b, b < 0 → a ≠ b → (TJ6 a).2.1 ≠ (TJ6 b).2.1 := by decide +kernel
theorem tyJ6_ok : ∀ k, k < 0 → parseFieldDescriptor (TJ6 k).2.2.1 = some (tyJ6 k) := by decide +kernel
abbrev cJ6_compare_7cf53 : ByteArray := prog_13_method_40_code
def yJ6_compare_7cf53 : MethodName := ⟨RJ6, "compare", "(II)I"⟩
abbrev cJ6_bitCount_0f7a4 : ByteArray := prog_13_method_49_code
def yJ6_bitCount_0f7a4 : MethodName := ⟨RJ6, "bitCount", "(I)I"⟩
def RJ9 : String := "java/lang/Math"
def TJ9 : u_T := fun k => match k with
  | _ => ("", "", "", false)
def tyJ9 : Nat → FieldType := fun k => match k with
  | _ => .int
abbrev wsJ90 : List Cond := u_ws RJ9 TJ9 0
theorem nmJ9 : ∀ a, a < 0 → ∀ b, b < 0 → a ≠ b → (TJ9 a).2.1 ≠ (TJ9 b).2.1 := by decide +kernel
theorem tyJ9_ok : ∀ k, k < 0 → parseFieldDescriptor (TJ9 k).2.2.1 = some (tyJ9 k) := by decide +kernel
abbrev cJ9_max_7cf53 : ByteArray := prog_14_method_65_code
def yJ9_max_7cf53 : MethodName := ⟨RJ9, "max", "(II)I"⟩
def RJ10 : String := "java/lang/System"
def TJ10 : u_T := fun k => match k with
  | _ => ("", "", "", false)
def tyJ10 : Nat → FieldType := fun k => match k with
  | _ => .int
abbrev wsJ100 : List Cond := u_ws RJ10 TJ10 0
theorem nmJ10 : ∀ a, a < 0 → ∀ b, b < 0 → a ≠ b → (TJ10 a).2.1 ≠ (TJ10 b).2.1 := by decide +kernel
theorem tyJ10_ok : ∀ k, k < 0 → parseFieldDescriptor (TJ10 k).2.2.1 = some (tyJ10 k) := by decide +kernel
def RL : String := "ScreenVotesLaw"
abbrev cL_law : ByteArray := code
def yL_law : MethodName := ⟨RL, "law", "([I)Z"⟩
abbrev vwCl : List vw_C := [(RX0, TX0, 9), (RX1, TX1, 5), (RX2, TX2, 4), (RX3, TX3, 3), (RX5, TX5, 2), (RX6, TX6, 6), (RX7, TX7, 4), (RX8, TX8, 4), (RX9, TX9, 9), (RX10, TX10, 28)]
end
section
/-! ===== the words that every method may use; the nest words ride in the world ===== -/
def sv_GT : List Cond := lw_tbl.filter goodWord
theorem sv_mem {w : Cond} (i : Nat) (h : lw_tbl[i]? = some w) (hg : goodWord w = true) : w ∈ sv_GT := List.mem_filter.mpr ⟨List.mem_of_getElem? h, hg⟩
/-- the nest links of fields: they aren't among the good words -/
def sv_isN (w : Cond) : Bool := match w with
  | .fieldLinkNest _ _ _ _ _ _ => true
  | _ => false
def sv_NW : List Cond := lw_tbl.filter sv_isN
theorem sv_memN {w : Cond} (i : Nat) (h : lw_tbl[i]? = some w) (hg : sv_isN w = true) : w ∈ sv_NW := List.mem_filter.mpr ⟨List.mem_of_getElem? h, hg⟩
def sv_Nw (U : State) : Prop := ∀ w ∈ sv_NW, va_Nw w U
theorem sv_Nw.warm {s U : State} (hW : s.WarmedH U.vm) (h : sv_Nw s) : sv_Nw U := by
  intro w hw
  have h1 := h w hw
  have h2 := (List.mem_filter.mp hw).2
  cases w <;> first | (exact va_Nw.warmF hW h1) | (exact absurd h2 (by decide)) | (simp [sv_isN] at h2)
theorem sv_Nw.same {u U : State} (hv : u.vm = U.vm) (h : sv_Nw u) : sv_Nw U := by
  intro w hw
  have h1 := h w hw
  have h2 := (List.mem_filter.mp hw).2
  cases w <;> first | (exact va_Nw.same rfl hv h1) | (exact absurd h2 (by decide)) | (simp [sv_isN] at h2)
/-! ===== the memory: ints by place and index; what is at a place is fixed ===== -/
abbrev sv_Mem : Type := Nat → Nat → Int32
/-- what stands at a place: an object (its class's number, its slots: none an int, some r the place r), or an array (kind: 0 int, 1 boolean, 2 rows; length; a grid's first row's place) -/
abbrev sv_D : Type := (Nat × List (Option Nat)) ⊕ (Nat × Nat × Nat)
abbrev sv_G : Type := va_G × (Nat → Nat) × ClassId × ClassId × ClassId
def sv_up (μ : sv_Mem) (a i : Nat) (x : Int32) : sv_Mem := fun b => if b = a then upd (μ b) i x else μ b
def sv_st (μ : sv_Mem) (a : Nat) (f : Nat → Int32) : sv_Mem := fun b => if b = a then f else μ b
theorem sv_up_st (μ : sv_Mem) (a i : Nat) (x : Int32) : sv_up μ a i x = sv_st μ a (upd (μ a) i x) := by
  funext b
  unfold sv_up sv_st
  by_cases h : b = a
  · subst h; simp
  · simp [h]
def sv_fl (ad : Nat → Nat) (f : Nat → Int32) : Nat → List (Option Nat) → List Value
  | _, [] => []
  | j, none :: t => .int (f j) :: sv_fl ad f (j + 1) t
  | j, some r :: t => .ref (ad r) :: sv_fl ad f (j + 1) t
def sv_ce (g : sv_G) (f : Nat → Int32) (d : sv_D) : va_E := match d with
  | .inl o => .inr (o.1, sv_fl g.2.1 f 0 o.2)
  | .inr (0, n, _) => .inl (g.2.2.1, n, .inl f)
  | .inr (1, n, _) => .inl (g.2.2.2.1, n, .inl f)
  | .inr (_, n, r) => .inl (g.2.2.2.2, n, .inr (.inr (.inr (.inr (fun i => if i < n then some (g.2.1 (r + i)) else none)))))
def sv_wl (g : sv_G) (μ : sv_Mem) : Nat → List sv_D → va_W
  | _, [] => []
  | k, d :: t => (g.2.1 k, sv_ce g (μ k) d) :: sv_wl g μ (k + 1) t
theorem sv_wl_get (g : sv_G) (μ : sv_Mem) : ∀ (L : List sv_D) (b k : Nat), (sv_wl g μ b L)[k]? = (L[k]?).map (fun d => (g.2.1 (b + k), sv_ce g (μ (b + k)) d))
  | [], b, k => by simp [sv_wl]
  | d :: t, b, 0 => by simp [sv_wl]
  | d :: t, b, k + 1 => by
    simp only [sv_wl, List.getElem?_cons_succ]
    rw [sv_wl_get g μ t (b + 1) k]
    simp only [show b + 1 + k = b + (k + 1) by omega]
theorem sv_fl_get (ad : Nat → Nat) (f : Nat → Int32) : ∀ (L : List (Option Nat)) (j k : Nat), (sv_fl ad f j L)[k]? = (L[k]?).map (fun o => match o with | none => .int (f (j + k)) | some r => .ref (ad r))
  | [], j, k => by simp [sv_fl]
  | none :: t, j, 0 => by simp [sv_fl]
  | some r :: t, j, 0 => by simp [sv_fl]
  | none :: t, j, k + 1 => by
    simp only [sv_fl, List.getElem?_cons_succ]
    rw [sv_fl_get ad f t (j + 1) k]
    simp only [show j + 1 + k = j + (k + 1) by omega]
  | some r :: t, j, k + 1 => by
    simp only [sv_fl, List.getElem?_cons_succ]
    rw [sv_fl_get ad f t (j + 1) k]
    simp only [show j + 1 + k = j + (k + 1) by omega]
theorem sv_fl_len (ad : Nat → Nat) (f : Nat → Int32) : ∀ (L : List (Option Nat)) (j : Nat), (sv_fl ad f j L).length = L.length
  | [], j => rfl
  | none :: t, j => by simp [sv_fl, sv_fl_len ad f t]
  | some r :: t, j => by simp [sv_fl, sv_fl_len ad f t]
theorem sv_fl_set (ad : Nat → Nat) (f : Nat → Int32) (L : List (Option Nat)) (k : Nat) (x : Int32) (h : L[k]? = some none) : (sv_fl ad f 0 L).set k (.int x) = sv_fl ad (upd f k x) 0 L := by
  apply List.ext_getElem?
  intro i
  have hl : k < L.length := (List.getElem?_eq_some_iff.mp h).1
  by_cases e : i = k
  · subst e
    rw [List.getElem?_set_self (by rw [sv_fl_len]; exact hl), sv_fl_get, h]
    simp [upd]
  · rw [List.getElem?_set_ne (Ne.symm e), sv_fl_get, sv_fl_get]
    cases L[i]? with
    | none => rfl
    | some o => cases o <;> simp [upd, e]
/-- the places -/
def sv_LT : List sv_D := [
  .inl (8, [some 1, some 9, some 13, some 18, some 22, some 23, some 25, some 35, some 39]),
  .inl (6, [some 2, some 7, some 8, none]), .inr (2, 4, 3), .inr (0, 240, 0), .inr (0, 240, 0), .inr (0, 240, 0), .inr (0, 240, 0), .inr (0, 4, 0), .inr (0, 4, 0),
  .inl (5, [some 1, some 10, some 11, some 12, none, none]), .inr (0, 24, 0), .inr (0, 24, 0), .inr (0, 24, 0),
  .inl (0, [some 14, some 15, some 16, some 17, none, none, none, none, none]), .inr (0, 60, 0), .inr (0, 4, 0), .inr (0, 4, 0), .inr (0, 4, 0),
  .inl (1, [some 9, some 13, some 19, some 20, some 21]), .inr (0, 24, 0), .inr (0, 24, 0), .inr (0, 24, 0),
  .inl (4, [some 9, some 13]),
  .inl (3, [some 9, some 13, some 24]), .inr (0, 4, 0),
  .inl (7, [some 26, some 27, some 28, none]), .inr (0, 6, 0), .inr (0, 6, 0), .inr (2, 6, 29), .inr (0, 10, 0), .inr (0, 10, 0), .inr (0, 10, 0), .inr (0, 10, 0), .inr (0, 10, 0), .inr (0, 10, 0),
  .inl (2, [some 36, some 37, some 38, none]), .inr (0, 60, 0), .inr (0, 60, 0), .inr (0, 60, 0),
  .inr (0, 5, 0),
  .inl (9, [none, some 41, some 42, none, none, some 43, none, some 44, some 45, some 46, none, none, some 47, some 48, none, some 49, some 50, some 51, none, some 52, some 53, some 54, some 55, some 56, some 57, some 58, some 59, none]),
  .inr (0, 24, 0), .inr (0, 24, 0), .inr (0, 60, 0), .inr (0, 4, 0), .inr (0, 4, 0), .inr (0, 4, 0), .inr (0, 5, 0), .inr (0, 4, 0), .inr (0, 6, 0), .inr (0, 6, 0), .inr (0, 60, 0), .inr (0, 60, 0), .inr (0, 60, 0), .inr (0, 60, 0), .inr (1, 4, 0), .inr (0, 4, 0), .inr (0, 4, 0), .inr (0, 960, 0), .inr (0, 240, 0)]
def sv_ws (g : sv_G) (μ : sv_Mem) : va_W := sv_wl g μ 0 sv_LT
theorem sv_ws_get (g : sv_G) (μ : sv_Mem) {k : Nat} {d : sv_D} (h : sv_LT[k]? = some d) : (sv_ws g μ)[k]? = some (g.2.1 k, sv_ce g (μ k) d) := by
  unfold sv_ws
  rw [sv_wl_get, h]
  simp
theorem sv_ws_set (g : sv_G) (μ : sv_Mem) {k : Nat} {d : sv_D} (h : sv_LT[k]? = some d) (f : Nat → Int32) : (sv_ws g μ).set k (g.2.1 k, sv_ce g f d) = sv_ws g (sv_st μ k f) := by
  apply List.ext_getElem?
  intro i
  unfold sv_ws
  by_cases e : i = k
  · subst e
    have hl : i < (sv_wl g μ 0 sv_LT).length := by
      have h1 : (sv_wl g μ 0 sv_LT)[i]? = some (g.2.1 i, sv_ce g (μ i) d) := sv_ws_get g μ h
      exact (List.getElem?_eq_some_iff.mp h1).1
    rw [List.getElem?_set_self hl, sv_wl_get, h]
    simp [sv_st]
  · rw [List.getElem?_set_ne (Ne.symm e), sv_wl_get, sv_wl_get]
    simp [sv_st, e]
/-! ===== values, locals ===== -/
abbrev sv_L : Type := List (Nat × Value)
def sv_tr (ad : Nat → Nat) (v : Value) : Value := match v with
  | .ref k => .ref (ad k)
  | v => v
theorem sv_tr_cat (ad : Nat → Nat) (v : Value) : (sv_tr ad v).category = v.category := by cases v <;> rfl
def sv_tl (ad : Nat → Nat) (lv : sv_L) : sv_L := lv.map (fun q => (q.1, sv_tr ad q.2))
def sv_get : sv_L → Nat → Option Value
  | [], _ => none
  | q :: t, i => bif Nat.beq q.1 i then some q.2 else sv_get t i
theorem sv_get_mem : ∀ {lv : sv_L} {i : Nat} {v : Value}, sv_get lv i = some v → (i, v) ∈ lv
  | [], i, v, h => by simp [sv_get] at h
  | q :: t, i, v, h => by
    unfold sv_get at h
    cases hb : Nat.beq q.1 i with
    | true =>
      rw [hb] at h
      have h1 : q.1 = i := Nat.eq_of_beq_eq_true hb
      have h2 : q.2 = v := Option.some.inj h
      rw [← h1, ← h2]
      exact List.mem_cons_self
    | false =>
      rw [hb] at h
      exact List.mem_cons_of_mem _ (sv_get_mem h)
theorem sv_ld {ls : Array Slot} {nL : Nat} {ad : Nat → Nat} {lv : sv_L} {i : Nat} {v : Value} (h : lv_has ls nL (sv_tl ad lv)) (hg : sv_get lv i = some v) : ls[i]? = some (.val (sv_tr ad v)) :=
  h.2.2 (i, sv_tr ad v) (List.mem_map.mpr ⟨(i, v), sv_get_mem hg, rfl⟩)
/-- may q stay when a value of category c is put at i -/
def sv_ok (i c : Nat) (q : Nat × Value) : Bool := !(Nat.beq q.1 i) && (!(Nat.beq q.1 (i + 1) && Nat.beq c 2) && !(Nat.beq (q.1 + 1) i && Nat.beq q.2.category 2))
def sv_set (i c : Nat) (v : Value) : sv_L → sv_L
  | [] => [(i, v)]
  | q :: t => bif Nat.beq q.1 i then (i, v) :: t.filter (sv_ok i c) else bif sv_ok i c q then q :: sv_set i c v t else sv_set i c v t
theorem sv_set_mem {i c : Nat} {v : Value} : ∀ {lv : sv_L} {q : Nat × Value}, q ∈ sv_set i c v lv → q = (i, v) ∨ (q ∈ lv ∧ sv_ok i c q = true)
  | [], q, h => by
    simp [sv_set] at h
    exact Or.inl h
  | r :: t, q, h => by
    unfold sv_set at h
    cases hb : Nat.beq r.1 i with
    | true =>
      rw [hb] at h
      rcases List.mem_cons.mp h with h | h
      · exact Or.inl h
      · have h2 := List.mem_filter.mp h
        exact Or.inr ⟨List.mem_cons_of_mem _ h2.1, h2.2⟩
    | false =>
      rw [hb] at h
      cases ho : sv_ok i c r with
      | true =>
        rw [ho] at h
        rcases List.mem_cons.mp h with h | h
        · exact Or.inr ⟨by rw [h]; exact List.mem_cons_self, by rw [h]; exact ho⟩
        · rcases sv_set_mem h with h | h
          · exact Or.inl h
          · exact Or.inr ⟨List.mem_cons_of_mem _ h.1, h.2⟩
      | false =>
        rw [ho] at h
        rcases sv_set_mem h with h | h
        · exact Or.inl h
        · exact Or.inr ⟨List.mem_cons_of_mem _ h.1, h.2⟩
theorem sv_bf {a b : Nat} (h : Nat.beq a b = false) : ¬ a = b := fun e => by
  rw [e] at h
  simp at h
theorem sv_ok_spec {i c : Nat} {q : Nat × Value} (h : sv_ok i c q = true) : ¬ q.1 = i ∧ (c = 2 → ¬ q.1 = i + 1) ∧ (q.1 + 1 = i → ¬ q.2.category = 2) := by
  unfold sv_ok at h
  cases h1 : Nat.beq q.1 i with
  | true => rw [h1] at h; simp at h
  | false =>
    refine ⟨sv_bf h1, fun hc e => ?_, fun e hc => ?_⟩
    · rw [e, hc] at h
      simp at h
    · rw [e, hc] at h
      simp at h
theorem sv_tl_set1 {ls : Array Slot} {nL : Nat} {ad : Nat → Nat} {lv : sv_L} {i : Nat} {v : Value} (h : lv_has ls nL ((i, sv_tr ad v) :: (sv_tl ad lv).filter (fun q => !(q.1 == i) && !(q.1 + 1 == i && q.2.category == 2)))) : lv_has ls nL (sv_tl ad (sv_set i 1 v lv)) := by
  refine ⟨h.1, h.2.1, fun q hq => ?_⟩
  obtain ⟨r, hr, rfl⟩ := List.mem_map.mp hq
  rcases sv_set_mem hr with e | ⟨hm, ho⟩
  · subst e
    exact h.2.2 _ List.mem_cons_self
  · refine h.2.2 _ (List.mem_cons_of_mem _ (List.mem_filter.mpr ⟨List.mem_map.mpr ⟨r, hm, rfl⟩, ?_⟩))
    obtain ⟨h1, -, h3⟩ := sv_ok_spec ho
    by_cases e : r.1 + 1 = i
    · have h4 := h3 e
      simp [sv_tr_cat, h1, h4]
    · simp [h1, e]
theorem sv_tl_set2 {ls : Array Slot} {nL : Nat} {ad : Nat → Nat} {lv : sv_L} {i : Nat} {v : Value} (h : lv_has ls nL ((i, sv_tr ad v) :: (sv_tl ad lv).filter (fun q => !(q.1 == i) && (!(q.1 == i + 1) && !(q.1 + 1 == i && q.2.category == 2))))) : lv_has ls nL (sv_tl ad (sv_set i 2 v lv)) := by
  refine ⟨h.1, h.2.1, fun q hq => ?_⟩
  obtain ⟨r, hr, rfl⟩ := List.mem_map.mp hq
  rcases sv_set_mem hr with e | ⟨hm, ho⟩
  · subst e
    exact h.2.2 _ List.mem_cons_self
  · refine h.2.2 _ (List.mem_cons_of_mem _ (List.mem_filter.mpr ⟨List.mem_map.mpr ⟨r, hm, rfl⟩, ?_⟩))
    obtain ⟨h1, h2, h3⟩ := sv_ok_spec ho
    have h2 := h2 rfl
    by_cases e : r.1 + 1 = i
    · have h4 := h3 e
      simp [sv_tr_cat, h1, h2, h4]
    · simp [h1, h2, e]
theorem sv_has_sub {ls : Array Slot} {nL : Nat} {ad : Nat → Nat} {lv lv' : sv_L} (h : lv_has ls nL (sv_tl ad lv)) (hs : ∀ q ∈ lv', q ∈ lv) : lv_has ls nL (sv_tl ad lv') := by
  refine ⟨h.1, h.2.1, fun q hq => ?_⟩
  obtain ⟨r, hr, rfl⟩ := List.mem_map.mp hq
  exact h.2.2 _ (List.mem_map.mpr ⟨r, hs r hr, rfl⟩)
end
section
/-! ===== methods, worlds, the judgement wp ===== -/
/-- name, code, locals, what it returns, frames and locals of its room -/
abbrev sv_M : Type := MethodName × ByteArray × Nat × Option FieldType × Nat × Nat
def sv_tys (g : sv_G) : List (ClassId × FieldType) := [(g.2.2.1, .int), (g.2.2.2.1, .boolean), (g.2.2.2.2, .array .int)]
def sv_rt (M : sv_M) (pc : Nat) (v : Value) : Prop := match v with
  | .int x => decode M.2.1 pc = .ok (.ireturn, 1) ∧ ∃ ty, M.2.2.2.1 = some ty ∧ narrow ty (.int x) = .int x
  | .long _ => decode M.2.1 pc = .ok (.lreturn, 1) ∧ M.2.2.2.1 = some .long
  | .null => decode M.2.1 pc = .ok (.return_, 1) ∧ M.2.2.2.1 = none
  | _ => False
def sv_ro (v : Value) : Option Value := match v with
  | .null => none
  | v => some v
def sv_Wd (g : sv_G) (A : Nat → Prop) (s : State) (H : Heap) (locs : List Loc) (μ : sv_Mem) : Prop := va_P g.1 vwCl (sv_ws g μ) H ∧ va_D A (sv_ws g μ) ∧ va_S A s.heap H locs
def sv_Cx (M : sv_M) (l : Launch) (p : Program) (e : Env) (R : Room) (s : State) (m : MethodId) (args : Array Value) (below : List Frame) (meth : Method) (c : Code) (cells slots : Nat) (Z : State → Prop) (A : Nat → Prop) (g : sv_G) (Q : Value → sv_Mem → Prop) : Prop :=
  p.tables.exec = Jvm.exec ∧ c.code = M.2.1 ∧ c.maxLocals = M.2.2.1 ∧ s.vm.findClass M.1.cls = some m.cls ∧ (∀ w ∈ sv_GT, w.before args s = true) ∧ sv_Nw s ∧ (M.2.2.2.2.1 ≤ R.frames ∧ M.2.2.2.2.2 ≤ R.locals) ∧ va_K g.1 vwCl (sv_tys g) s ∧ (∀ q : Nat, s.heap.size ≤ q → A q) ∧ (cells ≤ R.cells ∧ slots ≤ R.slots) ∧
  (∀ (v : Value) (μ' : sv_Mem) (H' : Heap) (locs' : List Loc) (pc' : Nat) (ls' : Array Slot), sv_rt M pc' v → Q v μ' → sv_Wd g A s H' locs' μ' → W p l e R s m args below meth c H' locs' cells slots Z (F0 m pc' ls' (sv_ro v).toList))
def wp (M : sv_M) (pc : Nat) (lv : sv_L) (st : List Value) (μ : sv_Mem) (Q : Value → sv_Mem → Prop) : Prop :=
  ∀ (l : Launch) (p : Program) (e : Env) (R : Room) (s : State) (m : MethodId) (args : Array Value) (below : List Frame) (meth : Method) (c : Code) (cells slots : Nat) (Z : State → Prop) (A : Nat → Prop) (g : sv_G), sv_Cx M l p e R s m args below meth c cells slots Z A g Q →
    ∀ (H : Heap) (locs : List Loc) (ls : Array Slot), sv_Wd g A s H locs μ → lv_has ls M.2.2.1 (sv_tl g.2.1 lv) → W p l e R s m args below meth c H locs cells slots Z (F0 m pc ls (st.map (sv_tr g.2.1)))
theorem wp_mono {M : sv_M} {pc : Nat} {lv : sv_L} {st : List Value} {μ : sv_Mem} {Q Q' : Value → sv_Mem → Prop} (h : wp M pc lv st μ Q) (hq : ∀ v μ', Q v μ' → Q' v μ') : wp M pc lv st μ Q' := by
  intro l p e R s m args below meth c cells slots Z A g C H locs ls hW hl
  obtain ⟨c1, c2, c3, c4, c5, c6, c7, c8, c9, c10, RH⟩ := C
  exact h l p e R s m args below meth c cells slots Z A g ⟨c1, c2, c3, c4, c5, c6, c7, c8, c9, c10, fun v μ' H' locs' pc' ls' a1 a2 a3 => RH v μ' H' locs' pc' ls' a1 (hq v μ' a2) a3⟩ H locs ls hW hl
theorem wp_sub {M : sv_M} {pc : Nat} {lv lv' : sv_L} {st : List Value} {μ : sv_Mem} {Q : Value → sv_Mem → Prop} (h : wp M pc lv' st μ Q) (hs : ∀ q ∈ lv', q ∈ lv) : wp M pc lv st μ Q :=
  fun l p e R s m args below meth c cells slots Z A g C H locs ls hW hl => h l p e R s m args below meth c cells slots Z A g C H locs ls hW (sv_has_sub hl hs)
/-! ===== a method's contract out of wp at its entry ===== -/
def sv_wd (M : sv_M) : List Cond := Cond.code M.1 M.2.1 M.2.2.1 M.2.2.2.1 :: sv_GT
def sv_rm (M : sv_M) : Room := { frames := M.2.2.2.2.1, cells := 0, slots := 0, locals := M.2.2.2.2.2 }
def sv_B (g : sv_G) (μ : sv_Mem) (sz : Nat) (U : State) : Prop := U.heap.size = sz ∧ va_P g.1 vwCl (sv_ws g μ) U.heap ∧ va_K g.1 vwCl (sv_tys g) U ∧ va_D (fun _ => True) (sv_ws g μ) ∧ sv_Nw U
def sv_Qc (g : sv_G) (A : Nat → Prop) (Q : Value → sv_Mem → Prop) : Array Value → State → Outcome → State → Prop := fun _ st oc t =>
  (∃ (v : Value) (μ' : sv_Mem), oc = .returned (sv_ro v) ∧ Q v μ' ∧ va_P g.1 vwCl (sv_ws g μ') t.heap ∧ va_K g.1 vwCl (sv_tys g) t ∧ va_D A (sv_ws g μ')) ∧ va_F A st t
def sv_wn : List Value → Nat
  | [] => 0
  | v :: t => v.category + sv_wn t
theorem sv_wn_map (ad : Nat → Nat) : ∀ (vs : List Value), (lg_sl (vs.map (sv_tr ad))).length = sv_wn vs
  | [] => rfl
  | v :: t => by
    have ih := sv_wn_map ad t
    unfold lg_sl at ih ⊢
    rw [List.map_cons, List.flatMap_cons, List.length_append, ih, sv_tr_cat]
    rcases lv_cat v with h | h <;> simp [h, sv_wn]
theorem sv_wn_sum (ad : Nat → Nat) : ∀ (vs : List Value), ((vs.map (sv_tr ad)).map fun v => v.category).sum = sv_wn vs
  | [] => rfl
  | v :: t => by
    have ih := sv_wn_sum ad t
    simp only [List.map_cons, List.sum_cons, sv_tr_cat, sv_wn]
    rw [ih]
theorem sv_args_tl (ad : Nat → Nat) : ∀ (vs : List Value) (i : Nat), lv_args i (vs.map (sv_tr ad)) = sv_tl ad (lv_args i vs)
  | [], i => rfl
  | v :: t, i => by
    simp only [List.map_cons, lv_args, sv_tr_cat]
    rw [sv_args_tl ad t]
    rfl
theorem sv_met {l : Launch} {g : sv_G} {M : sv_M} {as : List Value} {μ : sv_Mem} {Q : Value → sv_Mem → Prop} (hwp : wp M 0 (lv_args 0 as) [] μ Q) (hn : plainName M.1.cls = true) (hwn : sv_wn as ≤ M.2.2.1) (sz : Nat) :
    Met l M.1 (sv_wd M) (sv_rm M) (va_Pc (as.map (sv_tr g.2.1)) (sv_B g μ sz)) (sv_Qc g (va_A (sv_ws g μ) sz) Q) 0 0 (va_A (sv_ws g μ) sz) := by
  refine Met.ofW (cc := M.2.1) (maxL := M.2.2.1) (ret := M.2.2.2.1) hn rfl ?_
  intro p e s m args below meth c s₁ B hml hv
  obtain ⟨rfl, hsz, hP, hK, hD0, hN⟩ := hv
  have hx := B.exec
  have hb := B.bytes
  have hr := B.returns
  have hts := atoms_spec (ws := sv_wd M) B.pre
  have hown : s.vm.findClass M.1.cls = some m.cls := findClass_of_methodNamed B.named
  have hlocks := B.notSynchronized
  subst hsz
  have hD := hD0.self (sz := s.heap.size)
  generalize hAe : va_A (sv_ws g μ) s.heap.size = A at hD ⊢
  have hA : ∀ q : Nat, s.heap.size ≤ q → A q := fun q h => by rw [← hAe]; exact Or.inr h
  have hS : va_S A s.heap s.heap [] := va_S.rf
  have hl := lv_entry (as.map (sv_tr g.2.1)) (n := M.2.2.1) (by rw [sv_wn_map]; exact hwn)
  rw [lg_entry_eq]
  generalize (lg_sl (as.map (sv_tr g.2.1)) ++ List.replicate (M.2.2.1 - (lg_sl (as.map (sv_tr g.2.1))).length) Slot.unset).toArray = ls at hl ⊢
  rw [sv_args_tl] at hl
  refine hwp l p e _ s m _ below meth c 0 0 _ A g ⟨hx, hb, hml, hown, fun w h => hts w (List.mem_cons_of_mem _ h), hN, ⟨Nat.le_refl _, Nat.le_refl _⟩, hK, hA, ⟨Nat.zero_le _, Nat.zero_le _⟩, ?_⟩ _ _ ls ⟨hP, hD, hS⟩ hl
  intro v μ' H' locs' pc' ls' hrt hq hWd
  obtain ⟨hP', hD', hS'⟩ := hWd
  have fin : ∀ t : State, t.heap = H' → s.WarmedH t.vm → sv_Qc g A Q (as.map (sv_tr g.2.1)).toArray s (.returned (sv_ro v)) t := fun t ht hW => ⟨⟨v, μ', rfl, hq, by rw [ht]; exact hP', va_K.moved hW.alike hK, hD'⟩, hS'.F ht⟩
  cases v with
  | int x =>
    obtain ⟨h1, ty, h2, h3⟩ := hrt
    exact W.zret hx hb (hr.trans h2) h3 fin hS'.2.2 h1
  | long x =>
    obtain ⟨h1, h2⟩ := hrt
    exact W.lret hx hb (hr.trans h2) fin hS'.2.2 h1
  | null =>
    obtain ⟨h1, h2⟩ := hrt
    exact W.vret hx hb (hr.trans h2) fin hS'.2.2 h1
  | _ => exact hrt.elim
/-! ===== behind a call ===== -/
section SVC
variable {p : Program} {l : Launch} {e : Env} {R : Room} {s : State} {m : MethodId} {args : Array Value} {below : List Frame} {meth : Method} {c : Code} {H : Heap} {locs : List Loc} {cells slots : Nat} {Z : State → Prop}
theorem sv_call {g : sv_G} {A A1 : Nat → Prop} {Q : Value → sv_Mem → Prop} {a : Array Value} {pc : Nat} {ls : Array Slot} {st0 rest : List Value}
    (hr : va_Run p l e R s m args below meth c H locs cells slots 0 0 (F0 m pc ls st0) rest (sv_Qc g A1 Q a) A1) (hS : va_S A s.heap H locs) (hF : ∀ q, A1 q → A q)
    (kk : ∀ (v : Value) (μ' : sv_Mem) (H1 : Heap) (locs1 : List Loc), Q v μ' → sv_Wd g A s H1 locs1 μ' → W p l e R s m args below meth c H1 locs1 cells slots Z (F0 m (pc + 3) ls ((sv_ro v).toList ++ rest))) : W p l e R s m args below meth c H locs cells slots Z (F0 m pc ls st0) := by
  intro T hT X
  obtain ⟨w, st₀, t, T', L, h0, X', hL, e1, e2, ⟨⟨v, μ', hv, hq, hP, hK, hD⟩, hz, hk⟩, st⟩ := hr T hT X
  cases hv
  rw [h0] at hz hk
  obtain ⟨t2, a1, b1⟩ := kk v μ' T'.heap (locs ++ L) hq ⟨by rw [e1]; exact hP, hD.weaken (fun _ q _ h => hF q.1 h), ⟨Nat.le_trans hS.1 (by rw [e1]; exact hz), fun q h1 h2 => by rw [e1, hk q (Nat.lt_of_lt_of_le h1 hS.1) (fun z => h2 (hF q z))]; exact hS.2.1 q h1 h2, fun q hq => by
      rcases List.mem_append.mp hq with h | h
      · exact hS.2.2 q h
      · exact hF _ (hL q h)⟩⟩ T' rfl X'
  exact ⟨t2, st t2 a1, b1⟩
theorem sv_free {g : sv_G} {A : Nat → Prop} {μ : sv_Mem} (hD : va_D A (sv_ws g μ)) (hS : va_S A s.heap H locs) (hA : ∀ q, s.heap.size ≤ q → A q) : ∀ q, va_A (sv_ws g μ) H.size q → A q := by
  intro q h
  rcases h with ⟨k, e, h⟩ | h
  · exact hD.2 k (q, e) h
  · exact hA q (Nat.le_trans hS.1 h)
theorem sv_blind {g : sv_G} {μ : sv_Mem} {sz : Nat} {as : List Value} : FrameBlind (va_Pc as (sv_B g μ sz)) :=
  fun a U gg mk q => ⟨q.1, q.2.1, q.2.2.1, va_K.moved (u := U) (U := U.calling gg mk a) (Vm.Alike.refl U.vm) q.2.2.2.1, q.2.2.2.2.1, sv_Nw.same (u := U) (U := U.calling gg mk a) rfl q.2.2.2.2.2⟩
theorem sv_pre {g : sv_G} {A : Nat → Prop} {μ : sv_Mem} {as : List Value} (hP : va_P g.1 vwCl (sv_ws g μ) H) (hK : va_K g.1 vwCl (sv_tys g) s) (hD : va_D A (sv_ws g μ)) (hN : sv_Nw s) : ∀ U : State, U.heap = H → s.WarmedH U.vm → va_Pc as (sv_B g μ H.size) as.toArray U :=
  fun U hU hW => ⟨rfl, by rw [hU], by rw [hU]; exact hP, va_K.moved hW.alike hK, hD.weaken (fun _ _ _ _ => trivial), hN.warm hW⟩
end SVC
theorem sv_good {w : Cond} (h : w ∈ sv_GT) : w ∈ sv_GT ∧ ((w.onTables && w.keeps) = true ∨ ∃ ty, w = .arrayClass ty) := ⟨h, good_of_word (List.mem_filter.mp h).2⟩
theorem sv_goodM {M : sv_M} (h : Cond.code M.1 M.2.1 M.2.2.1 M.2.2.2.1 ∈ sv_GT) : GoodIn sv_GT (sv_wd M) := fun w hw => by
  rcases List.mem_cons.mp hw with h1 | h1
  · rw [h1]; exact sv_good h
  · exact sv_good h1
/-- what is asked once of a method that is called: its words -/
def sv_cal (M : sv_M) (n : Nat) : Prop := plainName M.1.cls = true ∧ Cond.code M.1 M.2.1 M.2.2.1 M.2.2.2.1 ∈ sv_GT ∧ Cond.initialized M.1.cls ∈ sv_GT ∧ (M.1.cls ≠ "java/lang/invoke/MethodHandle" ∧ M.1.cls ≠ "java/lang/invoke/VarHandle") ∧ (parseMethodDescriptor M.1.desc).map (fun d => d.parameters.length) = some n
theorem sv_goodS {M : sv_M} {own : String} {idx n : Nat} (h : sv_cal M n) (h1 : Cond.methodLink own idx M.1 ∈ sv_GT) (h2 : Cond.static M.1 ∈ sv_GT) : GoodIn sv_GT (va_wsS own idx M.1 (sv_wd M)) := fun w hw => by
  rcases List.mem_append.mp hw with hw | hw
  · simp only [List.mem_cons, List.not_mem_nil, or_false] at hw
    rcases hw with rfl | rfl | rfl
    · exact sv_good h1
    · exact sv_good h2
    · exact sv_good h.2.2.1
  · exact sv_goodM h.2.1 w hw
theorem sv_goodV {M : sv_M} {own : String} {idx n : Nat} (h : sv_cal M n) (h1 : Cond.methodLink own idx M.1 ∈ sv_GT) (h2 : Cond.instanceMethod M.1 ∈ sv_GT) (h3 : Cond.selects M.1.cls M.1 M.1 ∈ sv_GT) : GoodIn sv_GT (wsV own idx M.1.cls M.1 (sv_wd M)) := fun w hw => by
  rcases List.mem_append.mp hw with hw | hw
  · simp only [List.mem_cons, List.not_mem_nil, or_false] at hw
    rcases hw with rfl | rfl | rfl | rfl
    · exact sv_good h1
    · exact sv_good h2
    · exact sv_good h3
    · exact sv_good h.2.2.1
  · exact sv_goodM h.2.1 w hw
/-- room for a call -/
def sv_fit (M : sv_M) (R : Room) : Prop := M.2.2.2.2.1 + 1 ≤ R.frames ∧ 8 + (M.2.2.1 + 11) + M.2.2.2.2.2 ≤ R.locals
section SVR
variable {p : Program} {l : Launch} {e : Env} {R : Room} {s : State} {m : MethodId} {args : Array Value} {below : List Frame} {meth : Method} {c : Code} {H : Heap} {locs : List Loc} {cells slots : Nat} {Z : State → Prop}
/-- a static call, at the machine -/
theorem sv_runS {own : String} {cc : ByteArray} {nL idx n pc : Nat} {ls : Array Slot} {M : sv_M} {as rest : List Value} {g : sv_G} {A : Nat → Prop} {μ : sv_Mem} {Q : Value → sv_Mem → Prop} {st0 : List Value}
    (F : CallFix p m c cc nL s args sv_GT own) (hc : sv_cal M n) (h1 : Cond.methodLink own idx M.1 ∈ sv_GT) (h2 : Cond.static M.1 ∈ sv_GT) (hR : sv_fit M R) (hcs : cells ≤ R.cells ∧ slots ≤ R.slots) (hK : va_K g.1 vwCl (sv_tys g) s) (hN : sv_Nw s) (hA : ∀ q, s.heap.size ≤ q → A q) (hW : sv_Wd g A s H locs μ)
    (hls : ls.size = nL) (hn : as.length = n) (hst : st0 = (as.map (sv_tr g.2.1)).reverse ++ rest) (hrm : (rest.map fun v => v.category).sum ≤ 8) (hw : sv_wn as ≤ M.2.2.1) (hd : decode cc pc = .ok (.invokestatic idx, 3)) (hwp : wp M 0 (lv_args 0 as) [] μ Q)
    (kk : ∀ (v : Value) (μ' : sv_Mem) (H1 : Heap) (locs1 : List Loc), Q v μ' → sv_Wd g A s H1 locs1 μ' → W p l e R s m args below meth c H1 locs1 cells slots Z (F0 m (pc + 3) ls ((sv_ro v).toList ++ rest))) : W p l e R s m args below meth c H locs cells slots Z (F0 m pc ls st0) := by
  obtain ⟨hP, hD, hS⟩ := hW
  exact sv_call (va_runS F (sv_met (l := l) (g := g) hwp hc.1 hw H.size) (va_cwS n F.2.2.2.2 (sv_goodS hc h1 h2) rfl rfl rfl ⟨hc.2.2.2.1.1, hc.2.2.2.1.2, hc.2.2.2.2⟩ hR) ⟨sv_blind, sv_pre hP hK hD hN⟩ rfl (by rw [List.length_map]; exact hn) hls hst (lv_room hrm) hd hcs) hS (sv_free hD hS hA) kk
/-- a virtual call, at the machine -/
theorem sv_runV {own : String} {cc : ByteArray} {nL idx n pc : Nat} {ls : Array Slot} {M : sv_M} {as rest : List Value} {g : sv_G} {A : Nat → Prop} {μ : sv_Mem} {Q : Value → sv_Mem → Prop} {st0 : List Value} {r ci : Nat} {sl : List (Option Nat)} {q : vw_C}
    (F : CallFix p m c cc nL s args sv_GT own) (hc : sv_cal M n) (h1 : Cond.methodLink own idx M.1 ∈ sv_GT) (h2 : Cond.instanceMethod M.1 ∈ sv_GT) (h3 : Cond.selects M.1.cls M.1 M.1 ∈ sv_GT) (hR : sv_fit M R) (hcs : cells ≤ R.cells ∧ slots ≤ R.slots) (hK : va_K g.1 vwCl (sv_tys g) s) (hN : sv_Nw s) (hA : ∀ q, s.heap.size ≤ q → A q) (hW : sv_Wd g A s H locs μ)
    (hr : sv_LT[r]? = some (.inl (ci, sl))) (hq : vwCl[ci]? = some q) (hqc : q.1 = M.1.cls) (hls : ls.size = nL) (hn : as.length = n) (hst : st0 = (as.map (sv_tr g.2.1)).reverse ++ .ref (g.2.1 r) :: rest) (hrm : (rest.map fun v => v.category).sum ≤ 8) (hw : sv_wn (.ref r :: as) ≤ M.2.2.1) (hd : decode cc pc = .ok (.invokevirtual idx, 3)) (hwp : wp M 0 (lv_args 0 (.ref r :: as)) [] μ Q)
    (kk : ∀ (v : Value) (μ' : sv_Mem) (H1 : Heap) (locs1 : List Loc), Q v μ' → sv_Wd g A s H1 locs1 μ' → W p l e R s m args below meth c H1 locs1 cells slots Z (F0 m (pc + 3) ls ((sv_ro v).toList ++ rest))) : W p l e R s m args below meth c H locs cells slots Z (F0 m pc ls st0) := by
  obtain ⟨hP, hD, hS⟩ := hW
  have hrv := va_recv hK hP hq (q0 := r) (sv_ws_get g μ hr)
  rw [hqc] at hrv
  exact sv_call (va_runV F (sv_met (l := l) (g := g) hwp hc.1 hw H.size) (cwV n F.2.2.2.2 (sv_goodV hc h1 h2 h3) rfl rfl rfl ⟨rfl, hc.2.2.2.1.1, hc.2.2.2.1.2, hc.2.2.2.2⟩ hR) ⟨sv_blind, hrv, sv_pre hP hK hD hN⟩ rfl (by rw [List.length_map]; exact hn) hls hst (lv_room hrm) hd hcs) hS (sv_free hD hS hA) kk
end SVR
end
section
/-! ===== what an instruction asks: predicate transformers; sv_Snd: they are sound ===== -/
abbrev sv_K : Type := Nat → sv_L → List Value → sv_Mem → Prop
abbrev sv_Po : Type := Value → sv_Mem → Prop
abbrev sv_O : Type := sv_K → sv_Po → sv_L → List Value → sv_Mem → Prop
def sv_Snd (M : sv_M) (pc : Nat) (o : sv_O) : Prop := ∀ (k : sv_K) (Q : sv_Po) (lv : sv_L) (st : List Value) (μ : sv_Mem), (∀ pc' lv' st' μ', k pc' lv' st' μ' → wp M pc' lv' st' μ' Q) → o k Q lv st μ → wp M pc lv st μ Q
def sv_p1 (st : List Value) (f : Int32 → List Value → Prop) : Prop := match st with
  | .int x :: t => f x t
  | _ => False
def sv_p2 (st : List Value) (f : Int32 → Int32 → List Value → Prop) : Prop := match st with
  | .int y :: .int x :: t => f x y t
  | _ => False
def sv_l1 (st : List Value) (f : Int64 → List Value → Prop) : Prop := match st with
  | .long x :: t => f x t
  | _ => False
def sv_l2 (st : List Value) (f : Int64 → Int64 → List Value → Prop) : Prop := match st with
  | .long y :: .long x :: t => f x y t
  | _ => False
def sv_r1 (st : List Value) (f : Nat → List Value → Prop) : Prop := match st with
  | .ref r :: t => f r t
  | _ => False
def sv_ri (st : List Value) (f : Nat → Int32 → List Value → Prop) : Prop := match st with
  | .int i :: .ref r :: t => f r i t
  | _ => False
def sv_rii (st : List Value) (f : Nat → Int32 → Int32 → List Value → Prop) : Prop := match st with
  | .int x :: .int i :: .ref r :: t => f r i x t
  | _ => False
def sv_v1 (st : List Value) (f : Value → List Value → Prop) : Prop := match st with
  | v :: t => bif Nat.beq v.category 1 then f v t else False
  | _ => False
def sv_v2 (st : List Value) (f : Value → Value → List Value → Prop) : Prop := match st with
  | v :: w :: t => bif Nat.beq v.category 1 && Nat.beq w.category 1 then f v w t else False
  | _ => False
def sv_gi (o : Option Value) (f : Int32 → Prop) : Prop := match o with
  | some (.int x) => f x
  | _ => False
def sv_gl (o : Option Value) (f : Int64 → Prop) : Prop := match o with
  | some (.long x) => f x
  | _ => False
def sv_gr (o : Option Value) (f : Nat → Prop) : Prop := match o with
  | some (.ref x) => f x
  | _ => False
theorem sv_p1_e {st : List Value} {f : Int32 → List Value → Prop} (h : sv_p1 st f) : ∃ x t, st = .int x :: t ∧ f x t := by
  unfold sv_p1 at h
  split at h
  · exact ⟨_, _, rfl, h⟩
  · exact h.elim
theorem sv_p2_e {st : List Value} {f : Int32 → Int32 → List Value → Prop} (h : sv_p2 st f) : ∃ x y t, st = .int y :: .int x :: t ∧ f x y t := by
  unfold sv_p2 at h
  split at h
  · exact ⟨_, _, _, rfl, h⟩
  · exact h.elim
theorem sv_l1_e {st : List Value} {f : Int64 → List Value → Prop} (h : sv_l1 st f) : ∃ x t, st = .long x :: t ∧ f x t := by
  unfold sv_l1 at h
  split at h
  · exact ⟨_, _, rfl, h⟩
  · exact h.elim
theorem sv_l2_e {st : List Value} {f : Int64 → Int64 → List Value → Prop} (h : sv_l2 st f) : ∃ x y t, st = .long y :: .long x :: t ∧ f x y t := by
  unfold sv_l2 at h
  split at h
  · exact ⟨_, _, _, rfl, h⟩
  · exact h.elim
theorem sv_r1_e {st : List Value} {f : Nat → List Value → Prop} (h : sv_r1 st f) : ∃ r t, st = .ref r :: t ∧ f r t := by
  unfold sv_r1 at h
  split at h
  · exact ⟨_, _, rfl, h⟩
  · exact h.elim
theorem sv_ri_e {st : List Value} {f : Nat → Int32 → List Value → Prop} (h : sv_ri st f) : ∃ r i t, st = .int i :: .ref r :: t ∧ f r i t := by
  unfold sv_ri at h
  split at h
  · exact ⟨_, _, _, rfl, h⟩
  · exact h.elim
theorem sv_rii_e {st : List Value} {f : Nat → Int32 → Int32 → List Value → Prop} (h : sv_rii st f) : ∃ r i x t, st = .int x :: .int i :: .ref r :: t ∧ f r i x t := by
  unfold sv_rii at h
  split at h
  · exact ⟨_, _, _, _, rfl, h⟩
  · exact h.elim
theorem sv_bif {b : Bool} {A : Prop} (h : bif b then A else False) : b = true ∧ A := by
  cases b
  · exact h.elim
  · exact ⟨rfl, h⟩
theorem sv_v1_e {st : List Value} {f : Value → List Value → Prop} (h : sv_v1 st f) : ∃ v t, st = v :: t ∧ v.category = 1 ∧ f v t := by
  unfold sv_v1 at h
  split at h
  · obtain ⟨h1, h2⟩ := sv_bif h
    exact ⟨_, _, rfl, Nat.eq_of_beq_eq_true h1, h2⟩
  · exact h.elim
theorem sv_v2_e {st : List Value} {f : Value → Value → List Value → Prop} (h : sv_v2 st f) : ∃ v w t, st = v :: w :: t ∧ v.category = 1 ∧ w.category = 1 ∧ f v w t := by
  unfold sv_v2 at h
  split at h
  · obtain ⟨h1, h2⟩ := sv_bif h
    have h3 := (Bool.and_eq_true _ _).mp h1
    exact ⟨_, _, _, rfl, Nat.eq_of_beq_eq_true h3.1, Nat.eq_of_beq_eq_true h3.2, h2⟩
  · exact h.elim
theorem sv_gi_e {o : Option Value} {f : Int32 → Prop} (h : sv_gi o f) : ∃ x, o = some (.int x) ∧ f x := by
  unfold sv_gi at h
  split at h
  · exact ⟨_, rfl, h⟩
  · exact h.elim
theorem sv_gl_e {o : Option Value} {f : Int64 → Prop} (h : sv_gl o f) : ∃ x, o = some (.long x) ∧ f x := by
  unfold sv_gl at h
  split at h
  · exact ⟨_, rfl, h⟩
  · exact h.elim
theorem sv_gr_e {o : Option Value} {f : Nat → Prop} (h : sv_gr o f) : ∃ x, o = some (.ref x) ∧ f x := by
  unfold sv_gr at h
  split at h
  · exact ⟨_, rfl, h⟩
  · exact h.elim
/-- a step that touches the stack alone -/
theorem sv_pure {M : sv_M} {pc pc' : Nat} {lv : sv_L} {st st' : List Value} {μ : sv_Mem} {Q : sv_Po} (hw : wp M pc' lv st' μ Q)
    (hs : ∀ {l : Launch} {p : Program} {e : Env} {R : Room} {s : State} {m : MethodId} {args : Array Value} {below : List Frame} {meth : Method} {c : Code} {cells slots : Nat} {Z : State → Prop} {H : Heap} {locs : List Loc} {ls : Array Slot} (g : sv_G), p.tables.exec = Jvm.exec → c.code = M.2.1 → s.vm.findClass M.1.cls = some m.cls → (∀ w ∈ sv_GT, w.before args s = true) → lv_has ls M.2.2.1 (sv_tl g.2.1 lv) →
      W p l e R s m args below meth c H locs cells slots Z (F0 m pc' ls (st'.map (sv_tr g.2.1))) → W p l e R s m args below meth c H locs cells slots Z (F0 m pc ls (st.map (sv_tr g.2.1)))) : wp M pc lv st μ Q := by
  intro l p e R s m args below meth c cells slots Z A g C H locs ls hW hl
  exact hs g C.1 C.2.1 C.2.2.2.1 C.2.2.2.2.1 hl (hw l p e R s m args below meth c cells slots Z A g C H locs ls hW hl)
section SVO
variable {M : sv_M} {pc : Nat}
def o_il (i nx : Nat) : sv_O := fun k _ lv st μ => sv_gi (sv_get lv i) (fun x => k nx lv (.int x :: st) μ)
def o_ll (i nx : Nat) : sv_O := fun k _ lv st μ => sv_gl (sv_get lv i) (fun x => k nx lv (.long x :: st) μ)
def o_al (i nx : Nat) : sv_O := fun k _ lv st μ => sv_gr (sv_get lv i) (fun x => k nx lv (.ref x :: st) μ)
theorem s_iload_n {n : Fin 4} {i : Nat} (hd : decode M.2.1 pc = .ok (.iload_n n, 1)) (hi : (n : Nat) = i) : sv_Snd M pc (o_il i (pc + 1)) := by
  intro k Q lv st μ hk h
  obtain ⟨x, hg, h⟩ := sv_gi_e h
  exact sv_pure (hk _ _ _ _ h) (fun g hx hb _ _ hl K => lv_iload_n hx hb hd hi (sv_ld hl hg) K)
theorem s_iload {i : Nat} (hd : decode M.2.1 pc = .ok (.iload i, 2)) : sv_Snd M pc (o_il i (pc + 2)) := by
  intro k Q lv st μ hk h
  obtain ⟨x, hg, h⟩ := sv_gi_e h
  exact sv_pure (hk _ _ _ _ h) (fun g hx hb _ _ hl K => lv_iload hx hb hd (sv_ld hl hg) K)
theorem s_lload_n {n : Fin 4} {i : Nat} (hd : decode M.2.1 pc = .ok (.lload_n n, 1)) (hi : (n : Nat) = i) : sv_Snd M pc (o_ll i (pc + 1)) := by
  intro k Q lv st μ hk h
  obtain ⟨x, hg, h⟩ := sv_gl_e h
  exact sv_pure (hk _ _ _ _ h) (fun g hx hb _ _ hl K => lv_lload_n hx hb hd hi (sv_ld hl hg) K)
theorem s_lload {i : Nat} (hd : decode M.2.1 pc = .ok (.lload i, 2)) : sv_Snd M pc (o_ll i (pc + 2)) := by
  intro k Q lv st μ hk h
  obtain ⟨x, hg, h⟩ := sv_gl_e h
  exact sv_pure (hk _ _ _ _ h) (fun g hx hb _ _ hl K => lv_lload hx hb hd (sv_ld hl hg) K)
theorem s_aload_n {n : Fin 4} {i : Nat} (hd : decode M.2.1 pc = .ok (.aload_n n, 1)) (hi : (n : Nat) = i) : sv_Snd M pc (o_al i (pc + 1)) := by
  intro k Q lv st μ hk h
  obtain ⟨x, hg, h⟩ := sv_gr_e h
  exact sv_pure (hk _ _ _ _ h) (fun g hx hb _ _ hl K => lv_aload_n hx hb hd hi (sv_ld hl hg) K)
theorem s_aload {i : Nat} (hd : decode M.2.1 pc = .ok (.aload i, 2)) : sv_Snd M pc (o_al i (pc + 2)) := by
  intro k Q lv st μ hk h
  obtain ⟨x, hg, h⟩ := sv_gr_e h
  exact sv_pure (hk _ _ _ _ h) (fun g hx hb _ _ hl K => lv_aload hx hb hd (sv_ld hl hg) K)
def o_is (i nx : Nat) : sv_O := fun k _ lv st μ => sv_p1 st (fun x t => k nx (sv_set i 1 (.int x) lv) t μ)
def o_ls (i nx : Nat) : sv_O := fun k _ lv st μ => sv_l1 st (fun x t => k nx (sv_set i 2 (.long x) lv) t μ)
def o_in (i : Nat) (v : Int32) (nx : Nat) : sv_O := fun k _ lv st μ => sv_gi (sv_get lv i) (fun x => k nx (sv_set i 1 (.int (x + v)) lv) st μ)
theorem s_istore_n {n : Fin 4} {i : Nat} (hd : decode M.2.1 pc = .ok (.istore_n n, 1)) (hi : (n : Nat) = i) (hn : i < M.2.2.1) : sv_Snd M pc (o_is i (pc + 1)) := by
  intro k Q lv st μ hk h
  obtain ⟨x, t, rfl, h⟩ := sv_p1_e h
  intro l p e R s m args below meth c cells slots Z A g C H locs ls hW hl
  exact lv_istore_n C.1 C.2.1 hd hi hl hn rfl (fun ls hl => hk _ _ _ _ h l p e R s m args below meth c cells slots Z A g C H locs ls hW (sv_tl_set1 (v := .int x) hl))
theorem s_istore {i : Nat} (hd : decode M.2.1 pc = .ok (.istore i, 2)) (hn : i < M.2.2.1) : sv_Snd M pc (o_is i (pc + 2)) := by
  intro k Q lv st μ hk h
  obtain ⟨x, t, rfl, h⟩ := sv_p1_e h
  intro l p e R s m args below meth c cells slots Z A g C H locs ls hW hl
  exact lv_istore C.1 C.2.1 hd hl hn rfl (fun ls hl => hk _ _ _ _ h l p e R s m args below meth c cells slots Z A g C H locs ls hW (sv_tl_set1 (v := .int x) hl))
theorem s_lstore_n {n : Fin 4} {i : Nat} (hd : decode M.2.1 pc = .ok (.lstore_n n, 1)) (hi : (n : Nat) = i) (hn : i + 1 < M.2.2.1) : sv_Snd M pc (o_ls i (pc + 1)) := by
  intro k Q lv st μ hk h
  obtain ⟨x, t, rfl, h⟩ := sv_l1_e h
  intro l p e R s m args below meth c cells slots Z A g C H locs ls hW hl
  exact lv_lstore_n C.1 C.2.1 hd hi hl hn rfl (fun ls hl => hk _ _ _ _ h l p e R s m args below meth c cells slots Z A g C H locs ls hW (sv_tl_set2 (v := .long x) hl))
theorem s_lstore {i : Nat} (hd : decode M.2.1 pc = .ok (.lstore i, 2)) (hn : i + 1 < M.2.2.1) : sv_Snd M pc (o_ls i (pc + 2)) := by
  intro k Q lv st μ hk h
  obtain ⟨x, t, rfl, h⟩ := sv_l1_e h
  intro l p e R s m args below meth c cells slots Z A g C H locs ls hW hl
  exact lv_lstore C.1 C.2.1 hd hl hn rfl (fun ls hl => hk _ _ _ _ h l p e R s m args below meth c cells slots Z A g C H locs ls hW (sv_tl_set2 (v := .long x) hl))
theorem s_iinc {i : Nat} {n : Int} {v : Int32} (hd : decode M.2.1 pc = .ok (.iinc i n, 3)) (hv : Int32.ofInt n = v) (hn : i < M.2.2.1) : sv_Snd M pc (o_in i v (pc + 3)) := by
  intro k Q lv st μ hk h
  obtain ⟨x, hg, h⟩ := sv_gi_e h
  intro l p e R s m args below meth c cells slots Z A g C H locs ls hW hl
  have hm : (i, Value.int x) ∈ sv_tl g.2.1 lv := List.mem_map.mpr ⟨(i, .int x), sv_get_mem hg, rfl⟩
  obtain ⟨j, hj⟩ := List.getElem?_of_mem hm
  subst hv
  exact lv_iinc C.1 C.2.1 hd hl hj rfl hn rfl (fun ls hl => hk _ _ _ _ h l p e R s m args below meth c cells slots Z A g C H locs ls hW (sv_tl_set1 (v := .int (x + Int32.ofInt n)) hl))
def o_ic (v : Int32) (nx : Nat) : sv_O := fun k _ lv st μ => k nx lv (.int v :: st) μ
def o_lc (v : Int64) (nx : Nat) : sv_O := fun k _ lv st μ => k nx lv (.long v :: st) μ
theorem s_iconst {n : Int} {v : Int32} (hd : decode M.2.1 pc = .ok (.iconst n, 1)) (hv : Int32.ofInt n = v) : sv_Snd M pc (o_ic v (pc + 1)) :=
  fun k Q lv st μ hk h => sv_pure (hk _ _ _ _ h) (fun g hx hb _ _ hl K => lv_iconst hx hb hd hv K)
theorem s_bipush {n : Int} {v : Int32} (hd : decode M.2.1 pc = .ok (.bipush n, 2)) (hv : (Int8.ofInt n).toInt32 = v) : sv_Snd M pc (o_ic v (pc + 2)) :=
  fun k Q lv st μ hk h => sv_pure (hk _ _ _ _ h) (fun g hx hb _ _ hl K => lv_bipush hx hb hd hv K)
theorem s_sipush {n : Int} {v : Int32} (hd : decode M.2.1 pc = .ok (.sipush n, 3)) (hv : (Int16.ofInt n).toInt32 = v) : sv_Snd M pc (o_ic v (pc + 3)) :=
  fun k Q lv st μ hk h => sv_pure (hk _ _ _ _ h) (fun g hx hb _ _ hl K => lv_sipush hx hb hd hv K)
theorem s_lconst {n : Fin 2} {v : Int64} (hd : decode M.2.1 pc = .ok (.lconst n, 1)) (hv : Int64.ofNat (n : Nat) = v) : sv_Snd M pc (o_lc v (pc + 1)) :=
  fun k Q lv st μ hk h => sv_pure (hk _ _ _ _ h) (fun g hx hb _ _ hl K => lv_lconst hx hb hd hv K)
theorem s_ldc {i : Nat} {v : Int32} (hd : decode M.2.1 pc = .ok (.ldc i, 2)) (hc : Cond.constant M.1.cls i v ∈ sv_GT) : sv_Snd M pc (o_ic v (pc + 2)) :=
  fun k Q lv st μ hk h => sv_pure (hk _ _ _ _ h) (fun g hx hb ho ht hl K => lv_ldc hx hb ho (ht _ hc) hd K)
theorem s_ldcw {i : Nat} {v : Int32} (hd : decode M.2.1 pc = .ok (.ldc_w i, 3)) (hc : Cond.constant M.1.cls i v ∈ sv_GT) : sv_Snd M pc (o_ic v (pc + 3)) :=
  fun k Q lv st μ hk h => sv_pure (hk _ _ _ _ h) (fun g hx hb ho ht hl K => lv_ldcw hx hb ho (ht _ hc) hd K)
theorem s_ldc2 {i : Nat} {v : Int64} (hd : decode M.2.1 pc = .ok (.ldc2_w i, 3)) (hc : Cond.constantLong M.1.cls i v ∈ sv_GT) : sv_Snd M pc (o_lc v (pc + 3)) :=
  fun k Q lv st μ hk h => sv_pure (hk _ _ _ _ h) (fun g hx hb ho ht hl K => lv_ldc2 hx hb ho (ht _ hc) hd K)
def o_b (f : Int32 → Int32 → Int32) (nx : Nat) : sv_O := fun k _ lv st μ => sv_p2 st (fun x y t => k nx lv (.int (f x y) :: t) μ)
def o_bd (f : Int32 → Int32 → Int32) (nx : Nat) : sv_O := fun k _ lv st μ => sv_p2 st (fun x y t => ¬ y = 0 ∧ k nx lv (.int (f x y) :: t) μ)
def o_u (f : Int32 → Int32) (nx : Nat) : sv_O := fun k _ lv st μ => sv_p1 st (fun x t => k nx lv (.int (f x) :: t) μ)
def o_lb (f : Int64 → Int64 → Int64) (nx : Nat) : sv_O := fun k _ lv st μ => sv_l2 st (fun x y t => k nx lv (.long (f x y) :: t) μ)
def o_ld (f : Int64 → Int64 → Int64) (nx : Nat) : sv_O := fun k _ lv st μ => sv_l2 st (fun x y t => ¬ y = 0 ∧ k nx lv (.long (f x y) :: t) μ)
def o_i2l (nx : Nat) : sv_O := fun k _ lv st μ => sv_p1 st (fun x t => k nx lv (.long x.toInt64 :: t) μ)
def o_l2i (nx : Nat) : sv_O := fun k _ lv st μ => sv_l1 st (fun x t => k nx lv (.int x.toInt32 :: t) μ)
def o_lcmp (nx : Nat) : sv_O := fun k _ lv st μ => sv_l2 st (fun x y t => k nx lv (.int (lg_cmp x y) :: t) μ)
def o_dup (nx : Nat) : sv_O := fun k _ lv st μ => sv_v1 st (fun v t => k nx lv (v :: v :: t) μ)
def o_pop (nx : Nat) : sv_O := fun k _ lv st μ => sv_v1 st (fun _ t => k nx lv t μ)
def o_dup2 (nx : Nat) : sv_O := fun k _ lv st μ => sv_v2 st (fun v w t => k nx lv (v :: w :: v :: w :: t) μ)
theorem s_iadd (hd : decode M.2.1 pc = .ok (.iadd, 1)) : sv_Snd M pc (o_b (fun x y => x + y) (pc + 1)) := by
  intro k Q lv st μ hk h
  obtain ⟨x, y, t, rfl, h⟩ := sv_p2_e h
  exact sv_pure (hk _ _ _ _ h) (fun g hx hb _ _ hl K => lv_iadd hx hb hd K)
theorem s_isub (hd : decode M.2.1 pc = .ok (.isub, 1)) : sv_Snd M pc (o_b (fun x y => x - y) (pc + 1)) := by
  intro k Q lv st μ hk h
  obtain ⟨x, y, t, rfl, h⟩ := sv_p2_e h
  exact sv_pure (hk _ _ _ _ h) (fun g hx hb _ _ hl K => lv_isub hx hb hd K)
theorem s_imul (hd : decode M.2.1 pc = .ok (.imul, 1)) : sv_Snd M pc (o_b (fun x y => x * y) (pc + 1)) := by
  intro k Q lv st μ hk h
  obtain ⟨x, y, t, rfl, h⟩ := sv_p2_e h
  exact sv_pure (hk _ _ _ _ h) (fun g hx hb _ _ hl K => lv_imul hx hb hd K)
theorem s_iand (hd : decode M.2.1 pc = .ok (.iand, 1)) : sv_Snd M pc (o_b (fun x y => x &&& y) (pc + 1)) := by
  intro k Q lv st μ hk h
  obtain ⟨x, y, t, rfl, h⟩ := sv_p2_e h
  exact sv_pure (hk _ _ _ _ h) (fun g hx hb _ _ hl K => lv_iand hx hb hd K)
theorem s_ior (hd : decode M.2.1 pc = .ok (.ior, 1)) : sv_Snd M pc (o_b (fun x y => x ||| y) (pc + 1)) := by
  intro k Q lv st μ hk h
  obtain ⟨x, y, t, rfl, h⟩ := sv_p2_e h
  exact sv_pure (hk _ _ _ _ h) (fun g hx hb _ _ hl K => lv_ior hx hb hd K)
theorem s_ishl (hd : decode M.2.1 pc = .ok (.ishl, 1)) : sv_Snd M pc (o_b (fun x y => x <<< (y &&& 31)) (pc + 1)) := by
  intro k Q lv st μ hk h
  obtain ⟨x, y, t, rfl, h⟩ := sv_p2_e h
  exact sv_pure (hk _ _ _ _ h) (fun g hx hb _ _ hl K => lv_ishl hx hb hd K)
theorem s_ishr (hd : decode M.2.1 pc = .ok (.ishr, 1)) : sv_Snd M pc (o_b (fun x y => x >>> (y &&& 31)) (pc + 1)) := by
  intro k Q lv st μ hk h
  obtain ⟨x, y, t, rfl, h⟩ := sv_p2_e h
  exact sv_pure (hk _ _ _ _ h) (fun g hx hb _ _ hl K => lv_ishr hx hb hd K)
theorem s_iushr (hd : decode M.2.1 pc = .ok (.iushr, 1)) : sv_Snd M pc (o_b (fun x y => (x.toUInt32 >>> (y.toUInt32 &&& Int32.toUInt32 31)).toInt32) (pc + 1)) := by
  intro k Q lv st μ hk h
  obtain ⟨x, y, t, rfl, h⟩ := sv_p2_e h
  exact sv_pure (hk _ _ _ _ h) (fun g hx hb _ _ hl K => lv_iushr hx hb hd rfl K)
theorem s_idiv (hd : decode M.2.1 pc = .ok (.idiv, 1)) : sv_Snd M pc (o_bd (fun x y => x / y) (pc + 1)) := by
  intro k Q lv st μ hk h
  obtain ⟨x, y, t, rfl, h0, h⟩ := sv_p2_e h
  exact sv_pure (hk _ _ _ _ h) (fun g hx hb _ _ hl K => lv_idiv hx hb hd h0 K)
theorem s_irem (hd : decode M.2.1 pc = .ok (.irem, 1)) : sv_Snd M pc (o_bd (fun x y => x - x / y * y) (pc + 1)) := by
  intro k Q lv st μ hk h
  obtain ⟨x, y, t, rfl, h0, h⟩ := sv_p2_e h
  exact sv_pure (hk _ _ _ _ h) (fun g hx hb _ _ hl K => lv_irem hx hb hd h0 K)
theorem s_ineg (hd : decode M.2.1 pc = .ok (.ineg, 1)) : sv_Snd M pc (o_u (fun x => -x) (pc + 1)) := by
  intro k Q lv st μ hk h
  obtain ⟨x, t, rfl, h⟩ := sv_p1_e h
  exact sv_pure (hk _ _ _ _ h) (fun g hx hb _ _ hl K => lv_ineg hx hb hd K)
theorem s_i2b (hd : decode M.2.1 pc = .ok (.i2b, 1)) : sv_Snd M pc (o_u (fun x => x.toInt8.toInt32) (pc + 1)) := by
  intro k Q lv st μ hk h
  obtain ⟨x, t, rfl, h⟩ := sv_p1_e h
  exact sv_pure (hk _ _ _ _ h) (fun g hx hb _ _ hl K => lv_i2b hx hb hd rfl K)
theorem s_i2s (hd : decode M.2.1 pc = .ok (.i2s, 1)) : sv_Snd M pc (o_u (fun x => x.toInt16.toInt32) (pc + 1)) := by
  intro k Q lv st μ hk h
  obtain ⟨x, t, rfl, h⟩ := sv_p1_e h
  exact sv_pure (hk _ _ _ _ h) (fun g hx hb _ _ hl K => lv_i2s hx hb hd rfl K)
theorem s_ladd (hd : decode M.2.1 pc = .ok (.ladd, 1)) : sv_Snd M pc (o_lb (fun x y => x + y) (pc + 1)) := by
  intro k Q lv st μ hk h
  obtain ⟨x, y, t, rfl, h⟩ := sv_l2_e h
  exact sv_pure (hk _ _ _ _ h) (fun g hx hb _ _ hl K => lv_ladd hx hb hd K)
theorem s_lmul (hd : decode M.2.1 pc = .ok (.lmul, 1)) : sv_Snd M pc (o_lb (fun x y => x * y) (pc + 1)) := by
  intro k Q lv st μ hk h
  obtain ⟨x, y, t, rfl, h⟩ := sv_l2_e h
  exact sv_pure (hk _ _ _ _ h) (fun g hx hb _ _ hl K => lv_lmul hx hb hd K)
theorem s_lsub (hd : decode M.2.1 pc = .ok (.lsub, 1)) : sv_Snd M pc (o_lb (fun x y => x - y) (pc + 1)) := by
  intro k Q lv st μ hk h
  obtain ⟨x, y, t, rfl, h⟩ := sv_l2_e h
  exact sv_pure (hk _ _ _ _ h) (fun g hx hb _ _ hl K => lv_lsub hx hb hd K)
theorem s_ldiv (hd : decode M.2.1 pc = .ok (.ldiv, 1)) : sv_Snd M pc (o_ld (fun x y => x / y) (pc + 1)) := by
  intro k Q lv st μ hk h
  obtain ⟨x, y, t, rfl, h0, h⟩ := sv_l2_e h
  exact sv_pure (hk _ _ _ _ h) (fun g hx hb _ _ hl K => lv_ldiv hx hb hd h0 K)
theorem s_lrem (hd : decode M.2.1 pc = .ok (.lrem, 1)) : sv_Snd M pc (o_ld (fun x y => x - x / y * y) (pc + 1)) := by
  intro k Q lv st μ hk h
  obtain ⟨x, y, t, rfl, h0, h⟩ := sv_l2_e h
  exact sv_pure (hk _ _ _ _ h) (fun g hx hb _ _ hl K => lv_lrem hx hb hd h0 K)
theorem s_i2l (hd : decode M.2.1 pc = .ok (.i2l, 1)) : sv_Snd M pc (o_i2l (pc + 1)) := by
  intro k Q lv st μ hk h
  obtain ⟨x, t, rfl, h⟩ := sv_p1_e h
  exact sv_pure (hk _ _ _ _ h) (fun g hx hb _ _ hl K => lv_i2l hx hb hd rfl K)
theorem s_l2i (hd : decode M.2.1 pc = .ok (.l2i, 1)) : sv_Snd M pc (o_l2i (pc + 1)) := by
  intro k Q lv st μ hk h
  obtain ⟨x, t, rfl, h⟩ := sv_l1_e h
  exact sv_pure (hk _ _ _ _ h) (fun g hx hb _ _ hl K => lv_l2i hx hb hd rfl K)
theorem s_lcmp (hd : decode M.2.1 pc = .ok (.lcmp, 1)) : sv_Snd M pc (o_lcmp (pc + 1)) := by
  intro k Q lv st μ hk h
  obtain ⟨x, y, t, rfl, h⟩ := sv_l2_e h
  exact sv_pure (hk _ _ _ _ h) (fun g hx hb _ _ hl K => W.lcmp hx hb hd K)
theorem s_dup (hd : decode M.2.1 pc = .ok (.dup, 1)) : sv_Snd M pc (o_dup (pc + 1)) := by
  intro k Q lv st μ hk h
  obtain ⟨v, t, rfl, hv, h⟩ := sv_v1_e h
  exact sv_pure (hk _ _ _ _ h) (fun g hx hb _ _ hl K => lv_dup hx hb hd ((sv_tr_cat _ v).trans hv) K)
theorem s_pop (hd : decode M.2.1 pc = .ok (.pop, 1)) : sv_Snd M pc (o_pop (pc + 1)) := by
  intro k Q lv st μ hk h
  obtain ⟨v, t, rfl, hv, h⟩ := sv_v1_e h
  exact sv_pure (hk _ _ _ _ h) (fun g hx hb _ _ hl K => lv_pop hx hb hd ((sv_tr_cat _ v).trans hv) K)
theorem s_dup2 (hd : decode M.2.1 pc = .ok (.dup2, 1)) : sv_Snd M pc (o_dup2 (pc + 1)) := by
  intro k Q lv st μ hk h
  obtain ⟨v, w, t, rfl, hv, hw, h⟩ := sv_v2_e h
  exact sv_pure (hk _ _ _ _ h) (fun g hx hb _ _ hl K => lv_dup2_11 hx hb hd ((sv_tr_cat _ v).trans hv) ((sv_tr_cat _ w).trans hw) K)
def o_if (q : Int32 → Prop) (t e : Nat) : sv_O := fun k _ lv st μ => sv_p1 st (fun x r => (q x → k t lv r μ) ∧ (¬ q x → k e lv r μ))
def o_ic2 (q : Int32 → Int32 → Prop) (t e : Nat) : sv_O := fun k _ lv st μ => sv_p2 st (fun x y r => (q x y → k t lv r μ) ∧ (¬ q x y → k e lv r μ))
def o_go (t : Nat) : sv_O := fun k _ lv st μ => k t lv st μ
theorem s_goto {off : Int} {t : Nat} (hd : decode M.2.1 pc = .ok (.goto off, 3)) (ht : (pc : Int) + off = (t : Int)) : sv_Snd M pc (o_go t) :=
  fun k Q lv st μ hk h => sv_pure (hk _ _ _ _ h) (fun g hx hb _ _ hl K => lv_goto hx hb hd ht K)
theorem s_if_eq {off : Int} {t : Nat} (hd : decode M.2.1 pc = .ok (.ifCond .eq off, 3)) (ht : (pc : Int) + off = (t : Int)) : sv_Snd M pc (o_if (fun x => x = 0) t (pc + 3)) := by
  intro k Q lv st μ hk h
  obtain ⟨x, r, rfl, h1, h2⟩ := sv_p1_e h
  intro l p e R s m args below meth c cells slots Z A g C H locs ls hW hl
  exact lv_if_eq C.1 C.2.1 hd ht (fun q => hk _ _ _ _ (h1 q) l p e R s m args below meth c cells slots Z A g C H locs ls hW hl) (fun q => hk _ _ _ _ (h2 q) l p e R s m args below meth c cells slots Z A g C H locs ls hW hl)
theorem s_icmp_eq {off : Int} {t : Nat} (hd : decode M.2.1 pc = .ok (.if_icmp .eq off, 3)) (ht : (pc : Int) + off = (t : Int)) : sv_Snd M pc (o_ic2 (fun x y => x = y) t (pc + 3)) := by
  intro k Q lv st μ hk h
  obtain ⟨x, y, r, rfl, h1, h2⟩ := sv_p2_e h
  intro l p e R s m args below meth c cells slots Z A g C H locs ls hW hl
  exact lv_icmp_eq C.1 C.2.1 hd ht (fun q => hk _ _ _ _ (h1 q) l p e R s m args below meth c cells slots Z A g C H locs ls hW hl) (fun q => hk _ _ _ _ (h2 q) l p e R s m args below meth c cells slots Z A g C H locs ls hW hl)
theorem s_if_lt {off : Int} {t : Nat} (hd : decode M.2.1 pc = .ok (.ifCond .lt off, 3)) (ht : (pc : Int) + off = (t : Int)) : sv_Snd M pc (o_if (fun x => x < 0) t (pc + 3)) := by
  intro k Q lv st μ hk h
  obtain ⟨x, r, rfl, h1, h2⟩ := sv_p1_e h
  intro l p e R s m args below meth c cells slots Z A g C H locs ls hW hl
  exact lv_if_lt C.1 C.2.1 hd ht (fun q => hk _ _ _ _ (h1 q) l p e R s m args below meth c cells slots Z A g C H locs ls hW hl) (fun q => hk _ _ _ _ (h2 q) l p e R s m args below meth c cells slots Z A g C H locs ls hW hl)
theorem s_icmp_lt {off : Int} {t : Nat} (hd : decode M.2.1 pc = .ok (.if_icmp .lt off, 3)) (ht : (pc : Int) + off = (t : Int)) : sv_Snd M pc (o_ic2 (fun x y => x < y) t (pc + 3)) := by
  intro k Q lv st μ hk h
  obtain ⟨x, y, r, rfl, h1, h2⟩ := sv_p2_e h
  intro l p e R s m args below meth c cells slots Z A g C H locs ls hW hl
  exact lv_icmp_lt C.1 C.2.1 hd ht (fun q => hk _ _ _ _ (h1 q) l p e R s m args below meth c cells slots Z A g C H locs ls hW hl) (fun q => hk _ _ _ _ (h2 q) l p e R s m args below meth c cells slots Z A g C H locs ls hW hl)
theorem s_if_ge {off : Int} {t : Nat} (hd : decode M.2.1 pc = .ok (.ifCond .ge off, 3)) (ht : (pc : Int) + off = (t : Int)) : sv_Snd M pc (o_if (fun x => 0 ≤ x) t (pc + 3)) := by
  intro k Q lv st μ hk h
  obtain ⟨x, r, rfl, h1, h2⟩ := sv_p1_e h
  intro l p e R s m args below meth c cells slots Z A g C H locs ls hW hl
  exact lv_if_ge C.1 C.2.1 hd ht (fun q => hk _ _ _ _ (h1 q) l p e R s m args below meth c cells slots Z A g C H locs ls hW hl) (fun q => hk _ _ _ _ (h2 q) l p e R s m args below meth c cells slots Z A g C H locs ls hW hl)
theorem s_icmp_ge {off : Int} {t : Nat} (hd : decode M.2.1 pc = .ok (.if_icmp .ge off, 3)) (ht : (pc : Int) + off = (t : Int)) : sv_Snd M pc (o_ic2 (fun x y => y ≤ x) t (pc + 3)) := by
  intro k Q lv st μ hk h
  obtain ⟨x, y, r, rfl, h1, h2⟩ := sv_p2_e h
  intro l p e R s m args below meth c cells slots Z A g C H locs ls hW hl
  exact lv_icmp_ge C.1 C.2.1 hd ht (fun q => hk _ _ _ _ (h1 q) l p e R s m args below meth c cells slots Z A g C H locs ls hW hl) (fun q => hk _ _ _ _ (h2 q) l p e R s m args below meth c cells slots Z A g C H locs ls hW hl)
theorem s_if_gt {off : Int} {t : Nat} (hd : decode M.2.1 pc = .ok (.ifCond .gt off, 3)) (ht : (pc : Int) + off = (t : Int)) : sv_Snd M pc (o_if (fun x => 0 < x) t (pc + 3)) := by
  intro k Q lv st μ hk h
  obtain ⟨x, r, rfl, h1, h2⟩ := sv_p1_e h
  intro l p e R s m args below meth c cells slots Z A g C H locs ls hW hl
  exact lv_if_gt C.1 C.2.1 hd ht (fun q => hk _ _ _ _ (h1 q) l p e R s m args below meth c cells slots Z A g C H locs ls hW hl) (fun q => hk _ _ _ _ (h2 q) l p e R s m args below meth c cells slots Z A g C H locs ls hW hl)
theorem s_icmp_gt {off : Int} {t : Nat} (hd : decode M.2.1 pc = .ok (.if_icmp .gt off, 3)) (ht : (pc : Int) + off = (t : Int)) : sv_Snd M pc (o_ic2 (fun x y => y < x) t (pc + 3)) := by
  intro k Q lv st μ hk h
  obtain ⟨x, y, r, rfl, h1, h2⟩ := sv_p2_e h
  intro l p e R s m args below meth c cells slots Z A g C H locs ls hW hl
  exact lv_icmp_gt C.1 C.2.1 hd ht (fun q => hk _ _ _ _ (h1 q) l p e R s m args below meth c cells slots Z A g C H locs ls hW hl) (fun q => hk _ _ _ _ (h2 q) l p e R s m args below meth c cells slots Z A g C H locs ls hW hl)
theorem s_if_le {off : Int} {t : Nat} (hd : decode M.2.1 pc = .ok (.ifCond .le off, 3)) (ht : (pc : Int) + off = (t : Int)) : sv_Snd M pc (o_if (fun x => x ≤ 0) t (pc + 3)) := by
  intro k Q lv st μ hk h
  obtain ⟨x, r, rfl, h1, h2⟩ := sv_p1_e h
  intro l p e R s m args below meth c cells slots Z A g C H locs ls hW hl
  exact lv_if_le C.1 C.2.1 hd ht (fun q => hk _ _ _ _ (h1 q) l p e R s m args below meth c cells slots Z A g C H locs ls hW hl) (fun q => hk _ _ _ _ (h2 q) l p e R s m args below meth c cells slots Z A g C H locs ls hW hl)
theorem s_icmp_le {off : Int} {t : Nat} (hd : decode M.2.1 pc = .ok (.if_icmp .le off, 3)) (ht : (pc : Int) + off = (t : Int)) : sv_Snd M pc (o_ic2 (fun x y => x ≤ y) t (pc + 3)) := by
  intro k Q lv st μ hk h
  obtain ⟨x, y, r, rfl, h1, h2⟩ := sv_p2_e h
  intro l p e R s m args below meth c cells slots Z A g C H locs ls hW hl
  exact lv_icmp_le C.1 C.2.1 hd ht (fun q => hk _ _ _ _ (h1 q) l p e R s m args below meth c cells slots Z A g C H locs ls hW hl) (fun q => hk _ _ _ _ (h2 q) l p e R s m args below meth c cells slots Z A g C H locs ls hW hl)
theorem s_if_ne {off : Int} {t : Nat} (hd : decode M.2.1 pc = .ok (.ifCond .ne off, 3)) (ht : (pc : Int) + off = (t : Int)) : sv_Snd M pc (o_if (fun x => x = 0) (pc + 3) t) := by
  intro k Q lv st μ hk h
  obtain ⟨x, r, rfl, h1, h2⟩ := sv_p1_e h
  intro l p e R s m args below meth c cells slots Z A g C H locs ls hW hl
  exact lv_if_ne C.1 C.2.1 hd ht (fun q => hk _ _ _ _ (h2 q) l p e R s m args below meth c cells slots Z A g C H locs ls hW hl) (fun q => hk _ _ _ _ (h1 q) l p e R s m args below meth c cells slots Z A g C H locs ls hW hl)
theorem s_icmp_ne {off : Int} {t : Nat} (hd : decode M.2.1 pc = .ok (.if_icmp .ne off, 3)) (ht : (pc : Int) + off = (t : Int)) : sv_Snd M pc (o_ic2 (fun x y => x = y) (pc + 3) t) := by
  intro k Q lv st μ hk h
  obtain ⟨x, y, r, rfl, h1, h2⟩ := sv_p2_e h
  intro l p e R s m args below meth c cells slots Z A g C H locs ls hW hl
  exact lv_icmp_ne C.1 C.2.1 hd ht (fun q => hk _ _ _ _ (h2 q) l p e R s m args below meth c cells slots Z A g C H locs ls hW hl) (fun q => hk _ _ _ _ (h1 q) l p e R s m args below meth c cells slots Z A g C H locs ls hW hl)
end SVO
end
section
/-! ===== fields, arrays ===== -/
def sv_cf (ci r0 : Nat) (C : String) (T : u_T) (N : Nat) (sl : List (Option Nat)) : Prop := vwCl[ci]? = some (C, T, N) ∧ (∀ w ∈ u_ws C T N, w ∈ sv_GT) ∧ sv_LT[r0]? = some (.inl (ci, sl)) ∧ ∃ ty0 : Nat → FieldType, (∀ k, k < N → parseFieldDescriptor (T k).2.2.1 = some (ty0 k)) ∧ ∀ a, a < N → ∀ b, b < N → a ≠ b → (T a).2.1 ≠ (T b).2.1
section SVM
variable {M : sv_M} {pc : Nat}
def o_gI (r0 j nx : Nat) : sv_O := fun k _ lv st μ => sv_r1 st (fun r t => bif Nat.beq r r0 then k nx lv (.int (μ r0 j) :: t) μ else False)
def o_gR (r0 q nx : Nat) : sv_O := fun k _ lv st μ => sv_r1 st (fun r t => bif Nat.beq r r0 then k nx lv (.ref q :: t) μ else False)
def o_pI (r0 j nx : Nat) : sv_O := fun k _ lv st μ => match st with
  | .int x :: .ref r :: t => bif Nat.beq r r0 then k nx lv t (sv_up μ r0 j x) else False
  | _ => False
theorem s_getI {ci r0 N j idx : Nat} {C : String} {T : u_T} {sl : List (Option Nat)} (cf : sv_cf ci r0 C T N sl) (hj : j < N) (hs : sl[j]? = some none) (hw : Cond.fieldLink M.1.cls idx (T j).1 (T j).2.1 (T j).2.2.1 ∈ sv_GT) (hd : decode M.2.1 pc = .ok (.getfield idx, 3)) : sv_Snd M pc (o_gI r0 j (pc + 3)) := by
  intro k Q lv st μ hk h
  obtain ⟨r, t, rfl, h⟩ := sv_r1_e h
  obtain ⟨hr, h⟩ := sv_bif h
  have hr := Nat.eq_of_beq_eq_true hr
  subst hr
  intro l p e R s m args below meth c cells slots Z A g CC H locs ls hW hl
  obtain ⟨hc, hin, hLT, -⟩ := cf
  exact va_get (v := .int (μ r j)) CC.1 CC.2.1 CC.2.2.2.2.1 hin CC.2.2.2.1 CC.2.2.2.2.2.2.2.1 hW.1 r (sv_ws_get g μ hLT) hc j hj (CC.2.2.2.2.1 _ hw) (fun _ h9 => h9) (by rw [sv_fl_get, hs]; simp) hd (hk _ _ _ _ h l p e R s m args below meth c cells slots Z A g CC H locs ls hW hl)
theorem s_getR {ci r0 N j q idx : Nat} {C : String} {T : u_T} {sl : List (Option Nat)} (cf : sv_cf ci r0 C T N sl) (hj : j < N) (hs : sl[j]? = some (some q)) (hw : Cond.fieldLink M.1.cls idx (T j).1 (T j).2.1 (T j).2.2.1 ∈ sv_GT) (hd : decode M.2.1 pc = .ok (.getfield idx, 3)) : sv_Snd M pc (o_gR r0 q (pc + 3)) := by
  intro k Q lv st μ hk h
  obtain ⟨r, t, rfl, h0⟩ := sv_r1_e h
  obtain ⟨hr, h1⟩ := sv_bif h0
  have hr := Nat.eq_of_beq_eq_true hr
  subst hr
  intro l p e R s m args below meth c cells slots Z A g CC H locs ls hW hl
  obtain ⟨hc, hin, hLT, -⟩ := cf
  exact va_get (v := .ref (g.2.1 q)) CC.1 CC.2.1 CC.2.2.2.2.1 hin CC.2.2.2.1 CC.2.2.2.2.2.2.2.1 hW.1 r (sv_ws_get g μ hLT) hc j hj (CC.2.2.2.2.1 _ hw) (fun _ h9 => h9) (by rw [sv_fl_get, hs]; simp) hd (hk _ _ _ _ h1 l p e R s m args below meth c cells slots Z A g CC H locs ls hW hl)
theorem s_getIN {ci r0 N j idx : Nat} {C host : String} {T : u_T} {sl : List (Option Nat)} (cf : sv_cf ci r0 C T N sl) (hj : j < N) (hs : sl[j]? = some none) (hw : Cond.fieldLinkNest M.1.cls idx (T j).1 (T j).2.1 (T j).2.2.1 host ∈ sv_NW) (hd : decode M.2.1 pc = .ok (.getfield idx, 3)) : sv_Snd M pc (o_gI r0 j (pc + 3)) := by
  intro k Q lv st μ hk h
  obtain ⟨r, t, rfl, h⟩ := sv_r1_e h
  obtain ⟨hr, h⟩ := sv_bif h
  have hr := Nat.eq_of_beq_eq_true hr
  subst hr
  intro l p e R s m args below meth c cells slots Z A g CC H locs ls hW hl
  obtain ⟨hc, hin, hLT, -⟩ := cf
  exact va_getN (v := .int (μ r j)) CC.1 CC.2.1 CC.2.2.2.2.1 hin CC.2.2.2.1 CC.2.2.2.2.2.2.2.1 hW.1 r (sv_ws_get g μ hLT) hc j hj (va_Nw.use rfl (CC.2.2.2.2.2.1 _ hw)) (fun _ h9 => h9) (by rw [sv_fl_get, hs]; simp) hd (hk _ _ _ _ h l p e R s m args below meth c cells slots Z A g CC H locs ls hW hl)
theorem s_getRN {ci r0 N j q idx : Nat} {C host : String} {T : u_T} {sl : List (Option Nat)} (cf : sv_cf ci r0 C T N sl) (hj : j < N) (hs : sl[j]? = some (some q)) (hw : Cond.fieldLinkNest M.1.cls idx (T j).1 (T j).2.1 (T j).2.2.1 host ∈ sv_NW) (hd : decode M.2.1 pc = .ok (.getfield idx, 3)) : sv_Snd M pc (o_gR r0 q (pc + 3)) := by
  intro k Q lv st μ hk h
  obtain ⟨r, t, rfl, h0⟩ := sv_r1_e h
  obtain ⟨hr, h1⟩ := sv_bif h0
  have hr := Nat.eq_of_beq_eq_true hr
  subst hr
  intro l p e R s m args below meth c cells slots Z A g CC H locs ls hW hl
  obtain ⟨hc, hin, hLT, -⟩ := cf
  exact va_getN (v := .ref (g.2.1 q)) CC.1 CC.2.1 CC.2.2.2.2.1 hin CC.2.2.2.1 CC.2.2.2.2.2.2.2.1 hW.1 r (sv_ws_get g μ hLT) hc j hj (va_Nw.use rfl (CC.2.2.2.2.2.1 _ hw)) (fun _ h9 => h9) (by rw [sv_fl_get, hs]; simp) hd (hk _ _ _ _ h1 l p e R s m args below meth c cells slots Z A g CC H locs ls hW hl)
theorem sv_pI_e {k : sv_K} {Q : sv_Po} {lv : sv_L} {st : List Value} {μ : sv_Mem} {r0 j nx : Nat} (h : o_pI r0 j nx k Q lv st μ) : ∃ x t, st = .int x :: .ref r0 :: t ∧ k nx lv t (sv_up μ r0 j x) := by
  unfold o_pI at h
  split at h
  · obtain ⟨hr, h⟩ := sv_bif h
    have hr := Nat.eq_of_beq_eq_true hr
    subst hr
    exact ⟨_, _, rfl, h⟩
  · exact h.elim
theorem sv_put_w {g : sv_G} {μ : sv_Mem} {r j ci : Nat} {sl : List (Option Nat)} {x : Int32} (hLT : sv_LT[r]? = some (.inl (ci, sl))) (hs : sl[j]? = some none) : (sv_ws g μ).set r (g.2.1 r, .inr (ci, (sv_fl g.2.1 (μ r) 0 sl).set j (.int x))) = sv_ws g (sv_up μ r j x) := by
  rw [sv_fl_set _ _ _ _ _ hs, sv_up_st]
  exact sv_ws_set g μ hLT (upd (μ r) j x)
theorem s_put {ci r0 N j idx : Nat} {C : String} {T : u_T} {sl : List (Option Nat)} (cf : sv_cf ci r0 C T N sl) (hj : j < N) (hs : sl[j]? = some none) (hw : Cond.fieldLink M.1.cls idx (T j).1 (T j).2.1 (T j).2.2.1 ∈ sv_GT) (hfin : (T j).2.2.2 = false) (hp : parseFieldDescriptor (T j).2.2.1 = some .int) (hd : decode M.2.1 pc = .ok (.putfield idx, 3)) : sv_Snd M pc (o_pI r0 j (pc + 3)) := by
  intro k Q lv st μ hk h
  obtain ⟨x, t, rfl, h1⟩ := sv_pI_e h
  intro l p e R s m args below meth c cells slots Z A g CC H locs ls hW hl
  obtain ⟨hc, hin, hLT, ty0, hty, hnm⟩ := cf
  refine va_put (v := .int x) (ty := .int) CC.1 CC.2.1 CC.2.2.2.2.1 hin ty0 hty hnm CC.2.2.2.1 CC.2.2.2.2.2.2.2.1 hW.1 hW.2.1 hW.2.2 r0 (sv_ws_get g μ hLT) hc j hj (CC.2.2.2.2.1 _ hw) (fun _ h9 => h9) hfin hp rfl rfl (by rw [sv_fl_len]; exact (List.getElem?_eq_some_iff.mp hs).1) hd (fun H1 locs1 hP hD hS => ?_)
  rw [sv_put_w hLT hs] at hP hD
  exact hk _ _ _ _ h1 l p e R s m args below meth c cells slots Z A g CC H1 locs1 ls ⟨hP, hD, hS⟩ hl
theorem s_putN {ci r0 N j idx : Nat} {C host : String} {T : u_T} {sl : List (Option Nat)} (cf : sv_cf ci r0 C T N sl) (hj : j < N) (hs : sl[j]? = some none) (hw : Cond.fieldLinkNest M.1.cls idx (T j).1 (T j).2.1 (T j).2.2.1 host ∈ sv_NW) (hfin : (T j).2.2.2 = false) (hp : parseFieldDescriptor (T j).2.2.1 = some .int) (hd : decode M.2.1 pc = .ok (.putfield idx, 3)) : sv_Snd M pc (o_pI r0 j (pc + 3)) := by
  intro k Q lv st μ hk h
  obtain ⟨x, t, rfl, h1⟩ := sv_pI_e h
  intro l p e R s m args below meth c cells slots Z A g CC H locs ls hW hl
  obtain ⟨hc, hin, hLT, ty0, hty, hnm⟩ := cf
  refine va_putN (v := .int x) (ty := .int) CC.1 CC.2.1 CC.2.2.2.2.1 hin ty0 hty hnm CC.2.2.2.1 CC.2.2.2.2.2.2.2.1 hW.1 hW.2.1 hW.2.2 r0 (sv_ws_get g μ hLT) hc j hj (va_Nw.use rfl (CC.2.2.2.2.2.1 _ hw)) (fun _ h9 => h9) hfin hp rfl rfl (by rw [sv_fl_len]; exact (List.getElem?_eq_some_iff.mp hs).1) hd (fun H1 locs1 hP hD hS => ?_)
  rw [sv_put_w hLT hs] at hP hD
  exact hk _ _ _ _ h1 l p e R s m args below meth c cells slots Z A g CC H1 locs1 ls ⟨hP, hD, hS⟩ hl
def sv_ln (r : Nat) (f : Nat → Prop) : Prop := match sv_LT[r]? with
  | some (.inr (0, n, _)) => f n
  | _ => False
def sv_lz (r : Nat) (f : Nat → Prop) : Prop := match sv_LT[r]? with
  | some (.inr (1, n, _)) => f n
  | _ => False
def sv_lg (r : Nat) (f : Nat → Nat → Prop) : Prop := match sv_LT[r]? with
  | some (.inr (2, n, q)) => f n q
  | _ => False
theorem sv_ln_e {r : Nat} {f : Nat → Prop} (h : sv_ln r f) : ∃ n q, sv_LT[r]? = some (.inr (0, n, q)) ∧ f n := by
  unfold sv_ln at h
  split at h
  · exact ⟨_, _, by assumption, h⟩
  · exact h.elim
theorem sv_lz_e {r : Nat} {f : Nat → Prop} (h : sv_lz r f) : ∃ n q, sv_LT[r]? = some (.inr (1, n, q)) ∧ f n := by
  unfold sv_lz at h
  split at h
  · exact ⟨_, _, by assumption, h⟩
  · exact h.elim
theorem sv_lg_e {r : Nat} {f : Nat → Nat → Prop} (h : sv_lg r f) : ∃ n q, sv_LT[r]? = some (.inr (2, n, q)) ∧ f n q := by
  unfold sv_lg at h
  split at h
  · exact ⟨_, _, by assumption, h⟩
  · exact h.elim
def o_ia (nx : Nat) : sv_O := fun k _ lv st μ => sv_ri st (fun r i t => sv_ln r (fun n => vp_in i n ∧ k nx lv (.int (μ r i.toNatClampNeg) :: t) μ))
def o_za (nx : Nat) : sv_O := fun k _ lv st μ => sv_ri st (fun r i t => sv_lz r (fun n => vp_in i n ∧ k nx lv (.int (μ r i.toNatClampNeg) :: t) μ))
def o_aa (nx : Nat) : sv_O := fun k _ lv st μ => sv_ri st (fun r i t => sv_lg r (fun n q => vp_in i n ∧ k nx lv (.ref (q + i.toNatClampNeg) :: t) μ))
def o_is3 (nx : Nat) : sv_O := fun k _ lv st μ => sv_rii st (fun r i x t => sv_ln r (fun n => vp_in i n ∧ k nx lv t (sv_up μ r i.toNatClampNeg x)))
def o_zs (nx : Nat) : sv_O := fun k _ lv st μ => sv_rii st (fun r i x t => sv_lz r (fun n => vp_in i n ∧ k nx lv t (sv_up μ r i.toNatClampNeg (vp_nar .boolean x))))
def o_len (nx : Nat) : sv_O := fun k _ lv st μ => sv_r1 st (fun r t => sv_ln r (fun n => k nx lv (.int (nI n) :: t) μ))
theorem s_iaload (hd : decode M.2.1 pc = .ok (.iaload, 1)) : sv_Snd M pc (o_ia (pc + 1)) := by
  intro k Q lv st μ hk h
  obtain ⟨r, i, t, rfl, h⟩ := sv_ri_e h
  obtain ⟨n, q, hLT, hin, h⟩ := sv_ln_e h
  intro l p e R s m args below meth c cells slots Z A g CC H locs ls hW hl
  exact va_iald CC.1 CC.2.1 CC.2.2.2.2.2.2.2.1 hW.1 r 0 (sv_ws_get g μ hLT) rfl hin hd (hk _ _ _ _ h l p e R s m args below meth c cells slots Z A g CC H locs ls hW hl)
theorem s_baload (hd : decode M.2.1 pc = .ok (.baload, 1)) : sv_Snd M pc (o_za (pc + 1)) := by
  intro k Q lv st μ hk h
  obtain ⟨r, i, t, rfl, h⟩ := sv_ri_e h
  obtain ⟨n, q, hLT, hin, h⟩ := sv_lz_e h
  intro l p e R s m args below meth c cells slots Z A g CC H locs ls hW hl
  exact va_zald CC.1 CC.2.1 CC.2.2.2.2.2.2.2.1 hW.1 r 1 (sv_ws_get g μ hLT) rfl hin hd (hk _ _ _ _ h l p e R s m args below meth c cells slots Z A g CC H locs ls hW hl)
theorem s_aaload (hd : decode M.2.1 pc = .ok (.aaload, 1)) : sv_Snd M pc (o_aa (pc + 1)) := by
  intro k Q lv st μ hk h
  obtain ⟨r, i, t, rfl, h⟩ := sv_ri_e h
  obtain ⟨n, q, hLT, hin, h⟩ := sv_lg_e h
  intro l p e R s m args below meth c cells slots Z A g CC H locs ls hW hl
  have hlt : i.toNatClampNeg < n := Nat.not_le.mp fun z => hin (Or.inr z)
  have ha := sv_ws_get g μ hLT
  have hK := CC.2.2.2.2.2.2.2.1
  have hv : va_rf (if i.toNatClampNeg < n then some (g.2.1 (q + i.toNatClampNeg)) else none) = .ref (g.2.1 (q + i.toNatClampNeg)) := by rw [if_pos hlt]; rfl
  exact W.aald (v := .ref (g.2.1 (q + i.toNatClampNeg))) (ty := .array .int) CC.1 CC.2.1 (hW.1 r _ ha) ((hK.2 2 _ rfl).1 n (fun j => va_rf (if j < n then some (g.2.1 (q + j)) else none))) rfl (fun z => by cases z) (by show ¬ (i < 0 ∨ (arrV _ _ _).slots.size ≤ _); rw [arrV_size]; exact hin) (by show (arrV _ _ _).slots[_]? = _; rw [arrV_read _ _ hlt, hv]) rfl rfl hd (hk _ _ _ _ h l p e R s m args below meth c cells slots Z A g CC H locs ls hW hl)
theorem s_iastore (hd : decode M.2.1 pc = .ok (.iastore, 1)) : sv_Snd M pc (o_is3 (pc + 1)) := by
  intro k Q lv st μ hk h
  obtain ⟨r, i, x, t, rfl, h⟩ := sv_rii_e h
  obtain ⟨n, q, hLT, hin, h⟩ := sv_ln_e h
  intro l p e R s m args below meth c cells slots Z A g CC H locs ls hW hl
  refine va_iast CC.1 CC.2.1 CC.2.2.2.2.2.2.2.1 hW.1 hW.2.1 hW.2.2 r 0 (sv_ws_get g μ hLT) rfl hin hd (fun H1 locs1 hP hD hS => ?_)
  have e1 := sv_ws_set g μ hLT (upd (μ r) i.toNatClampNeg x)
  rw [← sv_up_st] at e1
  exact hk _ _ _ _ h l p e R s m args below meth c cells slots Z A g CC H1 locs1 ls ⟨e1 ▸ hP, e1 ▸ hD, hS⟩ hl
theorem s_bastore (hd : decode M.2.1 pc = .ok (.bastore, 1)) : sv_Snd M pc (o_zs (pc + 1)) := by
  intro k Q lv st μ hk h
  obtain ⟨r, i, x, t, rfl, h⟩ := sv_rii_e h
  obtain ⟨n, q, hLT, hin, h⟩ := sv_lz_e h
  intro l p e R s m args below meth c cells slots Z A g CC H locs ls hW hl
  refine va_zast CC.1 CC.2.1 CC.2.2.2.2.2.2.2.1 hW.1 hW.2.1 hW.2.2 r 1 (sv_ws_get g μ hLT) rfl hin hd (fun H1 locs1 hP hD hS => ?_)
  have e1 := sv_ws_set g μ hLT (upd (μ r) i.toNatClampNeg (vp_nar .boolean x))
  rw [← sv_up_st] at e1
  exact hk _ _ _ _ h l p e R s m args below meth c cells slots Z A g CC H1 locs1 ls ⟨e1 ▸ hP, e1 ▸ hD, hS⟩ hl
theorem s_arraylength (hd : decode M.2.1 pc = .ok (.arraylength, 1)) : sv_Snd M pc (o_len (pc + 1)) := by
  intro k Q lv st μ hk h
  obtain ⟨r, t, rfl, h⟩ := sv_r1_e h
  obtain ⟨n, q, hLT, h⟩ := sv_ln_e h
  intro l p e R s m args below meth c cells slots Z A g CC H locs ls hW hl
  exact va_alen CC.1 CC.2.1 CC.2.2.2.2.2.2.2.1 hW.1 r 0 (sv_ws_get g μ hLT) rfl rfl hd (hk _ _ _ _ h l p e R s m args below meth c cells slots Z A g CC H locs ls hW hl)
/-! ===== returns ===== -/
def sv_zb (x : Int32) : Prop := narrow .boolean (.int x) = .int x
def o_ir : sv_O := fun _ Q _ st μ => match st with
  | [.int x] => Q (.int x) μ
  | _ => False
def o_zr : sv_O := fun _ Q _ st μ => match st with
  | [.int x] => sv_zb x ∧ Q (.int x) μ
  | _ => False
def o_lr : sv_O := fun _ Q _ st μ => match st with
  | [.long x] => Q (.long x) μ
  | _ => False
def o_vr : sv_O := fun _ Q _ st μ => match st with
  | [] => Q .null μ
  | _ => False
theorem s_ireturn (hd : decode M.2.1 pc = .ok (.ireturn, 1)) (hr : M.2.2.2.1 = some .int) : sv_Snd M pc o_ir := by
  intro k Q lv st μ hk h
  unfold o_ir at h
  split at h
  · rename_i x
    intro l p e R s m args below meth c cells slots Z A g CC H locs ls hW hl
    exact CC.2.2.2.2.2.2.2.2.2.2 (.int x) μ H locs pc ls ⟨hd, .int, hr, vp_nar_int x⟩ h hW
  · exact h.elim
theorem s_zreturn (hd : decode M.2.1 pc = .ok (.ireturn, 1)) (hr : M.2.2.2.1 = some .boolean) : sv_Snd M pc o_zr := by
  intro k Q lv st μ hk h
  unfold o_zr at h
  split at h
  · rename_i x
    intro l p e R s m args below meth c cells slots Z A g CC H locs ls hW hl
    exact CC.2.2.2.2.2.2.2.2.2.2 (.int x) μ H locs pc ls ⟨hd, .boolean, hr, h.1⟩ h.2 hW
  · exact h.elim
theorem s_lreturn (hd : decode M.2.1 pc = .ok (.lreturn, 1)) (hr : M.2.2.2.1 = some .long) : sv_Snd M pc o_lr := by
  intro k Q lv st μ hk h
  unfold o_lr at h
  split at h
  · rename_i x
    intro l p e R s m args below meth c cells slots Z A g CC H locs ls hW hl
    exact CC.2.2.2.2.2.2.2.2.2.2 (.long x) μ H locs pc ls ⟨hd, hr⟩ h hW
  · exact h.elim
theorem s_vreturn (hd : decode M.2.1 pc = .ok (.return_, 1)) (hr : M.2.2.2.1 = none) : sv_Snd M pc o_vr := by
  intro k Q lv st μ hk h
  unfold o_vr at h
  split at h
  · intro l p e R s m args below meth c cells slots Z A g CC H locs ls hW hl
    exact CC.2.2.2.2.2.2.2.2.2.2 .null μ H locs pc ls ⟨hd, hr⟩ h hW
  · exact h.elim
/-! ===== calls ===== -/
def sv_QI (K : Int32 → sv_Mem → Prop) : sv_Po := fun v μ => match v with
  | .int x => K x μ
  | _ => False
def sv_QL (K : Int64 → sv_Mem → Prop) : sv_Po := fun v μ => match v with
  | .long x => K x μ
  | _ => False
def sv_QV (K : sv_Mem → Prop) : sv_Po := fun v μ => match v with
  | .null => K μ
  | _ => False
/-- the method answers, and then K of the answer and the memory behind it -/
def sv_cI (M : sv_M) (as : List Value) (μ : sv_Mem) (K : Int32 → sv_Mem → Prop) : Prop := wp M 0 (lv_args 0 as) [] μ (sv_QI K)
def sv_cL (M : sv_M) (as : List Value) (μ : sv_Mem) (K : Int64 → sv_Mem → Prop) : Prop := wp M 0 (lv_args 0 as) [] μ (sv_QL K)
def sv_cV (M : sv_M) (as : List Value) (μ : sv_Mem) (K : sv_Mem → Prop) : Prop := wp M 0 (lv_args 0 as) [] μ (sv_QV K)
def sv_okS (M' : sv_M) (n : Nat) (st : List Value) : Bool := Nat.beq (st.take n).reverse.length n && (Nat.ble (sv_wn (st.take n).reverse) M'.2.2.1 && Nat.ble (sv_wn (st.drop n)) 8)
def sv_okV (M' : sv_M) (n r0 r : Nat) (st rest : List Value) : Bool := Nat.beq r r0 && (Nat.beq (st.take n).reverse.length n && (Nat.ble (sv_wn (.ref r0 :: (st.take n).reverse)) M'.2.2.1 && Nat.ble (sv_wn rest) 8))
def o_sI (M' : sv_M) (n nx : Nat) : sv_O := fun k _ lv st μ => bif sv_okS M' n st then sv_cI M' (st.take n).reverse μ (fun x μ' => k nx lv (.int x :: st.drop n) μ') else False
def o_sL (M' : sv_M) (n nx : Nat) : sv_O := fun k _ lv st μ => bif sv_okS M' n st then sv_cL M' (st.take n).reverse μ (fun x μ' => k nx lv (.long x :: st.drop n) μ') else False
def o_vI (M' : sv_M) (n r0 nx : Nat) : sv_O := fun k _ lv st μ => sv_r1 (st.drop n) (fun r rest => bif sv_okV M' n r0 r st rest then sv_cI M' (.ref r0 :: (st.take n).reverse) μ (fun x μ' => k nx lv (.int x :: rest) μ') else False)
def o_vL (M' : sv_M) (n r0 nx : Nat) : sv_O := fun k _ lv st μ => sv_r1 (st.drop n) (fun r rest => bif sv_okV M' n r0 r st rest then sv_cL M' (.ref r0 :: (st.take n).reverse) μ (fun x μ' => k nx lv (.long x :: rest) μ') else False)
def o_vV (M' : sv_M) (n r0 nx : Nat) : sv_O := fun k _ lv st μ => sv_r1 (st.drop n) (fun r rest => bif sv_okV M' n r0 r st rest then sv_cV M' (.ref r0 :: (st.take n).reverse) μ (fun μ' => k nx lv rest μ') else False)
def sv_in (M M' : sv_M) : Prop := M'.2.2.2.2.1 + 1 ≤ M.2.2.2.2.1 ∧ 8 + (M'.2.2.1 + 11) + M'.2.2.2.2.2 ≤ M.2.2.2.2.2
theorem sv_stS (ad : Nat → Nat) (n : Nat) (st : List Value) : st.map (sv_tr ad) = ((st.take n).reverse.map (sv_tr ad)).reverse ++ (st.drop n).map (sv_tr ad) := by
  rw [List.map_reverse, List.reverse_reverse, ← List.map_append, List.take_append_drop]
theorem sv_stV (ad : Nat → Nat) (n r : Nat) (st rest : List Value) (h : st.drop n = .ref r :: rest) : st.map (sv_tr ad) = ((st.take n).reverse.map (sv_tr ad)).reverse ++ .ref (ad r) :: rest.map (sv_tr ad) := by
  rw [sv_stS ad n st, h]
  rfl
theorem sv_genS {M' : sv_M} {n idx : Nat} {st : List Value} {lv : sv_L} {μ : sv_Mem} {Q Q' : sv_Po} (hc : sv_cal M' n) (h1 : Cond.methodLink M.1.cls idx M'.1 ∈ sv_GT) (h2 : Cond.static M'.1 ∈ sv_GT) (hf : sv_in M M') (hd : decode M.2.1 pc = .ok (.invokestatic idx, 3)) (ok : sv_okS M' n st = true) (hwp : wp M' 0 (lv_args 0 (st.take n).reverse) [] μ Q')
    (hk : ∀ v μ', Q' v μ' → wp M (pc + 3) lv ((sv_ro v).toList ++ st.drop n) μ' Q ∧ ∀ ad, ((sv_ro v).toList).map (sv_tr ad) = (sv_ro v).toList) : wp M pc lv st μ Q := by
  have o1 := (Bool.and_eq_true _ _).mp ok
  have o2 := (Bool.and_eq_true _ _).mp o1.2
  intro l p e R s m args below meth c cells slots Z A g CC H locs ls hW hl
  refine sv_runS (own := M.1.cls) (nL := M.2.2.1) ⟨CC.1, CC.2.1, CC.2.2.1, CC.2.2.2.1, CC.2.2.2.2.1⟩ hc h1 h2 ⟨Nat.le_trans hf.1 CC.2.2.2.2.2.2.1.1, Nat.le_trans hf.2 CC.2.2.2.2.2.2.1.2⟩ CC.2.2.2.2.2.2.2.2.2.1 CC.2.2.2.2.2.2.2.1 CC.2.2.2.2.2.1 CC.2.2.2.2.2.2.2.2.1 hW hl.1 (Nat.eq_of_beq_eq_true o1.1) (sv_stS g.2.1 n st) (by rw [sv_wn_sum]; exact Nat.le_of_ble_eq_true o2.2) (Nat.le_of_ble_eq_true o2.1) hd hwp (fun v μ' H1 locs1 hq hW1 => ?_)
  obtain ⟨h3, h4⟩ := hk v μ' hq
  have h5 := h3 l p e R s m args below meth c cells slots Z A g CC H1 locs1 ls hW1 hl
  rw [List.map_append, h4] at h5
  exact h5
theorem sv_genV {M' : sv_M} {n idx r0 ci : Nat} {sl : List (Option Nat)} {q : vw_C} {st rest : List Value} {lv : sv_L} {μ : sv_Mem} {Q Q' : sv_Po} (hc : sv_cal M' n) (h1 : Cond.methodLink M.1.cls idx M'.1 ∈ sv_GT) (h2 : Cond.instanceMethod M'.1 ∈ sv_GT) (h3 : Cond.selects M'.1.cls M'.1 M'.1 ∈ sv_GT) (hf : sv_in M M') (hLT : sv_LT[r0]? = some (.inl (ci, sl))) (hq : vwCl[ci]? = some q) (hqc : q.1 = M'.1.cls) (hd : decode M.2.1 pc = .ok (.invokevirtual idx, 3)) (hst : st.drop n = .ref r0 :: rest) (ok : sv_okV M' n r0 r0 st rest = true) (hwp : wp M' 0 (lv_args 0 (.ref r0 :: (st.take n).reverse)) [] μ Q')
    (hk : ∀ v μ', Q' v μ' → wp M (pc + 3) lv ((sv_ro v).toList ++ rest) μ' Q ∧ ∀ ad, ((sv_ro v).toList).map (sv_tr ad) = (sv_ro v).toList) : wp M pc lv st μ Q := by
  have o0 := (Bool.and_eq_true _ _).mp ok
  have o1 := (Bool.and_eq_true _ _).mp o0.2
  have o2 := (Bool.and_eq_true _ _).mp o1.2
  intro l p e R s m args below meth c cells slots Z A g CC H locs ls hW hl
  refine sv_runV (own := M.1.cls) (nL := M.2.2.1) ⟨CC.1, CC.2.1, CC.2.2.1, CC.2.2.2.1, CC.2.2.2.2.1⟩ hc h1 h2 h3 ⟨Nat.le_trans hf.1 CC.2.2.2.2.2.2.1.1, Nat.le_trans hf.2 CC.2.2.2.2.2.2.1.2⟩ CC.2.2.2.2.2.2.2.2.2.1 CC.2.2.2.2.2.2.2.1 CC.2.2.2.2.2.1 CC.2.2.2.2.2.2.2.2.1 hW hLT hq hqc hl.1 (Nat.eq_of_beq_eq_true o1.1) (sv_stV g.2.1 n r0 st rest hst) (by rw [sv_wn_sum]; exact Nat.le_of_ble_eq_true o2.2) (Nat.le_of_ble_eq_true o2.1) hd hwp (fun v μ' H1 locs1 hq hW1 => ?_)
  obtain ⟨h3, h4⟩ := hk v μ' hq
  have h5 := h3 l p e R s m args below meth c cells slots Z A g CC H1 locs1 ls hW1 hl
  rw [List.map_append, h4] at h5
  exact h5
theorem s_callSI {M' : sv_M} {n idx : Nat} (hc : sv_cal M' n) (h1 : Cond.methodLink M.1.cls idx M'.1 ∈ sv_GT) (h2 : Cond.static M'.1 ∈ sv_GT) (hf : sv_in M M') (hd : decode M.2.1 pc = .ok (.invokestatic idx, 3)) : sv_Snd M pc (o_sI M' n (pc + 3)) := by
  intro k Q lv st μ hk h
  obtain ⟨ok, h⟩ := sv_bif h
  refine sv_genS hc h1 h2 hf hd ok h (fun v μ' hq => ?_)
  cases v <;> first | exact hq.elim | exact ⟨hk _ _ _ _ hq, fun _ => rfl⟩
theorem s_callSL {M' : sv_M} {n idx : Nat} (hc : sv_cal M' n) (h1 : Cond.methodLink M.1.cls idx M'.1 ∈ sv_GT) (h2 : Cond.static M'.1 ∈ sv_GT) (hf : sv_in M M') (hd : decode M.2.1 pc = .ok (.invokestatic idx, 3)) : sv_Snd M pc (o_sL M' n (pc + 3)) := by
  intro k Q lv st μ hk h
  obtain ⟨ok, h⟩ := sv_bif h
  refine sv_genS hc h1 h2 hf hd ok h (fun v μ' hq => ?_)
  cases v <;> first | exact hq.elim | exact ⟨hk _ _ _ _ hq, fun _ => rfl⟩
theorem s_callVI {M' : sv_M} {n idx r0 ci N : Nat} {sl : List (Option Nat)} {C : String} {T : u_T} (cf : sv_cf ci r0 C T N sl) (hC : C = M'.1.cls) (hc : sv_cal M' n) (h1 : Cond.methodLink M.1.cls idx M'.1 ∈ sv_GT) (h2 : Cond.instanceMethod M'.1 ∈ sv_GT) (h3 : Cond.selects M'.1.cls M'.1 M'.1 ∈ sv_GT) (hf : sv_in M M') (hd : decode M.2.1 pc = .ok (.invokevirtual idx, 3)) : sv_Snd M pc (o_vI M' n r0 (pc + 3)) := by
  intro k Q lv st μ hk h
  obtain ⟨r, rest, hst, h⟩ := sv_r1_e h
  obtain ⟨ok, h⟩ := sv_bif h
  have hr := Nat.eq_of_beq_eq_true ((Bool.and_eq_true _ _).mp ok).1
  subst hr
  refine sv_genV hc h1 h2 h3 hf cf.2.2.1 cf.1 hC hd hst ok h (fun v μ' hq => ?_)
  cases v <;> first | exact hq.elim | exact ⟨hk _ _ _ _ hq, fun _ => rfl⟩
theorem s_callVL {M' : sv_M} {n idx r0 ci N : Nat} {sl : List (Option Nat)} {C : String} {T : u_T} (cf : sv_cf ci r0 C T N sl) (hC : C = M'.1.cls) (hc : sv_cal M' n) (h1 : Cond.methodLink M.1.cls idx M'.1 ∈ sv_GT) (h2 : Cond.instanceMethod M'.1 ∈ sv_GT) (h3 : Cond.selects M'.1.cls M'.1 M'.1 ∈ sv_GT) (hf : sv_in M M') (hd : decode M.2.1 pc = .ok (.invokevirtual idx, 3)) : sv_Snd M pc (o_vL M' n r0 (pc + 3)) := by
  intro k Q lv st μ hk h
  obtain ⟨r, rest, hst, h⟩ := sv_r1_e h
  obtain ⟨ok, h⟩ := sv_bif h
  have hr := Nat.eq_of_beq_eq_true ((Bool.and_eq_true _ _).mp ok).1
  subst hr
  refine sv_genV hc h1 h2 h3 hf cf.2.2.1 cf.1 hC hd hst ok h (fun v μ' hq => ?_)
  cases v <;> first | exact hq.elim | exact ⟨hk _ _ _ _ hq, fun _ => rfl⟩
theorem s_callVV {M' : sv_M} {n idx r0 ci N : Nat} {sl : List (Option Nat)} {C : String} {T : u_T} (cf : sv_cf ci r0 C T N sl) (hC : C = M'.1.cls) (hc : sv_cal M' n) (h1 : Cond.methodLink M.1.cls idx M'.1 ∈ sv_GT) (h2 : Cond.instanceMethod M'.1 ∈ sv_GT) (h3 : Cond.selects M'.1.cls M'.1 M'.1 ∈ sv_GT) (hf : sv_in M M') (hd : decode M.2.1 pc = .ok (.invokevirtual idx, 3)) : sv_Snd M pc (o_vV M' n r0 (pc + 3)) := by
  intro k Q lv st μ hk h
  obtain ⟨r, rest, hst, h⟩ := sv_r1_e h
  obtain ⟨ok, h⟩ := sv_bif h
  have hr := Nat.eq_of_beq_eq_true ((Bool.and_eq_true _ _).mp ok).1
  subst hr
  refine sv_genV hc h1 h2 h3 hf cf.2.2.1 cf.1 hC hd hst ok h (fun v μ' hq => ?_)
  cases v <;> first | exact hq.elim | exact ⟨hk _ _ _ _ hq, fun _ => rfl⟩
/-- System.arraycopy of int arrays -/
def o_cp (nx : Nat) : sv_O := fun k _ lv st μ => match st with
  | .int n :: .int dp :: .ref t :: .int sp :: .ref s :: rest => bif Nat.ble (sv_wn rest) 8 then sv_ln s (fun n0 => sv_ln t (fun n1 => ¬ sp < 0 ∧ ¬ dp < 0 ∧ ¬ n < 0 ∧ sp.toNatClampNeg + n.toNatClampNeg ≤ n0 ∧ dp.toNatClampNeg + n.toNatClampNeg ≤ n1 ∧ k nx lv rest (sv_st μ t (va_cpy (μ s) (μ t) sp.toNatClampNeg dp.toNatClampNeg n.toNatClampNeg)))) else False
  | _ => False
theorem s_copy {idx : Nat} (h1 : Cond.methodLink M.1.cls idx arraycopyName ∈ sv_GT) (h2 : Cond.native arraycopyName ∈ sv_GT) (h3 : Cond.static arraycopyName ∈ sv_GT) (h4 : Cond.initialized "java/lang/System" ∈ sv_GT) (hf : 1 ≤ M.2.2.2.2.1) (hl0 : 8 + (nativeFrameWords "java/lang/System" "arraycopy" 5 + 11) ≤ M.2.2.2.2.2) (hd : decode M.2.1 pc = .ok (.invokestatic idx, 3)) : sv_Snd M pc (o_cp (pc + 3)) := by
  intro k Q lv st μ hk h
  unfold o_cp at h
  split at h
  · rename_i n dp t sp s0 rest
    obtain ⟨hw, h⟩ := sv_bif h
    obtain ⟨n0, q0, hs, h⟩ := sv_ln_e h
    obtain ⟨n1, q1, ht, a1, a2, a3, a4, a5, h⟩ := sv_ln_e h
    intro l p e R s m args below meth c cells slots Z A g CC H locs ls hW hl
    have hts := CC.2.2.2.2.1
    have hsum := sv_wn_sum g.2.1 rest
    have hle := Nat.le_of_ble_eq_true hw
    refine va_copyi CC.1 CC.2.1 (CC.2.2.1.trans hl.1.symm) CC.2.2.2.1 (hts _ h1) (hts _ h2) (hts _ h3) (hts _ h4) CC.2.2.2.2.2.2.2.1 hW.1 hW.2.1 hW.2.2 s0 t 0 0 (sv_ws_get g μ hs) (sv_ws_get g μ ht) rfl rfl rfl a1 a2 a3 a4 a5 (fun _ _ => rfl) (Nat.le_trans hf CC.2.2.2.2.2.2.1.1) (Nat.le_trans (Nat.add_le_add_right (by rw [hsum]; exact hle) _) (Nat.le_trans hl0 CC.2.2.2.2.2.2.1.2)) hd (fun H1 locs1 hP hD hS => ?_)
    have e1 := sv_ws_set g μ ht (va_cpy (μ s0) (μ t) sp.toNatClampNeg dp.toNatClampNeg n.toNatClampNeg)
    exact hk _ _ _ _ h l p e R s m args below meth c cells slots Z A g CC H1 locs1 ls ⟨e1 ▸ hP, e1 ▸ hD, hS⟩ hl
  · exact h.elim
/-! ===== switches ===== -/
def sv_swc : List (Int32 × Nat) → Nat → Int32 → (Nat → Prop) → Prop
  | [], d, _, f => f d
  | q :: r, d, x, f => (x = q.1 → f q.2) ∧ (¬ x = q.1 → sv_swc r d x f)
def sv_tgt : List (Int32 × Nat) → Nat → Int32 → Nat
  | [], d, _ => d
  | q :: r, d, x => if x = q.1 then q.2 else sv_tgt r d x
theorem sv_swc_e {d : Nat} {x : Int32} {f : Nat → Prop} : ∀ {cs : List (Int32 × Nat)}, sv_swc cs d x f → f (sv_tgt cs d x)
  | [], h => h
  | q :: r, h => by
    unfold sv_tgt
    by_cases e : x = q.1
    · rw [if_pos e]; exact h.1 e
    · rw [if_neg e]; exact sv_swc_e (h.2 e)
def o_sw (cs : List (Int32 × Nat)) (d : Nat) : sv_O := fun k _ lv st μ => sv_p1 st (fun x t => sv_swc cs d x (fun pc' => k pc' lv t μ))
theorem s_table {dflt lo hi : Int} {offs : Array Int} {len : Nat} {cs : List (Int32 × Nat)} {d : Nat} (hd : decode M.2.1 pc = .ok (.tableswitch dflt lo hi offs, len))
    (H1 : ∀ x : Int32, x.toInt < lo ∨ hi < x.toInt → (pc : Int) + dflt = (sv_tgt cs d x : Nat)) (H2 : ∀ x : Int32, ¬ x.toInt < lo → ¬ hi < x.toInt → ∃ off, offs[(x.toInt - lo).toNat]? = some off ∧ (pc : Int) + off = (sv_tgt cs d x : Nat)) : sv_Snd M pc (o_sw cs d) := by
  intro k Q lv st μ hk h
  obtain ⟨x, t, rfl, h⟩ := sv_p1_e h
  have h := sv_swc_e h
  by_cases e : x.toInt < lo ∨ hi < x.toInt
  · exact sv_pure (hk _ _ _ _ h) (fun g hx hb _ _ hl K => lv_tableOut hx hb hd e (H1 x e) K)
  · obtain ⟨off, h1, h2⟩ := H2 x (fun z => e (Or.inl z)) (fun z => e (Or.inr z))
    exact sv_pure (hk _ _ _ _ h) (fun g hx hb _ _ hl K => lv_tableIn hx hb hd (fun z => e (Or.inl z)) (fun z => e (Or.inr z)) h1 h2 K)
theorem s_lookup {dflt : Int} {ps : Array (Int × Int)} {len : Nat} {cs : List (Int32 × Nat)} {d : Nat} (hd : decode M.2.1 pc = .ok (.lookupswitch dflt ps, len)) (hp : (ps.toList.zip (ps.toList.drop 1)).all (fun (a, next) => a.1 < next.1) = true)
    (H1 : ∀ x : Int32, (pc : Int) + Op.lookupswitch.offset ps.toList dflt x.toInt = (sv_tgt cs d x : Nat)) : sv_Snd M pc (o_sw cs d) := by
  intro k Q lv st μ hk h
  obtain ⟨x, t, rfl, h⟩ := sv_p1_e h
  have h := sv_swc_e h
  exact sv_pure (hk _ _ _ _ h) (fun g hx hb _ _ hl K => lv_lookup hx hb hd hp rfl (H1 x) K)
end SVM
/-! ===== many instructions at once ===== -/
abbrev sv_Cd : Type := List (Nat × sv_O)
def sv_fe : sv_Cd → Nat → Option sv_O
  | [], _ => none
  | q :: t, i => bif Nat.beq q.1 i then some q.2 else sv_fe t i
theorem sv_fe_mem : ∀ {cd : sv_Cd} {i : Nat} {o : sv_O}, sv_fe cd i = some o → (i, o) ∈ cd
  | [], i, v, h => by simp [sv_fe] at h
  | q :: t, i, v, h => by
    unfold sv_fe at h
    cases hb : Nat.beq q.1 i with
    | true =>
      rw [hb] at h
      have h1 : q.1 = i := Nat.eq_of_beq_eq_true hb
      have h2 : q.2 = v := Option.some.inj h
      rw [← h1, ← h2]
      exact List.mem_cons_self
    | false =>
      rw [hb] at h
      exact List.mem_cons_of_mem _ (sv_fe_mem h)
def sv_ct : List (Nat × Nat) → Nat → Option Nat
  | [], _ => none
  | q :: t, i => bif Nat.beq q.1 i then some q.2 else sv_ct t i
def sv_tk (b : Nat) : sv_L → sv_L
  | [] => []
  | q :: t => bif Nat.blt q.1 b then q :: sv_tk b t else sv_tk b t
theorem sv_tk_mem {b : Nat} : ∀ {lv : sv_L} {q : Nat × Value}, q ∈ sv_tk b lv → q ∈ lv
  | [], q, h => h
  | r :: t, q, h => by
    unfold sv_tk at h
    cases hb : Nat.blt r.1 b with
    | true =>
      rw [hb] at h
      rcases List.mem_cons.mp h with h | h
      · rw [h]; exact List.mem_cons_self
      · exact List.mem_cons_of_mem _ (sv_tk_mem h)
    | false =>
      rw [hb] at h
      exact List.mem_cons_of_mem _ (sv_tk_mem h)
/-- the next of it, or what an instruction asks -/
def sv_1 (cd : sv_Cd) (Q : sv_Po) (k : sv_K) : sv_K := fun pc lv st μ => match sv_fe cd pc with
  | some o => o k Q lv st μ
  | none => False
def sv_2 (M : sv_M) (cuts : List (Nat × Nat)) (Q : sv_Po) (k : sv_K) : sv_K := fun pc lv st μ => match sv_ct cuts pc with
  | some b => wp M pc (sv_tk b lv) st μ Q
  | none => k pc lv st μ
def sv_vc (M : sv_M) (cd : sv_Cd) (cuts : List (Nat × Nat)) (Q : sv_Po) : Nat → sv_K
  | 0 => fun pc lv st μ => wp M pc lv st μ Q
  | n + 1 => sv_2 M cuts Q (sv_1 cd Q (sv_vc M cd cuts Q n))
theorem sv_1_s {M : sv_M} {cd : sv_Cd} {Q : sv_Po} {k : sv_K} (hcd : ∀ q ∈ cd, sv_Snd M q.1 q.2) (hk : ∀ pc' lv' st' μ', k pc' lv' st' μ' → wp M pc' lv' st' μ' Q) {pc : Nat} {lv : sv_L} {st : List Value} {μ : sv_Mem} (h : sv_1 cd Q k pc lv st μ) : wp M pc lv st μ Q := by
  unfold sv_1 at h
  split at h
  · rename_i o ho
    exact hcd _ (sv_fe_mem ho) k Q lv st μ hk h
  · exact h.elim
theorem sv_vc_s {M : sv_M} {cd : sv_Cd} {cuts : List (Nat × Nat)} {Q : sv_Po} (hcd : ∀ q ∈ cd, sv_Snd M q.1 q.2) : ∀ (n : Nat) (pc : Nat) (lv : sv_L) (st : List Value) (μ : sv_Mem), sv_vc M cd cuts Q n pc lv st μ → wp M pc lv st μ Q
  | 0, _, _, _, _, h => h
  | n + 1, pc, lv, st, μ, h => by
    have h : sv_2 M cuts Q (sv_1 cd Q (sv_vc M cd cuts Q n)) pc lv st μ := h
    unfold sv_2 at h
    split at h
    · exact wp_sub h (fun q hq => sv_tk_mem hq)
    · exact sv_1_s hcd (sv_vc_s hcd n) h
/-- from a place of a method on: what the instructions ask, up to the cuts -/
theorem sv_go {M : sv_M} {cd : sv_Cd} {Q : sv_Po} (hcd : ∀ q ∈ cd, sv_Snd M q.1 q.2) (cuts : List (Nat × Nat)) (n : Nat) {pc : Nat} {lv : sv_L} {st : List Value} {μ : sv_Mem} (h : sv_1 cd Q (sv_vc M cd cuts Q n) pc lv st μ) : wp M pc lv st μ Q := sv_1_s hcd (sv_vc_s hcd n) h
end

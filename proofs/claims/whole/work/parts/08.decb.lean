theorem dX6_addPlayer_0 : decode cX6_addPlayer 0 = .ok (.aload_n 0, 1) := by decide +kernel
theorem dX6_addPlayer_1 : decode cX6_addPlayer 1 = .ok (.getfield 27, 3) := by decide +kernel
theorem dX6_addPlayer_4 : decode cX6_addPlayer 4 = .ok (.istore_n 2, 1) := by decide +kernel
theorem dX6_addPlayer_5 : decode cX6_addPlayer 5 = .ok (.aload_n 0, 1) := by decide +kernel
theorem dX6_addPlayer_6 : decode cX6_addPlayer 6 = .ok (.getfield 9, 3) := by decide +kernel
theorem dX6_addPlayer_9 : decode cX6_addPlayer 9 = .ok (.iload_n 2, 1) := by decide +kernel
theorem dX6_addPlayer_10 : decode cX6_addPlayer 10 = .ok (.iload_n 1, 1) := by decide +kernel
theorem dX6_addPlayer_11 : decode cX6_addPlayer 11 = .ok (.iastore, 1) := by decide +kernel
theorem dX6_addPlayer_12 : decode cX6_addPlayer 12 = .ok (.aload_n 0, 1) := by decide +kernel
theorem dX6_addPlayer_13 : decode cX6_addPlayer 13 = .ok (.iload_n 2, 1) := by decide +kernel
theorem dX6_addPlayer_14 : decode cX6_addPlayer 14 = .ok (.iload_n 2, 1) := by decide +kernel
theorem dX6_addPlayer_15 : decode cX6_addPlayer 15 = .ok (.invokevirtual 30, 3) := by decide +kernel
theorem dX6_addPlayer_18 : decode cX6_addPlayer 18 = .ok (.aload_n 0, 1) := by decide +kernel
theorem dX6_addPlayer_19 : decode cX6_addPlayer 19 = .ok (.dup, 1) := by decide +kernel
theorem dX6_addPlayer_20 : decode cX6_addPlayer 20 = .ok (.getfield 27, 3) := by decide +kernel
theorem dX6_addPlayer_23 : decode cX6_addPlayer 23 = .ok (.iconst 1, 1) := by decide +kernel
theorem dX6_addPlayer_24 : decode cX6_addPlayer 24 = .ok (.iadd, 1) := by decide +kernel
theorem dX6_addPlayer_25 : decode cX6_addPlayer 25 = .ok (.putfield 27, 3) := by decide +kernel
theorem dX6_addPlayer_28 : decode cX6_addPlayer 28 = .ok (.iload_n 2, 1) := by decide +kernel
theorem dX6_addPlayer_29 : decode cX6_addPlayer 29 = .ok (.ireturn, 1) := by decide +kernel
theorem dX6_shuffle_0 : decode cX6_shuffle 0 = .ok (.iconst 0, 1) := by decide +kernel
theorem dX6_shuffle_1 : decode cX6_shuffle 1 = .ok (.istore_n 2, 1) := by decide +kernel
theorem dX6_shuffle_2 : decode cX6_shuffle 2 = .ok (.iload_n 2, 1) := by decide +kernel
theorem dX6_shuffle_3 : decode cX6_shuffle 3 = .ok (.aload_n 0, 1) := by decide +kernel
theorem dX6_shuffle_4 : decode cX6_shuffle 4 = .ok (.getfield 27, 3) := by decide +kernel
theorem dX6_shuffle_7 : decode cX6_shuffle 7 = .ok (.if_icmp .ge 15, 3) := by decide +kernel
theorem dX6_shuffle_10 : decode cX6_shuffle 10 = .ok (.aload_n 0, 1) := by decide +kernel
theorem dX6_shuffle_11 : decode cX6_shuffle 11 = .ok (.iload_n 2, 1) := by decide +kernel
theorem dX6_shuffle_12 : decode cX6_shuffle 12 = .ok (.iload_n 2, 1) := by decide +kernel
theorem dX6_shuffle_13 : decode cX6_shuffle 13 = .ok (.invokevirtual 30, 3) := by decide +kernel
theorem dX6_shuffle_16 : decode cX6_shuffle 16 = .ok (.iinc 2 1, 3) := by decide +kernel
theorem dX6_shuffle_19 : decode cX6_shuffle 19 = .ok (.goto (-17), 3) := by decide +kernel
theorem dX6_shuffle_22 : decode cX6_shuffle 22 = .ok (.iload_n 1, 1) := by decide +kernel
theorem dX6_shuffle_23 : decode cX6_shuffle 23 = .ok (.istore_n 2, 1) := by decide +kernel
theorem dX6_shuffle_24 : decode cX6_shuffle 24 = .ok (.aload_n 0, 1) := by decide +kernel
theorem dX6_shuffle_25 : decode cX6_shuffle 25 = .ok (.getfield 27, 3) := by decide +kernel
theorem dX6_shuffle_28 : decode cX6_shuffle 28 = .ok (.iconst 1, 1) := by decide +kernel
theorem dX6_shuffle_29 : decode cX6_shuffle 29 = .ok (.isub, 1) := by decide +kernel
theorem dX6_shuffle_30 : decode cX6_shuffle 30 = .ok (.istore_n 3, 1) := by decide +kernel
theorem dX6_shuffle_31 : decode cX6_shuffle 31 = .ok (.iload_n 3, 1) := by decide +kernel
theorem dX6_shuffle_32 : decode cX6_shuffle 32 = .ok (.iconst 1, 1) := by decide +kernel
theorem dX6_shuffle_33 : decode cX6_shuffle 33 = .ok (.if_icmp .lt 56, 3) := by decide +kernel
theorem dX6_shuffle_36 : decode cX6_shuffle 36 = .ok (.ldc 34, 2) := by decide +kernel
theorem dX6_shuffle_38 : decode cX6_shuffle 38 = .ok (.iload_n 2, 1) := by decide +kernel
theorem dX6_shuffle_39 : decode cX6_shuffle 39 = .ok (.imul, 1) := by decide +kernel
theorem dX6_shuffle_40 : decode cX6_shuffle 40 = .ok (.sipush 12345, 3) := by decide +kernel
theorem dX6_shuffle_43 : decode cX6_shuffle 43 = .ok (.iadd, 1) := by decide +kernel
theorem dX6_shuffle_44 : decode cX6_shuffle 44 = .ok (.istore_n 2, 1) := by decide +kernel
theorem dX6_shuffle_45 : decode cX6_shuffle 45 = .ok (.iload_n 2, 1) := by decide +kernel
theorem dX6_shuffle_46 : decode cX6_shuffle 46 = .ok (.bipush 16, 2) := by decide +kernel
theorem dX6_shuffle_48 : decode cX6_shuffle 48 = .ok (.iushr, 1) := by decide +kernel
theorem dX6_shuffle_49 : decode cX6_shuffle 49 = .ok (.iload_n 3, 1) := by decide +kernel
theorem dX6_shuffle_50 : decode cX6_shuffle 50 = .ok (.iconst 1, 1) := by decide +kernel
theorem dX6_shuffle_51 : decode cX6_shuffle 51 = .ok (.iadd, 1) := by decide +kernel
theorem dX6_shuffle_52 : decode cX6_shuffle 52 = .ok (.irem, 1) := by decide +kernel
theorem dX6_shuffle_53 : decode cX6_shuffle 53 = .ok (.istore 4, 2) := by decide +kernel
theorem dX6_shuffle_55 : decode cX6_shuffle 55 = .ok (.aload_n 0, 1) := by decide +kernel
theorem dX6_shuffle_56 : decode cX6_shuffle 56 = .ok (.getfield 13, 3) := by decide +kernel
theorem dX6_shuffle_59 : decode cX6_shuffle 59 = .ok (.iload_n 3, 1) := by decide +kernel
theorem dX6_shuffle_60 : decode cX6_shuffle 60 = .ok (.iaload, 1) := by decide +kernel
theorem dX6_shuffle_61 : decode cX6_shuffle 61 = .ok (.istore 5, 2) := by decide +kernel
theorem dX6_shuffle_63 : decode cX6_shuffle 63 = .ok (.aload_n 0, 1) := by decide +kernel
theorem dX6_shuffle_64 : decode cX6_shuffle 64 = .ok (.aload_n 0, 1) := by decide +kernel
theorem dX6_shuffle_65 : decode cX6_shuffle 65 = .ok (.getfield 13, 3) := by decide +kernel
theorem dX6_shuffle_68 : decode cX6_shuffle 68 = .ok (.iload 4, 2) := by decide +kernel
theorem dX6_shuffle_70 : decode cX6_shuffle 70 = .ok (.iaload, 1) := by decide +kernel
theorem dX6_shuffle_71 : decode cX6_shuffle 71 = .ok (.iload_n 3, 1) := by decide +kernel
theorem dX6_shuffle_72 : decode cX6_shuffle 72 = .ok (.invokevirtual 30, 3) := by decide +kernel
theorem dX6_shuffle_75 : decode cX6_shuffle 75 = .ok (.aload_n 0, 1) := by decide +kernel
theorem dX6_shuffle_76 : decode cX6_shuffle 76 = .ok (.iload 5, 2) := by decide +kernel
theorem dX6_shuffle_78 : decode cX6_shuffle 78 = .ok (.iload 4, 2) := by decide +kernel
theorem dX6_shuffle_80 : decode cX6_shuffle 80 = .ok (.invokevirtual 30, 3) := by decide +kernel
theorem dX6_shuffle_83 : decode cX6_shuffle 83 = .ok (.iinc 3 (-1), 3) := by decide +kernel
theorem dX6_shuffle_86 : decode cX6_shuffle 86 = .ok (.goto (-55), 3) := by decide +kernel
theorem dX6_shuffle_89 : decode cX6_shuffle 89 = .ok (.return_, 1) := by decide +kernel
theorem dX6_place_0 : decode cX6_place 0 = .ok (.aload_n 0, 1) := by decide +kernel
theorem dX6_place_1 : decode cX6_place 1 = .ok (.getfield 13, 3) := by decide +kernel
theorem dX6_place_4 : decode cX6_place 4 = .ok (.iload_n 2, 1) := by decide +kernel
theorem dX6_place_5 : decode cX6_place 5 = .ok (.iload_n 1, 1) := by decide +kernel
theorem dX6_place_6 : decode cX6_place 6 = .ok (.iastore, 1) := by decide +kernel
theorem dX6_place_7 : decode cX6_place 7 = .ok (.aload_n 0, 1) := by decide +kernel
theorem dX6_place_8 : decode cX6_place 8 = .ok (.getfield 16, 3) := by decide +kernel
theorem dX6_place_11 : decode cX6_place 11 = .ok (.iload_n 1, 1) := by decide +kernel
theorem dX6_place_12 : decode cX6_place 12 = .ok (.iload_n 2, 1) := by decide +kernel
theorem dX6_place_13 : decode cX6_place 13 = .ok (.iastore, 1) := by decide +kernel
theorem dX6_place_14 : decode cX6_place 14 = .ok (.return_, 1) := by decide +kernel
theorem dX6_everyone_0 : decode cX6_everyone 0 = .ok (.iconst 1, 1) := by decide +kernel
theorem dX6_everyone_1 : decode cX6_everyone 1 = .ok (.aload_n 0, 1) := by decide +kernel
theorem dX6_everyone_2 : decode cX6_everyone 2 = .ok (.getfield 27, 3) := by decide +kernel
theorem dX6_everyone_5 : decode cX6_everyone 5 = .ok (.ishl, 1) := by decide +kernel
theorem dX6_everyone_6 : decode cX6_everyone 6 = .ok (.iconst 1, 1) := by decide +kernel
theorem dX6_everyone_7 : decode cX6_everyone 7 = .ok (.isub, 1) := by decide +kernel
theorem dX6_everyone_8 : decode cX6_everyone 8 = .ok (.ireturn, 1) := by decide +kernel
theorem dX6_countingVote_0 : decode cX6_countingVote 0 = .ok (.aload_n 0, 1) := by decide +kernel
theorem dX6_countingVote_1 : decode cX6_countingVote 1 = .ok (.getfield 9, 3) := by decide +kernel
theorem dX6_countingVote_4 : decode cX6_countingVote 4 = .ok (.iload_n 1, 1) := by decide +kernel
theorem dX6_countingVote_5 : decode cX6_countingVote 5 = .ok (.iaload, 1) := by decide +kernel
theorem dX6_countingVote_6 : decode cX6_countingVote 6 = .ok (.iload_n 2, 1) := by decide +kernel
theorem dX6_countingVote_7 : decode cX6_countingVote 7 = .ok (.ishr, 1) := by decide +kernel
theorem dX6_countingVote_8 : decode cX6_countingVote 8 = .ok (.iconst 1, 1) := by decide +kernel
theorem dX6_countingVote_9 : decode cX6_countingVote 9 = .ok (.iand, 1) := by decide +kernel
theorem dX6_countingVote_10 : decode cX6_countingVote 10 = .ok (.ifCond .eq 5, 3) := by decide +kernel
theorem dX6_countingVote_13 : decode cX6_countingVote 13 = .ok (.iconst (-1), 1) := by decide +kernel
theorem dX6_countingVote_14 : decode cX6_countingVote 14 = .ok (.ireturn, 1) := by decide +kernel
theorem dX6_countingVote_15 : decode cX6_countingVote 15 = .ok (.aload_n 0, 1) := by decide +kernel
theorem dX6_countingVote_16 : decode cX6_countingVote 16 = .ok (.getfield 23, 3) := by decide +kernel
theorem dX6_countingVote_19 : decode cX6_countingVote 19 = .ok (.iload_n 3, 1) := by decide +kernel
theorem dX6_countingVote_20 : decode cX6_countingVote 20 = .ok (.bipush 9, 2) := by decide +kernel
theorem dX6_countingVote_22 : decode cX6_countingVote 22 = .ok (.iload_n 1, 1) := by decide +kernel
theorem dX6_countingVote_23 : decode cX6_countingVote 23 = .ok (.imul, 1) := by decide +kernel
theorem dX6_countingVote_24 : decode cX6_countingVote 24 = .ok (.iload_n 2, 1) := by decide +kernel
theorem dX6_countingVote_25 : decode cX6_countingVote 25 = .ok (.iadd, 1) := by decide +kernel
theorem dX6_countingVote_26 : decode cX6_countingVote 26 = .ok (.invokevirtual 37, 3) := by decide +kernel
theorem dX6_countingVote_29 : decode cX6_countingVote 29 = .ok (.ireturn, 1) := by decide +kernel
theorem dX6_countingVotes_0 : decode cX6_countingVotes 0 = .ok (.iconst 0, 1) := by decide +kernel
theorem dX6_countingVotes_1 : decode cX6_countingVotes 1 = .ok (.istore_n 3, 1) := by decide +kernel
theorem dX6_countingVotes_2 : decode cX6_countingVotes 2 = .ok (.iconst 0, 1) := by decide +kernel
theorem dX6_countingVotes_3 : decode cX6_countingVotes 3 = .ok (.istore 4, 2) := by decide +kernel
theorem dX6_countingVotes_5 : decode cX6_countingVotes 5 = .ok (.iload 4, 2) := by decide +kernel
theorem dX6_countingVotes_7 : decode cX6_countingVotes 7 = .ok (.aload_n 0, 1) := by decide +kernel
theorem dX6_countingVotes_8 : decode cX6_countingVotes 8 = .ok (.getfield 19, 3) := by decide +kernel
theorem dX6_countingVotes_11 : decode cX6_countingVotes 11 = .ok (.if_icmp .ge 24, 3) := by decide +kernel
theorem dX6_countingVotes_14 : decode cX6_countingVotes 14 = .ok (.aload_n 0, 1) := by decide +kernel
theorem dX6_countingVotes_15 : decode cX6_countingVotes 15 = .ok (.iload_n 1, 1) := by decide +kernel
theorem dX6_countingVotes_16 : decode cX6_countingVotes 16 = .ok (.iload 4, 2) := by decide +kernel
theorem dX6_countingVotes_18 : decode cX6_countingVotes 18 = .ok (.iload_n 2, 1) := by decide +kernel
theorem dX6_countingVotes_19 : decode cX6_countingVotes 19 = .ok (.invokevirtual 41, 3) := by decide +kernel
theorem dX6_countingVotes_22 : decode cX6_countingVotes 22 = .ok (.iconst (-1), 1) := by decide +kernel
theorem dX6_countingVotes_23 : decode cX6_countingVotes 23 = .ok (.if_icmp .eq 6, 3) := by decide +kernel
theorem dX6_countingVotes_26 : decode cX6_countingVotes 26 = .ok (.iinc 3 1, 3) := by decide +kernel
theorem dX6_countingVotes_29 : decode cX6_countingVotes 29 = .ok (.iinc 4 1, 3) := by decide +kernel
theorem dX6_countingVotes_32 : decode cX6_countingVotes 32 = .ok (.goto (-27), 3) := by decide +kernel
theorem dX6_countingVotes_35 : decode cX6_countingVotes 35 = .ok (.iload_n 3, 1) := by decide +kernel
theorem dX6_countingVotes_36 : decode cX6_countingVotes 36 = .ok (.ireturn, 1) := by decide +kernel
theorem dX6_yesVotes_0 : decode cX6_yesVotes 0 = .ok (.iconst 0, 1) := by decide +kernel
theorem dX6_yesVotes_1 : decode cX6_yesVotes 1 = .ok (.istore_n 3, 1) := by decide +kernel
theorem dX6_yesVotes_2 : decode cX6_yesVotes 2 = .ok (.iconst 0, 1) := by decide +kernel
theorem dX6_yesVotes_3 : decode cX6_yesVotes 3 = .ok (.istore 4, 2) := by decide +kernel
theorem dX6_yesVotes_5 : decode cX6_yesVotes 5 = .ok (.iload 4, 2) := by decide +kernel
theorem dX6_yesVotes_7 : decode cX6_yesVotes 7 = .ok (.aload_n 0, 1) := by decide +kernel
theorem dX6_yesVotes_8 : decode cX6_yesVotes 8 = .ok (.getfield 19, 3) := by decide +kernel
theorem dX6_yesVotes_11 : decode cX6_yesVotes 11 = .ok (.if_icmp .ge 24, 3) := by decide +kernel
theorem dX6_yesVotes_14 : decode cX6_yesVotes 14 = .ok (.aload_n 0, 1) := by decide +kernel
theorem dX6_yesVotes_15 : decode cX6_yesVotes 15 = .ok (.iload_n 1, 1) := by decide +kernel
theorem dX6_yesVotes_16 : decode cX6_yesVotes 16 = .ok (.iload 4, 2) := by decide +kernel
theorem dX6_yesVotes_18 : decode cX6_yesVotes 18 = .ok (.iload_n 2, 1) := by decide +kernel
theorem dX6_yesVotes_19 : decode cX6_yesVotes 19 = .ok (.invokevirtual 41, 3) := by decide +kernel
theorem dX6_yesVotes_22 : decode cX6_yesVotes 22 = .ok (.iconst 1, 1) := by decide +kernel
theorem dX6_yesVotes_23 : decode cX6_yesVotes 23 = .ok (.if_icmp .ne 6, 3) := by decide +kernel
theorem dX6_yesVotes_26 : decode cX6_yesVotes 26 = .ok (.iinc 3 1, 3) := by decide +kernel
theorem dX6_yesVotes_29 : decode cX6_yesVotes 29 = .ok (.iinc 4 1, 3) := by decide +kernel
theorem dX6_yesVotes_32 : decode cX6_yesVotes 32 = .ok (.goto (-27), 3) := by decide +kernel
theorem dX6_yesVotes_35 : decode cX6_yesVotes 35 = .ok (.iload_n 3, 1) := by decide +kernel
theorem dX6_yesVotes_36 : decode cX6_yesVotes 36 = .ok (.ireturn, 1) := by decide +kernel
theorem dX6_jurorsOnPart_0 : decode cX6_jurorsOnPart 0 = .ok (.iconst 0, 1) := by decide +kernel
theorem dX6_jurorsOnPart_1 : decode cX6_jurorsOnPart 1 = .ok (.istore 4, 2) := by decide +kernel
theorem dX6_jurorsOnPart_3 : decode cX6_jurorsOnPart 3 = .ok (.iconst 0, 1) := by decide +kernel
theorem dX6_jurorsOnPart_4 : decode cX6_jurorsOnPart 4 = .ok (.istore 5, 2) := by decide +kernel
theorem dX6_jurorsOnPart_6 : decode cX6_jurorsOnPart 6 = .ok (.iload 5, 2) := by decide +kernel
theorem dX6_jurorsOnPart_8 : decode cX6_jurorsOnPart 8 = .ok (.aload_n 0, 1) := by decide +kernel
theorem dX6_jurorsOnPart_9 : decode cX6_jurorsOnPart 9 = .ok (.getfield 19, 3) := by decide +kernel
theorem dX6_jurorsOnPart_12 : decode cX6_jurorsOnPart 12 = .ok (.if_icmp .ge 47, 3) := by decide +kernel
theorem dX6_jurorsOnPart_15 : decode cX6_jurorsOnPart 15 = .ok (.aload_n 0, 1) := by decide +kernel
theorem dX6_jurorsOnPart_16 : decode cX6_jurorsOnPart 16 = .ok (.iload_n 1, 1) := by decide +kernel
theorem dX6_jurorsOnPart_17 : decode cX6_jurorsOnPart 17 = .ok (.iload 5, 2) := by decide +kernel
theorem dX6_jurorsOnPart_19 : decode cX6_jurorsOnPart 19 = .ok (.iload_n 3, 1) := by decide +kernel
theorem dX6_jurorsOnPart_20 : decode cX6_jurorsOnPart 20 = .ok (.invokevirtual 41, 3) := by decide +kernel
theorem dX6_jurorsOnPart_23 : decode cX6_jurorsOnPart 23 = .ok (.iconst 1, 1) := by decide +kernel
theorem dX6_jurorsOnPart_24 : decode cX6_jurorsOnPart 24 = .ok (.if_icmp .ne 7, 3) := by decide +kernel
theorem dX6_jurorsOnPart_27 : decode cX6_jurorsOnPart 27 = .ok (.iconst 1, 1) := by decide +kernel
theorem dX6_jurorsOnPart_28 : decode cX6_jurorsOnPart 28 = .ok (.goto 4, 3) := by decide +kernel
theorem dX6_jurorsOnPart_31 : decode cX6_jurorsOnPart 31 = .ok (.iconst 0, 1) := by decide +kernel
theorem dX6_jurorsOnPart_32 : decode cX6_jurorsOnPart 32 = .ok (.istore 6, 2) := by decide +kernel
theorem dX6_jurorsOnPart_34 : decode cX6_jurorsOnPart 34 = .ok (.iload 6, 2) := by decide +kernel
theorem dX6_jurorsOnPart_36 : decode cX6_jurorsOnPart 36 = .ok (.ifCond .eq 17, 3) := by decide +kernel
theorem dX6_jurorsOnPart_39 : decode cX6_jurorsOnPart 39 = .ok (.aload_n 0, 1) := by decide +kernel
theorem dX6_jurorsOnPart_40 : decode cX6_jurorsOnPart 40 = .ok (.iload_n 2, 1) := by decide +kernel
theorem dX6_jurorsOnPart_41 : decode cX6_jurorsOnPart 41 = .ok (.iload 5, 2) := by decide +kernel
theorem dX6_jurorsOnPart_43 : decode cX6_jurorsOnPart 43 = .ok (.iload_n 3, 1) := by decide +kernel
theorem dX6_jurorsOnPart_44 : decode cX6_jurorsOnPart 44 = .ok (.invokevirtual 41, 3) := by decide +kernel
theorem dX6_jurorsOnPart_47 : decode cX6_jurorsOnPart 47 = .ok (.ifCond .ne 6, 3) := by decide +kernel
theorem dX6_jurorsOnPart_50 : decode cX6_jurorsOnPart 50 = .ok (.iinc 4 1, 3) := by decide +kernel
theorem dX6_jurorsOnPart_53 : decode cX6_jurorsOnPart 53 = .ok (.iinc 5 1, 3) := by decide +kernel
theorem dX6_jurorsOnPart_56 : decode cX6_jurorsOnPart 56 = .ok (.goto (-50), 3) := by decide +kernel
theorem dX6_jurorsOnPart_59 : decode cX6_jurorsOnPart 59 = .ok (.iload 4, 2) := by decide +kernel
theorem dX6_jurorsOnPart_61 : decode cX6_jurorsOnPart 61 = .ok (.ireturn, 1) := by decide +kernel
theorem dX7_isLost_0 : decode cX7_isLost 0 = .ok (.aload_n 0, 1) := by decide +kernel
theorem dX7_isLost_1 : decode cX7_isLost 1 = .ok (.getfield 16, 3) := by decide +kernel
theorem dX7_isLost_4 : decode cX7_isLost 4 = .ok (.iload_n 1, 1) := by decide +kernel
theorem dX7_isLost_5 : decode cX7_isLost 5 = .ok (.iaload, 1) := by decide +kernel
theorem dX7_isLost_6 : decode cX7_isLost 6 = .ok (.iconst (-1), 1) := by decide +kernel
theorem dX7_isLost_7 : decode cX7_isLost 7 = .ok (.if_icmp .ne 7, 3) := by decide +kernel
theorem dX7_isLost_10 : decode cX7_isLost 10 = .ok (.iconst 1, 1) := by decide +kernel
theorem dX7_isLost_11 : decode cX7_isLost 11 = .ok (.goto 4, 3) := by decide +kernel
theorem dX7_isLost_14 : decode cX7_isLost 14 = .ok (.iconst 0, 1) := by decide +kernel
theorem dX7_isLost_15 : decode cX7_isLost 15 = .ok (.ireturn, 1) := by decide +kernel
theorem dX7_found_0 : decode cX7_found 0 = .ok (.aload_n 0, 1) := by decide +kernel
theorem dX7_found_1 : decode cX7_found 1 = .ok (.iload_n 1, 1) := by decide +kernel
theorem dX7_found_2 : decode cX7_found 2 = .ok (.putfield 23, 3) := by decide +kernel
theorem dX7_found_5 : decode cX7_found 5 = .ok (.bipush (-10), 2) := by decide +kernel
theorem dX7_found_7 : decode cX7_found 7 = .ok (.iload_n 1, 1) := by decide +kernel
theorem dX7_found_8 : decode cX7_found 8 = .ok (.isub, 1) := by decide +kernel
theorem dX7_found_9 : decode cX7_found 9 = .ok (.ireturn, 1) := by decide +kernel
theorem dX7_lay_0 : decode cX7_lay 0 = .ok (.aload_n 0, 1) := by decide +kernel
theorem dX7_lay_1 : decode cX7_lay 1 = .ok (.getfield 16, 3) := by decide +kernel
theorem dX7_lay_4 : decode cX7_lay 4 = .ok (.iload_n 1, 1) := by decide +kernel
theorem dX7_lay_5 : decode cX7_lay 5 = .ok (.iload_n 2, 1) := by decide +kernel
theorem dX7_lay_6 : decode cX7_lay 6 = .ok (.iastore, 1) := by decide +kernel
theorem dX7_lay_7 : decode cX7_lay 7 = .ok (.aload_n 0, 1) := by decide +kernel
theorem dX7_lay_8 : decode cX7_lay 8 = .ok (.getfield 20, 3) := by decide +kernel
theorem dX7_lay_11 : decode cX7_lay 11 = .ok (.iload_n 1, 1) := by decide +kernel
theorem dX7_lay_12 : decode cX7_lay 12 = .ok (.iload_n 3, 1) := by decide +kernel
theorem dX7_lay_13 : decode cX7_lay 13 = .ok (.iastore, 1) := by decide +kernel
theorem dX7_lay_14 : decode cX7_lay 14 = .ok (.iconst 0, 1) := by decide +kernel
theorem dX7_lay_15 : decode cX7_lay 15 = .ok (.istore 4, 2) := by decide +kernel
theorem dX7_lay_17 : decode cX7_lay 17 = .ok (.iload 4, 2) := by decide +kernel
theorem dX7_lay_19 : decode cX7_lay 19 = .ok (.iload_n 3, 1) := by decide +kernel
theorem dX7_lay_20 : decode cX7_lay 20 = .ok (.if_icmp .ge 19, 3) := by decide +kernel
theorem dX7_lay_23 : decode cX7_lay 23 = .ok (.aload_n 0, 1) := by decide +kernel
theorem dX7_lay_24 : decode cX7_lay 24 = .ok (.getfield 13, 3) := by decide +kernel
theorem dX7_lay_27 : decode cX7_lay 27 = .ok (.iload_n 1, 1) := by decide +kernel
theorem dX7_lay_28 : decode cX7_lay 28 = .ok (.aaload, 1) := by decide +kernel
theorem dX7_lay_29 : decode cX7_lay 29 = .ok (.iload 4, 2) := by decide +kernel
theorem dX7_lay_31 : decode cX7_lay 31 = .ok (.iconst 0, 1) := by decide +kernel
theorem dX7_lay_32 : decode cX7_lay 32 = .ok (.iastore, 1) := by decide +kernel
theorem dX7_lay_33 : decode cX7_lay 33 = .ok (.iinc 4 1, 3) := by decide +kernel
theorem dX7_lay_36 : decode cX7_lay 36 = .ok (.goto (-19), 3) := by decide +kernel
theorem dX7_lay_39 : decode cX7_lay 39 = .ok (.iload_n 3, 1) := by decide +kernel
theorem dX7_lay_40 : decode cX7_lay 40 = .ok (.ireturn, 1) := by decide +kernel
theorem dX7_drop_0 : decode cX7_drop 0 = .ok (.aload_n 0, 1) := by decide +kernel
theorem dX7_drop_1 : decode cX7_drop 1 = .ok (.getfield 20, 3) := by decide +kernel
theorem dX7_drop_4 : decode cX7_drop 4 = .ok (.iload_n 1, 1) := by decide +kernel
theorem dX7_drop_5 : decode cX7_drop 5 = .ok (.iaload, 1) := by decide +kernel
theorem dX7_drop_6 : decode cX7_drop 6 = .ok (.istore_n 2, 1) := by decide +kernel
theorem dX7_drop_7 : decode cX7_drop 7 = .ok (.aload_n 0, 1) := by decide +kernel
theorem dX7_drop_8 : decode cX7_drop 8 = .ok (.getfield 16, 3) := by decide +kernel
theorem dX7_drop_11 : decode cX7_drop 11 = .ok (.iload_n 1, 1) := by decide +kernel
theorem dX7_drop_12 : decode cX7_drop 12 = .ok (.iconst (-1), 1) := by decide +kernel
theorem dX7_drop_13 : decode cX7_drop 13 = .ok (.iastore, 1) := by decide +kernel
theorem dX7_drop_14 : decode cX7_drop 14 = .ok (.aload_n 0, 1) := by decide +kernel
theorem dX7_drop_15 : decode cX7_drop 15 = .ok (.getfield 20, 3) := by decide +kernel
theorem dX7_drop_18 : decode cX7_drop 18 = .ok (.iload_n 1, 1) := by decide +kernel
theorem dX7_drop_19 : decode cX7_drop 19 = .ok (.iconst 0, 1) := by decide +kernel
theorem dX7_drop_20 : decode cX7_drop 20 = .ok (.iastore, 1) := by decide +kernel
theorem dX7_drop_21 : decode cX7_drop 21 = .ok (.iload_n 2, 1) := by decide +kernel
theorem dX7_drop_22 : decode cX7_drop 22 = .ok (.ireturn, 1) := by decide +kernel
theorem dX7_findingOfItem_0 : decode cX7_findingOfItem 0 = .ok (.aload_n 0, 1) := by decide +kernel
theorem dX7_findingOfItem_1 : decode cX7_findingOfItem 1 = .ok (.iload_n 1, 1) := by decide +kernel
theorem dX7_findingOfItem_2 : decode cX7_findingOfItem 2 = .ok (.invokevirtual 27, 3) := by decide +kernel
theorem dX7_findingOfItem_5 : decode cX7_findingOfItem 5 = .ok (.ifCond .eq 5, 3) := by decide +kernel
theorem dX7_findingOfItem_8 : decode cX7_findingOfItem 8 = .ok (.iconst 1, 1) := by decide +kernel
theorem dX7_findingOfItem_9 : decode cX7_findingOfItem 9 = .ok (.ireturn, 1) := by decide +kernel
theorem dX7_findingOfItem_10 : decode cX7_findingOfItem 10 = .ok (.aload_n 0, 1) := by decide +kernel
theorem dX7_findingOfItem_11 : decode cX7_findingOfItem 11 = .ok (.getfield 16, 3) := by decide +kernel
theorem dX7_findingOfItem_14 : decode cX7_findingOfItem 14 = .ok (.iload_n 1, 1) := by decide +kernel
theorem dX7_findingOfItem_15 : decode cX7_findingOfItem 15 = .ok (.iaload, 1) := by decide +kernel
theorem dX7_findingOfItem_16 : decode cX7_findingOfItem 16 = .ok (.iload_n 2, 1) := by decide +kernel
theorem dX7_findingOfItem_17 : decode cX7_findingOfItem 17 = .ok (.if_icmp .eq 5, 3) := by decide +kernel
theorem dX7_findingOfItem_20 : decode cX7_findingOfItem 20 = .ok (.iconst 3, 1) := by decide +kernel
theorem dX7_findingOfItem_21 : decode cX7_findingOfItem 21 = .ok (.ireturn, 1) := by decide +kernel
theorem dX7_findingOfItem_22 : decode cX7_findingOfItem 22 = .ok (.iload_n 3, 1) := by decide +kernel
theorem dX7_findingOfItem_23 : decode cX7_findingOfItem 23 = .ok (.ifCond .lt 17, 3) := by decide +kernel
theorem dX7_findingOfItem_26 : decode cX7_findingOfItem 26 = .ok (.iload_n 3, 1) := by decide +kernel
theorem dX7_findingOfItem_27 : decode cX7_findingOfItem 27 = .ok (.aload_n 0, 1) := by decide +kernel
theorem dX7_findingOfItem_28 : decode cX7_findingOfItem 28 = .ok (.getfield 20, 3) := by decide +kernel
theorem dX7_findingOfItem_31 : decode cX7_findingOfItem 31 = .ok (.iload_n 1, 1) := by decide +kernel
theorem dX7_findingOfItem_32 : decode cX7_findingOfItem 32 = .ok (.iaload, 1) := by decide +kernel
theorem dX7_findingOfItem_33 : decode cX7_findingOfItem 33 = .ok (.if_icmp .ge 7, 3) := by decide +kernel
theorem dX7_findingOfItem_36 : decode cX7_findingOfItem 36 = .ok (.iconst 0, 1) := by decide +kernel
theorem dX7_findingOfItem_37 : decode cX7_findingOfItem 37 = .ok (.goto 4, 3) := by decide +kernel
theorem dX7_findingOfItem_40 : decode cX7_findingOfItem 40 = .ok (.iconst 2, 1) := by decide +kernel
theorem dX7_findingOfItem_41 : decode cX7_findingOfItem 41 = .ok (.ireturn, 1) := by decide +kernel
theorem dX7_findingOfSheets_0 : decode cX7_findingOfSheets 0 = .ok (.aload_n 0, 1) := by decide +kernel
theorem dX7_findingOfSheets_1 : decode cX7_findingOfSheets 1 = .ok (.iload_n 1, 1) := by decide +kernel
theorem dX7_findingOfSheets_2 : decode cX7_findingOfSheets 2 = .ok (.invokevirtual 27, 3) := by decide +kernel
theorem dX7_findingOfSheets_5 : decode cX7_findingOfSheets 5 = .ok (.ifCond .ne 11, 3) := by decide +kernel
theorem dX7_findingOfSheets_8 : decode cX7_findingOfSheets 8 = .ok (.aload_n 0, 1) := by decide +kernel
theorem dX7_findingOfSheets_9 : decode cX7_findingOfSheets 9 = .ok (.iload_n 2, 1) := by decide +kernel
theorem dX7_findingOfSheets_10 : decode cX7_findingOfSheets 10 = .ok (.invokevirtual 27, 3) := by decide +kernel
theorem dX7_findingOfSheets_13 : decode cX7_findingOfSheets 13 = .ok (.ifCond .eq 5, 3) := by decide +kernel
theorem dX7_findingOfSheets_16 : decode cX7_findingOfSheets 16 = .ok (.iconst 1, 1) := by decide +kernel
theorem dX7_findingOfSheets_17 : decode cX7_findingOfSheets 17 = .ok (.ireturn, 1) := by decide +kernel
theorem dX7_findingOfSheets_18 : decode cX7_findingOfSheets 18 = .ok (.aload_n 0, 1) := by decide +kernel
theorem dX7_findingOfSheets_19 : decode cX7_findingOfSheets 19 = .ok (.getfield 16, 3) := by decide +kernel
theorem dX7_findingOfSheets_22 : decode cX7_findingOfSheets 22 = .ok (.iload_n 1, 1) := by decide +kernel
theorem dX7_findingOfSheets_23 : decode cX7_findingOfSheets 23 = .ok (.iaload, 1) := by decide +kernel
theorem dX7_findingOfSheets_24 : decode cX7_findingOfSheets 24 = .ok (.aload_n 0, 1) := by decide +kernel
theorem dX7_findingOfSheets_25 : decode cX7_findingOfSheets 25 = .ok (.getfield 16, 3) := by decide +kernel
theorem dX7_findingOfSheets_28 : decode cX7_findingOfSheets 28 = .ok (.iload_n 2, 1) := by decide +kernel
theorem dX7_findingOfSheets_29 : decode cX7_findingOfSheets 29 = .ok (.iaload, 1) := by decide +kernel
theorem dX7_findingOfSheets_30 : decode cX7_findingOfSheets 30 = .ok (.if_icmp .ne 7, 3) := by decide +kernel
theorem dX7_findingOfSheets_33 : decode cX7_findingOfSheets 33 = .ok (.iconst 0, 1) := by decide +kernel
theorem dX7_findingOfSheets_34 : decode cX7_findingOfSheets 34 = .ok (.goto 4, 3) := by decide +kernel
theorem dX7_findingOfSheets_37 : decode cX7_findingOfSheets 37 = .ok (.iconst 4, 1) := by decide +kernel
theorem dX7_findingOfSheets_38 : decode cX7_findingOfSheets 38 = .ok (.ireturn, 1) := by decide +kernel
theorem dX7_hasSpan_0 : decode cX7_hasSpan 0 = .ok (.iload_n 2, 1) := by decide +kernel
theorem dX7_hasSpan_1 : decode cX7_hasSpan 1 = .ok (.ifCond .lt 33, 3) := by decide +kernel
theorem dX7_hasSpan_4 : decode cX7_hasSpan 4 = .ok (.iload_n 3, 1) := by decide +kernel
theorem dX7_hasSpan_5 : decode cX7_hasSpan 5 = .ok (.ifCond .lt 29, 3) := by decide +kernel
theorem dX7_hasSpan_8 : decode cX7_hasSpan 8 = .ok (.iload_n 2, 1) := by decide +kernel
theorem dX7_hasSpan_9 : decode cX7_hasSpan 9 = .ok (.aload_n 0, 1) := by decide +kernel
theorem dX7_hasSpan_10 : decode cX7_hasSpan 10 = .ok (.getfield 20, 3) := by decide +kernel
theorem dX7_hasSpan_13 : decode cX7_hasSpan 13 = .ok (.iload_n 1, 1) := by decide +kernel
theorem dX7_hasSpan_14 : decode cX7_hasSpan 14 = .ok (.iaload, 1) := by decide +kernel
theorem dX7_hasSpan_15 : decode cX7_hasSpan 15 = .ok (.if_icmp .gt 19, 3) := by decide +kernel
theorem dX7_hasSpan_18 : decode cX7_hasSpan 18 = .ok (.iload_n 3, 1) := by decide +kernel
theorem dX7_hasSpan_19 : decode cX7_hasSpan 19 = .ok (.aload_n 0, 1) := by decide +kernel
theorem dX7_hasSpan_20 : decode cX7_hasSpan 20 = .ok (.getfield 20, 3) := by decide +kernel
theorem dX7_hasSpan_23 : decode cX7_hasSpan 23 = .ok (.iload_n 1, 1) := by decide +kernel
theorem dX7_hasSpan_24 : decode cX7_hasSpan 24 = .ok (.iaload, 1) := by decide +kernel
theorem dX7_hasSpan_25 : decode cX7_hasSpan 25 = .ok (.iload_n 2, 1) := by decide +kernel
theorem dX7_hasSpan_26 : decode cX7_hasSpan 26 = .ok (.isub, 1) := by decide +kernel
theorem dX7_hasSpan_27 : decode cX7_hasSpan 27 = .ok (.if_icmp .gt 7, 3) := by decide +kernel
theorem dX7_hasSpan_30 : decode cX7_hasSpan 30 = .ok (.iconst 1, 1) := by decide +kernel
theorem dX7_hasSpan_31 : decode cX7_hasSpan 31 = .ok (.goto 4, 3) := by decide +kernel
theorem dX7_hasSpan_34 : decode cX7_hasSpan 34 = .ok (.iconst 0, 1) := by decide +kernel
theorem dX7_hasSpan_35 : decode cX7_hasSpan 35 = .ok (.ireturn, 1) := by decide +kernel
theorem dX7_lowestBits_0 : decode cX7_lowestBits 0 = .ok (.iload_n 0, 1) := by decide +kernel
theorem dX7_lowestBits_1 : decode cX7_lowestBits 1 = .ok (.ifCond .ne 6, 3) := by decide +kernel
theorem dX7_lowestBits_4 : decode cX7_lowestBits 4 = .ok (.iload_n 1, 1) := by decide +kernel
theorem dX7_lowestBits_5 : decode cX7_lowestBits 5 = .ok (.i2b, 1) := by decide +kernel
theorem dX7_lowestBits_6 : decode cX7_lowestBits 6 = .ok (.ireturn, 1) := by decide +kernel
theorem dX7_lowestBits_7 : decode cX7_lowestBits 7 = .ok (.iload_n 0, 1) := by decide +kernel
theorem dX7_lowestBits_8 : decode cX7_lowestBits 8 = .ok (.iconst 1, 1) := by decide +kernel
theorem dX7_lowestBits_9 : decode cX7_lowestBits 9 = .ok (.if_icmp .ne 8, 3) := by decide +kernel
theorem dX7_lowestBits_12 : decode cX7_lowestBits 12 = .ok (.iload_n 1, 1) := by decide +kernel
theorem dX7_lowestBits_13 : decode cX7_lowestBits 13 = .ok (.i2s, 1) := by decide +kernel
theorem dX7_lowestBits_14 : decode cX7_lowestBits 14 = .ok (.goto 4, 3) := by decide +kernel
theorem dX7_lowestBits_17 : decode cX7_lowestBits 17 = .ok (.iload_n 1, 1) := by decide +kernel
theorem dX7_lowestBits_18 : decode cX7_lowestBits 18 = .ok (.ireturn, 1) := by decide +kernel
theorem dX7_voteAt_0 : decode cX7_voteAt 0 = .ok (.iload_n 2, 1) := by decide +kernel
theorem dX7_voteAt_1 : decode cX7_voteAt 1 = .ok (.aload_n 0, 1) := by decide +kernel
theorem dX7_voteAt_2 : decode cX7_voteAt 2 = .ok (.getfield 20, 3) := by decide +kernel
theorem dX7_voteAt_5 : decode cX7_voteAt 5 = .ok (.iload_n 1, 1) := by decide +kernel
theorem dX7_voteAt_6 : decode cX7_voteAt 6 = .ok (.iaload, 1) := by decide +kernel
theorem dX7_voteAt_7 : decode cX7_voteAt 7 = .ok (.if_icmp .ge 14, 3) := by decide +kernel
theorem dX7_voteAt_10 : decode cX7_voteAt 10 = .ok (.aload_n 0, 1) := by decide +kernel
theorem dX7_voteAt_11 : decode cX7_voteAt 11 = .ok (.getfield 13, 3) := by decide +kernel
theorem dX7_voteAt_14 : decode cX7_voteAt 14 = .ok (.iload_n 1, 1) := by decide +kernel
theorem dX7_voteAt_15 : decode cX7_voteAt 15 = .ok (.aaload, 1) := by decide +kernel
theorem dX7_voteAt_16 : decode cX7_voteAt 16 = .ok (.iload_n 2, 1) := by decide +kernel
theorem dX7_voteAt_17 : decode cX7_voteAt 17 = .ok (.iaload, 1) := by decide +kernel
theorem dX7_voteAt_18 : decode cX7_voteAt 18 = .ok (.ifCond .ge 5, 3) := by decide +kernel
theorem dX7_voteAt_21 : decode cX7_voteAt 21 = .ok (.iconst (-1), 1) := by decide +kernel
theorem dX7_voteAt_22 : decode cX7_voteAt 22 = .ok (.ireturn, 1) := by decide +kernel
theorem dX7_voteAt_23 : decode cX7_voteAt 23 = .ok (.aload_n 0, 1) := by decide +kernel
theorem dX7_voteAt_24 : decode cX7_voteAt 24 = .ok (.getfield 13, 3) := by decide +kernel
theorem dX7_voteAt_27 : decode cX7_voteAt 27 = .ok (.iload_n 1, 1) := by decide +kernel
theorem dX7_voteAt_28 : decode cX7_voteAt 28 = .ok (.aaload, 1) := by decide +kernel
theorem dX7_voteAt_29 : decode cX7_voteAt 29 = .ok (.iload_n 2, 1) := by decide +kernel
theorem dX7_voteAt_30 : decode cX7_voteAt 30 = .ok (.iaload, 1) := by decide +kernel
theorem dX7_voteAt_31 : decode cX7_voteAt 31 = .ok (.ifCond .le 7, 3) := by decide +kernel
theorem dX7_voteAt_34 : decode cX7_voteAt 34 = .ok (.iconst 1, 1) := by decide +kernel
theorem dX7_voteAt_35 : decode cX7_voteAt 35 = .ok (.goto 4, 3) := by decide +kernel
theorem dX7_voteAt_38 : decode cX7_voteAt 38 = .ok (.iconst 0, 1) := by decide +kernel
theorem dX7_voteAt_39 : decode cX7_voteAt 39 = .ok (.ireturn, 1) := by decide +kernel
theorem dX8_has_0 : decode cX8_has 0 = .ok (.iconst 0, 1) := by decide +kernel
theorem dX8_has_1 : decode cX8_has 1 = .ok (.istore_n 2, 1) := by decide +kernel
theorem dX8_has_2 : decode cX8_has 2 = .ok (.iload_n 2, 1) := by decide +kernel
theorem dX8_has_3 : decode cX8_has 3 = .ok (.aload_n 0, 1) := by decide +kernel
theorem dX8_has_4 : decode cX8_has 4 = .ok (.getfield 23, 3) := by decide +kernel
theorem dX8_has_7 : decode cX8_has 7 = .ok (.if_icmp .ge 21, 3) := by decide +kernel
theorem dX8_has_10 : decode cX8_has 10 = .ok (.aload_n 0, 1) := by decide +kernel
theorem dX8_has_11 : decode cX8_has 11 = .ok (.getfield 11, 3) := by decide +kernel
theorem dX8_has_14 : decode cX8_has 14 = .ok (.iload_n 2, 1) := by decide +kernel
theorem dX8_has_15 : decode cX8_has 15 = .ok (.iaload, 1) := by decide +kernel
theorem dX8_has_16 : decode cX8_has 16 = .ok (.iload_n 1, 1) := by decide +kernel
theorem dX8_has_17 : decode cX8_has 17 = .ok (.if_icmp .ne 5, 3) := by decide +kernel
theorem dX8_has_20 : decode cX8_has 20 = .ok (.iconst 1, 1) := by decide +kernel
theorem dX8_has_21 : decode cX8_has 21 = .ok (.ireturn, 1) := by decide +kernel
theorem dX8_has_22 : decode cX8_has 22 = .ok (.iinc 2 1, 3) := by decide +kernel
theorem dX8_has_25 : decode cX8_has 25 = .ok (.goto (-23), 3) := by decide +kernel
theorem dX8_has_28 : decode cX8_has 28 = .ok (.iconst 0, 1) := by decide +kernel
theorem dX8_has_29 : decode cX8_has 29 = .ok (.ireturn, 1) := by decide +kernel
theorem dX8_open_0 : decode cX8_open 0 = .ok (.aload_n 0, 1) := by decide +kernel
theorem dX8_open_1 : decode cX8_open 1 = .ok (.getfield 23, 3) := by decide +kernel
theorem dX8_open_4 : decode cX8_open 4 = .ok (.istore_n 2, 1) := by decide +kernel
theorem dX8_open_5 : decode cX8_open 5 = .ok (.aload_n 0, 1) := by decide +kernel
theorem dX8_open_6 : decode cX8_open 6 = .ok (.getfield 11, 3) := by decide +kernel
theorem dX8_open_9 : decode cX8_open 9 = .ok (.iload_n 2, 1) := by decide +kernel
theorem dX8_open_10 : decode cX8_open 10 = .ok (.iload_n 1, 1) := by decide +kernel
theorem dX8_open_11 : decode cX8_open 11 = .ok (.iastore, 1) := by decide +kernel
theorem dX8_open_12 : decode cX8_open 12 = .ok (.aload_n 0, 1) := by decide +kernel
theorem dX8_open_13 : decode cX8_open 13 = .ok (.dup, 1) := by decide +kernel
theorem dX8_open_14 : decode cX8_open 14 = .ok (.getfield 23, 3) := by decide +kernel
theorem dX8_open_17 : decode cX8_open 17 = .ok (.iconst 1, 1) := by decide +kernel
theorem dX8_open_18 : decode cX8_open 18 = .ok (.iadd, 1) := by decide +kernel
theorem dX8_open_19 : decode cX8_open 19 = .ok (.putfield 23, 3) := by decide +kernel
theorem dX8_open_22 : decode cX8_open 22 = .ok (.iload_n 2, 1) := by decide +kernel
theorem dX8_open_23 : decode cX8_open 23 = .ok (.ireturn, 1) := by decide +kernel
theorem dX8_addMark_0 : decode cX8_addMark 0 = .ok (.aload_n 0, 1) := by decide +kernel
theorem dX8_addMark_1 : decode cX8_addMark 1 = .ok (.getfield 20, 3) := by decide +kernel
theorem dX8_addMark_4 : decode cX8_addMark 4 = .ok (.iload_n 1, 1) := by decide +kernel
theorem dX8_addMark_5 : decode cX8_addMark 5 = .ok (.aaload, 1) := by decide +kernel
theorem dX8_addMark_6 : decode cX8_addMark 6 = .ok (.aload_n 0, 1) := by decide +kernel
theorem dX8_addMark_7 : decode cX8_addMark 7 = .ok (.getfield 15, 3) := by decide +kernel
theorem dX8_addMark_10 : decode cX8_addMark 10 = .ok (.iload_n 1, 1) := by decide +kernel
theorem dX8_addMark_11 : decode cX8_addMark 11 = .ok (.iaload, 1) := by decide +kernel
theorem dX8_addMark_12 : decode cX8_addMark 12 = .ok (.iload_n 2, 1) := by decide +kernel
theorem dX8_addMark_13 : decode cX8_addMark 13 = .ok (.iastore, 1) := by decide +kernel
theorem dX8_addMark_14 : decode cX8_addMark 14 = .ok (.aload_n 0, 1) := by decide +kernel
theorem dX8_addMark_15 : decode cX8_addMark 15 = .ok (.getfield 15, 3) := by decide +kernel
theorem dX8_addMark_18 : decode cX8_addMark 18 = .ok (.iload_n 1, 1) := by decide +kernel
theorem dX8_addMark_19 : decode cX8_addMark 19 = .ok (.dup2, 1) := by decide +kernel
theorem dX8_addMark_20 : decode cX8_addMark 20 = .ok (.iaload, 1) := by decide +kernel
theorem dX8_addMark_21 : decode cX8_addMark 21 = .ok (.iconst 1, 1) := by decide +kernel
theorem dX8_addMark_22 : decode cX8_addMark 22 = .ok (.iadd, 1) := by decide +kernel
theorem dX8_addMark_23 : decode cX8_addMark 23 = .ok (.iastore, 1) := by decide +kernel
theorem dX8_addMark_24 : decode cX8_addMark 24 = .ok (.aload_n 0, 1) := by decide +kernel
theorem dX8_addMark_25 : decode cX8_addMark 25 = .ok (.getfield 15, 3) := by decide +kernel
theorem dX8_addMark_28 : decode cX8_addMark 28 = .ok (.iload_n 1, 1) := by decide +kernel
theorem dX8_addMark_29 : decode cX8_addMark 29 = .ok (.iaload, 1) := by decide +kernel
theorem dX8_addMark_30 : decode cX8_addMark 30 = .ok (.ireturn, 1) := by decide +kernel
theorem dX8_lead_0 : decode cX8_lead 0 = .ok (.iconst 0, 1) := by decide +kernel
theorem dX8_lead_1 : decode cX8_lead 1 = .ok (.istore_n 3, 1) := by decide +kernel
theorem dX8_lead_2 : decode cX8_lead 2 = .ok (.iconst 0, 1) := by decide +kernel
theorem dX8_lead_3 : decode cX8_lead 3 = .ok (.istore 4, 2) := by decide +kernel
theorem dX8_lead_5 : decode cX8_lead 5 = .ok (.iconst 0, 1) := by decide +kernel
theorem dX8_lead_6 : decode cX8_lead 6 = .ok (.istore 5, 2) := by decide +kernel
theorem dX8_lead_8 : decode cX8_lead 8 = .ok (.iload 5, 2) := by decide +kernel
theorem dX8_lead_10 : decode cX8_lead 10 = .ok (.aload_n 0, 1) := by decide +kernel
theorem dX8_lead_11 : decode cX8_lead 11 = .ok (.getfield 15, 3) := by decide +kernel
theorem dX8_lead_14 : decode cX8_lead 14 = .ok (.iload_n 1, 1) := by decide +kernel
theorem dX8_lead_15 : decode cX8_lead 15 = .ok (.iaload, 1) := by decide +kernel
theorem dX8_lead_16 : decode cX8_lead 16 = .ok (.if_icmp .ge 68, 3) := by decide +kernel
theorem dX8_lead_19 : decode cX8_lead 19 = .ok (.iload 5, 2) := by decide +kernel
theorem dX8_lead_21 : decode cX8_lead 21 = .ok (.aload_n 0, 1) := by decide +kernel
theorem dX8_lead_22 : decode cX8_lead 22 = .ok (.getfield 15, 3) := by decide +kernel
theorem dX8_lead_25 : decode cX8_lead 25 = .ok (.iload_n 2, 1) := by decide +kernel
theorem dX8_lead_26 : decode cX8_lead 26 = .ok (.iaload, 1) := by decide +kernel
theorem dX8_lead_27 : decode cX8_lead 27 = .ok (.if_icmp .ge 57, 3) := by decide +kernel
theorem dX8_lead_30 : decode cX8_lead 30 = .ok (.iload_n 3, 1) := by decide +kernel
theorem dX8_lead_31 : decode cX8_lead 31 = .ok (.aload_n 0, 1) := by decide +kernel
theorem dX8_lead_32 : decode cX8_lead 32 = .ok (.getfield 20, 3) := by decide +kernel
theorem dX8_lead_35 : decode cX8_lead 35 = .ok (.iload_n 1, 1) := by decide +kernel
theorem dX8_lead_36 : decode cX8_lead 36 = .ok (.aaload, 1) := by decide +kernel
theorem dX8_lead_37 : decode cX8_lead 37 = .ok (.iload 5, 2) := by decide +kernel
theorem dX8_lead_39 : decode cX8_lead 39 = .ok (.iaload, 1) := by decide +kernel
theorem dX8_lead_40 : decode cX8_lead 40 = .ok (.aload_n 0, 1) := by decide +kernel
theorem dX8_lead_41 : decode cX8_lead 41 = .ok (.getfield 20, 3) := by decide +kernel
theorem dX8_lead_44 : decode cX8_lead 44 = .ok (.iload_n 2, 1) := by decide +kernel
theorem dX8_lead_45 : decode cX8_lead 45 = .ok (.aaload, 1) := by decide +kernel
theorem dX8_lead_46 : decode cX8_lead 46 = .ok (.iload 5, 2) := by decide +kernel
theorem dX8_lead_48 : decode cX8_lead 48 = .ok (.iaload, 1) := by decide +kernel
theorem dX8_lead_49 : decode cX8_lead 49 = .ok (.invokestatic 27, 3) := by decide +kernel
theorem dX8_lead_52 : decode cX8_lead 52 = .ok (.iadd, 1) := by decide +kernel
theorem dX8_lead_53 : decode cX8_lead 53 = .ok (.istore_n 3, 1) := by decide +kernel
theorem dX8_lead_54 : decode cX8_lead 54 = .ok (.iload 4, 2) := by decide +kernel
theorem dX8_lead_56 : decode cX8_lead 56 = .ok (.aload_n 0, 1) := by decide +kernel
theorem dX8_lead_57 : decode cX8_lead 57 = .ok (.getfield 20, 3) := by decide +kernel
theorem dX8_lead_60 : decode cX8_lead 60 = .ok (.iload_n 1, 1) := by decide +kernel
theorem dX8_lead_61 : decode cX8_lead 61 = .ok (.aaload, 1) := by decide +kernel
theorem dX8_lead_62 : decode cX8_lead 62 = .ok (.iload 5, 2) := by decide +kernel
theorem dX8_lead_64 : decode cX8_lead 64 = .ok (.iaload, 1) := by decide +kernel
theorem dX8_lead_65 : decode cX8_lead 65 = .ok (.aload_n 0, 1) := by decide +kernel
theorem dX8_lead_66 : decode cX8_lead 66 = .ok (.getfield 20, 3) := by decide +kernel
theorem dX8_lead_69 : decode cX8_lead 69 = .ok (.iload_n 2, 1) := by decide +kernel
theorem dX8_lead_70 : decode cX8_lead 70 = .ok (.aaload, 1) := by decide +kernel
theorem dX8_lead_71 : decode cX8_lead 71 = .ok (.iload 5, 2) := by decide +kernel
theorem dX8_lead_73 : decode cX8_lead 73 = .ok (.iaload, 1) := by decide +kernel
theorem dX8_lead_74 : decode cX8_lead 74 = .ok (.isub, 1) := by decide +kernel
theorem dX8_lead_75 : decode cX8_lead 75 = .ok (.iadd, 1) := by decide +kernel
theorem dX8_lead_76 : decode cX8_lead 76 = .ok (.istore 4, 2) := by decide +kernel
theorem dX8_lead_78 : decode cX8_lead 78 = .ok (.iinc 5 1, 3) := by decide +kernel
theorem dX8_lead_81 : decode cX8_lead 81 = .ok (.goto (-73), 3) := by decide +kernel
theorem dX8_lead_84 : decode cX8_lead 84 = .ok (.iload_n 3, 1) := by decide +kernel
theorem dX8_lead_85 : decode cX8_lead 85 = .ok (.ifCond .eq 7, 3) := by decide +kernel
theorem dX8_lead_88 : decode cX8_lead 88 = .ok (.iload_n 3, 1) := by decide +kernel
theorem dX8_lead_89 : decode cX8_lead 89 = .ok (.goto 5, 3) := by decide +kernel
theorem dX8_lead_92 : decode cX8_lead 92 = .ok (.iload 4, 2) := by decide +kernel
theorem dX8_lead_94 : decode cX8_lead 94 = .ok (.ireturn, 1) := by decide +kernel
theorem dX8_seated_0 : decode cX8_seated 0 = .ok (.iconst 0, 1) := by decide +kernel
theorem dX8_seated_1 : decode cX8_seated 1 = .ok (.istore_n 1, 1) := by decide +kernel
theorem dX8_seated_2 : decode cX8_seated 2 = .ok (.iload_n 1, 1) := by decide +kernel
theorem dX8_seated_3 : decode cX8_seated 3 = .ok (.aload_n 0, 1) := by decide +kernel
theorem dX8_seated_4 : decode cX8_seated 4 = .ok (.getfield 23, 3) := by decide +kernel
theorem dX8_seated_7 : decode cX8_seated 7 = .ok (.if_icmp .ge 24, 3) := by decide +kernel
theorem dX8_seated_10 : decode cX8_seated 10 = .ok (.aload_n 0, 1) := by decide +kernel
theorem dX8_seated_11 : decode cX8_seated 11 = .ok (.iload_n 1, 1) := by decide +kernel
theorem dX8_seated_12 : decode cX8_seated 12 = .ok (.invokevirtual 33, 3) := by decide +kernel
theorem dX8_seated_15 : decode cX8_seated 15 = .ok (.ifCond .eq 10, 3) := by decide +kernel
theorem dX8_seated_18 : decode cX8_seated 18 = .ok (.aload_n 0, 1) := by decide +kernel
theorem dX8_seated_19 : decode cX8_seated 19 = .ok (.getfield 11, 3) := by decide +kernel
theorem dX8_seated_22 : decode cX8_seated 22 = .ok (.iload_n 1, 1) := by decide +kernel
theorem dX8_seated_23 : decode cX8_seated 23 = .ok (.iaload, 1) := by decide +kernel
theorem dX8_seated_24 : decode cX8_seated 24 = .ok (.ireturn, 1) := by decide +kernel
theorem dX8_seated_25 : decode cX8_seated 25 = .ok (.iinc 1 1, 3) := by decide +kernel
theorem dX8_seated_28 : decode cX8_seated 28 = .ok (.goto (-26), 3) := by decide +kernel
theorem dX8_seated_31 : decode cX8_seated 31 = .ok (.iconst (-1), 1) := by decide +kernel
theorem dX8_seated_32 : decode cX8_seated 32 = .ok (.ireturn, 1) := by decide +kernel
theorem dX8_leadsAll_0 : decode cX8_leadsAll 0 = .ok (.iconst 0, 1) := by decide +kernel
theorem dX8_leadsAll_1 : decode cX8_leadsAll 1 = .ok (.istore_n 2, 1) := by decide +kernel
theorem dX8_leadsAll_2 : decode cX8_leadsAll 2 = .ok (.iload_n 2, 1) := by decide +kernel
theorem dX8_leadsAll_3 : decode cX8_leadsAll 3 = .ok (.aload_n 0, 1) := by decide +kernel
theorem dX8_leadsAll_4 : decode cX8_leadsAll 4 = .ok (.getfield 23, 3) := by decide +kernel
theorem dX8_leadsAll_7 : decode cX8_leadsAll 7 = .ok (.if_icmp .ge 25, 3) := by decide +kernel
theorem dX8_leadsAll_10 : decode cX8_leadsAll 10 = .ok (.iload_n 2, 1) := by decide +kernel
theorem dX8_leadsAll_11 : decode cX8_leadsAll 11 = .ok (.iload_n 1, 1) := by decide +kernel
theorem dX8_leadsAll_12 : decode cX8_leadsAll 12 = .ok (.if_icmp .eq 14, 3) := by decide +kernel
theorem dX8_leadsAll_15 : decode cX8_leadsAll 15 = .ok (.aload_n 0, 1) := by decide +kernel
theorem dX8_leadsAll_16 : decode cX8_leadsAll 16 = .ok (.iload_n 1, 1) := by decide +kernel
theorem dX8_leadsAll_17 : decode cX8_leadsAll 17 = .ok (.iload_n 2, 1) := by decide +kernel
theorem dX8_leadsAll_18 : decode cX8_leadsAll 18 = .ok (.invokevirtual 37, 3) := by decide +kernel
theorem dX8_leadsAll_21 : decode cX8_leadsAll 21 = .ok (.ifCond .gt 5, 3) := by decide +kernel
theorem dX8_leadsAll_24 : decode cX8_leadsAll 24 = .ok (.iconst 0, 1) := by decide +kernel
theorem dX8_leadsAll_25 : decode cX8_leadsAll 25 = .ok (.ireturn, 1) := by decide +kernel
theorem dX8_leadsAll_26 : decode cX8_leadsAll 26 = .ok (.iinc 2 1, 3) := by decide +kernel
theorem dX8_leadsAll_29 : decode cX8_leadsAll 29 = .ok (.goto (-27), 3) := by decide +kernel
theorem dX8_leadsAll_32 : decode cX8_leadsAll 32 = .ok (.iconst 1, 1) := by decide +kernel
theorem dX8_leadsAll_33 : decode cX8_leadsAll 33 = .ok (.ireturn, 1) := by decide +kernel
theorem dX9_player_0 : decode cX9_player 0 = .ok (.iload_n 1, 1) := by decide +kernel
theorem dX9_player_1 : decode cX9_player 1 = .ok (.iconst 0, 1) := by decide +kernel
theorem dX9_player_2 : decode cX9_player 2 = .ok (.sipush 511, 3) := by decide +kernel
theorem dX9_player_5 : decode cX9_player 5 = .ok (.invokestatic 73, 3) := by decide +kernel
theorem dX9_player_8 : decode cX9_player 8 = .ok (.ifCond .ne 6, 3) := by decide +kernel
theorem dX9_player_11 : decode cX9_player 11 = .ok (.bipush (-2), 2) := by decide +kernel
theorem dX9_player_13 : decode cX9_player 13 = .ok (.ireturn, 1) := by decide +kernel
theorem dX9_player_14 : decode cX9_player 14 = .ok (.aload_n 0, 1) := by decide +kernel
theorem dX9_player_15 : decode cX9_player 15 = .ok (.getfield 21, 3) := by decide +kernel
theorem dX9_player_18 : decode cX9_player 18 = .ok (.getfield 77, 3) := by decide +kernel
theorem dX9_player_21 : decode cX9_player 21 = .ok (.bipush 24, 2) := by decide +kernel
theorem dX9_player_23 : decode cX9_player 23 = .ok (.if_icmp .ge 14, 3) := by decide +kernel
theorem dX9_player_26 : decode cX9_player 26 = .ok (.aload_n 0, 1) := by decide +kernel
theorem dX9_player_27 : decode cX9_player 27 = .ok (.getfield 21, 3) := by decide +kernel
theorem dX9_player_30 : decode cX9_player 30 = .ok (.iload_n 1, 1) := by decide +kernel
theorem dX9_player_31 : decode cX9_player 31 = .ok (.invokevirtual 81, 3) := by decide +kernel
theorem dX9_player_34 : decode cX9_player 34 = .ok (.goto 5, 3) := by decide +kernel
theorem dX9_player_37 : decode cX9_player 37 = .ok (.bipush (-4), 2) := by decide +kernel
theorem dX9_player_39 : decode cX9_player 39 = .ok (.ireturn, 1) := by decide +kernel
theorem dX9_jurors_0 : decode cX9_jurors 0 = .ok (.iload_n 1, 1) := by decide +kernel
theorem dX9_jurors_1 : decode cX9_jurors 1 = .ok (.iconst 1, 1) := by decide +kernel
theorem dX9_jurors_2 : decode cX9_jurors 2 = .ok (.bipush 9, 2) := by decide +kernel
theorem dX9_jurors_4 : decode cX9_jurors 4 = .ok (.invokestatic 73, 3) := by decide +kernel
theorem dX9_jurors_7 : decode cX9_jurors 7 = .ok (.ifCond .ne 6, 3) := by decide +kernel
theorem dX9_jurors_10 : decode cX9_jurors 10 = .ok (.bipush (-2), 2) := by decide +kernel
theorem dX9_jurors_12 : decode cX9_jurors 12 = .ok (.ireturn, 1) := by decide +kernel
theorem dX9_jurors_13 : decode cX9_jurors 13 = .ok (.aload_n 0, 1) := by decide +kernel
theorem dX9_jurors_14 : decode cX9_jurors 14 = .ok (.getfield 21, 3) := by decide +kernel
theorem dX9_jurors_17 : decode cX9_jurors 17 = .ok (.getfield 85, 3) := by decide +kernel
theorem dX9_jurors_20 : decode cX9_jurors 20 = .ok (.istore_n 2, 1) := by decide +kernel
theorem dX9_jurors_21 : decode cX9_jurors 21 = .ok (.aload_n 0, 1) := by decide +kernel
theorem dX9_jurors_22 : decode cX9_jurors 22 = .ok (.getfield 21, 3) := by decide +kernel
theorem dX9_jurors_25 : decode cX9_jurors 25 = .ok (.iload_n 1, 1) := by decide +kernel
theorem dX9_jurors_26 : decode cX9_jurors 26 = .ok (.putfield 85, 3) := by decide +kernel
theorem dX9_jurors_29 : decode cX9_jurors 29 = .ok (.iload_n 2, 1) := by decide +kernel
theorem dX9_jurors_30 : decode cX9_jurors 30 = .ok (.ireturn, 1) := by decide +kernel
theorem dX9_draw_0 : decode cX9_draw 0 = .ok (.aload_n 0, 1) := by decide +kernel
theorem dX9_draw_1 : decode cX9_draw 1 = .ok (.getfield 21, 3) := by decide +kernel
theorem dX9_draw_4 : decode cX9_draw 4 = .ok (.iload_n 1, 1) := by decide +kernel
theorem dX9_draw_5 : decode cX9_draw 5 = .ok (.invokevirtual 88, 3) := by decide +kernel
theorem dX9_draw_8 : decode cX9_draw 8 = .ok (.aload_n 0, 1) := by decide +kernel
theorem dX9_draw_9 : decode cX9_draw 9 = .ok (.getfield 21, 3) := by decide +kernel
theorem dX9_draw_12 : decode cX9_draw 12 = .ok (.getfield 77, 3) := by decide +kernel
theorem dX9_draw_15 : decode cX9_draw 15 = .ok (.ifCond .le 15, 3) := by decide +kernel
theorem dX9_draw_18 : decode cX9_draw 18 = .ok (.aload_n 0, 1) := by decide +kernel
theorem dX9_draw_19 : decode cX9_draw 19 = .ok (.getfield 21, 3) := by decide +kernel
theorem dX9_draw_22 : decode cX9_draw 22 = .ok (.getfield 92, 3) := by decide +kernel
theorem dX9_draw_25 : decode cX9_draw 25 = .ok (.iconst 0, 1) := by decide +kernel
theorem dX9_draw_26 : decode cX9_draw 26 = .ok (.iaload, 1) := by decide +kernel
theorem dX9_draw_27 : decode cX9_draw 27 = .ok (.goto 4, 3) := by decide +kernel
theorem dX9_draw_30 : decode cX9_draw 30 = .ok (.iconst (-1), 1) := by decide +kernel
theorem dX9_draw_31 : decode cX9_draw 31 = .ok (.ireturn, 1) := by decide +kernel
theorem dX9_order_0 : decode cX9_order 0 = .ok (.aload_n 0, 1) := by decide +kernel
theorem dX9_order_1 : decode cX9_order 1 = .ok (.iload_n 1, 1) := by decide +kernel
theorem dX9_order_2 : decode cX9_order 2 = .ok (.invokevirtual 95, 3) := by decide +kernel
theorem dX9_order_5 : decode cX9_order 5 = .ok (.ifCond .eq 15, 3) := by decide +kernel
theorem dX9_order_8 : decode cX9_order 8 = .ok (.aload_n 0, 1) := by decide +kernel
theorem dX9_order_9 : decode cX9_order 9 = .ok (.getfield 21, 3) := by decide +kernel
theorem dX9_order_12 : decode cX9_order 12 = .ok (.getfield 92, 3) := by decide +kernel
theorem dX9_order_15 : decode cX9_order 15 = .ok (.iload_n 1, 1) := by decide +kernel
theorem dX9_order_16 : decode cX9_order 16 = .ok (.iaload, 1) := by decide +kernel
theorem dX9_order_17 : decode cX9_order 17 = .ok (.goto 5, 3) := by decide +kernel
theorem dX9_order_20 : decode cX9_order 20 = .ok (.bipush (-2), 2) := by decide +kernel
theorem dX9_order_22 : decode cX9_order 22 = .ok (.ireturn, 1) := by decide +kernel
theorem dX9_votes_0 : decode cX9_votes 0 = .ok (.aload_n 0, 1) := by decide +kernel
theorem dX9_votes_1 : decode cX9_votes 1 = .ok (.iload_n 1, 1) := by decide +kernel
theorem dX9_votes_2 : decode cX9_votes 2 = .ok (.invokevirtual 95, 3) := by decide +kernel
theorem dX9_votes_5 : decode cX9_votes 5 = .ok (.ifCond .eq 19, 3) := by decide +kernel
theorem dX9_votes_8 : decode cX9_votes 8 = .ok (.iload_n 2, 1) := by decide +kernel
theorem dX9_votes_9 : decode cX9_votes 9 = .ok (.invokestatic 99, 3) := by decide +kernel
theorem dX9_votes_12 : decode cX9_votes 12 = .ok (.ifCond .eq 12, 3) := by decide +kernel
theorem dX9_votes_15 : decode cX9_votes 15 = .ok (.iload_n 3, 1) := by decide +kernel
theorem dX9_votes_16 : decode cX9_votes 16 = .ok (.iconst 0, 1) := by decide +kernel
theorem dX9_votes_17 : decode cX9_votes 17 = .ok (.iconst 1, 1) := by decide +kernel
theorem dX9_votes_18 : decode cX9_votes 18 = .ok (.invokestatic 73, 3) := by decide +kernel
theorem dX9_votes_21 : decode cX9_votes 21 = .ok (.ifCond .ne 6, 3) := by decide +kernel
theorem dX9_votes_24 : decode cX9_votes 24 = .ok (.bipush (-2), 2) := by decide +kernel
theorem dX9_votes_26 : decode cX9_votes 26 = .ok (.ireturn, 1) := by decide +kernel
theorem dX9_votes_27 : decode cX9_votes 27 = .ok (.iload_n 3, 1) := by decide +kernel
theorem dX9_votes_28 : decode cX9_votes 28 = .ok (.ifCond .ne 15, 3) := by decide +kernel
theorem dX9_votes_31 : decode cX9_votes 31 = .ok (.aload_n 0, 1) := by decide +kernel
theorem dX9_votes_32 : decode cX9_votes 32 = .ok (.getfield 21, 3) := by decide +kernel
theorem dX9_votes_35 : decode cX9_votes 35 = .ok (.iload_n 1, 1) := by decide +kernel
theorem dX9_votes_36 : decode cX9_votes 36 = .ok (.iload_n 2, 1) := by decide +kernel
theorem dX9_votes_37 : decode cX9_votes 37 = .ok (.invokevirtual 102, 3) := by decide +kernel
theorem dX9_votes_40 : decode cX9_votes 40 = .ok (.goto 12, 3) := by decide +kernel
theorem dX9_votes_43 : decode cX9_votes 43 = .ok (.aload_n 0, 1) := by decide +kernel
theorem dX9_votes_44 : decode cX9_votes 44 = .ok (.getfield 21, 3) := by decide +kernel
theorem dX9_votes_47 : decode cX9_votes 47 = .ok (.iload_n 1, 1) := by decide +kernel
theorem dX9_votes_48 : decode cX9_votes 48 = .ok (.iload_n 2, 1) := by decide +kernel
theorem dX9_votes_49 : decode cX9_votes 49 = .ok (.invokevirtual 106, 3) := by decide +kernel
theorem dX9_votes_52 : decode cX9_votes 52 = .ok (.ireturn, 1) := by decide +kernel
theorem dX9_type_0 : decode cX9_type 0 = .ok (.iload_n 1, 1) := by decide +kernel
theorem dX9_type_1 : decode cX9_type 1 = .ok (.iconst 0, 1) := by decide +kernel
theorem dX9_type_2 : decode cX9_type 2 = .ok (.sipush 255, 3) := by decide +kernel
theorem dX9_type_5 : decode cX9_type 5 = .ok (.invokestatic 73, 3) := by decide +kernel
theorem dX9_type_8 : decode cX9_type 8 = .ok (.ifCond .ne 6, 3) := by decide +kernel
theorem dX9_type_11 : decode cX9_type 11 = .ok (.bipush (-2), 2) := by decide +kernel
theorem dX9_type_13 : decode cX9_type 13 = .ok (.ireturn, 1) := by decide +kernel
theorem dX9_type_14 : decode cX9_type 14 = .ok (.aload_n 0, 1) := by decide +kernel
theorem dX9_type_15 : decode cX9_type 15 = .ok (.getfield 28, 3) := by decide +kernel
theorem dX9_type_18 : decode cX9_type 18 = .ok (.getfield 109, 3) := by decide +kernel
theorem dX9_type_21 : decode cX9_type 21 = .ok (.bipush 60, 2) := by decide +kernel
theorem dX9_type_23 : decode cX9_type 23 = .ok (.if_icmp .ge 14, 3) := by decide +kernel
theorem dX9_type_26 : decode cX9_type 26 = .ok (.aload_n 0, 1) := by decide +kernel
theorem dX9_type_27 : decode cX9_type 27 = .ok (.getfield 28, 3) := by decide +kernel
theorem dX9_type_30 : decode cX9_type 30 = .ok (.iload_n 1, 1) := by decide +kernel
theorem dX9_type_31 : decode cX9_type 31 = .ok (.invokevirtual 112, 3) := by decide +kernel
theorem dX9_type_34 : decode cX9_type 34 = .ok (.goto 5, 3) := by decide +kernel
theorem dX9_type_37 : decode cX9_type 37 = .ok (.bipush (-4), 2) := by decide +kernel
theorem dX9_type_39 : decode cX9_type 39 = .ok (.ireturn, 1) := by decide +kernel
theorem dX9_repeal_0 : decode cX9_repeal 0 = .ok (.aload_n 0, 1) := by decide +kernel
theorem dX9_repeal_1 : decode cX9_repeal 1 = .ok (.getfield 28, 3) := by decide +kernel
theorem dX9_repeal_4 : decode cX9_repeal 4 = .ok (.invokevirtual 115, 3) := by decide +kernel
theorem dX9_repeal_7 : decode cX9_repeal 7 = .ok (.ireturn, 1) := by decide +kernel
theorem dX9_fault_0 : decode cX9_fault 0 = .ok (.aload_n 0, 1) := by decide +kernel
theorem dX9_fault_1 : decode cX9_fault 1 = .ok (.getfield 28, 3) := by decide +kernel
theorem dX9_fault_4 : decode cX9_fault 4 = .ok (.getfield 119, 3) := by decide +kernel
theorem dX9_fault_7 : decode cX9_fault 7 = .ok (.ireturn, 1) := by decide +kernel
theorem dX9_law_0 : decode cX9_law 0 = .ok (.iload_n 2, 1) := by decide +kernel
theorem dX9_law_1 : decode cX9_law 1 = .ok (.iconst 0, 1) := by decide +kernel
theorem dX9_law_2 : decode cX9_law 2 = .ok (.iconst 2, 1) := by decide +kernel
theorem dX9_law_3 : decode cX9_law 3 = .ok (.invokestatic 73, 3) := by decide +kernel
theorem dX9_law_6 : decode cX9_law 6 = .ok (.ifCond .ne 6, 3) := by decide +kernel
theorem dX9_law_9 : decode cX9_law 9 = .ok (.bipush (-2), 2) := by decide +kernel
theorem dX9_law_11 : decode cX9_law 11 = .ok (.ireturn, 1) := by decide +kernel
theorem dX9_law_12 : decode cX9_law 12 = .ok (.aload_n 0, 1) := by decide +kernel
theorem dX9_law_13 : decode cX9_law 13 = .ok (.iload_n 1, 1) := by decide +kernel
theorem dX9_law_14 : decode cX9_law 14 = .ok (.invokevirtual 122, 3) := by decide +kernel
theorem dX9_law_17 : decode cX9_law 17 = .ok (.istore_n 3, 1) := by decide +kernel
theorem dX9_law_18 : decode cX9_law 18 = .ok (.iload_n 3, 1) := by decide +kernel
theorem dX9_law_19 : decode cX9_law 19 = .ok (.ifCond .eq 5, 3) := by decide +kernel
theorem dX9_law_22 : decode cX9_law 22 = .ok (.iload_n 3, 1) := by decide +kernel
theorem dX9_law_23 : decode cX9_law 23 = .ok (.ireturn, 1) := by decide +kernel
theorem dX9_law_24 : decode cX9_law 24 = .ok (.iload_n 2, 1) := by decide +kernel
theorem dX9_law_25 : decode cX9_law 25 = .ok (.ifCond .ne 13, 3) := by decide +kernel
theorem dX9_law_28 : decode cX9_law 28 = .ok (.aload_n 0, 1) := by decide +kernel
theorem dX9_law_29 : decode cX9_law 29 = .ok (.getfield 28, 3) := by decide +kernel
theorem dX9_law_32 : decode cX9_law 32 = .ok (.getfield 125, 3) := by decide +kernel
theorem dX9_law_35 : decode cX9_law 35 = .ok (.iload_n 1, 1) := by decide +kernel
theorem dX9_law_36 : decode cX9_law 36 = .ok (.iaload, 1) := by decide +kernel
theorem dX9_law_37 : decode cX9_law 37 = .ok (.ireturn, 1) := by decide +kernel
theorem dX9_law_38 : decode cX9_law 38 = .ok (.iload_n 2, 1) := by decide +kernel
theorem dX9_law_39 : decode cX9_law 39 = .ok (.iconst 1, 1) := by decide +kernel
theorem dX9_law_40 : decode cX9_law 40 = .ok (.if_icmp .ne 15, 3) := by decide +kernel
theorem dX9_law_43 : decode cX9_law 43 = .ok (.aload_n 0, 1) := by decide +kernel
theorem dX9_law_44 : decode cX9_law 44 = .ok (.getfield 28, 3) := by decide +kernel
theorem dX9_law_47 : decode cX9_law 47 = .ok (.getfield 128, 3) := by decide +kernel
theorem dX9_law_50 : decode cX9_law 50 = .ok (.iload_n 1, 1) := by decide +kernel
theorem dX9_law_51 : decode cX9_law 51 = .ok (.iaload, 1) := by decide +kernel
theorem dX9_law_52 : decode cX9_law 52 = .ok (.goto 12, 3) := by decide +kernel
theorem dX9_law_55 : decode cX9_law 55 = .ok (.aload_n 0, 1) := by decide +kernel
theorem dX9_law_56 : decode cX9_law 56 = .ok (.getfield 28, 3) := by decide +kernel
theorem dX9_law_59 : decode cX9_law 59 = .ok (.getfield 131, 3) := by decide +kernel
theorem dX9_law_62 : decode cX9_law 62 = .ok (.iload_n 1, 1) := by decide +kernel
theorem dX9_law_63 : decode cX9_law 63 = .ok (.iaload, 1) := by decide +kernel
theorem dX9_law_64 : decode cX9_law 64 = .ok (.ireturn, 1) := by decide +kernel
theorem dX9_advance_0 : decode cX9_advance 0 = .ok (.aload_n 0, 1) := by decide +kernel
theorem dX9_advance_1 : decode cX9_advance 1 = .ok (.iload_n 1, 1) := by decide +kernel
theorem dX9_advance_2 : decode cX9_advance 2 = .ok (.invokevirtual 122, 3) := by decide +kernel
theorem dX9_advance_5 : decode cX9_advance 5 = .ok (.istore_n 2, 1) := by decide +kernel
theorem dX9_advance_6 : decode cX9_advance 6 = .ok (.iload_n 2, 1) := by decide +kernel
theorem dX9_advance_7 : decode cX9_advance 7 = .ok (.ifCond .ne 17, 3) := by decide +kernel
theorem dX9_advance_10 : decode cX9_advance 10 = .ok (.aload_n 0, 1) := by decide +kernel
theorem dX9_advance_11 : decode cX9_advance 11 = .ok (.getfield 37, 3) := by decide +kernel
theorem dX9_advance_14 : decode cX9_advance 14 = .ok (.iload_n 1, 1) := by decide +kernel
theorem dX9_advance_15 : decode cX9_advance 15 = .ok (.invokevirtual 134, 3) := by decide +kernel
theorem dX9_advance_18 : decode cX9_advance 18 = .ok (.invokestatic 137, 3) := by decide +kernel
theorem dX9_advance_21 : decode cX9_advance 21 = .ok (.goto 4, 3) := by decide +kernel
theorem dX9_advance_24 : decode cX9_advance 24 = .ok (.iload_n 2, 1) := by decide +kernel
theorem dX9_advance_25 : decode cX9_advance 25 = .ok (.ireturn, 1) := by decide +kernel
theorem dX9_through_0 : decode cX9_through 0 = .ok (.aload_n 0, 1) := by decide +kernel
theorem dX9_through_1 : decode cX9_through 1 = .ok (.iload_n 1, 1) := by decide +kernel
theorem dX9_through_2 : decode cX9_through 2 = .ok (.invokevirtual 122, 3) := by decide +kernel
theorem dX9_through_5 : decode cX9_through 5 = .ok (.istore_n 2, 1) := by decide +kernel
theorem dX9_through_6 : decode cX9_through 6 = .ok (.iload_n 2, 1) := by decide +kernel
theorem dX9_through_7 : decode cX9_through 7 = .ok (.ifCond .ne 14, 3) := by decide +kernel
theorem dX9_through_10 : decode cX9_through 10 = .ok (.aload_n 0, 1) := by decide +kernel
theorem dX9_through_11 : decode cX9_through 11 = .ok (.getfield 37, 3) := by decide +kernel
theorem dX9_through_14 : decode cX9_through 14 = .ok (.iload_n 1, 1) := by decide +kernel
theorem dX9_through_15 : decode cX9_through 15 = .ok (.invokevirtual 134, 3) := by decide +kernel
theorem dX9_through_18 : decode cX9_through 18 = .ok (.goto 4, 3) := by decide +kernel
theorem dX9_through_21 : decode cX9_through 21 = .ok (.iload_n 2, 1) := by decide +kernel
theorem dX9_through_22 : decode cX9_through 22 = .ok (.ireturn, 1) := by decide +kernel
theorem dX9_chosen_0 : decode cX9_chosen 0 = .ok (.aload_n 0, 1) := by decide +kernel
theorem dX9_chosen_1 : decode cX9_chosen 1 = .ok (.getfield 28, 3) := by decide +kernel
theorem dX9_chosen_4 : decode cX9_chosen 4 = .ok (.getfield 142, 3) := by decide +kernel
theorem dX9_chosen_7 : decode cX9_chosen 7 = .ok (.ifCond .ne 6, 3) := by decide +kernel
theorem dX9_chosen_10 : decode cX9_chosen 10 = .ok (.bipush (-3), 2) := by decide +kernel
theorem dX9_chosen_12 : decode cX9_chosen 12 = .ok (.ireturn, 1) := by decide +kernel
theorem dX9_chosen_13 : decode cX9_chosen 13 = .ok (.aload_n 0, 1) := by decide +kernel
theorem dX9_chosen_14 : decode cX9_chosen 14 = .ok (.getfield 37, 3) := by decide +kernel
theorem dX9_chosen_17 : decode cX9_chosen 17 = .ok (.aload_n 0, 1) := by decide +kernel
theorem dX9_chosen_18 : decode cX9_chosen 18 = .ok (.getfield 28, 3) := by decide +kernel
theorem dX9_chosen_21 : decode cX9_chosen 21 = .ok (.getfield 142, 3) := by decide +kernel
theorem dX9_chosen_24 : decode cX9_chosen 24 = .ok (.iconst 1, 1) := by decide +kernel
theorem dX9_chosen_25 : decode cX9_chosen 25 = .ok (.isub, 1) := by decide +kernel
theorem dX9_chosen_26 : decode cX9_chosen 26 = .ok (.invokevirtual 134, 3) := by decide +kernel
theorem dX9_chosen_29 : decode cX9_chosen 29 = .ok (.istore_n 1, 1) := by decide +kernel
theorem dX9_chosen_30 : decode cX9_chosen 30 = .ok (.iconst 0, 1) := by decide +kernel
theorem dX9_chosen_31 : decode cX9_chosen 31 = .ok (.istore_n 2, 1) := by decide +kernel
theorem dX9_chosen_32 : decode cX9_chosen 32 = .ok (.iload_n 2, 1) := by decide +kernel
theorem dX9_chosen_33 : decode cX9_chosen 33 = .ok (.aload_n 0, 1) := by decide +kernel
theorem dX9_chosen_34 : decode cX9_chosen 34 = .ok (.getfield 21, 3) := by decide +kernel
theorem dX9_chosen_37 : decode cX9_chosen 37 = .ok (.getfield 77, 3) := by decide +kernel
theorem dX9_chosen_40 : decode cX9_chosen 40 = .ok (.if_icmp .ge 18, 3) := by decide +kernel
theorem dX9_chosen_43 : decode cX9_chosen 43 = .ok (.iload_n 1, 1) := by decide +kernel
theorem dX9_chosen_44 : decode cX9_chosen 44 = .ok (.iconst 1, 1) := by decide +kernel
theorem dX9_chosen_45 : decode cX9_chosen 45 = .ok (.iload_n 2, 1) := by decide +kernel
theorem dX9_chosen_46 : decode cX9_chosen 46 = .ok (.ishl, 1) := by decide +kernel
theorem dX9_chosen_47 : decode cX9_chosen 47 = .ok (.if_icmp .ne 5, 3) := by decide +kernel
theorem dX9_chosen_50 : decode cX9_chosen 50 = .ok (.iload_n 2, 1) := by decide +kernel
theorem dX9_chosen_51 : decode cX9_chosen 51 = .ok (.ireturn, 1) := by decide +kernel
theorem dX9_chosen_52 : decode cX9_chosen 52 = .ok (.iinc 2 1, 3) := by decide +kernel
theorem dX9_chosen_55 : decode cX9_chosen 55 = .ok (.goto (-23), 3) := by decide +kernel
theorem dX9_chosen_58 : decode cX9_chosen 58 = .ok (.iconst (-1), 1) := by decide +kernel
theorem dX9_chosen_59 : decode cX9_chosen 59 = .ok (.ireturn, 1) := by decide +kernel
theorem dX9_other_0 : decode cX9_other 0 = .ok (.iload_n 1, 1) := by decide +kernel
theorem dX9_other_1 : decode cX9_other 1 = .ok (.iconst 1, 1) := by decide +kernel
theorem dX9_other_2 : decode cX9_other 2 = .ok (.iconst 3, 1) := by decide +kernel
theorem dX9_other_3 : decode cX9_other 3 = .ok (.invokestatic 73, 3) := by decide +kernel
theorem dX9_other_6 : decode cX9_other 6 = .ok (.ifCond .ne 6, 3) := by decide +kernel
theorem dX9_other_9 : decode cX9_other 9 = .ok (.bipush (-2), 2) := by decide +kernel
theorem dX9_other_11 : decode cX9_other 11 = .ok (.ireturn, 1) := by decide +kernel
theorem dX9_other_12 : decode cX9_other 12 = .ok (.iload_n 1, 1) := by decide +kernel
theorem dX9_other_13 : decode cX9_other 13 = .ok (.iconst 3, 1) := by decide +kernel
theorem dX9_other_14 : decode cX9_other 14 = .ok (.if_icmp .ne 11, 3) := by decide +kernel
theorem dX9_other_17 : decode cX9_other 17 = .ok (.aload_n 0, 1) := by decide +kernel
theorem dX9_other_18 : decode cX9_other 18 = .ok (.getfield 44, 3) := by decide +kernel
theorem dX9_other_21 : decode cX9_other 21 = .ok (.invokevirtual 145, 3) := by decide +kernel
theorem dX9_other_24 : decode cX9_other 24 = .ok (.ireturn, 1) := by decide +kernel
theorem dX9_other_25 : decode cX9_other 25 = .ok (.aload_n 0, 1) := by decide +kernel
theorem dX9_other_26 : decode cX9_other 26 = .ok (.getfield 28, 3) := by decide +kernel
theorem dX9_other_29 : decode cX9_other 29 = .ok (.getfield 142, 3) := by decide +kernel
theorem dX9_other_32 : decode cX9_other 32 = .ok (.ifCond .ne 6, 3) := by decide +kernel
theorem dX9_other_35 : decode cX9_other 35 = .ok (.bipush (-3), 2) := by decide +kernel
theorem dX9_other_37 : decode cX9_other 37 = .ok (.ireturn, 1) := by decide +kernel
theorem dX9_other_38 : decode cX9_other 38 = .ok (.iload_n 1, 1) := by decide +kernel
theorem dX9_other_39 : decode cX9_other 39 = .ok (.iconst 1, 1) := by decide +kernel
theorem dX9_other_40 : decode cX9_other 40 = .ok (.if_icmp .ne 13, 3) := by decide +kernel
theorem dX9_other_43 : decode cX9_other 43 = .ok (.aload_n 0, 1) := by decide +kernel
theorem dX9_other_44 : decode cX9_other 44 = .ok (.getfield 44, 3) := by decide +kernel
theorem dX9_other_47 : decode cX9_other 47 = .ok (.invokevirtual 148, 3) := by decide +kernel
theorem dX9_other_50 : decode cX9_other 50 = .ok (.goto 10, 3) := by decide +kernel
theorem dX9_other_53 : decode cX9_other 53 = .ok (.aload_n 0, 1) := by decide +kernel
theorem dX9_other_54 : decode cX9_other 54 = .ok (.getfield 44, 3) := by decide +kernel
theorem dX9_other_57 : decode cX9_other 57 = .ok (.invokevirtual 151, 3) := by decide +kernel
theorem dX9_other_60 : decode cX9_other 60 = .ok (.ireturn, 1) := by decide +kernel
theorem dX9_chance_0 : decode cX9_chance 0 = .ok (.aload_n 0, 1) := by decide +kernel
theorem dX9_chance_1 : decode cX9_chance 1 = .ok (.iload_n 1, 1) := by decide +kernel
theorem dX9_chance_2 : decode cX9_chance 2 = .ok (.invokevirtual 154, 3) := by decide +kernel
theorem dX9_chance_5 : decode cX9_chance 5 = .ok (.ifCond .eq 13, 3) := by decide +kernel
theorem dX9_chance_8 : decode cX9_chance 8 = .ok (.iload_n 2, 1) := by decide +kernel
theorem dX9_chance_9 : decode cX9_chance 9 = .ok (.iconst 0, 1) := by decide +kernel
theorem dX9_chance_10 : decode cX9_chance 10 = .ok (.bipush 100, 2) := by decide +kernel
theorem dX9_chance_12 : decode cX9_chance 12 = .ok (.invokestatic 73, 3) := by decide +kernel
theorem dX9_chance_15 : decode cX9_chance 15 = .ok (.ifCond .ne 6, 3) := by decide +kernel
theorem dX9_chance_18 : decode cX9_chance 18 = .ok (.bipush (-2), 2) := by decide +kernel
theorem dX9_chance_20 : decode cX9_chance 20 = .ok (.ireturn, 1) := by decide +kernel
theorem dX9_chance_21 : decode cX9_chance 21 = .ok (.aload_n 0, 1) := by decide +kernel
theorem dX9_chance_22 : decode cX9_chance 22 = .ok (.getfield 69, 3) := by decide +kernel
theorem dX9_chance_25 : decode cX9_chance 25 = .ok (.iload_n 1, 1) := by decide +kernel
theorem dX9_chance_26 : decode cX9_chance 26 = .ok (.iaload, 1) := by decide +kernel
theorem dX9_chance_27 : decode cX9_chance 27 = .ok (.istore_n 3, 1) := by decide +kernel
theorem dX9_chance_28 : decode cX9_chance 28 = .ok (.aload_n 0, 1) := by decide +kernel
theorem dX9_chance_29 : decode cX9_chance 29 = .ok (.getfield 69, 3) := by decide +kernel
theorem dX9_chance_32 : decode cX9_chance 32 = .ok (.iload_n 1, 1) := by decide +kernel
theorem dX9_chance_33 : decode cX9_chance 33 = .ok (.iload_n 2, 1) := by decide +kernel
theorem dX9_chance_34 : decode cX9_chance 34 = .ok (.iastore, 1) := by decide +kernel
theorem dX9_chance_35 : decode cX9_chance 35 = .ok (.iload_n 3, 1) := by decide +kernel
theorem dX9_chance_36 : decode cX9_chance 36 = .ok (.ireturn, 1) := by decide +kernel
theorem dX9_passes_0 : decode cX9_passes 0 = .ok (.aload_n 0, 1) := by decide +kernel
theorem dX9_passes_1 : decode cX9_passes 1 = .ok (.iload_n 1, 1) := by decide +kernel
theorem dX9_passes_2 : decode cX9_passes 2 = .ok (.invokevirtual 154, 3) := by decide +kernel
theorem dX9_passes_5 : decode cX9_passes 5 = .ok (.ifCond .eq 13, 3) := by decide +kernel
theorem dX9_passes_8 : decode cX9_passes 8 = .ok (.iload_n 2, 1) := by decide +kernel
theorem dX9_passes_9 : decode cX9_passes 9 = .ok (.iconst 1, 1) := by decide +kernel
theorem dX9_passes_10 : decode cX9_passes 10 = .ok (.bipush 100, 2) := by decide +kernel
theorem dX9_passes_12 : decode cX9_passes 12 = .ok (.invokestatic 73, 3) := by decide +kernel
theorem dX9_passes_15 : decode cX9_passes 15 = .ok (.ifCond .ne 6, 3) := by decide +kernel
theorem dX9_passes_18 : decode cX9_passes 18 = .ok (.bipush (-2), 2) := by decide +kernel
theorem dX9_passes_20 : decode cX9_passes 20 = .ok (.ireturn, 1) := by decide +kernel
theorem dX9_passes_21 : decode cX9_passes 21 = .ok (.aload_n 0, 1) := by decide +kernel
theorem dX9_passes_22 : decode cX9_passes 22 = .ok (.getfield 21, 3) := by decide +kernel
theorem dX9_passes_25 : decode cX9_passes 25 = .ok (.getfield 85, 3) := by decide +kernel
theorem dX9_passes_28 : decode cX9_passes 28 = .ok (.aload_n 0, 1) := by decide +kernel
theorem dX9_passes_29 : decode cX9_passes 29 = .ok (.getfield 69, 3) := by decide +kernel
theorem dX9_passes_32 : decode cX9_passes 32 = .ok (.iload_n 1, 1) := by decide +kernel
theorem dX9_passes_33 : decode cX9_passes 33 = .ok (.iaload, 1) := by decide +kernel
theorem dX9_passes_34 : decode cX9_passes 34 = .ok (.iload_n 2, 1) := by decide +kernel
theorem dX9_passes_35 : decode cX9_passes 35 = .ok (.invokestatic 157, 3) := by decide +kernel
theorem dX9_passes_38 : decode cX9_passes 38 = .ok (.ireturn, 1) := by decide +kernel
theorem dX9_all_0 : decode cX9_all 0 = .ok (.aload_n 0, 1) := by decide +kernel
theorem dX9_all_1 : decode cX9_all 1 = .ok (.iload_n 1, 1) := by decide +kernel
theorem dX9_all_2 : decode cX9_all 2 = .ok (.invokevirtual 154, 3) := by decide +kernel
theorem dX9_all_5 : decode cX9_all 5 = .ok (.ifCond .ne 6, 3) := by decide +kernel
theorem dX9_all_8 : decode cX9_all 8 = .ok (.bipush (-2), 2) := by decide +kernel
theorem dX9_all_10 : decode cX9_all 10 = .ok (.ireturn, 1) := by decide +kernel
theorem dX9_all_11 : decode cX9_all 11 = .ok (.aload_n 0, 1) := by decide +kernel
theorem dX9_all_12 : decode cX9_all 12 = .ok (.getfield 28, 3) := by decide +kernel
theorem dX9_all_15 : decode cX9_all 15 = .ok (.getfield 142, 3) := by decide +kernel
theorem dX9_all_18 : decode cX9_all 18 = .ok (.ifCond .ne 6, 3) := by decide +kernel
theorem dX9_all_21 : decode cX9_all 21 = .ok (.bipush (-3), 2) := by decide +kernel
theorem dX9_all_23 : decode cX9_all 23 = .ok (.ireturn, 1) := by decide +kernel
theorem dX9_all_24 : decode cX9_all 24 = .ok (.ldc2_w 163, 3) := by decide +kernel
theorem dX9_all_27 : decode cX9_all 27 = .ok (.lstore_n 2, 1) := by decide +kernel
theorem dX9_all_28 : decode cX9_all 28 = .ok (.iconst 0, 1) := by decide +kernel
theorem dX9_all_29 : decode cX9_all 29 = .ok (.istore 4, 2) := by decide +kernel
theorem dX9_all_31 : decode cX9_all 31 = .ok (.iload 4, 2) := by decide +kernel
theorem dX9_all_33 : decode cX9_all 33 = .ok (.aload_n 0, 1) := by decide +kernel
theorem dX9_all_34 : decode cX9_all 34 = .ok (.getfield 28, 3) := by decide +kernel
theorem dX9_all_37 : decode cX9_all 37 = .ok (.getfield 142, 3) := by decide +kernel
theorem dX9_all_40 : decode cX9_all 40 = .ok (.if_icmp .ge 43, 3) := by decide +kernel
theorem dX9_all_43 : decode cX9_all 43 = .ok (.lload_n 2, 1) := by decide +kernel
theorem dX9_all_44 : decode cX9_all 44 = .ok (.aload_n 0, 1) := by decide +kernel
theorem dX9_all_45 : decode cX9_all 45 = .ok (.getfield 21, 3) := by decide +kernel
theorem dX9_all_48 : decode cX9_all 48 = .ok (.getfield 85, 3) := by decide +kernel
theorem dX9_all_51 : decode cX9_all 51 = .ok (.aload_n 0, 1) := by decide +kernel
theorem dX9_all_52 : decode cX9_all 52 = .ok (.getfield 69, 3) := by decide +kernel
theorem dX9_all_55 : decode cX9_all 55 = .ok (.iload_n 1, 1) := by decide +kernel
theorem dX9_all_56 : decode cX9_all 56 = .ok (.iaload, 1) := by decide +kernel
theorem dX9_all_57 : decode cX9_all 57 = .ok (.aload_n 0, 1) := by decide +kernel
theorem dX9_all_58 : decode cX9_all 58 = .ok (.getfield 28, 3) := by decide +kernel
theorem dX9_all_61 : decode cX9_all 61 = .ok (.getfield 125, 3) := by decide +kernel
theorem dX9_all_64 : decode cX9_all 64 = .ok (.iload 4, 2) := by decide +kernel
theorem dX9_all_66 : decode cX9_all 66 = .ok (.iaload, 1) := by decide +kernel
theorem dX9_all_67 : decode cX9_all 67 = .ok (.invokestatic 157, 3) := by decide +kernel
theorem dX9_all_70 : decode cX9_all 70 = .ok (.i2l, 1) := by decide +kernel
theorem dX9_all_71 : decode cX9_all 71 = .ok (.lmul, 1) := by decide +kernel
theorem dX9_all_72 : decode cX9_all 72 = .ok (.ldc2_w 163, 3) := by decide +kernel
theorem dX9_all_75 : decode cX9_all 75 = .ok (.ldiv, 1) := by decide +kernel
theorem dX9_all_76 : decode cX9_all 76 = .ok (.lstore_n 2, 1) := by decide +kernel
theorem dX9_all_77 : decode cX9_all 77 = .ok (.iinc 4 1, 3) := by decide +kernel
theorem dX9_all_80 : decode cX9_all 80 = .ok (.goto (-49), 3) := by decide +kernel
theorem dX9_all_83 : decode cX9_all 83 = .ok (.lload_n 2, 1) := by decide +kernel
theorem dX9_all_84 : decode cX9_all 84 = .ok (.l2i, 1) := by decide +kernel
theorem dX9_all_85 : decode cX9_all 85 = .ok (.ireturn, 1) := by decide +kernel
theorem dX9_doubt_0 : decode cX9_doubt 0 = .ok (.iload_n 1, 1) := by decide +kernel
theorem dX9_doubt_1 : decode cX9_doubt 1 = .ok (.invokestatic 165, 3) := by decide +kernel
theorem dX9_doubt_4 : decode cX9_doubt 4 = .ok (.ifCond .eq 25, 3) := by decide +kernel
theorem dX9_doubt_7 : decode cX9_doubt 7 = .ok (.iload_n 2, 1) := by decide +kernel
theorem dX9_doubt_8 : decode cX9_doubt 8 = .ok (.invokestatic 165, 3) := by decide +kernel
theorem dX9_doubt_11 : decode cX9_doubt 11 = .ok (.ifCond .eq 18, 3) := by decide +kernel
theorem dX9_doubt_14 : decode cX9_doubt 14 = .ok (.iload_n 3, 1) := by decide +kernel
theorem dX9_doubt_15 : decode cX9_doubt 15 = .ok (.invokestatic 165, 3) := by decide +kernel
theorem dX9_doubt_18 : decode cX9_doubt 18 = .ok (.ifCond .eq 11, 3) := by decide +kernel
theorem dX9_doubt_21 : decode cX9_doubt 21 = .ok (.iload 4, 2) := by decide +kernel
theorem dX9_doubt_23 : decode cX9_doubt 23 = .ok (.invokestatic 165, 3) := by decide +kernel
theorem dX9_doubt_26 : decode cX9_doubt 26 = .ok (.ifCond .ne 6, 3) := by decide +kernel
theorem dX9_doubt_29 : decode cX9_doubt 29 = .ok (.bipush (-2), 2) := by decide +kernel
theorem dX9_doubt_31 : decode cX9_doubt 31 = .ok (.ireturn, 1) := by decide +kernel
theorem dX9_doubt_32 : decode cX9_doubt 32 = .ok (.iload_n 1, 1) := by decide +kernel
theorem dX9_doubt_33 : decode cX9_doubt 33 = .ok (.iload_n 2, 1) := by decide +kernel
theorem dX9_doubt_34 : decode cX9_doubt 34 = .ok (.iload_n 3, 1) := by decide +kernel
theorem dX9_doubt_35 : decode cX9_doubt 35 = .ok (.iload 4, 2) := by decide +kernel
theorem dX9_doubt_37 : decode cX9_doubt 37 = .ok (.invokestatic 168, 3) := by decide +kernel
theorem dX9_doubt_40 : decode cX9_doubt 40 = .ok (.ireturn, 1) := by decide +kernel
theorem dX9_morning_0 : decode cX9_morning 0 = .ok (.iload_n 2, 1) := by decide +kernel
theorem dX9_morning_1 : decode cX9_morning 1 = .ok (.iconst 0, 1) := by decide +kernel
theorem dX9_morning_2 : decode cX9_morning 2 = .ok (.iconst 4, 1) := by decide +kernel
theorem dX9_morning_3 : decode cX9_morning 3 = .ok (.invokestatic 73, 3) := by decide +kernel
theorem dX9_morning_6 : decode cX9_morning 6 = .ok (.ifCond .ne 6, 3) := by decide +kernel
theorem dX9_morning_9 : decode cX9_morning 9 = .ok (.bipush (-2), 2) := by decide +kernel
theorem dX9_morning_11 : decode cX9_morning 11 = .ok (.ireturn, 1) := by decide +kernel
theorem dX9_morning_12 : decode cX9_morning 12 = .ok (.aload_n 0, 1) := by decide +kernel
theorem dX9_morning_13 : decode cX9_morning 13 = .ok (.iload_n 1, 1) := by decide +kernel
theorem dX9_morning_14 : decode cX9_morning 14 = .ok (.invokevirtual 122, 3) := by decide +kernel
theorem dX9_morning_17 : decode cX9_morning 17 = .ok (.istore_n 3, 1) := by decide +kernel
theorem dX9_morning_18 : decode cX9_morning 18 = .ok (.iload_n 3, 1) := by decide +kernel
theorem dX9_morning_19 : decode cX9_morning 19 = .ok (.ifCond .ne 15, 3) := by decide +kernel
theorem dX9_morning_22 : decode cX9_morning 22 = .ok (.aload_n 0, 1) := by decide +kernel
theorem dX9_morning_23 : decode cX9_morning 23 = .ok (.getfield 51, 3) := by decide +kernel
theorem dX9_morning_26 : decode cX9_morning 26 = .ok (.iload_n 1, 1) := by decide +kernel
theorem dX9_morning_27 : decode cX9_morning 27 = .ok (.iload_n 2, 1) := by decide +kernel
theorem dX9_morning_28 : decode cX9_morning 28 = .ok (.invokevirtual 172, 3) := by decide +kernel
theorem dX9_morning_31 : decode cX9_morning 31 = .ok (.goto 4, 3) := by decide +kernel
theorem dX9_morning_34 : decode cX9_morning 34 = .ok (.iload_n 3, 1) := by decide +kernel
theorem dX9_morning_35 : decode cX9_morning 35 = .ok (.ireturn, 1) := by decide +kernel
theorem dX9_trial_0 : decode cX9_trial 0 = .ok (.aload_n 0, 1) := by decide +kernel
theorem dX9_trial_1 : decode cX9_trial 1 = .ok (.iload_n 1, 1) := by decide +kernel
theorem dX9_trial_2 : decode cX9_trial 2 = .ok (.invokevirtual 95, 3) := by decide +kernel
theorem dX9_trial_5 : decode cX9_trial 5 = .ok (.ifCond .ne 6, 3) := by decide +kernel
theorem dX9_trial_8 : decode cX9_trial 8 = .ok (.bipush (-2), 2) := by decide +kernel
theorem dX9_trial_10 : decode cX9_trial 10 = .ok (.ireturn, 1) := by decide +kernel
theorem dX9_trial_11 : decode cX9_trial 11 = .ok (.aload_n 0, 1) := by decide +kernel
theorem dX9_trial_12 : decode cX9_trial 12 = .ok (.getfield 58, 3) := by decide +kernel
theorem dX9_trial_15 : decode cX9_trial 15 = .ok (.iload_n 1, 1) := by decide +kernel
theorem dX9_trial_16 : decode cX9_trial 16 = .ok (.invokevirtual 175, 3) := by decide +kernel
theorem dX9_trial_19 : decode cX9_trial 19 = .ok (.ifCond .eq 6, 3) := by decide +kernel
theorem dX9_trial_22 : decode cX9_trial 22 = .ok (.bipush (-3), 2) := by decide +kernel
theorem dX9_trial_24 : decode cX9_trial 24 = .ok (.ireturn, 1) := by decide +kernel
theorem dX9_trial_25 : decode cX9_trial 25 = .ok (.aload_n 0, 1) := by decide +kernel
theorem dX9_trial_26 : decode cX9_trial 26 = .ok (.getfield 58, 3) := by decide +kernel
theorem dX9_trial_29 : decode cX9_trial 29 = .ok (.getfield 178, 3) := by decide +kernel
theorem dX9_trial_32 : decode cX9_trial 32 = .ok (.bipush 6, 2) := by decide +kernel
theorem dX9_trial_34 : decode cX9_trial 34 = .ok (.if_icmp .ge 14, 3) := by decide +kernel
theorem dX9_trial_37 : decode cX9_trial 37 = .ok (.aload_n 0, 1) := by decide +kernel
theorem dX9_trial_38 : decode cX9_trial 38 = .ok (.getfield 58, 3) := by decide +kernel
theorem dX9_trial_41 : decode cX9_trial 41 = .ok (.iload_n 1, 1) := by decide +kernel
theorem dX9_trial_42 : decode cX9_trial 42 = .ok (.invokevirtual 181, 3) := by decide +kernel
theorem dX9_trial_45 : decode cX9_trial 45 = .ok (.goto 5, 3) := by decide +kernel
theorem dX9_trial_48 : decode cX9_trial 48 = .ok (.bipush (-4), 2) := by decide +kernel
theorem dX9_trial_50 : decode cX9_trial 50 = .ok (.ireturn, 1) := by decide +kernel
theorem dX9_week_0 : decode cX9_week 0 = .ok (.aload_n 0, 1) := by decide +kernel
theorem dX9_week_1 : decode cX9_week 1 = .ok (.iload_n 1, 1) := by decide +kernel
theorem dX9_week_2 : decode cX9_week 2 = .ok (.invokevirtual 184, 3) := by decide +kernel
theorem dX9_week_5 : decode cX9_week 5 = .ok (.ifCond .eq 13, 3) := by decide +kernel
theorem dX9_week_8 : decode cX9_week 8 = .ok (.iload_n 2, 1) := by decide +kernel
theorem dX9_week_9 : decode cX9_week 9 = .ok (.iconst 0, 1) := by decide +kernel
theorem dX9_week_10 : decode cX9_week 10 = .ok (.bipush 20, 2) := by decide +kernel
theorem dX9_week_12 : decode cX9_week 12 = .ok (.invokestatic 73, 3) := by decide +kernel
theorem dX9_week_15 : decode cX9_week 15 = .ok (.ifCond .ne 6, 3) := by decide +kernel
theorem dX9_week_18 : decode cX9_week 18 = .ok (.bipush (-2), 2) := by decide +kernel
theorem dX9_week_20 : decode cX9_week 20 = .ok (.ireturn, 1) := by decide +kernel
theorem dX9_week_21 : decode cX9_week 21 = .ok (.aload_n 0, 1) := by decide +kernel
theorem dX9_week_22 : decode cX9_week 22 = .ok (.getfield 58, 3) := by decide +kernel
theorem dX9_week_25 : decode cX9_week 25 = .ok (.getfield 187, 3) := by decide +kernel
theorem dX9_week_28 : decode cX9_week 28 = .ok (.iload_n 1, 1) := by decide +kernel
theorem dX9_week_29 : decode cX9_week 29 = .ok (.iaload, 1) := by decide +kernel
theorem dX9_week_30 : decode cX9_week 30 = .ok (.bipush 10, 2) := by decide +kernel
theorem dX9_week_32 : decode cX9_week 32 = .ok (.if_icmp .ge 15, 3) := by decide +kernel
theorem dX9_week_35 : decode cX9_week 35 = .ok (.aload_n 0, 1) := by decide +kernel
theorem dX9_week_36 : decode cX9_week 36 = .ok (.getfield 58, 3) := by decide +kernel
theorem dX9_week_39 : decode cX9_week 39 = .ok (.iload_n 1, 1) := by decide +kernel
theorem dX9_week_40 : decode cX9_week 40 = .ok (.iload_n 2, 1) := by decide +kernel
theorem dX9_week_41 : decode cX9_week 41 = .ok (.invokevirtual 190, 3) := by decide +kernel
theorem dX9_week_44 : decode cX9_week 44 = .ok (.goto 5, 3) := by decide +kernel
theorem dX9_week_47 : decode cX9_week 47 = .ok (.bipush (-4), 2) := by decide +kernel
theorem dX9_week_49 : decode cX9_week 49 = .ok (.ireturn, 1) := by decide +kernel
theorem dX9_better_0 : decode cX9_better 0 = .ok (.aload_n 0, 1) := by decide +kernel
theorem dX9_better_1 : decode cX9_better 1 = .ok (.iload_n 1, 1) := by decide +kernel
theorem dX9_better_2 : decode cX9_better 2 = .ok (.invokevirtual 184, 3) := by decide +kernel
theorem dX9_better_5 : decode cX9_better 5 = .ok (.ifCond .eq 16, 3) := by decide +kernel
theorem dX9_better_8 : decode cX9_better 8 = .ok (.aload_n 0, 1) := by decide +kernel
theorem dX9_better_9 : decode cX9_better 9 = .ok (.iload_n 2, 1) := by decide +kernel
theorem dX9_better_10 : decode cX9_better 10 = .ok (.invokevirtual 184, 3) := by decide +kernel
theorem dX9_better_13 : decode cX9_better 13 = .ok (.ifCond .eq 8, 3) := by decide +kernel
theorem dX9_better_16 : decode cX9_better 16 = .ok (.iload_n 1, 1) := by decide +kernel
theorem dX9_better_17 : decode cX9_better 17 = .ok (.iload_n 2, 1) := by decide +kernel
theorem dX9_better_18 : decode cX9_better 18 = .ok (.if_icmp .ne 6, 3) := by decide +kernel
theorem dX9_better_21 : decode cX9_better 21 = .ok (.bipush (-2), 2) := by decide +kernel
theorem dX9_better_23 : decode cX9_better 23 = .ok (.ireturn, 1) := by decide +kernel
theorem dX9_better_24 : decode cX9_better 24 = .ok (.aload_n 0, 1) := by decide +kernel
theorem dX9_better_25 : decode cX9_better 25 = .ok (.getfield 58, 3) := by decide +kernel
theorem dX9_better_28 : decode cX9_better 28 = .ok (.iload_n 1, 1) := by decide +kernel
theorem dX9_better_29 : decode cX9_better 29 = .ok (.iload_n 2, 1) := by decide +kernel
theorem dX9_better_30 : decode cX9_better 30 = .ok (.invokevirtual 193, 3) := by decide +kernel
theorem dX9_better_33 : decode cX9_better 33 = .ok (.istore_n 3, 1) := by decide +kernel
theorem dX9_better_34 : decode cX9_better 34 = .ok (.iload_n 3, 1) := by decide +kernel
theorem dX9_better_35 : decode cX9_better 35 = .ok (.ifCond .ne 5, 3) := by decide +kernel
theorem dX9_better_38 : decode cX9_better 38 = .ok (.iconst (-1), 1) := by decide +kernel
theorem dX9_better_39 : decode cX9_better 39 = .ok (.ireturn, 1) := by decide +kernel
theorem dX9_better_40 : decode cX9_better 40 = .ok (.iload_n 3, 1) := by decide +kernel
theorem dX9_better_41 : decode cX9_better 41 = .ok (.ifCond .le 7, 3) := by decide +kernel
theorem dX9_better_44 : decode cX9_better 44 = .ok (.iconst 1, 1) := by decide +kernel
theorem dX9_better_45 : decode cX9_better 45 = .ok (.goto 4, 3) := by decide +kernel
theorem dX9_better_48 : decode cX9_better 48 = .ok (.iconst 0, 1) := by decide +kernel
theorem dX9_better_49 : decode cX9_better 49 = .ok (.ireturn, 1) := by decide +kernel
theorem dX9_seat_0 : decode cX9_seat 0 = .ok (.aload_n 0, 1) := by decide +kernel
theorem dX9_seat_1 : decode cX9_seat 1 = .ok (.getfield 58, 3) := by decide +kernel
theorem dX9_seat_4 : decode cX9_seat 4 = .ok (.invokevirtual 196, 3) := by decide +kernel
theorem dX9_seat_7 : decode cX9_seat 7 = .ok (.ireturn, 1) := by decide +kernel
theorem dX9_hear_0 : decode cX9_hear 0 = .ok (.iload_n 1, 1) := by decide +kernel
theorem dX9_hear_1 : decode cX9_hear 1 = .ok (.invokestatic 199, 3) := by decide +kernel
theorem dX9_hear_4 : decode cX9_hear 4 = .ok (.ifCond .eq 22, 3) := by decide +kernel
theorem dX9_hear_7 : decode cX9_hear 7 = .ok (.iload_n 2, 1) := by decide +kernel
theorem dX9_hear_8 : decode cX9_hear 8 = .ok (.iconst 0, 1) := by decide +kernel
theorem dX9_hear_9 : decode cX9_hear 9 = .ok (.bipush 99, 2) := by decide +kernel
theorem dX9_hear_11 : decode cX9_hear 11 = .ok (.invokestatic 73, 3) := by decide +kernel
theorem dX9_hear_14 : decode cX9_hear 14 = .ok (.ifCond .eq 12, 3) := by decide +kernel
theorem dX9_hear_17 : decode cX9_hear 17 = .ok (.iload_n 3, 1) := by decide +kernel
theorem dX9_hear_18 : decode cX9_hear 18 = .ok (.iconst 0, 1) := by decide +kernel
theorem dX9_hear_19 : decode cX9_hear 19 = .ok (.iconst 4, 1) := by decide +kernel
theorem dX9_hear_20 : decode cX9_hear 20 = .ok (.invokestatic 73, 3) := by decide +kernel
theorem dX9_hear_23 : decode cX9_hear 23 = .ok (.ifCond .ne 6, 3) := by decide +kernel
theorem dX9_hear_26 : decode cX9_hear 26 = .ok (.bipush (-2), 2) := by decide +kernel
theorem dX9_hear_28 : decode cX9_hear 28 = .ok (.ireturn, 1) := by decide +kernel
theorem dX9_hear_29 : decode cX9_hear 29 = .ok (.aload_n 0, 1) := by decide +kernel
theorem dX9_hear_30 : decode cX9_hear 30 = .ok (.getfield 65, 3) := by decide +kernel
theorem dX9_hear_33 : decode cX9_hear 33 = .ok (.getfield 202, 3) := by decide +kernel
theorem dX9_hear_36 : decode cX9_hear 36 = .ok (.bipush 60, 2) := by decide +kernel
theorem dX9_hear_38 : decode cX9_hear 38 = .ok (.if_icmp .ge 16, 3) := by decide +kernel
theorem dX9_hear_41 : decode cX9_hear 41 = .ok (.aload_n 0, 1) := by decide +kernel
theorem dX9_hear_42 : decode cX9_hear 42 = .ok (.getfield 65, 3) := by decide +kernel
theorem dX9_hear_45 : decode cX9_hear 45 = .ok (.iload_n 1, 1) := by decide +kernel
theorem dX9_hear_46 : decode cX9_hear 46 = .ok (.iload_n 2, 1) := by decide +kernel
theorem dX9_hear_47 : decode cX9_hear 47 = .ok (.iload_n 3, 1) := by decide +kernel
theorem dX9_hear_48 : decode cX9_hear 48 = .ok (.invokevirtual 205, 3) := by decide +kernel
theorem dX9_hear_51 : decode cX9_hear 51 = .ok (.goto 5, 3) := by decide +kernel
theorem dX9_hear_54 : decode cX9_hear 54 = .ok (.bipush (-4), 2) := by decide +kernel
theorem dX9_hear_56 : decode cX9_hear 56 = .ok (.ireturn, 1) := by decide +kernel
theorem dX9_known_0 : decode cX9_known 0 = .ok (.iload_n 1, 1) := by decide +kernel
theorem dX9_known_1 : decode cX9_known 1 = .ok (.invokestatic 199, 3) := by decide +kernel
theorem dX9_known_4 : decode cX9_known 4 = .ok (.ifCond .eq 12, 3) := by decide +kernel
theorem dX9_known_7 : decode cX9_known 7 = .ok (.iload_n 2, 1) := by decide +kernel
theorem dX9_known_8 : decode cX9_known 8 = .ok (.iconst 0, 1) := by decide +kernel
theorem dX9_known_9 : decode cX9_known 9 = .ok (.iconst 2, 1) := by decide +kernel
theorem dX9_known_10 : decode cX9_known 10 = .ok (.invokestatic 73, 3) := by decide +kernel
theorem dX9_known_13 : decode cX9_known 13 = .ok (.ifCond .ne 6, 3) := by decide +kernel
theorem dX9_known_16 : decode cX9_known 16 = .ok (.bipush (-2), 2) := by decide +kernel
theorem dX9_known_18 : decode cX9_known 18 = .ok (.ireturn, 1) := by decide +kernel
theorem dX9_known_19 : decode cX9_known 19 = .ok (.iload_n 2, 1) := by decide +kernel
theorem dX9_known_20 : decode cX9_known 20 = .ok (.ifCond .ne 12, 3) := by decide +kernel
theorem dX9_known_23 : decode cX9_known 23 = .ok (.aload_n 0, 1) := by decide +kernel
theorem dX9_known_24 : decode cX9_known 24 = .ok (.getfield 65, 3) := by decide +kernel
theorem dX9_known_27 : decode cX9_known 27 = .ok (.iload_n 1, 1) := by decide +kernel
theorem dX9_known_28 : decode cX9_known 28 = .ok (.invokevirtual 208, 3) := by decide +kernel
theorem dX9_known_31 : decode cX9_known 31 = .ok (.ireturn, 1) := by decide +kernel
theorem dX9_known_32 : decode cX9_known 32 = .ok (.aload_n 0, 1) := by decide +kernel
theorem dX9_known_33 : decode cX9_known 33 = .ok (.getfield 65, 3) := by decide +kernel
theorem dX9_known_36 : decode cX9_known 36 = .ok (.iload_n 1, 1) := by decide +kernel
theorem dX9_known_37 : decode cX9_known 37 = .ok (.iload_n 2, 1) := by decide +kernel
theorem dX9_known_38 : decode cX9_known 38 = .ok (.iconst 1, 1) := by decide +kernel
theorem dX9_known_39 : decode cX9_known 39 = .ok (.if_icmp .ne 13, 3) := by decide +kernel
theorem dX9_known_42 : decode cX9_known 42 = .ok (.aload_n 0, 1) := by decide +kernel
theorem dX9_known_43 : decode cX9_known 43 = .ok (.getfield 65, 3) := by decide +kernel
theorem dX9_known_46 : decode cX9_known 46 = .ok (.getfield 211, 3) := by decide +kernel
theorem dX9_known_49 : decode cX9_known 49 = .ok (.goto 10, 3) := by decide +kernel
theorem dX9_known_52 : decode cX9_known 52 = .ok (.aload_n 0, 1) := by decide +kernel
theorem dX9_known_53 : decode cX9_known 53 = .ok (.getfield 65, 3) := by decide +kernel
theorem dX9_known_56 : decode cX9_known 56 = .ok (.getfield 213, 3) := by decide +kernel
theorem dX9_known_59 : decode cX9_known 59 = .ok (.invokevirtual 216, 3) := by decide +kernel
theorem dX9_known_62 : decode cX9_known 62 = .ok (.ireturn, 1) := by decide +kernel
theorem dX9_sheet_0 : decode cX9_sheet 0 = .ok (.iload_n 1, 1) := by decide +kernel
theorem dX9_sheet_1 : decode cX9_sheet 1 = .ok (.invokestatic 220, 3) := by decide +kernel
theorem dX9_sheet_4 : decode cX9_sheet 4 = .ok (.ifCond .eq 17, 3) := by decide +kernel
theorem dX9_sheet_7 : decode cX9_sheet 7 = .ok (.iload_n 2, 1) := by decide +kernel
theorem dX9_sheet_8 : decode cX9_sheet 8 = .ok (.invokestatic 223, 3) := by decide +kernel
theorem dX9_sheet_11 : decode cX9_sheet 11 = .ok (.ifCond .eq 10, 3) := by decide +kernel
theorem dX9_sheet_14 : decode cX9_sheet 14 = .ok (.iload_n 3, 1) := by decide +kernel
theorem dX9_sheet_15 : decode cX9_sheet 15 = .ok (.sipush 240, 3) := by decide +kernel
theorem dX9_sheet_18 : decode cX9_sheet 18 = .ok (.if_icmp .le 6, 3) := by decide +kernel
theorem dX9_sheet_21 : decode cX9_sheet 21 = .ok (.bipush (-2), 2) := by decide +kernel
theorem dX9_sheet_23 : decode cX9_sheet 23 = .ok (.ireturn, 1) := by decide +kernel
theorem dX9_sheet_24 : decode cX9_sheet 24 = .ok (.iload_n 3, 1) := by decide +kernel
theorem dX9_sheet_25 : decode cX9_sheet 25 = .ok (.ifCond .ge 14, 3) := by decide +kernel
theorem dX9_sheet_28 : decode cX9_sheet 28 = .ok (.aload_n 0, 1) := by decide +kernel
theorem dX9_sheet_29 : decode cX9_sheet 29 = .ok (.getfield 10, 3) := by decide +kernel
theorem dX9_sheet_32 : decode cX9_sheet 32 = .ok (.iconst 5, 1) := by decide +kernel
theorem dX9_sheet_33 : decode cX9_sheet 33 = .ok (.invokevirtual 226, 3) := by decide +kernel
theorem dX9_sheet_36 : decode cX9_sheet 36 = .ok (.goto 13, 3) := by decide +kernel
theorem dX9_sheet_39 : decode cX9_sheet 39 = .ok (.aload_n 0, 1) := by decide +kernel
theorem dX9_sheet_40 : decode cX9_sheet 40 = .ok (.getfield 10, 3) := by decide +kernel
theorem dX9_sheet_43 : decode cX9_sheet 43 = .ok (.iload_n 1, 1) := by decide +kernel
theorem dX9_sheet_44 : decode cX9_sheet 44 = .ok (.iload_n 2, 1) := by decide +kernel
theorem dX9_sheet_45 : decode cX9_sheet 45 = .ok (.iload_n 3, 1) := by decide +kernel
theorem dX9_sheet_46 : decode cX9_sheet 46 = .ok (.invokevirtual 229, 3) := by decide +kernel
theorem dX9_sheet_49 : decode cX9_sheet 49 = .ok (.ireturn, 1) := by decide +kernel
theorem dX9_lose_0 : decode cX9_lose 0 = .ok (.iload_n 1, 1) := by decide +kernel
theorem dX9_lose_1 : decode cX9_lose 1 = .ok (.invokestatic 220, 3) := by decide +kernel
theorem dX9_lose_4 : decode cX9_lose 4 = .ok (.ifCond .ne 6, 3) := by decide +kernel
theorem dX9_lose_7 : decode cX9_lose 7 = .ok (.bipush (-2), 2) := by decide +kernel
theorem dX9_lose_9 : decode cX9_lose 9 = .ok (.ireturn, 1) := by decide +kernel
theorem dX9_lose_10 : decode cX9_lose 10 = .ok (.aload_n 0, 1) := by decide +kernel
theorem dX9_lose_11 : decode cX9_lose 11 = .ok (.getfield 10, 3) := by decide +kernel
theorem dX9_lose_14 : decode cX9_lose 14 = .ok (.iload_n 1, 1) := by decide +kernel
theorem dX9_lose_15 : decode cX9_lose 15 = .ok (.invokevirtual 232, 3) := by decide +kernel
theorem dX9_lose_18 : decode cX9_lose 18 = .ok (.ifCond .eq 14, 3) := by decide +kernel
theorem dX9_lose_21 : decode cX9_lose 21 = .ok (.aload_n 0, 1) := by decide +kernel
theorem dX9_lose_22 : decode cX9_lose 22 = .ok (.getfield 10, 3) := by decide +kernel
theorem dX9_lose_25 : decode cX9_lose 25 = .ok (.iconst 1, 1) := by decide +kernel
theorem dX9_lose_26 : decode cX9_lose 26 = .ok (.invokevirtual 226, 3) := by decide +kernel
theorem dX9_lose_29 : decode cX9_lose 29 = .ok (.goto 11, 3) := by decide +kernel
theorem dX9_lose_32 : decode cX9_lose 32 = .ok (.aload_n 0, 1) := by decide +kernel
theorem dX9_lose_33 : decode cX9_lose 33 = .ok (.getfield 10, 3) := by decide +kernel
theorem dX9_lose_36 : decode cX9_lose 36 = .ok (.iload_n 1, 1) := by decide +kernel
theorem dX9_lose_37 : decode cX9_lose 37 = .ok (.invokevirtual 235, 3) := by decide +kernel
theorem dX9_lose_40 : decode cX9_lose 40 = .ok (.ireturn, 1) := by decide +kernel
theorem dX9_put_0 : decode cX9_put 0 = .ok (.iload_n 1, 1) := by decide +kernel
theorem dX9_put_1 : decode cX9_put 1 = .ok (.invokestatic 220, 3) := by decide +kernel
theorem dX9_put_4 : decode cX9_put 4 = .ok (.ifCond .eq 10, 3) := by decide +kernel
theorem dX9_put_7 : decode cX9_put 7 = .ok (.iload_n 2, 1) := by decide +kernel
theorem dX9_put_8 : decode cX9_put 8 = .ok (.invokestatic 223, 3) := by decide +kernel
theorem dX9_put_11 : decode cX9_put 11 = .ok (.ifCond .ne 6, 3) := by decide +kernel
theorem dX9_put_14 : decode cX9_put 14 = .ok (.bipush (-2), 2) := by decide +kernel
theorem dX9_put_16 : decode cX9_put 16 = .ok (.ireturn, 1) := by decide +kernel
theorem dX9_put_17 : decode cX9_put 17 = .ok (.aload_n 0, 1) := by decide +kernel
theorem dX9_put_18 : decode cX9_put 18 = .ok (.getfield 10, 3) := by decide +kernel
theorem dX9_put_21 : decode cX9_put 21 = .ok (.iload_n 1, 1) := by decide +kernel
theorem dX9_put_22 : decode cX9_put 22 = .ok (.iload_n 2, 1) := by decide +kernel
theorem dX9_put_23 : decode cX9_put 23 = .ok (.iload_n 3, 1) := by decide +kernel
theorem dX9_put_24 : decode cX9_put 24 = .ok (.invokevirtual 238, 3) := by decide +kernel
theorem dX9_put_27 : decode cX9_put 27 = .ok (.istore 5, 2) := by decide +kernel
theorem dX9_put_29 : decode cX9_put 29 = .ok (.iload 5, 2) := by decide +kernel
theorem dX9_put_31 : decode cX9_put 31 = .ok (.ifCond .eq 13, 3) := by decide +kernel
theorem dX9_put_34 : decode cX9_put 34 = .ok (.aload_n 0, 1) := by decide +kernel
theorem dX9_put_35 : decode cX9_put 35 = .ok (.getfield 10, 3) := by decide +kernel
theorem dX9_put_38 : decode cX9_put 38 = .ok (.iload 5, 2) := by decide +kernel
theorem dX9_put_40 : decode cX9_put 40 = .ok (.invokevirtual 226, 3) := by decide +kernel
theorem dX9_put_43 : decode cX9_put 43 = .ok (.ireturn, 1) := by decide +kernel
theorem dX9_put_44 : decode cX9_put 44 = .ok (.aload_n 0, 1) := by decide +kernel
theorem dX9_put_45 : decode cX9_put 45 = .ok (.getfield 10, 3) := by decide +kernel
theorem dX9_put_48 : decode cX9_put 48 = .ok (.getfield 241, 3) := by decide +kernel
theorem dX9_put_51 : decode cX9_put 51 = .ok (.iload_n 1, 1) := by decide +kernel
theorem dX9_put_52 : decode cX9_put 52 = .ok (.aaload, 1) := by decide +kernel
theorem dX9_put_53 : decode cX9_put 53 = .ok (.iload_n 3, 1) := by decide +kernel
theorem dX9_put_54 : decode cX9_put 54 = .ok (.iload_n 2, 1) := by decide +kernel
theorem dX9_put_55 : decode cX9_put 55 = .ok (.iload 4, 2) := by decide +kernel
theorem dX9_put_57 : decode cX9_put 57 = .ok (.invokestatic 245, 3) := by decide +kernel
theorem dX9_put_60 : decode cX9_put 60 = .ok (.iastore, 1) := by decide +kernel
theorem dX9_put_61 : decode cX9_put 61 = .ok (.iconst 1, 1) := by decide +kernel
theorem dX9_put_62 : decode cX9_put 62 = .ok (.ireturn, 1) := by decide +kernel
theorem dX9_get_0 : decode cX9_get 0 = .ok (.iload_n 1, 1) := by decide +kernel
theorem dX9_get_1 : decode cX9_get 1 = .ok (.invokestatic 220, 3) := by decide +kernel
theorem dX9_get_4 : decode cX9_get 4 = .ok (.ifCond .eq 10, 3) := by decide +kernel
theorem dX9_get_7 : decode cX9_get 7 = .ok (.iload_n 2, 1) := by decide +kernel
theorem dX9_get_8 : decode cX9_get 8 = .ok (.invokestatic 223, 3) := by decide +kernel
theorem dX9_get_11 : decode cX9_get 11 = .ok (.ifCond .ne 6, 3) := by decide +kernel
theorem dX9_get_14 : decode cX9_get 14 = .ok (.ldc 248, 2) := by decide +kernel
theorem dX9_get_16 : decode cX9_get 16 = .ok (.ireturn, 1) := by decide +kernel
theorem dX9_get_17 : decode cX9_get 17 = .ok (.aload_n 0, 1) := by decide +kernel
theorem dX9_get_18 : decode cX9_get 18 = .ok (.getfield 10, 3) := by decide +kernel
theorem dX9_get_21 : decode cX9_get 21 = .ok (.iload_n 1, 1) := by decide +kernel
theorem dX9_get_22 : decode cX9_get 22 = .ok (.iload_n 2, 1) := by decide +kernel
theorem dX9_get_23 : decode cX9_get 23 = .ok (.iload_n 3, 1) := by decide +kernel
theorem dX9_get_24 : decode cX9_get 24 = .ok (.invokevirtual 238, 3) := by decide +kernel
theorem dX9_get_27 : decode cX9_get 27 = .ok (.istore 4, 2) := by decide +kernel
theorem dX9_get_29 : decode cX9_get 29 = .ok (.iload 4, 2) := by decide +kernel
theorem dX9_get_31 : decode cX9_get 31 = .ok (.ifCond .eq 16, 3) := by decide +kernel
theorem dX9_get_34 : decode cX9_get 34 = .ok (.aload_n 0, 1) := by decide +kernel
theorem dX9_get_35 : decode cX9_get 35 = .ok (.getfield 10, 3) := by decide +kernel
theorem dX9_get_38 : decode cX9_get 38 = .ok (.iload 4, 2) := by decide +kernel
theorem dX9_get_40 : decode cX9_get 40 = .ok (.invokevirtual 226, 3) := by decide +kernel
theorem dX9_get_43 : decode cX9_get 43 = .ok (.pop, 1) := by decide +kernel
theorem dX9_get_44 : decode cX9_get 44 = .ok (.ldc 248, 2) := by decide +kernel
theorem dX9_get_46 : decode cX9_get 46 = .ok (.ireturn, 1) := by decide +kernel
theorem dX9_get_47 : decode cX9_get 47 = .ok (.aload_n 0, 1) := by decide +kernel
theorem dX9_get_48 : decode cX9_get 48 = .ok (.getfield 10, 3) := by decide +kernel
theorem dX9_get_51 : decode cX9_get 51 = .ok (.getfield 241, 3) := by decide +kernel
theorem dX9_get_54 : decode cX9_get 54 = .ok (.iload_n 1, 1) := by decide +kernel
theorem dX9_get_55 : decode cX9_get 55 = .ok (.aaload, 1) := by decide +kernel
theorem dX9_get_56 : decode cX9_get 56 = .ok (.iload_n 3, 1) := by decide +kernel
theorem dX9_get_57 : decode cX9_get 57 = .ok (.iaload, 1) := by decide +kernel
theorem dX9_get_58 : decode cX9_get 58 = .ok (.ireturn, 1) := by decide +kernel
theorem dX9_copy_0 : decode cX9_copy 0 = .ok (.iload_n 1, 1) := by decide +kernel
theorem dX9_copy_1 : decode cX9_copy 1 = .ok (.invokestatic 220, 3) := by decide +kernel
theorem dX9_copy_4 : decode cX9_copy 4 = .ok (.ifCond .eq 10, 3) := by decide +kernel
theorem dX9_copy_7 : decode cX9_copy 7 = .ok (.iload_n 3, 1) := by decide +kernel
theorem dX9_copy_8 : decode cX9_copy 8 = .ok (.invokestatic 220, 3) := by decide +kernel
theorem dX9_copy_11 : decode cX9_copy 11 = .ok (.ifCond .ne 6, 3) := by decide +kernel
theorem dX9_copy_14 : decode cX9_copy 14 = .ok (.bipush (-2), 2) := by decide +kernel
theorem dX9_copy_16 : decode cX9_copy 16 = .ok (.ireturn, 1) := by decide +kernel
theorem dX9_copy_17 : decode cX9_copy 17 = .ok (.aload_n 0, 1) := by decide +kernel
theorem dX9_copy_18 : decode cX9_copy 18 = .ok (.getfield 10, 3) := by decide +kernel
theorem dX9_copy_21 : decode cX9_copy 21 = .ok (.iload_n 1, 1) := by decide +kernel
theorem dX9_copy_22 : decode cX9_copy 22 = .ok (.iload_n 3, 1) := by decide +kernel
theorem dX9_copy_23 : decode cX9_copy 23 = .ok (.invokevirtual 249, 3) := by decide +kernel
theorem dX9_copy_26 : decode cX9_copy 26 = .ok (.istore 6, 2) := by decide +kernel
theorem dX9_copy_28 : decode cX9_copy 28 = .ok (.iload 6, 2) := by decide +kernel
theorem dX9_copy_30 : decode cX9_copy 30 = .ok (.ifCond .ne 35, 3) := by decide +kernel
theorem dX9_copy_33 : decode cX9_copy 33 = .ok (.aload_n 0, 1) := by decide +kernel
theorem dX9_copy_34 : decode cX9_copy 34 = .ok (.getfield 10, 3) := by decide +kernel
theorem dX9_copy_37 : decode cX9_copy 37 = .ok (.iload_n 1, 1) := by decide +kernel
theorem dX9_copy_38 : decode cX9_copy 38 = .ok (.iload_n 2, 1) := by decide +kernel
theorem dX9_copy_39 : decode cX9_copy 39 = .ok (.iload 5, 2) := by decide +kernel
theorem dX9_copy_41 : decode cX9_copy 41 = .ok (.invokevirtual 252, 3) := by decide +kernel
theorem dX9_copy_44 : decode cX9_copy 44 = .ok (.ifCond .eq 18, 3) := by decide +kernel
theorem dX9_copy_47 : decode cX9_copy 47 = .ok (.aload_n 0, 1) := by decide +kernel
theorem dX9_copy_48 : decode cX9_copy 48 = .ok (.getfield 10, 3) := by decide +kernel
theorem dX9_copy_51 : decode cX9_copy 51 = .ok (.iload_n 3, 1) := by decide +kernel
theorem dX9_copy_52 : decode cX9_copy 52 = .ok (.iload 4, 2) := by decide +kernel
theorem dX9_copy_54 : decode cX9_copy 54 = .ok (.iload 5, 2) := by decide +kernel
theorem dX9_copy_56 : decode cX9_copy 56 = .ok (.invokevirtual 252, 3) := by decide +kernel
theorem dX9_copy_59 : decode cX9_copy 59 = .ok (.ifCond .ne 6, 3) := by decide +kernel
theorem dX9_copy_62 : decode cX9_copy 62 = .ok (.iconst 2, 1) := by decide +kernel
theorem dX9_copy_63 : decode cX9_copy 63 = .ok (.istore 6, 2) := by decide +kernel
theorem dX9_copy_65 : decode cX9_copy 65 = .ok (.iload 6, 2) := by decide +kernel
theorem dX9_copy_67 : decode cX9_copy 67 = .ok (.ifCond .eq 13, 3) := by decide +kernel
theorem dX9_copy_70 : decode cX9_copy 70 = .ok (.aload_n 0, 1) := by decide +kernel
theorem dX9_copy_71 : decode cX9_copy 71 = .ok (.getfield 10, 3) := by decide +kernel
theorem dX9_copy_74 : decode cX9_copy 74 = .ok (.iload 6, 2) := by decide +kernel
theorem dX9_copy_76 : decode cX9_copy 76 = .ok (.invokevirtual 226, 3) := by decide +kernel
theorem dX9_copy_79 : decode cX9_copy 79 = .ok (.ireturn, 1) := by decide +kernel
theorem dX9_copy_80 : decode cX9_copy 80 = .ok (.aload_n 0, 1) := by decide +kernel
theorem dX9_copy_81 : decode cX9_copy 81 = .ok (.getfield 10, 3) := by decide +kernel
theorem dX9_copy_84 : decode cX9_copy 84 = .ok (.getfield 241, 3) := by decide +kernel
theorem dX9_copy_87 : decode cX9_copy 87 = .ok (.iload_n 1, 1) := by decide +kernel
theorem dX9_copy_88 : decode cX9_copy 88 = .ok (.aaload, 1) := by decide +kernel
theorem dX9_copy_89 : decode cX9_copy 89 = .ok (.iload_n 2, 1) := by decide +kernel
theorem dX9_copy_90 : decode cX9_copy 90 = .ok (.aload_n 0, 1) := by decide +kernel
theorem dX9_copy_91 : decode cX9_copy 91 = .ok (.getfield 10, 3) := by decide +kernel
theorem dX9_copy_94 : decode cX9_copy 94 = .ok (.getfield 241, 3) := by decide +kernel
theorem dX9_copy_97 : decode cX9_copy 97 = .ok (.iload_n 3, 1) := by decide +kernel
theorem dX9_copy_98 : decode cX9_copy 98 = .ok (.aaload, 1) := by decide +kernel
theorem dX9_copy_99 : decode cX9_copy 99 = .ok (.iload 4, 2) := by decide +kernel
theorem dX9_copy_101 : decode cX9_copy 101 = .ok (.iload 5, 2) := by decide +kernel
theorem dX9_copy_103 : decode cX9_copy 103 = .ok (.invokestatic 255, 3) := by decide +kernel
theorem dX9_copy_106 : decode cX9_copy 106 = .ok (.iconst 1, 1) := by decide +kernel
theorem dX9_copy_107 : decode cX9_copy 107 = .ok (.ireturn, 1) := by decide +kernel
theorem dX9_count_0 : decode cX9_count 0 = .ok (.iload_n 1, 1) := by decide +kernel
theorem dX9_count_1 : decode cX9_count 1 = .ok (.tableswitch 99 0 6 #[43, 51, 59, 67, 75, 83, 91], 43) := by decide +kernel
theorem dX9_count_44 : decode cX9_count 44 = .ok (.aload_n 0, 1) := by decide +kernel
theorem dX9_count_45 : decode cX9_count 45 = .ok (.getfield 21, 3) := by decide +kernel
theorem dX9_count_48 : decode cX9_count 48 = .ok (.getfield 77, 3) := by decide +kernel
theorem dX9_count_51 : decode cX9_count 51 = .ok (.ireturn, 1) := by decide +kernel
theorem dX9_count_52 : decode cX9_count 52 = .ok (.aload_n 0, 1) := by decide +kernel
theorem dX9_count_53 : decode cX9_count 53 = .ok (.getfield 21, 3) := by decide +kernel
theorem dX9_count_56 : decode cX9_count 56 = .ok (.getfield 85, 3) := by decide +kernel
theorem dX9_count_59 : decode cX9_count 59 = .ok (.ireturn, 1) := by decide +kernel
theorem dX9_count_60 : decode cX9_count 60 = .ok (.aload_n 0, 1) := by decide +kernel
theorem dX9_count_61 : decode cX9_count 61 = .ok (.getfield 28, 3) := by decide +kernel
theorem dX9_count_64 : decode cX9_count 64 = .ok (.getfield 109, 3) := by decide +kernel
theorem dX9_count_67 : decode cX9_count 67 = .ok (.ireturn, 1) := by decide +kernel
theorem dX9_count_68 : decode cX9_count 68 = .ok (.aload_n 0, 1) := by decide +kernel
theorem dX9_count_69 : decode cX9_count 69 = .ok (.getfield 28, 3) := by decide +kernel
theorem dX9_count_72 : decode cX9_count 72 = .ok (.getfield 142, 3) := by decide +kernel
theorem dX9_count_75 : decode cX9_count 75 = .ok (.ireturn, 1) := by decide +kernel
theorem dX9_count_76 : decode cX9_count 76 = .ok (.aload_n 0, 1) := by decide +kernel
theorem dX9_count_77 : decode cX9_count 77 = .ok (.getfield 58, 3) := by decide +kernel
theorem dX9_count_80 : decode cX9_count 80 = .ok (.getfield 178, 3) := by decide +kernel
theorem dX9_count_83 : decode cX9_count 83 = .ok (.ireturn, 1) := by decide +kernel
theorem dX9_count_84 : decode cX9_count 84 = .ok (.aload_n 0, 1) := by decide +kernel
theorem dX9_count_85 : decode cX9_count 85 = .ok (.getfield 65, 3) := by decide +kernel
theorem dX9_count_88 : decode cX9_count 88 = .ok (.getfield 202, 3) := by decide +kernel
theorem dX9_count_91 : decode cX9_count 91 = .ok (.ireturn, 1) := by decide +kernel
theorem dX9_count_92 : decode cX9_count 92 = .ok (.aload_n 0, 1) := by decide +kernel
theorem dX9_count_93 : decode cX9_count 93 = .ok (.getfield 10, 3) := by decide +kernel
theorem dX9_count_96 : decode cX9_count 96 = .ok (.getfield 261, 3) := by decide +kernel
theorem dX9_count_99 : decode cX9_count 99 = .ok (.ireturn, 1) := by decide +kernel
theorem dX9_count_100 : decode cX9_count 100 = .ok (.bipush (-2), 2) := by decide +kernel
theorem dX9_count_102 : decode cX9_count 102 = .ok (.ireturn, 1) := by decide +kernel
theorem dX9_digest_0 : decode cX9_digest 0 = .ok (.ldc2_w 264, 3) := by decide +kernel
theorem dX9_digest_3 : decode cX9_digest 3 = .ok (.lstore_n 1, 1) := by decide +kernel
theorem dX9_digest_4 : decode cX9_digest 4 = .ok (.iconst 0, 1) := by decide +kernel
theorem dX9_digest_5 : decode cX9_digest 5 = .ok (.istore_n 3, 1) := by decide +kernel
theorem dX9_digest_6 : decode cX9_digest 6 = .ok (.iload_n 3, 1) := by decide +kernel
theorem dX9_digest_7 : decode cX9_digest 7 = .ok (.iconst 5, 1) := by decide +kernel
theorem dX9_digest_8 : decode cX9_digest 8 = .ok (.if_icmp .gt 22, 3) := by decide +kernel
theorem dX9_digest_11 : decode cX9_digest 11 = .ok (.ldc2_w 266, 3) := by decide +kernel
theorem dX9_digest_14 : decode cX9_digest 14 = .ok (.lload_n 1, 1) := by decide +kernel
theorem dX9_digest_15 : decode cX9_digest 15 = .ok (.lmul, 1) := by decide +kernel
theorem dX9_digest_16 : decode cX9_digest 16 = .ok (.aload_n 0, 1) := by decide +kernel
theorem dX9_digest_17 : decode cX9_digest 17 = .ok (.iload_n 3, 1) := by decide +kernel
theorem dX9_digest_18 : decode cX9_digest 18 = .ok (.invokevirtual 268, 3) := by decide +kernel
theorem dX9_digest_21 : decode cX9_digest 21 = .ok (.i2l, 1) := by decide +kernel
theorem dX9_digest_22 : decode cX9_digest 22 = .ok (.ladd, 1) := by decide +kernel
theorem dX9_digest_23 : decode cX9_digest 23 = .ok (.lstore_n 1, 1) := by decide +kernel
theorem dX9_digest_24 : decode cX9_digest 24 = .ok (.iinc 3 1, 3) := by decide +kernel
theorem dX9_digest_27 : decode cX9_digest 27 = .ok (.goto (-21), 3) := by decide +kernel
theorem dX9_digest_30 : decode cX9_digest 30 = .ok (.iconst 0, 1) := by decide +kernel
theorem dX9_digest_31 : decode cX9_digest 31 = .ok (.istore_n 3, 1) := by decide +kernel
theorem dX9_digest_32 : decode cX9_digest 32 = .ok (.iload_n 3, 1) := by decide +kernel
theorem dX9_digest_33 : decode cX9_digest 33 = .ok (.aload_n 0, 1) := by decide +kernel
theorem dX9_digest_34 : decode cX9_digest 34 = .ok (.getfield 21, 3) := by decide +kernel
theorem dX9_digest_37 : decode cX9_digest 37 = .ok (.getfield 77, 3) := by decide +kernel
theorem dX9_digest_40 : decode cX9_digest 40 = .ok (.if_icmp .ge 26, 3) := by decide +kernel
theorem dX9_digest_43 : decode cX9_digest 43 = .ok (.ldc2_w 266, 3) := by decide +kernel
theorem dX9_digest_46 : decode cX9_digest 46 = .ok (.lload_n 1, 1) := by decide +kernel
theorem dX9_digest_47 : decode cX9_digest 47 = .ok (.lmul, 1) := by decide +kernel
theorem dX9_digest_48 : decode cX9_digest 48 = .ok (.aload_n 0, 1) := by decide +kernel
theorem dX9_digest_49 : decode cX9_digest 49 = .ok (.getfield 21, 3) := by decide +kernel
theorem dX9_digest_52 : decode cX9_digest 52 = .ok (.getfield 92, 3) := by decide +kernel
theorem dX9_digest_55 : decode cX9_digest 55 = .ok (.iload_n 3, 1) := by decide +kernel
theorem dX9_digest_56 : decode cX9_digest 56 = .ok (.iaload, 1) := by decide +kernel
theorem dX9_digest_57 : decode cX9_digest 57 = .ok (.i2l, 1) := by decide +kernel
theorem dX9_digest_58 : decode cX9_digest 58 = .ok (.ladd, 1) := by decide +kernel
theorem dX9_digest_59 : decode cX9_digest 59 = .ok (.lstore_n 1, 1) := by decide +kernel
theorem dX9_digest_60 : decode cX9_digest 60 = .ok (.iinc 3 1, 3) := by decide +kernel
theorem dX9_digest_63 : decode cX9_digest 63 = .ok (.goto (-31), 3) := by decide +kernel
theorem dX9_digest_66 : decode cX9_digest 66 = .ok (.iconst 0, 1) := by decide +kernel
theorem dX9_digest_67 : decode cX9_digest 67 = .ok (.istore_n 3, 1) := by decide +kernel
theorem dX9_digest_68 : decode cX9_digest 68 = .ok (.iload_n 3, 1) := by decide +kernel
theorem dX9_digest_69 : decode cX9_digest 69 = .ok (.aload_n 0, 1) := by decide +kernel
theorem dX9_digest_70 : decode cX9_digest 70 = .ok (.getfield 21, 3) := by decide +kernel
theorem dX9_digest_73 : decode cX9_digest 73 = .ok (.getfield 77, 3) := by decide +kernel
theorem dX9_digest_76 : decode cX9_digest 76 = .ok (.if_icmp .ge 60, 3) := by decide +kernel
theorem dX9_digest_79 : decode cX9_digest 79 = .ok (.iconst 0, 1) := by decide +kernel
theorem dX9_digest_80 : decode cX9_digest 80 = .ok (.istore 4, 2) := by decide +kernel
theorem dX9_digest_82 : decode cX9_digest 82 = .ok (.iload 4, 2) := by decide +kernel
theorem dX9_digest_84 : decode cX9_digest 84 = .ok (.iconst 4, 1) := by decide +kernel
theorem dX9_digest_85 : decode cX9_digest 85 = .ok (.if_icmp .ge 45, 3) := by decide +kernel
theorem dX9_digest_88 : decode cX9_digest 88 = .ok (.ldc2_w 266, 3) := by decide +kernel
theorem dX9_digest_91 : decode cX9_digest 91 = .ok (.lload_n 1, 1) := by decide +kernel
theorem dX9_digest_92 : decode cX9_digest 92 = .ok (.lmul, 1) := by decide +kernel
theorem dX9_digest_93 : decode cX9_digest 93 = .ok (.aload_n 0, 1) := by decide +kernel
theorem dX9_digest_94 : decode cX9_digest 94 = .ok (.getfield 21, 3) := by decide +kernel
theorem dX9_digest_97 : decode cX9_digest 97 = .ok (.iload_n 3, 1) := by decide +kernel
theorem dX9_digest_98 : decode cX9_digest 98 = .ok (.iload 4, 2) := by decide +kernel
theorem dX9_digest_100 : decode cX9_digest 100 = .ok (.invokevirtual 102, 3) := by decide +kernel
theorem dX9_digest_103 : decode cX9_digest 103 = .ok (.i2l, 1) := by decide +kernel
theorem dX9_digest_104 : decode cX9_digest 104 = .ok (.ladd, 1) := by decide +kernel
theorem dX9_digest_105 : decode cX9_digest 105 = .ok (.lstore_n 1, 1) := by decide +kernel
theorem dX9_digest_106 : decode cX9_digest 106 = .ok (.ldc2_w 266, 3) := by decide +kernel
theorem dX9_digest_109 : decode cX9_digest 109 = .ok (.lload_n 1, 1) := by decide +kernel
theorem dX9_digest_110 : decode cX9_digest 110 = .ok (.lmul, 1) := by decide +kernel
theorem dX9_digest_111 : decode cX9_digest 111 = .ok (.aload_n 0, 1) := by decide +kernel
theorem dX9_digest_112 : decode cX9_digest 112 = .ok (.getfield 21, 3) := by decide +kernel
theorem dX9_digest_115 : decode cX9_digest 115 = .ok (.iload_n 3, 1) := by decide +kernel
theorem dX9_digest_116 : decode cX9_digest 116 = .ok (.iload 4, 2) := by decide +kernel
theorem dX9_digest_118 : decode cX9_digest 118 = .ok (.invokevirtual 106, 3) := by decide +kernel
theorem dX9_digest_121 : decode cX9_digest 121 = .ok (.i2l, 1) := by decide +kernel
theorem dX9_digest_122 : decode cX9_digest 122 = .ok (.ladd, 1) := by decide +kernel
theorem dX9_digest_123 : decode cX9_digest 123 = .ok (.lstore_n 1, 1) := by decide +kernel
theorem dX9_digest_124 : decode cX9_digest 124 = .ok (.iinc 4 1, 3) := by decide +kernel
theorem dX9_digest_127 : decode cX9_digest 127 = .ok (.goto (-45), 3) := by decide +kernel
theorem dX9_digest_130 : decode cX9_digest 130 = .ok (.iinc 3 1, 3) := by decide +kernel
theorem dX9_digest_133 : decode cX9_digest 133 = .ok (.goto (-65), 3) := by decide +kernel
theorem dX9_digest_136 : decode cX9_digest 136 = .ok (.ldc2_w 266, 3) := by decide +kernel
theorem dX9_digest_139 : decode cX9_digest 139 = .ok (.lload_n 1, 1) := by decide +kernel
theorem dX9_digest_140 : decode cX9_digest 140 = .ok (.lmul, 1) := by decide +kernel
theorem dX9_digest_141 : decode cX9_digest 141 = .ok (.aload_n 0, 1) := by decide +kernel
theorem dX9_digest_142 : decode cX9_digest 142 = .ok (.invokevirtual 271, 3) := by decide +kernel
theorem dX9_digest_145 : decode cX9_digest 145 = .ok (.i2l, 1) := by decide +kernel
theorem dX9_digest_146 : decode cX9_digest 146 = .ok (.ladd, 1) := by decide +kernel
theorem dX9_digest_147 : decode cX9_digest 147 = .ok (.lstore_n 1, 1) := by decide +kernel
theorem dX9_digest_148 : decode cX9_digest 148 = .ok (.ldc2_w 266, 3) := by decide +kernel
theorem dX9_digest_151 : decode cX9_digest 151 = .ok (.lload_n 1, 1) := by decide +kernel
theorem dX9_digest_152 : decode cX9_digest 152 = .ok (.lmul, 1) := by decide +kernel
theorem dX9_digest_153 : decode cX9_digest 153 = .ok (.aload_n 0, 1) := by decide +kernel
theorem dX9_digest_154 : decode cX9_digest 154 = .ok (.invokevirtual 274, 3) := by decide +kernel
theorem dX9_digest_157 : decode cX9_digest 157 = .ok (.i2l, 1) := by decide +kernel
theorem dX9_digest_158 : decode cX9_digest 158 = .ok (.ladd, 1) := by decide +kernel
theorem dX9_digest_159 : decode cX9_digest 159 = .ok (.lreturn, 1) := by decide +kernel
theorem dX9_within_0 : decode cX9_within 0 = .ok (.iload_n 0, 1) := by decide +kernel
theorem dX9_within_1 : decode cX9_within 1 = .ok (.iload_n 1, 1) := by decide +kernel
theorem dX9_within_2 : decode cX9_within 2 = .ok (.if_icmp .lt 12, 3) := by decide +kernel
theorem dX9_within_5 : decode cX9_within 5 = .ok (.iload_n 0, 1) := by decide +kernel
theorem dX9_within_6 : decode cX9_within 6 = .ok (.iload_n 2, 1) := by decide +kernel
theorem dX9_within_7 : decode cX9_within 7 = .ok (.if_icmp .gt 7, 3) := by decide +kernel
theorem dX9_within_10 : decode cX9_within 10 = .ok (.iconst 1, 1) := by decide +kernel
theorem dX9_within_11 : decode cX9_within 11 = .ok (.goto 4, 3) := by decide +kernel
theorem dX9_within_14 : decode cX9_within 14 = .ok (.iconst 0, 1) := by decide +kernel
theorem dX9_within_15 : decode cX9_within 15 = .ok (.ireturn, 1) := by decide +kernel
theorem dX9_isRound_0 : decode cX9_isRound 0 = .ok (.iload_n 0, 1) := by decide +kernel
theorem dX9_isRound_1 : decode cX9_isRound 1 = .ok (.iconst 0, 1) := by decide +kernel
theorem dX9_isRound_2 : decode cX9_isRound 2 = .ok (.iconst 3, 1) := by decide +kernel
theorem dX9_isRound_3 : decode cX9_isRound 3 = .ok (.invokestatic 73, 3) := by decide +kernel
theorem dX9_isRound_6 : decode cX9_isRound 6 = .ok (.ireturn, 1) := by decide +kernel
theorem dX9_isSheet_0 : decode cX9_isSheet 0 = .ok (.iload_n 0, 1) := by decide +kernel
theorem dX9_isSheet_1 : decode cX9_isSheet 1 = .ok (.iconst 0, 1) := by decide +kernel
theorem dX9_isSheet_2 : decode cX9_isSheet 2 = .ok (.iconst 3, 1) := by decide +kernel
theorem dX9_isSheet_3 : decode cX9_isSheet 3 = .ok (.invokestatic 73, 3) := by decide +kernel
theorem dX9_isSheet_6 : decode cX9_isSheet 6 = .ok (.ireturn, 1) := by decide +kernel
theorem dX9_isForm_0 : decode cX9_isForm 0 = .ok (.iload_n 0, 1) := by decide +kernel
theorem dX9_isForm_1 : decode cX9_isForm 1 = .ok (.iconst 0, 1) := by decide +kernel
theorem dX9_isForm_2 : decode cX9_isForm 2 = .ok (.iconst 2, 1) := by decide +kernel
theorem dX9_isForm_3 : decode cX9_isForm 3 = .ok (.invokestatic 73, 3) := by decide +kernel
theorem dX9_isForm_6 : decode cX9_isForm 6 = .ok (.ireturn, 1) := by decide +kernel
theorem dX9_inTable_0 : decode cX9_inTable 0 = .ok (.iload_n 0, 1) := by decide +kernel
theorem dX9_inTable_1 : decode cX9_inTable 1 = .ok (.iconst 0, 1) := by decide +kernel
theorem dX9_inTable_2 : decode cX9_inTable 2 = .ok (.bipush 15, 2) := by decide +kernel
theorem dX9_inTable_4 : decode cX9_inTable 4 = .ok (.invokestatic 73, 3) := by decide +kernel
theorem dX9_inTable_7 : decode cX9_inTable 7 = .ok (.ireturn, 1) := by decide +kernel
theorem dX9_isNumber_0 : decode cX9_isNumber 0 = .ok (.iload_n 0, 1) := by decide +kernel
theorem dX9_isNumber_1 : decode cX9_isNumber 1 = .ok (.iconst 0, 1) := by decide +kernel
theorem dX9_isNumber_2 : decode cX9_isNumber 2 = .ok (.ldc_w 277, 3) := by decide +kernel
theorem dX9_isNumber_5 : decode cX9_isNumber 5 = .ok (.invokestatic 73, 3) := by decide +kernel
theorem dX9_isNumber_8 : decode cX9_isNumber 8 = .ok (.ireturn, 1) := by decide +kernel
theorem dX9_isSkill_0 : decode cX9_isSkill 0 = .ok (.iload_n 1, 1) := by decide +kernel
theorem dX9_isSkill_1 : decode cX9_isSkill 1 = .ok (.iconst 0, 1) := by decide +kernel
theorem dX9_isSkill_2 : decode cX9_isSkill 2 = .ok (.aload_n 0, 1) := by decide +kernel
theorem dX9_isSkill_3 : decode cX9_isSkill 3 = .ok (.getfield 69, 3) := by decide +kernel
theorem dX9_isSkill_6 : decode cX9_isSkill 6 = .ok (.arraylength, 1) := by decide +kernel
theorem dX9_isSkill_7 : decode cX9_isSkill 7 = .ok (.iconst 1, 1) := by decide +kernel
theorem dX9_isSkill_8 : decode cX9_isSkill 8 = .ok (.isub, 1) := by decide +kernel
theorem dX9_isSkill_9 : decode cX9_isSkill 9 = .ok (.invokestatic 73, 3) := by decide +kernel
theorem dX9_isSkill_12 : decode cX9_isSkill 12 = .ok (.ireturn, 1) := by decide +kernel
theorem dX9_isPlayer_0 : decode cX9_isPlayer 0 = .ok (.iload_n 1, 1) := by decide +kernel
theorem dX9_isPlayer_1 : decode cX9_isPlayer 1 = .ok (.iconst 0, 1) := by decide +kernel
theorem dX9_isPlayer_2 : decode cX9_isPlayer 2 = .ok (.aload_n 0, 1) := by decide +kernel
theorem dX9_isPlayer_3 : decode cX9_isPlayer 3 = .ok (.getfield 21, 3) := by decide +kernel
theorem dX9_isPlayer_6 : decode cX9_isPlayer 6 = .ok (.getfield 77, 3) := by decide +kernel
theorem dX9_isPlayer_9 : decode cX9_isPlayer 9 = .ok (.iconst 1, 1) := by decide +kernel
theorem dX9_isPlayer_10 : decode cX9_isPlayer 10 = .ok (.isub, 1) := by decide +kernel
theorem dX9_isPlayer_11 : decode cX9_isPlayer 11 = .ok (.invokestatic 73, 3) := by decide +kernel
theorem dX9_isPlayer_14 : decode cX9_isPlayer 14 = .ok (.ireturn, 1) := by decide +kernel
theorem dX9_isPlace_0 : decode cX9_isPlace 0 = .ok (.iload_n 1, 1) := by decide +kernel
theorem dX9_isPlace_1 : decode cX9_isPlace 1 = .ok (.iconst 0, 1) := by decide +kernel
theorem dX9_isPlace_2 : decode cX9_isPlace 2 = .ok (.aload_n 0, 1) := by decide +kernel
theorem dX9_isPlace_3 : decode cX9_isPlace 3 = .ok (.getfield 58, 3) := by decide +kernel
theorem dX9_isPlace_6 : decode cX9_isPlace 6 = .ok (.getfield 178, 3) := by decide +kernel
theorem dX9_isPlace_9 : decode cX9_isPlace 9 = .ok (.iconst 1, 1) := by decide +kernel
theorem dX9_isPlace_10 : decode cX9_isPlace 10 = .ok (.isub, 1) := by decide +kernel
theorem dX9_isPlace_11 : decode cX9_isPlace 11 = .ok (.invokestatic 73, 3) := by decide +kernel
theorem dX9_isPlace_14 : decode cX9_isPlace 14 = .ok (.ireturn, 1) := by decide +kernel
theorem dX9_refusalOfRound_0 : decode cX9_refusalOfRound 0 = .ok (.iload_n 1, 1) := by decide +kernel
theorem dX9_refusalOfRound_1 : decode cX9_refusalOfRound 1 = .ok (.invokestatic 99, 3) := by decide +kernel
theorem dX9_refusalOfRound_4 : decode cX9_refusalOfRound 4 = .ok (.ifCond .ne 6, 3) := by decide +kernel
theorem dX9_refusalOfRound_7 : decode cX9_refusalOfRound 7 = .ok (.bipush (-2), 2) := by decide +kernel
theorem dX9_refusalOfRound_9 : decode cX9_refusalOfRound 9 = .ok (.ireturn, 1) := by decide +kernel
theorem dX9_refusalOfRound_10 : decode cX9_refusalOfRound 10 = .ok (.aload_n 0, 1) := by decide +kernel
theorem dX9_refusalOfRound_11 : decode cX9_refusalOfRound 11 = .ok (.getfield 28, 3) := by decide +kernel
theorem dX9_refusalOfRound_14 : decode cX9_refusalOfRound 14 = .ok (.getfield 142, 3) := by decide +kernel
theorem dX9_refusalOfRound_17 : decode cX9_refusalOfRound 17 = .ok (.ifCond .ne 6, 3) := by decide +kernel
theorem dX9_refusalOfRound_20 : decode cX9_refusalOfRound 20 = .ok (.bipush (-3), 2) := by decide +kernel
theorem dX9_refusalOfRound_22 : decode cX9_refusalOfRound 22 = .ok (.ireturn, 1) := by decide +kernel
theorem dX9_refusalOfRound_23 : decode cX9_refusalOfRound 23 = .ok (.iload_n 1, 1) := by decide +kernel
theorem dX9_refusalOfRound_24 : decode cX9_refusalOfRound 24 = .ok (.aload_n 0, 1) := by decide +kernel
theorem dX9_refusalOfRound_25 : decode cX9_refusalOfRound 25 = .ok (.getfield 28, 3) := by decide +kernel
theorem dX9_refusalOfRound_28 : decode cX9_refusalOfRound 28 = .ok (.getfield 142, 3) := by decide +kernel
theorem dX9_refusalOfRound_31 : decode cX9_refusalOfRound 31 = .ok (.if_icmp .ge 7, 3) := by decide +kernel
theorem dX9_refusalOfRound_34 : decode cX9_refusalOfRound 34 = .ok (.iconst 0, 1) := by decide +kernel
theorem dX9_refusalOfRound_35 : decode cX9_refusalOfRound 35 = .ok (.goto 5, 3) := by decide +kernel
theorem dX9_refusalOfRound_38 : decode cX9_refusalOfRound 38 = .ok (.bipush (-2), 2) := by decide +kernel
theorem dX9_refusalOfRound_40 : decode cX9_refusalOfRound 40 = .ok (.ireturn, 1) := by decide +kernel

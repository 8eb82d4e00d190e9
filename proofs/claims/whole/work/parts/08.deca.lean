theorem dX0_append_0 : decode cX0_append 0 = .ok (.aload_n 0, 1) := by decide +kernel
theorem dX0_append_1 : decode cX0_append 1 = .ok (.getfield 11, 3) := by decide +kernel
theorem dX0_append_4 : decode cX0_append 4 = .ok (.aload_n 0, 1) := by decide +kernel
theorem dX0_append_5 : decode cX0_append 5 = .ok (.getfield 24, 3) := by decide +kernel
theorem dX0_append_8 : decode cX0_append 8 = .ok (.iload_n 1, 1) := by decide +kernel
theorem dX0_append_9 : decode cX0_append 9 = .ok (.iastore, 1) := by decide +kernel
theorem dX0_append_10 : decode cX0_append 10 = .ok (.aload_n 0, 1) := by decide +kernel
theorem dX0_append_11 : decode cX0_append 11 = .ok (.dup, 1) := by decide +kernel
theorem dX0_append_12 : decode cX0_append 12 = .ok (.getfield 24, 3) := by decide +kernel
theorem dX0_append_15 : decode cX0_append 15 = .ok (.iconst 1, 1) := by decide +kernel
theorem dX0_append_16 : decode cX0_append 16 = .ok (.iadd, 1) := by decide +kernel
theorem dX0_append_17 : decode cX0_append 17 = .ok (.putfield 24, 3) := by decide +kernel
theorem dX0_append_20 : decode cX0_append 20 = .ok (.aload_n 0, 1) := by decide +kernel
theorem dX0_append_21 : decode cX0_append 21 = .ok (.invokevirtual 28, 3) := by decide +kernel
theorem dX0_append_24 : decode cX0_append 24 = .ok (.aload_n 0, 1) := by decide +kernel
theorem dX0_append_25 : decode cX0_append 25 = .ok (.getfield 24, 3) := by decide +kernel
theorem dX0_append_28 : decode cX0_append 28 = .ok (.ireturn, 1) := by decide +kernel
theorem dX0_clear_0 : decode cX0_clear 0 = .ok (.aload_n 0, 1) := by decide +kernel
theorem dX0_clear_1 : decode cX0_clear 1 = .ok (.getfield 24, 3) := by decide +kernel
theorem dX0_clear_4 : decode cX0_clear 4 = .ok (.istore_n 1, 1) := by decide +kernel
theorem dX0_clear_5 : decode cX0_clear 5 = .ok (.aload_n 0, 1) := by decide +kernel
theorem dX0_clear_6 : decode cX0_clear 6 = .ok (.iconst 0, 1) := by decide +kernel
theorem dX0_clear_7 : decode cX0_clear 7 = .ok (.putfield 24, 3) := by decide +kernel
theorem dX0_clear_10 : decode cX0_clear 10 = .ok (.aload_n 0, 1) := by decide +kernel
theorem dX0_clear_11 : decode cX0_clear 11 = .ok (.invokevirtual 28, 3) := by decide +kernel
theorem dX0_clear_14 : decode cX0_clear 14 = .ok (.iload_n 1, 1) := by decide +kernel
theorem dX0_clear_15 : decode cX0_clear 15 = .ok (.ireturn, 1) := by decide +kernel
theorem dX0_readText_0 : decode cX0_readText 0 = .ok (.aload_n 0, 1) := by decide +kernel
theorem dX0_readText_1 : decode cX0_readText 1 = .ok (.iconst 0, 1) := by decide +kernel
theorem dX0_readText_2 : decode cX0_readText 2 = .ok (.putfield 31, 3) := by decide +kernel
theorem dX0_readText_5 : decode cX0_readText 5 = .ok (.aload_n 0, 1) := by decide +kernel
theorem dX0_readText_6 : decode cX0_readText 6 = .ok (.iconst 0, 1) := by decide +kernel
theorem dX0_readText_7 : decode cX0_readText 7 = .ok (.putfield 34, 3) := by decide +kernel
theorem dX0_readText_10 : decode cX0_readText 10 = .ok (.aload_n 0, 1) := by decide +kernel
theorem dX0_readText_11 : decode cX0_readText 11 = .ok (.aload_n 0, 1) := by decide +kernel
theorem dX0_readText_12 : decode cX0_readText 12 = .ok (.invokevirtual 37, 3) := by decide +kernel
theorem dX0_readText_15 : decode cX0_readText 15 = .ok (.ifCond .eq 7, 3) := by decide +kernel
theorem dX0_readText_18 : decode cX0_readText 18 = .ok (.iconst (-1), 1) := by decide +kernel
theorem dX0_readText_19 : decode cX0_readText 19 = .ok (.goto 7, 3) := by decide +kernel
theorem dX0_readText_22 : decode cX0_readText 22 = .ok (.aload_n 0, 1) := by decide +kernel
theorem dX0_readText_23 : decode cX0_readText 23 = .ok (.getfield 34, 3) := by decide +kernel
theorem dX0_readText_26 : decode cX0_readText 26 = .ok (.putfield 41, 3) := by decide +kernel
theorem dX0_readText_29 : decode cX0_readText 29 = .ok (.return_, 1) := by decide +kernel
theorem dX0_readRounds_0 : decode cX0_readRounds 0 = .ok (.iconst 0, 1) := by decide +kernel
theorem dX0_readRounds_1 : decode cX0_readRounds 1 = .ok (.istore_n 1, 1) := by decide +kernel
theorem dX0_readRounds_2 : decode cX0_readRounds 2 = .ok (.iload_n 1, 1) := by decide +kernel
theorem dX0_readRounds_3 : decode cX0_readRounds 3 = .ok (.iconst 4, 1) := by decide +kernel
theorem dX0_readRounds_4 : decode cX0_readRounds 4 = .ok (.if_icmp .ge 55, 3) := by decide +kernel
theorem dX0_readRounds_7 : decode cX0_readRounds 7 = .ok (.aload_n 0, 1) := by decide +kernel
theorem dX0_readRounds_8 : decode cX0_readRounds 8 = .ok (.iload_n 1, 1) := by decide +kernel
theorem dX0_readRounds_9 : decode cX0_readRounds 9 = .ok (.invokevirtual 44, 3) := by decide +kernel
theorem dX0_readRounds_12 : decode cX0_readRounds 12 = .ok (.ifCond .ne 5, 3) := by decide +kernel
theorem dX0_readRounds_15 : decode cX0_readRounds 15 = .ok (.iconst 0, 1) := by decide +kernel
theorem dX0_readRounds_16 : decode cX0_readRounds 16 = .ok (.ireturn, 1) := by decide +kernel
theorem dX0_readRounds_17 : decode cX0_readRounds 17 = .ok (.aload_n 0, 1) := by decide +kernel
theorem dX0_readRounds_18 : decode cX0_readRounds 18 = .ok (.getfield 34, 3) := by decide +kernel
theorem dX0_readRounds_21 : decode cX0_readRounds 21 = .ok (.aload_n 0, 1) := by decide +kernel
theorem dX0_readRounds_22 : decode cX0_readRounds 22 = .ok (.getfield 24, 3) := by decide +kernel
theorem dX0_readRounds_25 : decode cX0_readRounds 25 = .ok (.if_icmp .ne 12, 3) := by decide +kernel
theorem dX0_readRounds_28 : decode cX0_readRounds 28 = .ok (.aload_n 0, 1) := by decide +kernel
theorem dX0_readRounds_29 : decode cX0_readRounds 29 = .ok (.iload_n 1, 1) := by decide +kernel
theorem dX0_readRounds_30 : decode cX0_readRounds 30 = .ok (.iconst 1, 1) := by decide +kernel
theorem dX0_readRounds_31 : decode cX0_readRounds 31 = .ok (.iadd, 1) := by decide +kernel
theorem dX0_readRounds_32 : decode cX0_readRounds 32 = .ok (.putfield 31, 3) := by decide +kernel
theorem dX0_readRounds_35 : decode cX0_readRounds 35 = .ok (.iconst 1, 1) := by decide +kernel
theorem dX0_readRounds_36 : decode cX0_readRounds 36 = .ok (.ireturn, 1) := by decide +kernel
theorem dX0_readRounds_37 : decode cX0_readRounds 37 = .ok (.iload_n 1, 1) := by decide +kernel
theorem dX0_readRounds_38 : decode cX0_readRounds 38 = .ok (.iconst 3, 1) := by decide +kernel
theorem dX0_readRounds_39 : decode cX0_readRounds 39 = .ok (.if_icmp .eq 12, 3) := by decide +kernel
theorem dX0_readRounds_42 : decode cX0_readRounds 42 = .ok (.aload_n 0, 1) := by decide +kernel
theorem dX0_readRounds_43 : decode cX0_readRounds 43 = .ok (.bipush 59, 2) := by decide +kernel
theorem dX0_readRounds_45 : decode cX0_readRounds 45 = .ok (.invokevirtual 48, 3) := by decide +kernel
theorem dX0_readRounds_48 : decode cX0_readRounds 48 = .ok (.ifCond .ne 5, 3) := by decide +kernel
theorem dX0_readRounds_51 : decode cX0_readRounds 51 = .ok (.iconst 0, 1) := by decide +kernel
theorem dX0_readRounds_52 : decode cX0_readRounds 52 = .ok (.ireturn, 1) := by decide +kernel
theorem dX0_readRounds_53 : decode cX0_readRounds 53 = .ok (.iinc 1 1, 3) := by decide +kernel
theorem dX0_readRounds_56 : decode cX0_readRounds 56 = .ok (.goto (-54), 3) := by decide +kernel
theorem dX0_readRounds_59 : decode cX0_readRounds 59 = .ok (.iconst 0, 1) := by decide +kernel
theorem dX0_readRounds_60 : decode cX0_readRounds 60 = .ok (.ireturn, 1) := by decide +kernel
theorem dX0_readRound_0 : decode cX0_readRound 0 = .ok (.aload_n 0, 1) := by decide +kernel
theorem dX0_readRound_1 : decode cX0_readRound 1 = .ok (.bipush 118, 2) := by decide +kernel
theorem dX0_readRound_3 : decode cX0_readRound 3 = .ok (.invokevirtual 48, 3) := by decide +kernel
theorem dX0_readRound_6 : decode cX0_readRound 6 = .ok (.ifCond .eq 12, 3) := by decide +kernel
theorem dX0_readRound_9 : decode cX0_readRound 9 = .ok (.aload_n 0, 1) := by decide +kernel
theorem dX0_readRound_10 : decode cX0_readRound 10 = .ok (.bipush 100, 2) := by decide +kernel
theorem dX0_readRound_12 : decode cX0_readRound 12 = .ok (.invokevirtual 51, 3) := by decide +kernel
theorem dX0_readRound_15 : decode cX0_readRound 15 = .ok (.ifCond .ne 5, 3) := by decide +kernel
theorem dX0_readRound_18 : decode cX0_readRound 18 = .ok (.iconst 0, 1) := by decide +kernel
theorem dX0_readRound_19 : decode cX0_readRound 19 = .ok (.ireturn, 1) := by decide +kernel
theorem dX0_readRound_20 : decode cX0_readRound 20 = .ok (.aload_n 0, 1) := by decide +kernel
theorem dX0_readRound_21 : decode cX0_readRound 21 = .ok (.getfield 15, 3) := by decide +kernel
theorem dX0_readRound_24 : decode cX0_readRound 24 = .ok (.iload_n 1, 1) := by decide +kernel
theorem dX0_readRound_25 : decode cX0_readRound 25 = .ok (.aload_n 0, 1) := by decide +kernel
theorem dX0_readRound_26 : decode cX0_readRound 26 = .ok (.getfield 54, 3) := by decide +kernel
theorem dX0_readRound_29 : decode cX0_readRound 29 = .ok (.iastore, 1) := by decide +kernel
theorem dX0_readRound_30 : decode cX0_readRound 30 = .ok (.aload_n 0, 1) := by decide +kernel
theorem dX0_readRound_31 : decode cX0_readRound 31 = .ok (.bipush 97, 2) := by decide +kernel
theorem dX0_readRound_33 : decode cX0_readRound 33 = .ok (.invokevirtual 48, 3) := by decide +kernel
theorem dX0_readRound_36 : decode cX0_readRound 36 = .ok (.ifCond .eq 12, 3) := by decide +kernel
theorem dX0_readRound_39 : decode cX0_readRound 39 = .ok (.aload_n 0, 1) := by decide +kernel
theorem dX0_readRound_40 : decode cX0_readRound 40 = .ok (.bipush 24, 2) := by decide +kernel
theorem dX0_readRound_42 : decode cX0_readRound 42 = .ok (.invokevirtual 51, 3) := by decide +kernel
theorem dX0_readRound_45 : decode cX0_readRound 45 = .ok (.ifCond .ne 5, 3) := by decide +kernel
theorem dX0_readRound_48 : decode cX0_readRound 48 = .ok (.iconst 0, 1) := by decide +kernel
theorem dX0_readRound_49 : decode cX0_readRound 49 = .ok (.ireturn, 1) := by decide +kernel
theorem dX0_readRound_50 : decode cX0_readRound 50 = .ok (.aload_n 0, 1) := by decide +kernel
theorem dX0_readRound_51 : decode cX0_readRound 51 = .ok (.getfield 18, 3) := by decide +kernel
theorem dX0_readRound_54 : decode cX0_readRound 54 = .ok (.iload_n 1, 1) := by decide +kernel
theorem dX0_readRound_55 : decode cX0_readRound 55 = .ok (.aload_n 0, 1) := by decide +kernel
theorem dX0_readRound_56 : decode cX0_readRound 56 = .ok (.getfield 54, 3) := by decide +kernel
theorem dX0_readRound_59 : decode cX0_readRound 59 = .ok (.iastore, 1) := by decide +kernel
theorem dX0_readRound_60 : decode cX0_readRound 60 = .ok (.aload_n 0, 1) := by decide +kernel
theorem dX0_readRound_61 : decode cX0_readRound 61 = .ok (.iload_n 1, 1) := by decide +kernel
theorem dX0_readRound_62 : decode cX0_readRound 62 = .ok (.invokevirtual 57, 3) := by decide +kernel
theorem dX0_readRound_65 : decode cX0_readRound 65 = .ok (.ireturn, 1) := by decide +kernel
theorem dX0_readByte_0 : decode cX0_readByte 0 = .ok (.aload_n 0, 1) := by decide +kernel
theorem dX0_readByte_1 : decode cX0_readByte 1 = .ok (.getfield 34, 3) := by decide +kernel
theorem dX0_readByte_4 : decode cX0_readByte 4 = .ok (.aload_n 0, 1) := by decide +kernel
theorem dX0_readByte_5 : decode cX0_readByte 5 = .ok (.getfield 24, 3) := by decide +kernel
theorem dX0_readByte_8 : decode cX0_readByte 8 = .ok (.if_icmp .ge 16, 3) := by decide +kernel
theorem dX0_readByte_11 : decode cX0_readByte 11 = .ok (.aload_n 0, 1) := by decide +kernel
theorem dX0_readByte_12 : decode cX0_readByte 12 = .ok (.getfield 11, 3) := by decide +kernel
theorem dX0_readByte_15 : decode cX0_readByte 15 = .ok (.aload_n 0, 1) := by decide +kernel
theorem dX0_readByte_16 : decode cX0_readByte 16 = .ok (.getfield 34, 3) := by decide +kernel
theorem dX0_readByte_19 : decode cX0_readByte 19 = .ok (.iaload, 1) := by decide +kernel
theorem dX0_readByte_20 : decode cX0_readByte 20 = .ok (.iload_n 1, 1) := by decide +kernel
theorem dX0_readByte_21 : decode cX0_readByte 21 = .ok (.if_icmp .eq 5, 3) := by decide +kernel
theorem dX0_readByte_24 : decode cX0_readByte 24 = .ok (.iconst 0, 1) := by decide +kernel
theorem dX0_readByte_25 : decode cX0_readByte 25 = .ok (.ireturn, 1) := by decide +kernel
theorem dX0_readByte_26 : decode cX0_readByte 26 = .ok (.aload_n 0, 1) := by decide +kernel
theorem dX0_readByte_27 : decode cX0_readByte 27 = .ok (.dup, 1) := by decide +kernel
theorem dX0_readByte_28 : decode cX0_readByte 28 = .ok (.getfield 34, 3) := by decide +kernel
theorem dX0_readByte_31 : decode cX0_readByte 31 = .ok (.iconst 1, 1) := by decide +kernel
theorem dX0_readByte_32 : decode cX0_readByte 32 = .ok (.iadd, 1) := by decide +kernel
theorem dX0_readByte_33 : decode cX0_readByte 33 = .ok (.putfield 34, 3) := by decide +kernel
theorem dX0_readByte_36 : decode cX0_readByte 36 = .ok (.iconst 1, 1) := by decide +kernel
theorem dX0_readByte_37 : decode cX0_readByte 37 = .ok (.ireturn, 1) := by decide +kernel
theorem dX0_readLetter_0 : decode cX0_readLetter 0 = .ok (.aload_n 0, 1) := by decide +kernel
theorem dX0_readLetter_1 : decode cX0_readLetter 1 = .ok (.getfield 21, 3) := by decide +kernel
theorem dX0_readLetter_4 : decode cX0_readLetter 4 = .ok (.iload_n 1, 1) := by decide +kernel
theorem dX0_readLetter_5 : decode cX0_readLetter 5 = .ok (.aload_n 0, 1) := by decide +kernel
theorem dX0_readLetter_6 : decode cX0_readLetter 6 = .ok (.getfield 34, 3) := by decide +kernel
theorem dX0_readLetter_9 : decode cX0_readLetter 9 = .ok (.aload_n 0, 1) := by decide +kernel
theorem dX0_readLetter_10 : decode cX0_readLetter 10 = .ok (.getfield 24, 3) := by decide +kernel
theorem dX0_readLetter_13 : decode cX0_readLetter 13 = .ok (.if_icmp .ge 15, 3) := by decide +kernel
theorem dX0_readLetter_16 : decode cX0_readLetter 16 = .ok (.aload_n 0, 1) := by decide +kernel
theorem dX0_readLetter_17 : decode cX0_readLetter 17 = .ok (.getfield 11, 3) := by decide +kernel
theorem dX0_readLetter_20 : decode cX0_readLetter 20 = .ok (.aload_n 0, 1) := by decide +kernel
theorem dX0_readLetter_21 : decode cX0_readLetter 21 = .ok (.getfield 34, 3) := by decide +kernel
theorem dX0_readLetter_24 : decode cX0_readLetter 24 = .ok (.iaload, 1) := by decide +kernel
theorem dX0_readLetter_25 : decode cX0_readLetter 25 = .ok (.goto 4, 3) := by decide +kernel
theorem dX0_readLetter_28 : decode cX0_readLetter 28 = .ok (.iconst (-1), 1) := by decide +kernel
theorem dX0_readLetter_29 : decode cX0_readLetter 29 = .ok (.iastore, 1) := by decide +kernel
theorem dX0_readLetter_30 : decode cX0_readLetter 30 = .ok (.aload_n 0, 1) := by decide +kernel
theorem dX0_readLetter_31 : decode cX0_readLetter 31 = .ok (.bipush 97, 2) := by decide +kernel
theorem dX0_readLetter_33 : decode cX0_readLetter 33 = .ok (.invokevirtual 48, 3) := by decide +kernel
theorem dX0_readLetter_36 : decode cX0_readLetter 36 = .ok (.ifCond .ne 30, 3) := by decide +kernel
theorem dX0_readLetter_39 : decode cX0_readLetter 39 = .ok (.aload_n 0, 1) := by decide +kernel
theorem dX0_readLetter_40 : decode cX0_readLetter 40 = .ok (.bipush 110, 2) := by decide +kernel
theorem dX0_readLetter_42 : decode cX0_readLetter 42 = .ok (.invokevirtual 48, 3) := by decide +kernel
theorem dX0_readLetter_45 : decode cX0_readLetter 45 = .ok (.ifCond .ne 21, 3) := by decide +kernel
theorem dX0_readLetter_48 : decode cX0_readLetter 48 = .ok (.aload_n 0, 1) := by decide +kernel
theorem dX0_readLetter_49 : decode cX0_readLetter 49 = .ok (.bipush 100, 2) := by decide +kernel
theorem dX0_readLetter_51 : decode cX0_readLetter 51 = .ok (.invokevirtual 48, 3) := by decide +kernel
theorem dX0_readLetter_54 : decode cX0_readLetter 54 = .ok (.ifCond .ne 12, 3) := by decide +kernel
theorem dX0_readLetter_57 : decode cX0_readLetter 57 = .ok (.aload_n 0, 1) := by decide +kernel
theorem dX0_readLetter_58 : decode cX0_readLetter 58 = .ok (.bipush 115, 2) := by decide +kernel
theorem dX0_readLetter_60 : decode cX0_readLetter 60 = .ok (.invokevirtual 48, 3) := by decide +kernel
theorem dX0_readLetter_63 : decode cX0_readLetter 63 = .ok (.ifCond .eq 7, 3) := by decide +kernel
theorem dX0_readLetter_66 : decode cX0_readLetter 66 = .ok (.iconst 1, 1) := by decide +kernel
theorem dX0_readLetter_67 : decode cX0_readLetter 67 = .ok (.goto 4, 3) := by decide +kernel
theorem dX0_readLetter_70 : decode cX0_readLetter 70 = .ok (.iconst 0, 1) := by decide +kernel
theorem dX0_readLetter_71 : decode cX0_readLetter 71 = .ok (.ireturn, 1) := by decide +kernel
theorem dX0_readNumber_0 : decode cX0_readNumber 0 = .ok (.aload_n 0, 1) := by decide +kernel
theorem dX0_readNumber_1 : decode cX0_readNumber 1 = .ok (.getfield 34, 3) := by decide +kernel
theorem dX0_readNumber_4 : decode cX0_readNumber 4 = .ok (.istore_n 2, 1) := by decide +kernel
theorem dX0_readNumber_5 : decode cX0_readNumber 5 = .ok (.aload_n 0, 1) := by decide +kernel
theorem dX0_readNumber_6 : decode cX0_readNumber 6 = .ok (.iconst 0, 1) := by decide +kernel
theorem dX0_readNumber_7 : decode cX0_readNumber 7 = .ok (.putfield 54, 3) := by decide +kernel
theorem dX0_readNumber_10 : decode cX0_readNumber 10 = .ok (.iconst 0, 1) := by decide +kernel
theorem dX0_readNumber_11 : decode cX0_readNumber 11 = .ok (.istore_n 3, 1) := by decide +kernel
theorem dX0_readNumber_12 : decode cX0_readNumber 12 = .ok (.iload_n 3, 1) := by decide +kernel
theorem dX0_readNumber_13 : decode cX0_readNumber 13 = .ok (.iconst 3, 1) := by decide +kernel
theorem dX0_readNumber_14 : decode cX0_readNumber 14 = .ok (.if_icmp .ge 41, 3) := by decide +kernel
theorem dX0_readNumber_17 : decode cX0_readNumber 17 = .ok (.aload_n 0, 1) := by decide +kernel
theorem dX0_readNumber_18 : decode cX0_readNumber 18 = .ok (.iload_n 2, 1) := by decide +kernel
theorem dX0_readNumber_19 : decode cX0_readNumber 19 = .ok (.invokevirtual 60, 3) := by decide +kernel
theorem dX0_readNumber_22 : decode cX0_readNumber 22 = .ok (.ifCond .eq 33, 3) := by decide +kernel
theorem dX0_readNumber_25 : decode cX0_readNumber 25 = .ok (.aload_n 0, 1) := by decide +kernel
theorem dX0_readNumber_26 : decode cX0_readNumber 26 = .ok (.bipush 10, 2) := by decide +kernel
theorem dX0_readNumber_28 : decode cX0_readNumber 28 = .ok (.aload_n 0, 1) := by decide +kernel
theorem dX0_readNumber_29 : decode cX0_readNumber 29 = .ok (.getfield 54, 3) := by decide +kernel
theorem dX0_readNumber_32 : decode cX0_readNumber 32 = .ok (.imul, 1) := by decide +kernel
theorem dX0_readNumber_33 : decode cX0_readNumber 33 = .ok (.aload_n 0, 1) := by decide +kernel
theorem dX0_readNumber_34 : decode cX0_readNumber 34 = .ok (.getfield 11, 3) := by decide +kernel
theorem dX0_readNumber_37 : decode cX0_readNumber 37 = .ok (.iload_n 2, 1) := by decide +kernel
theorem dX0_readNumber_38 : decode cX0_readNumber 38 = .ok (.iaload, 1) := by decide +kernel
theorem dX0_readNumber_39 : decode cX0_readNumber 39 = .ok (.iadd, 1) := by decide +kernel
theorem dX0_readNumber_40 : decode cX0_readNumber 40 = .ok (.bipush 48, 2) := by decide +kernel
theorem dX0_readNumber_42 : decode cX0_readNumber 42 = .ok (.isub, 1) := by decide +kernel
theorem dX0_readNumber_43 : decode cX0_readNumber 43 = .ok (.putfield 54, 3) := by decide +kernel
theorem dX0_readNumber_46 : decode cX0_readNumber 46 = .ok (.iinc 2 1, 3) := by decide +kernel
theorem dX0_readNumber_49 : decode cX0_readNumber 49 = .ok (.iinc 3 1, 3) := by decide +kernel
theorem dX0_readNumber_52 : decode cX0_readNumber 52 = .ok (.goto (-40), 3) := by decide +kernel
theorem dX0_readNumber_55 : decode cX0_readNumber 55 = .ok (.aload_n 0, 1) := by decide +kernel
theorem dX0_readNumber_56 : decode cX0_readNumber 56 = .ok (.getfield 54, 3) := by decide +kernel
theorem dX0_readNumber_59 : decode cX0_readNumber 59 = .ok (.iconst 1, 1) := by decide +kernel
theorem dX0_readNumber_60 : decode cX0_readNumber 60 = .ok (.if_icmp .lt 15, 3) := by decide +kernel
theorem dX0_readNumber_63 : decode cX0_readNumber 63 = .ok (.aload_n 0, 1) := by decide +kernel
theorem dX0_readNumber_64 : decode cX0_readNumber 64 = .ok (.getfield 54, 3) := by decide +kernel
theorem dX0_readNumber_67 : decode cX0_readNumber 67 = .ok (.iload_n 1, 1) := by decide +kernel
theorem dX0_readNumber_68 : decode cX0_readNumber 68 = .ok (.if_icmp .gt 7, 3) := by decide +kernel
theorem dX0_readNumber_71 : decode cX0_readNumber 71 = .ok (.iconst 1, 1) := by decide +kernel
theorem dX0_readNumber_72 : decode cX0_readNumber 72 = .ok (.goto 4, 3) := by decide +kernel
theorem dX0_readNumber_75 : decode cX0_readNumber 75 = .ok (.iconst 0, 1) := by decide +kernel
theorem dX0_readNumber_76 : decode cX0_readNumber 76 = .ok (.istore_n 3, 1) := by decide +kernel
theorem dX0_readNumber_77 : decode cX0_readNumber 77 = .ok (.iload_n 3, 1) := by decide +kernel
theorem dX0_readNumber_78 : decode cX0_readNumber 78 = .ok (.ifCond .eq 8, 3) := by decide +kernel
theorem dX0_readNumber_81 : decode cX0_readNumber 81 = .ok (.aload_n 0, 1) := by decide +kernel
theorem dX0_readNumber_82 : decode cX0_readNumber 82 = .ok (.iload_n 2, 1) := by decide +kernel
theorem dX0_readNumber_83 : decode cX0_readNumber 83 = .ok (.putfield 34, 3) := by decide +kernel
theorem dX0_readNumber_86 : decode cX0_readNumber 86 = .ok (.iload_n 3, 1) := by decide +kernel
theorem dX0_readNumber_87 : decode cX0_readNumber 87 = .ok (.ireturn, 1) := by decide +kernel
theorem dX0_isFigure_0 : decode cX0_isFigure 0 = .ok (.iload_n 1, 1) := by decide +kernel
theorem dX0_isFigure_1 : decode cX0_isFigure 1 = .ok (.aload_n 0, 1) := by decide +kernel
theorem dX0_isFigure_2 : decode cX0_isFigure 2 = .ok (.getfield 24, 3) := by decide +kernel
theorem dX0_isFigure_5 : decode cX0_isFigure 5 = .ok (.if_icmp .ge 29, 3) := by decide +kernel
theorem dX0_isFigure_8 : decode cX0_isFigure 8 = .ok (.aload_n 0, 1) := by decide +kernel
theorem dX0_isFigure_9 : decode cX0_isFigure 9 = .ok (.getfield 11, 3) := by decide +kernel
theorem dX0_isFigure_12 : decode cX0_isFigure 12 = .ok (.iload_n 1, 1) := by decide +kernel
theorem dX0_isFigure_13 : decode cX0_isFigure 13 = .ok (.iaload, 1) := by decide +kernel
theorem dX0_isFigure_14 : decode cX0_isFigure 14 = .ok (.bipush 48, 2) := by decide +kernel
theorem dX0_isFigure_16 : decode cX0_isFigure 16 = .ok (.if_icmp .lt 18, 3) := by decide +kernel
theorem dX0_isFigure_19 : decode cX0_isFigure 19 = .ok (.aload_n 0, 1) := by decide +kernel
theorem dX0_isFigure_20 : decode cX0_isFigure 20 = .ok (.getfield 11, 3) := by decide +kernel
theorem dX0_isFigure_23 : decode cX0_isFigure 23 = .ok (.iload_n 1, 1) := by decide +kernel
theorem dX0_isFigure_24 : decode cX0_isFigure 24 = .ok (.iaload, 1) := by decide +kernel
theorem dX0_isFigure_25 : decode cX0_isFigure 25 = .ok (.bipush 57, 2) := by decide +kernel
theorem dX0_isFigure_27 : decode cX0_isFigure 27 = .ok (.if_icmp .gt 7, 3) := by decide +kernel
theorem dX0_isFigure_30 : decode cX0_isFigure 30 = .ok (.iconst 1, 1) := by decide +kernel
theorem dX0_isFigure_31 : decode cX0_isFigure 31 = .ok (.goto 4, 3) := by decide +kernel
theorem dX0_isFigure_34 : decode cX0_isFigure 34 = .ok (.iconst 0, 1) := by decide +kernel
theorem dX0_isFigure_35 : decode cX0_isFigure 35 = .ok (.ireturn, 1) := by decide +kernel
theorem dX1_advancedOutOf_0 : decode cX1_advancedOutOf 0 = .ok (.iconst 0, 1) := by decide +kernel
theorem dX1_advancedOutOf_1 : decode cX1_advancedOutOf 1 = .ok (.istore_n 2, 1) := by decide +kernel
theorem dX1_advancedOutOf_2 : decode cX1_advancedOutOf 2 = .ok (.iload_n 2, 1) := by decide +kernel
theorem dX1_advancedOutOf_3 : decode cX1_advancedOutOf 3 = .ok (.aload_n 0, 1) := by decide +kernel
theorem dX1_advancedOutOf_4 : decode cX1_advancedOutOf 4 = .ok (.getfield 21, 3) := by decide +kernel
theorem dX1_advancedOutOf_7 : decode cX1_advancedOutOf 7 = .ok (.getfield 29, 3) := by decide +kernel
theorem dX1_advancedOutOf_10 : decode cX1_advancedOutOf 10 = .ok (.if_icmp .ge 16, 3) := by decide +kernel
theorem dX1_advancedOutOf_13 : decode cX1_advancedOutOf 13 = .ok (.aload_n 0, 1) := by decide +kernel
theorem dX1_advancedOutOf_14 : decode cX1_advancedOutOf 14 = .ok (.getfield 18, 3) := by decide +kernel
theorem dX1_advancedOutOf_17 : decode cX1_advancedOutOf 17 = .ok (.iload_n 2, 1) := by decide +kernel
theorem dX1_advancedOutOf_18 : decode cX1_advancedOutOf 18 = .ok (.iconst 0, 1) := by decide +kernel
theorem dX1_advancedOutOf_19 : decode cX1_advancedOutOf 19 = .ok (.iastore, 1) := by decide +kernel
theorem dX1_advancedOutOf_20 : decode cX1_advancedOutOf 20 = .ok (.iinc 2 1, 3) := by decide +kernel
theorem dX1_advancedOutOf_23 : decode cX1_advancedOutOf 23 = .ok (.goto (-21), 3) := by decide +kernel
theorem dX1_advancedOutOf_26 : decode cX1_advancedOutOf 26 = .ok (.aload_n 0, 1) := by decide +kernel
theorem dX1_advancedOutOf_27 : decode cX1_advancedOutOf 27 = .ok (.getfield 21, 3) := by decide +kernel
theorem dX1_advancedOutOf_30 : decode cX1_advancedOutOf 30 = .ok (.invokevirtual 33, 3) := by decide +kernel
theorem dX1_advancedOutOf_33 : decode cX1_advancedOutOf 33 = .ok (.istore_n 2, 1) := by decide +kernel
theorem dX1_advancedOutOf_34 : decode cX1_advancedOutOf 34 = .ok (.iconst 0, 1) := by decide +kernel
theorem dX1_advancedOutOf_35 : decode cX1_advancedOutOf 35 = .ok (.istore_n 3, 1) := by decide +kernel
theorem dX1_advancedOutOf_36 : decode cX1_advancedOutOf 36 = .ok (.iload_n 3, 1) := by decide +kernel
theorem dX1_advancedOutOf_37 : decode cX1_advancedOutOf 37 = .ok (.iload_n 1, 1) := by decide +kernel
theorem dX1_advancedOutOf_38 : decode cX1_advancedOutOf 38 = .ok (.if_icmp .gt 26, 3) := by decide +kernel
theorem dX1_advancedOutOf_41 : decode cX1_advancedOutOf 41 = .ok (.aload_n 0, 1) := by decide +kernel
theorem dX1_advancedOutOf_42 : decode cX1_advancedOutOf 42 = .ok (.iload_n 3, 1) := by decide +kernel
theorem dX1_advancedOutOf_43 : decode cX1_advancedOutOf 43 = .ok (.invokevirtual 37, 3) := by decide +kernel
theorem dX1_advancedOutOf_46 : decode cX1_advancedOutOf 46 = .ok (.aload_n 0, 1) := by decide +kernel
theorem dX1_advancedOutOf_47 : decode cX1_advancedOutOf 47 = .ok (.iload_n 3, 1) := by decide +kernel
theorem dX1_advancedOutOf_48 : decode cX1_advancedOutOf 48 = .ok (.aload_n 0, 1) := by decide +kernel
theorem dX1_advancedOutOf_49 : decode cX1_advancedOutOf 49 = .ok (.iload_n 3, 1) := by decide +kernel
theorem dX1_advancedOutOf_50 : decode cX1_advancedOutOf 50 = .ok (.iload_n 2, 1) := by decide +kernel
theorem dX1_advancedOutOf_51 : decode cX1_advancedOutOf 51 = .ok (.invokevirtual 41, 3) := by decide +kernel
theorem dX1_advancedOutOf_54 : decode cX1_advancedOutOf 54 = .ok (.invokevirtual 45, 3) := by decide +kernel
theorem dX1_advancedOutOf_57 : decode cX1_advancedOutOf 57 = .ok (.istore_n 2, 1) := by decide +kernel
theorem dX1_advancedOutOf_58 : decode cX1_advancedOutOf 58 = .ok (.iinc 3 1, 3) := by decide +kernel
theorem dX1_advancedOutOf_61 : decode cX1_advancedOutOf 61 = .ok (.goto (-25), 3) := by decide +kernel
theorem dX1_advancedOutOf_64 : decode cX1_advancedOutOf 64 = .ok (.iload_n 2, 1) := by decide +kernel
theorem dX1_advancedOutOf_65 : decode cX1_advancedOutOf 65 = .ok (.ireturn, 1) := by decide +kernel
theorem dX1_tally_0 : decode cX1_tally 0 = .ok (.iconst 0, 1) := by decide +kernel
theorem dX1_tally_1 : decode cX1_tally 1 = .ok (.istore_n 2, 1) := by decide +kernel
theorem dX1_tally_2 : decode cX1_tally 2 = .ok (.iload_n 2, 1) := by decide +kernel
theorem dX1_tally_3 : decode cX1_tally 3 = .ok (.aload_n 0, 1) := by decide +kernel
theorem dX1_tally_4 : decode cX1_tally 4 = .ok (.getfield 21, 3) := by decide +kernel
theorem dX1_tally_7 : decode cX1_tally 7 = .ok (.getfield 29, 3) := by decide +kernel
theorem dX1_tally_10 : decode cX1_tally 10 = .ok (.if_icmp .ge 54, 3) := by decide +kernel
theorem dX1_tally_13 : decode cX1_tally 13 = .ok (.aload_n 0, 1) := by decide +kernel
theorem dX1_tally_14 : decode cX1_tally 14 = .ok (.getfield 9, 3) := by decide +kernel
theorem dX1_tally_17 : decode cX1_tally 17 = .ok (.iload_n 2, 1) := by decide +kernel
theorem dX1_tally_18 : decode cX1_tally 18 = .ok (.aload_n 0, 1) := by decide +kernel
theorem dX1_tally_19 : decode cX1_tally 19 = .ok (.getfield 21, 3) := by decide +kernel
theorem dX1_tally_22 : decode cX1_tally 22 = .ok (.iload_n 2, 1) := by decide +kernel
theorem dX1_tally_23 : decode cX1_tally 23 = .ok (.iload_n 1, 1) := by decide +kernel
theorem dX1_tally_24 : decode cX1_tally 24 = .ok (.invokevirtual 48, 3) := by decide +kernel
theorem dX1_tally_27 : decode cX1_tally 27 = .ok (.iastore, 1) := by decide +kernel
theorem dX1_tally_28 : decode cX1_tally 28 = .ok (.aload_n 0, 1) := by decide +kernel
theorem dX1_tally_29 : decode cX1_tally 29 = .ok (.getfield 15, 3) := by decide +kernel
theorem dX1_tally_32 : decode cX1_tally 32 = .ok (.iload_n 2, 1) := by decide +kernel
theorem dX1_tally_33 : decode cX1_tally 33 = .ok (.aload_n 0, 1) := by decide +kernel
theorem dX1_tally_34 : decode cX1_tally 34 = .ok (.getfield 21, 3) := by decide +kernel
theorem dX1_tally_37 : decode cX1_tally 37 = .ok (.iload_n 2, 1) := by decide +kernel
theorem dX1_tally_38 : decode cX1_tally 38 = .ok (.iload_n 1, 1) := by decide +kernel
theorem dX1_tally_39 : decode cX1_tally 39 = .ok (.invokevirtual 51, 3) := by decide +kernel
theorem dX1_tally_42 : decode cX1_tally 42 = .ok (.iastore, 1) := by decide +kernel
theorem dX1_tally_43 : decode cX1_tally 43 = .ok (.aload_n 0, 1) := by decide +kernel
theorem dX1_tally_44 : decode cX1_tally 44 = .ok (.getfield 18, 3) := by decide +kernel
theorem dX1_tally_47 : decode cX1_tally 47 = .ok (.iload_n 2, 1) := by decide +kernel
theorem dX1_tally_48 : decode cX1_tally 48 = .ok (.dup2, 1) := by decide +kernel
theorem dX1_tally_49 : decode cX1_tally 49 = .ok (.iaload, 1) := by decide +kernel
theorem dX1_tally_50 : decode cX1_tally 50 = .ok (.aload_n 0, 1) := by decide +kernel
theorem dX1_tally_51 : decode cX1_tally 51 = .ok (.getfield 15, 3) := by decide +kernel
theorem dX1_tally_54 : decode cX1_tally 54 = .ok (.iload_n 2, 1) := by decide +kernel
theorem dX1_tally_55 : decode cX1_tally 55 = .ok (.iaload, 1) := by decide +kernel
theorem dX1_tally_56 : decode cX1_tally 56 = .ok (.iadd, 1) := by decide +kernel
theorem dX1_tally_57 : decode cX1_tally 57 = .ok (.iastore, 1) := by decide +kernel
theorem dX1_tally_58 : decode cX1_tally 58 = .ok (.iinc 2 1, 3) := by decide +kernel
theorem dX1_tally_61 : decode cX1_tally 61 = .ok (.goto (-59), 3) := by decide +kernel
theorem dX1_tally_64 : decode cX1_tally 64 = .ok (.return_, 1) := by decide +kernel
theorem dX1_whoPass_0 : decode cX1_whoPass 0 = .ok (.iconst 0, 1) := by decide +kernel
theorem dX1_whoPass_1 : decode cX1_whoPass 1 = .ok (.istore_n 3, 1) := by decide +kernel
theorem dX1_whoPass_2 : decode cX1_whoPass 2 = .ok (.iconst 0, 1) := by decide +kernel
theorem dX1_whoPass_3 : decode cX1_whoPass 3 = .ok (.istore 4, 2) := by decide +kernel
theorem dX1_whoPass_5 : decode cX1_whoPass 5 = .ok (.iload 4, 2) := by decide +kernel
theorem dX1_whoPass_7 : decode cX1_whoPass 7 = .ok (.aload_n 0, 1) := by decide +kernel
theorem dX1_whoPass_8 : decode cX1_whoPass 8 = .ok (.getfield 21, 3) := by decide +kernel
theorem dX1_whoPass_11 : decode cX1_whoPass 11 = .ok (.getfield 29, 3) := by decide +kernel
theorem dX1_whoPass_14 : decode cX1_whoPass 14 = .ok (.if_icmp .ge 77, 3) := by decide +kernel
theorem dX1_whoPass_17 : decode cX1_whoPass 17 = .ok (.iload_n 2, 1) := by decide +kernel
theorem dX1_whoPass_18 : decode cX1_whoPass 18 = .ok (.iload 4, 2) := by decide +kernel
theorem dX1_whoPass_20 : decode cX1_whoPass 20 = .ok (.invokestatic 54, 3) := by decide +kernel
theorem dX1_whoPass_23 : decode cX1_whoPass 23 = .ok (.ifCond .eq 17, 3) := by decide +kernel
theorem dX1_whoPass_26 : decode cX1_whoPass 26 = .ok (.aload_n 0, 1) := by decide +kernel
theorem dX1_whoPass_27 : decode cX1_whoPass 27 = .ok (.getfield 9, 3) := by decide +kernel
theorem dX1_whoPass_30 : decode cX1_whoPass 30 = .ok (.iload 4, 2) := by decide +kernel
theorem dX1_whoPass_32 : decode cX1_whoPass 32 = .ok (.iaload, 1) := by decide +kernel
theorem dX1_whoPass_33 : decode cX1_whoPass 33 = .ok (.ifCond .le 7, 3) := by decide +kernel
theorem dX1_whoPass_36 : decode cX1_whoPass 36 = .ok (.iconst 1, 1) := by decide +kernel
theorem dX1_whoPass_37 : decode cX1_whoPass 37 = .ok (.goto 4, 3) := by decide +kernel
theorem dX1_whoPass_40 : decode cX1_whoPass 40 = .ok (.iconst 0, 1) := by decide +kernel
theorem dX1_whoPass_41 : decode cX1_whoPass 41 = .ok (.istore 5, 2) := by decide +kernel
theorem dX1_whoPass_43 : decode cX1_whoPass 43 = .ok (.iload 5, 2) := by decide +kernel
theorem dX1_whoPass_45 : decode cX1_whoPass 45 = .ok (.ifCond .eq 40, 3) := by decide +kernel
theorem dX1_whoPass_48 : decode cX1_whoPass 48 = .ok (.bipush 100, 2) := by decide +kernel
theorem dX1_whoPass_50 : decode cX1_whoPass 50 = .ok (.aload_n 0, 1) := by decide +kernel
theorem dX1_whoPass_51 : decode cX1_whoPass 51 = .ok (.getfield 15, 3) := by decide +kernel
theorem dX1_whoPass_54 : decode cX1_whoPass 54 = .ok (.iload 4, 2) := by decide +kernel
theorem dX1_whoPass_56 : decode cX1_whoPass 56 = .ok (.iaload, 1) := by decide +kernel
theorem dX1_whoPass_57 : decode cX1_whoPass 57 = .ok (.imul, 1) := by decide +kernel
theorem dX1_whoPass_58 : decode cX1_whoPass 58 = .ok (.aload_n 0, 1) := by decide +kernel
theorem dX1_whoPass_59 : decode cX1_whoPass 59 = .ok (.getfield 25, 3) := by decide +kernel
theorem dX1_whoPass_62 : decode cX1_whoPass 62 = .ok (.getfield 58, 3) := by decide +kernel
theorem dX1_whoPass_65 : decode cX1_whoPass 65 = .ok (.iload_n 1, 1) := by decide +kernel
theorem dX1_whoPass_66 : decode cX1_whoPass 66 = .ok (.iaload, 1) := by decide +kernel
theorem dX1_whoPass_67 : decode cX1_whoPass 67 = .ok (.aload_n 0, 1) := by decide +kernel
theorem dX1_whoPass_68 : decode cX1_whoPass 68 = .ok (.getfield 9, 3) := by decide +kernel
theorem dX1_whoPass_71 : decode cX1_whoPass 71 = .ok (.iload 4, 2) := by decide +kernel
theorem dX1_whoPass_73 : decode cX1_whoPass 73 = .ok (.iaload, 1) := by decide +kernel
theorem dX1_whoPass_74 : decode cX1_whoPass 74 = .ok (.imul, 1) := by decide +kernel
theorem dX1_whoPass_75 : decode cX1_whoPass 75 = .ok (.if_icmp .lt 10, 3) := by decide +kernel
theorem dX1_whoPass_78 : decode cX1_whoPass 78 = .ok (.iload_n 3, 1) := by decide +kernel
theorem dX1_whoPass_79 : decode cX1_whoPass 79 = .ok (.iconst 1, 1) := by decide +kernel
theorem dX1_whoPass_80 : decode cX1_whoPass 80 = .ok (.iload 4, 2) := by decide +kernel
theorem dX1_whoPass_82 : decode cX1_whoPass 82 = .ok (.ishl, 1) := by decide +kernel
theorem dX1_whoPass_83 : decode cX1_whoPass 83 = .ok (.ior, 1) := by decide +kernel
theorem dX1_whoPass_84 : decode cX1_whoPass 84 = .ok (.istore_n 3, 1) := by decide +kernel
theorem dX1_whoPass_85 : decode cX1_whoPass 85 = .ok (.iinc 4 1, 3) := by decide +kernel
theorem dX1_whoPass_88 : decode cX1_whoPass 88 = .ok (.goto (-83), 3) := by decide +kernel
theorem dX1_whoPass_91 : decode cX1_whoPass 91 = .ok (.iload_n 3, 1) := by decide +kernel
theorem dX1_whoPass_92 : decode cX1_whoPass 92 = .ok (.ireturn, 1) := by decide +kernel
theorem dX1_whoAdvance_0 : decode cX1_whoAdvance 0 = .ok (.iconst 0, 1) := by decide +kernel
theorem dX1_whoAdvance_1 : decode cX1_whoAdvance 1 = .ok (.istore_n 3, 1) := by decide +kernel
theorem dX1_whoAdvance_2 : decode cX1_whoAdvance 2 = .ok (.iconst 0, 1) := by decide +kernel
theorem dX1_whoAdvance_3 : decode cX1_whoAdvance 3 = .ok (.istore 4, 2) := by decide +kernel
theorem dX1_whoAdvance_5 : decode cX1_whoAdvance 5 = .ok (.iconst 0, 1) := by decide +kernel
theorem dX1_whoAdvance_6 : decode cX1_whoAdvance 6 = .ok (.istore 5, 2) := by decide +kernel
theorem dX1_whoAdvance_8 : decode cX1_whoAdvance 8 = .ok (.iconst 0, 1) := by decide +kernel
theorem dX1_whoAdvance_9 : decode cX1_whoAdvance 9 = .ok (.istore 6, 2) := by decide +kernel
theorem dX1_whoAdvance_11 : decode cX1_whoAdvance 11 = .ok (.iload 6, 2) := by decide +kernel
theorem dX1_whoAdvance_13 : decode cX1_whoAdvance 13 = .ok (.aload_n 0, 1) := by decide +kernel
theorem dX1_whoAdvance_14 : decode cX1_whoAdvance 14 = .ok (.getfield 21, 3) := by decide +kernel
theorem dX1_whoAdvance_17 : decode cX1_whoAdvance 17 = .ok (.getfield 29, 3) := by decide +kernel
theorem dX1_whoAdvance_20 : decode cX1_whoAdvance 20 = .ok (.if_icmp .ge 101, 3) := by decide +kernel
theorem dX1_whoAdvance_23 : decode cX1_whoAdvance 23 = .ok (.iload_n 2, 1) := by decide +kernel
theorem dX1_whoAdvance_24 : decode cX1_whoAdvance 24 = .ok (.iload 6, 2) := by decide +kernel
theorem dX1_whoAdvance_26 : decode cX1_whoAdvance 26 = .ok (.invokestatic 54, 3) := by decide +kernel
theorem dX1_whoAdvance_29 : decode cX1_whoAdvance 29 = .ok (.ifCond .ne 6, 3) := by decide +kernel
theorem dX1_whoAdvance_32 : decode cX1_whoAdvance 32 = .ok (.goto 83, 3) := by decide +kernel
theorem dX1_whoAdvance_35 : decode cX1_whoAdvance 35 = .ok (.aload_n 0, 1) := by decide +kernel
theorem dX1_whoAdvance_36 : decode cX1_whoAdvance 36 = .ok (.iload_n 2, 1) := by decide +kernel
theorem dX1_whoAdvance_37 : decode cX1_whoAdvance 37 = .ok (.iload 6, 2) := by decide +kernel
theorem dX1_whoAdvance_39 : decode cX1_whoAdvance 39 = .ok (.iconst 1, 1) := by decide +kernel
theorem dX1_whoAdvance_40 : decode cX1_whoAdvance 40 = .ok (.invokevirtual 63, 3) := by decide +kernel
theorem dX1_whoAdvance_43 : decode cX1_whoAdvance 43 = .ok (.istore 7, 2) := by decide +kernel
theorem dX1_whoAdvance_45 : decode cX1_whoAdvance 45 = .ok (.iload 7, 2) := by decide +kernel
theorem dX1_whoAdvance_47 : decode cX1_whoAdvance 47 = .ok (.aload_n 0, 1) := by decide +kernel
theorem dX1_whoAdvance_48 : decode cX1_whoAdvance 48 = .ok (.iload_n 2, 1) := by decide +kernel
theorem dX1_whoAdvance_49 : decode cX1_whoAdvance 49 = .ok (.iload 6, 2) := by decide +kernel
theorem dX1_whoAdvance_51 : decode cX1_whoAdvance 51 = .ok (.iconst 0, 1) := by decide +kernel
theorem dX1_whoAdvance_52 : decode cX1_whoAdvance 52 = .ok (.invokevirtual 63, 3) := by decide +kernel
theorem dX1_whoAdvance_55 : decode cX1_whoAdvance 55 = .ok (.iadd, 1) := by decide +kernel
theorem dX1_whoAdvance_56 : decode cX1_whoAdvance 56 = .ok (.aload_n 0, 1) := by decide +kernel
theorem dX1_whoAdvance_57 : decode cX1_whoAdvance 57 = .ok (.getfield 25, 3) := by decide +kernel
theorem dX1_whoAdvance_60 : decode cX1_whoAdvance 60 = .ok (.getfield 67, 3) := by decide +kernel
theorem dX1_whoAdvance_63 : decode cX1_whoAdvance 63 = .ok (.iload_n 1, 1) := by decide +kernel
theorem dX1_whoAdvance_64 : decode cX1_whoAdvance 64 = .ok (.iaload, 1) := by decide +kernel
theorem dX1_whoAdvance_65 : decode cX1_whoAdvance 65 = .ok (.if_icmp .gt 13, 3) := by decide +kernel
theorem dX1_whoAdvance_68 : decode cX1_whoAdvance 68 = .ok (.iload_n 3, 1) := by decide +kernel
theorem dX1_whoAdvance_69 : decode cX1_whoAdvance 69 = .ok (.iconst 1, 1) := by decide +kernel
theorem dX1_whoAdvance_70 : decode cX1_whoAdvance 70 = .ok (.iload 6, 2) := by decide +kernel
theorem dX1_whoAdvance_72 : decode cX1_whoAdvance 72 = .ok (.ishl, 1) := by decide +kernel
theorem dX1_whoAdvance_73 : decode cX1_whoAdvance 73 = .ok (.ior, 1) := by decide +kernel
theorem dX1_whoAdvance_74 : decode cX1_whoAdvance 74 = .ok (.istore_n 3, 1) := by decide +kernel
theorem dX1_whoAdvance_75 : decode cX1_whoAdvance 75 = .ok (.goto 40, 3) := by decide +kernel
theorem dX1_whoAdvance_78 : decode cX1_whoAdvance 78 = .ok (.iload 7, 2) := by decide +kernel
theorem dX1_whoAdvance_80 : decode cX1_whoAdvance 80 = .ok (.aload_n 0, 1) := by decide +kernel
theorem dX1_whoAdvance_81 : decode cX1_whoAdvance 81 = .ok (.getfield 25, 3) := by decide +kernel
theorem dX1_whoAdvance_84 : decode cX1_whoAdvance 84 = .ok (.getfield 67, 3) := by decide +kernel
theorem dX1_whoAdvance_87 : decode cX1_whoAdvance 87 = .ok (.iload_n 1, 1) := by decide +kernel
theorem dX1_whoAdvance_88 : decode cX1_whoAdvance 88 = .ok (.iaload, 1) := by decide +kernel
theorem dX1_whoAdvance_89 : decode cX1_whoAdvance 89 = .ok (.if_icmp .ge 26, 3) := by decide +kernel
theorem dX1_whoAdvance_92 : decode cX1_whoAdvance 92 = .ok (.iload 4, 2) := by decide +kernel
theorem dX1_whoAdvance_94 : decode cX1_whoAdvance 94 = .ok (.iconst 1, 1) := by decide +kernel
theorem dX1_whoAdvance_95 : decode cX1_whoAdvance 95 = .ok (.iload 6, 2) := by decide +kernel
theorem dX1_whoAdvance_97 : decode cX1_whoAdvance 97 = .ok (.ishl, 1) := by decide +kernel
theorem dX1_whoAdvance_98 : decode cX1_whoAdvance 98 = .ok (.ior, 1) := by decide +kernel
theorem dX1_whoAdvance_99 : decode cX1_whoAdvance 99 = .ok (.istore 4, 2) := by decide +kernel
theorem dX1_whoAdvance_101 : decode cX1_whoAdvance 101 = .ok (.aload_n 0, 1) := by decide +kernel
theorem dX1_whoAdvance_102 : decode cX1_whoAdvance 102 = .ok (.getfield 25, 3) := by decide +kernel
theorem dX1_whoAdvance_105 : decode cX1_whoAdvance 105 = .ok (.getfield 67, 3) := by decide +kernel
theorem dX1_whoAdvance_108 : decode cX1_whoAdvance 108 = .ok (.iload_n 1, 1) := by decide +kernel
theorem dX1_whoAdvance_109 : decode cX1_whoAdvance 109 = .ok (.iaload, 1) := by decide +kernel
theorem dX1_whoAdvance_110 : decode cX1_whoAdvance 110 = .ok (.iload 7, 2) := by decide +kernel
theorem dX1_whoAdvance_112 : decode cX1_whoAdvance 112 = .ok (.isub, 1) := by decide +kernel
theorem dX1_whoAdvance_113 : decode cX1_whoAdvance 113 = .ok (.istore 5, 2) := by decide +kernel
theorem dX1_whoAdvance_115 : decode cX1_whoAdvance 115 = .ok (.iinc 6 1, 3) := by decide +kernel
theorem dX1_whoAdvance_118 : decode cX1_whoAdvance 118 = .ok (.goto (-107), 3) := by decide +kernel
theorem dX1_whoAdvance_121 : decode cX1_whoAdvance 121 = .ok (.iload_n 3, 1) := by decide +kernel
theorem dX1_whoAdvance_122 : decode cX1_whoAdvance 122 = .ok (.aload_n 0, 1) := by decide +kernel
theorem dX1_whoAdvance_123 : decode cX1_whoAdvance 123 = .ok (.aload_n 0, 1) := by decide +kernel
theorem dX1_whoAdvance_124 : decode cX1_whoAdvance 124 = .ok (.getfield 25, 3) := by decide +kernel
theorem dX1_whoAdvance_127 : decode cX1_whoAdvance 127 = .ok (.getfield 70, 3) := by decide +kernel
theorem dX1_whoAdvance_130 : decode cX1_whoAdvance 130 = .ok (.iload_n 1, 1) := by decide +kernel
theorem dX1_whoAdvance_131 : decode cX1_whoAdvance 131 = .ok (.iaload, 1) := by decide +kernel
theorem dX1_whoAdvance_132 : decode cX1_whoAdvance 132 = .ok (.iload 4, 2) := by decide +kernel
theorem dX1_whoAdvance_134 : decode cX1_whoAdvance 134 = .ok (.iload 5, 2) := by decide +kernel
theorem dX1_whoAdvance_136 : decode cX1_whoAdvance 136 = .ok (.invokevirtual 73, 3) := by decide +kernel
theorem dX1_whoAdvance_139 : decode cX1_whoAdvance 139 = .ok (.ior, 1) := by decide +kernel
theorem dX1_whoAdvance_140 : decode cX1_whoAdvance 140 = .ok (.ireturn, 1) := by decide +kernel
theorem dX1_withShare_0 : decode cX1_withShare 0 = .ok (.iconst 0, 1) := by decide +kernel
theorem dX1_withShare_1 : decode cX1_withShare 1 = .ok (.istore 4, 2) := by decide +kernel
theorem dX1_withShare_3 : decode cX1_withShare 3 = .ok (.iconst 0, 1) := by decide +kernel
theorem dX1_withShare_4 : decode cX1_withShare 4 = .ok (.istore 5, 2) := by decide +kernel
theorem dX1_withShare_6 : decode cX1_withShare 6 = .ok (.iload 5, 2) := by decide +kernel
theorem dX1_withShare_8 : decode cX1_withShare 8 = .ok (.aload_n 0, 1) := by decide +kernel
theorem dX1_withShare_9 : decode cX1_withShare 9 = .ok (.getfield 21, 3) := by decide +kernel
theorem dX1_withShare_12 : decode cX1_withShare 12 = .ok (.getfield 29, 3) := by decide +kernel
theorem dX1_withShare_15 : decode cX1_withShare 15 = .ok (.if_icmp .ge 32, 3) := by decide +kernel
theorem dX1_withShare_18 : decode cX1_withShare 18 = .ok (.iload_n 1, 1) := by decide +kernel
theorem dX1_withShare_19 : decode cX1_withShare 19 = .ok (.iload 5, 2) := by decide +kernel
theorem dX1_withShare_21 : decode cX1_withShare 21 = .ok (.invokestatic 54, 3) := by decide +kernel
theorem dX1_withShare_24 : decode cX1_withShare 24 = .ok (.ifCond .eq 17, 3) := by decide +kernel
theorem dX1_withShare_27 : decode cX1_withShare 27 = .ok (.aload_n 0, 1) := by decide +kernel
theorem dX1_withShare_28 : decode cX1_withShare 28 = .ok (.iload 5, 2) := by decide +kernel
theorem dX1_withShare_30 : decode cX1_withShare 30 = .ok (.iload_n 2, 1) := by decide +kernel
theorem dX1_withShare_31 : decode cX1_withShare 31 = .ok (.invokevirtual 76, 3) := by decide +kernel
theorem dX1_withShare_34 : decode cX1_withShare 34 = .ok (.iload_n 3, 1) := by decide +kernel
theorem dX1_withShare_35 : decode cX1_withShare 35 = .ok (.if_icmp .ne 6, 3) := by decide +kernel
theorem dX1_withShare_38 : decode cX1_withShare 38 = .ok (.iinc 4 1, 3) := by decide +kernel
theorem dX1_withShare_41 : decode cX1_withShare 41 = .ok (.iinc 5 1, 3) := by decide +kernel
theorem dX1_withShare_44 : decode cX1_withShare 44 = .ok (.goto (-38), 3) := by decide +kernel
theorem dX1_withShare_47 : decode cX1_withShare 47 = .ok (.iload 4, 2) := by decide +kernel
theorem dX1_withShare_49 : decode cX1_withShare 49 = .ok (.ireturn, 1) := by decide +kernel
theorem dX1_compareShares_0 : decode cX1_compareShares 0 = .ok (.aload_n 0, 1) := by decide +kernel
theorem dX1_compareShares_1 : decode cX1_compareShares 1 = .ok (.getfield 15, 3) := by decide +kernel
theorem dX1_compareShares_4 : decode cX1_compareShares 4 = .ok (.iload_n 1, 1) := by decide +kernel
theorem dX1_compareShares_5 : decode cX1_compareShares 5 = .ok (.iaload, 1) := by decide +kernel
theorem dX1_compareShares_6 : decode cX1_compareShares 6 = .ok (.aload_n 0, 1) := by decide +kernel
theorem dX1_compareShares_7 : decode cX1_compareShares 7 = .ok (.getfield 9, 3) := by decide +kernel
theorem dX1_compareShares_10 : decode cX1_compareShares 10 = .ok (.iload_n 2, 1) := by decide +kernel
theorem dX1_compareShares_11 : decode cX1_compareShares 11 = .ok (.iaload, 1) := by decide +kernel
theorem dX1_compareShares_12 : decode cX1_compareShares 12 = .ok (.imul, 1) := by decide +kernel
theorem dX1_compareShares_13 : decode cX1_compareShares 13 = .ok (.aload_n 0, 1) := by decide +kernel
theorem dX1_compareShares_14 : decode cX1_compareShares 14 = .ok (.getfield 15, 3) := by decide +kernel
theorem dX1_compareShares_17 : decode cX1_compareShares 17 = .ok (.iload_n 2, 1) := by decide +kernel
theorem dX1_compareShares_18 : decode cX1_compareShares 18 = .ok (.iaload, 1) := by decide +kernel
theorem dX1_compareShares_19 : decode cX1_compareShares 19 = .ok (.aload_n 0, 1) := by decide +kernel
theorem dX1_compareShares_20 : decode cX1_compareShares 20 = .ok (.getfield 9, 3) := by decide +kernel
theorem dX1_compareShares_23 : decode cX1_compareShares 23 = .ok (.iload_n 1, 1) := by decide +kernel
theorem dX1_compareShares_24 : decode cX1_compareShares 24 = .ok (.iaload, 1) := by decide +kernel
theorem dX1_compareShares_25 : decode cX1_compareShares 25 = .ok (.imul, 1) := by decide +kernel
theorem dX1_compareShares_26 : decode cX1_compareShares 26 = .ok (.invokestatic 79, 3) := by decide +kernel
theorem dX1_compareShares_29 : decode cX1_compareShares 29 = .ok (.ireturn, 1) := by decide +kernel
theorem dX1_outOfTie_0 : decode cX1_outOfTie 0 = .ok (.iload_n 1, 1) := by decide +kernel
theorem dX1_outOfTie_1 : decode cX1_outOfTie 1 = .ok (.lookupswitch 53 #[(97, 35), (100, 37), (115, 45)], 35) := by decide +kernel
theorem dX1_outOfTie_36 : decode cX1_outOfTie 36 = .ok (.iload_n 2, 1) := by decide +kernel
theorem dX1_outOfTie_37 : decode cX1_outOfTie 37 = .ok (.ireturn, 1) := by decide +kernel
theorem dX1_outOfTie_38 : decode cX1_outOfTie 38 = .ok (.aload_n 0, 1) := by decide +kernel
theorem dX1_outOfTie_39 : decode cX1_outOfTie 39 = .ok (.iload_n 2, 1) := by decide +kernel
theorem dX1_outOfTie_40 : decode cX1_outOfTie 40 = .ok (.iload_n 3, 1) := by decide +kernel
theorem dX1_outOfTie_41 : decode cX1_outOfTie 41 = .ok (.iconst 0, 1) := by decide +kernel
theorem dX1_outOfTie_42 : decode cX1_outOfTie 42 = .ok (.invokevirtual 84, 3) := by decide +kernel
theorem dX1_outOfTie_45 : decode cX1_outOfTie 45 = .ok (.ireturn, 1) := by decide +kernel
theorem dX1_outOfTie_46 : decode cX1_outOfTie 46 = .ok (.aload_n 0, 1) := by decide +kernel
theorem dX1_outOfTie_47 : decode cX1_outOfTie 47 = .ok (.iload_n 2, 1) := by decide +kernel
theorem dX1_outOfTie_48 : decode cX1_outOfTie 48 = .ok (.iload_n 3, 1) := by decide +kernel
theorem dX1_outOfTie_49 : decode cX1_outOfTie 49 = .ok (.iconst 1, 1) := by decide +kernel
theorem dX1_outOfTie_50 : decode cX1_outOfTie 50 = .ok (.invokevirtual 84, 3) := by decide +kernel
theorem dX1_outOfTie_53 : decode cX1_outOfTie 53 = .ok (.ireturn, 1) := by decide +kernel
theorem dX1_outOfTie_54 : decode cX1_outOfTie 54 = .ok (.iconst 0, 1) := by decide +kernel
theorem dX1_outOfTie_55 : decode cX1_outOfTie 55 = .ok (.ireturn, 1) := by decide +kernel
theorem dX1_firstOf_0 : decode cX1_firstOf 0 = .ok (.iconst 0, 1) := by decide +kernel
theorem dX1_firstOf_1 : decode cX1_firstOf 1 = .ok (.istore 4, 2) := by decide +kernel
theorem dX1_firstOf_3 : decode cX1_firstOf 3 = .ok (.iconst 0, 1) := by decide +kernel
theorem dX1_firstOf_4 : decode cX1_firstOf 4 = .ok (.istore 5, 2) := by decide +kernel
theorem dX1_firstOf_6 : decode cX1_firstOf 6 = .ok (.iload 5, 2) := by decide +kernel
theorem dX1_firstOf_8 : decode cX1_firstOf 8 = .ok (.aload_n 0, 1) := by decide +kernel
theorem dX1_firstOf_9 : decode cX1_firstOf 9 = .ok (.getfield 21, 3) := by decide +kernel
theorem dX1_firstOf_12 : decode cX1_firstOf 12 = .ok (.getfield 29, 3) := by decide +kernel
theorem dX1_firstOf_15 : decode cX1_firstOf 15 = .ok (.if_icmp .ge 39, 3) := by decide +kernel
theorem dX1_firstOf_18 : decode cX1_firstOf 18 = .ok (.iload_n 1, 1) := by decide +kernel
theorem dX1_firstOf_19 : decode cX1_firstOf 19 = .ok (.iload 5, 2) := by decide +kernel
theorem dX1_firstOf_21 : decode cX1_firstOf 21 = .ok (.invokestatic 54, 3) := by decide +kernel
theorem dX1_firstOf_24 : decode cX1_firstOf 24 = .ok (.ifCond .eq 24, 3) := by decide +kernel
theorem dX1_firstOf_27 : decode cX1_firstOf 27 = .ok (.aload_n 0, 1) := by decide +kernel
theorem dX1_firstOf_28 : decode cX1_firstOf 28 = .ok (.iload_n 1, 1) := by decide +kernel
theorem dX1_firstOf_29 : decode cX1_firstOf 29 = .ok (.iload 5, 2) := by decide +kernel
theorem dX1_firstOf_31 : decode cX1_firstOf 31 = .ok (.iload_n 3, 1) := by decide +kernel
theorem dX1_firstOf_32 : decode cX1_firstOf 32 = .ok (.invokevirtual 88, 3) := by decide +kernel
theorem dX1_firstOf_35 : decode cX1_firstOf 35 = .ok (.iload_n 2, 1) := by decide +kernel
theorem dX1_firstOf_36 : decode cX1_firstOf 36 = .ok (.if_icmp .ge 12, 3) := by decide +kernel
theorem dX1_firstOf_39 : decode cX1_firstOf 39 = .ok (.iload 4, 2) := by decide +kernel
theorem dX1_firstOf_41 : decode cX1_firstOf 41 = .ok (.iconst 1, 1) := by decide +kernel
theorem dX1_firstOf_42 : decode cX1_firstOf 42 = .ok (.iload 5, 2) := by decide +kernel
theorem dX1_firstOf_44 : decode cX1_firstOf 44 = .ok (.ishl, 1) := by decide +kernel
theorem dX1_firstOf_45 : decode cX1_firstOf 45 = .ok (.ior, 1) := by decide +kernel
theorem dX1_firstOf_46 : decode cX1_firstOf 46 = .ok (.istore 4, 2) := by decide +kernel
theorem dX1_firstOf_48 : decode cX1_firstOf 48 = .ok (.iinc 5 1, 3) := by decide +kernel
theorem dX1_firstOf_51 : decode cX1_firstOf 51 = .ok (.goto (-45), 3) := by decide +kernel
theorem dX1_firstOf_54 : decode cX1_firstOf 54 = .ok (.iload 4, 2) := by decide +kernel
theorem dX1_firstOf_56 : decode cX1_firstOf 56 = .ok (.ireturn, 1) := by decide +kernel
theorem dX1_ahead_0 : decode cX1_ahead 0 = .ok (.iconst 0, 1) := by decide +kernel
theorem dX1_ahead_1 : decode cX1_ahead 1 = .ok (.istore 4, 2) := by decide +kernel
theorem dX1_ahead_3 : decode cX1_ahead 3 = .ok (.iconst 0, 1) := by decide +kernel
theorem dX1_ahead_4 : decode cX1_ahead 4 = .ok (.istore 5, 2) := by decide +kernel
theorem dX1_ahead_6 : decode cX1_ahead 6 = .ok (.iload 5, 2) := by decide +kernel
theorem dX1_ahead_8 : decode cX1_ahead 8 = .ok (.aload_n 0, 1) := by decide +kernel
theorem dX1_ahead_9 : decode cX1_ahead 9 = .ok (.getfield 21, 3) := by decide +kernel
theorem dX1_ahead_12 : decode cX1_ahead 12 = .ok (.getfield 29, 3) := by decide +kernel
theorem dX1_ahead_15 : decode cX1_ahead 15 = .ok (.if_icmp .ge 32, 3) := by decide +kernel
theorem dX1_ahead_18 : decode cX1_ahead 18 = .ok (.iload_n 1, 1) := by decide +kernel
theorem dX1_ahead_19 : decode cX1_ahead 19 = .ok (.iload 5, 2) := by decide +kernel
theorem dX1_ahead_21 : decode cX1_ahead 21 = .ok (.invokestatic 54, 3) := by decide +kernel
theorem dX1_ahead_24 : decode cX1_ahead 24 = .ok (.ifCond .eq 17, 3) := by decide +kernel
theorem dX1_ahead_27 : decode cX1_ahead 27 = .ok (.aload_n 0, 1) := by decide +kernel
theorem dX1_ahead_28 : decode cX1_ahead 28 = .ok (.iload 5, 2) := by decide +kernel
theorem dX1_ahead_30 : decode cX1_ahead 30 = .ok (.iload_n 2, 1) := by decide +kernel
theorem dX1_ahead_31 : decode cX1_ahead 31 = .ok (.iload_n 3, 1) := by decide +kernel
theorem dX1_ahead_32 : decode cX1_ahead 32 = .ok (.invokevirtual 91, 3) := by decide +kernel
theorem dX1_ahead_35 : decode cX1_ahead 35 = .ok (.ifCond .eq 6, 3) := by decide +kernel
theorem dX1_ahead_38 : decode cX1_ahead 38 = .ok (.iinc 4 1, 3) := by decide +kernel
theorem dX1_ahead_41 : decode cX1_ahead 41 = .ok (.iinc 5 1, 3) := by decide +kernel
theorem dX1_ahead_44 : decode cX1_ahead 44 = .ok (.goto (-38), 3) := by decide +kernel
theorem dX1_ahead_47 : decode cX1_ahead 47 = .ok (.iload 4, 2) := by decide +kernel
theorem dX1_ahead_49 : decode cX1_ahead 49 = .ok (.ireturn, 1) := by decide +kernel
theorem dX1_isBefore_0 : decode cX1_isBefore 0 = .ok (.iload_n 3, 1) := by decide +kernel
theorem dX1_isBefore_1 : decode cX1_isBefore 1 = .ok (.ifCond .eq 39, 3) := by decide +kernel
theorem dX1_isBefore_4 : decode cX1_isBefore 4 = .ok (.aload_n 0, 1) := by decide +kernel
theorem dX1_isBefore_5 : decode cX1_isBefore 5 = .ok (.getfield 18, 3) := by decide +kernel
theorem dX1_isBefore_8 : decode cX1_isBefore 8 = .ok (.iload_n 1, 1) := by decide +kernel
theorem dX1_isBefore_9 : decode cX1_isBefore 9 = .ok (.iaload, 1) := by decide +kernel
theorem dX1_isBefore_10 : decode cX1_isBefore 10 = .ok (.aload_n 0, 1) := by decide +kernel
theorem dX1_isBefore_11 : decode cX1_isBefore 11 = .ok (.getfield 18, 3) := by decide +kernel
theorem dX1_isBefore_14 : decode cX1_isBefore 14 = .ok (.iload_n 2, 1) := by decide +kernel
theorem dX1_isBefore_15 : decode cX1_isBefore 15 = .ok (.iaload, 1) := by decide +kernel
theorem dX1_isBefore_16 : decode cX1_isBefore 16 = .ok (.if_icmp .eq 24, 3) := by decide +kernel
theorem dX1_isBefore_19 : decode cX1_isBefore 19 = .ok (.aload_n 0, 1) := by decide +kernel
theorem dX1_isBefore_20 : decode cX1_isBefore 20 = .ok (.getfield 18, 3) := by decide +kernel
theorem dX1_isBefore_23 : decode cX1_isBefore 23 = .ok (.iload_n 1, 1) := by decide +kernel
theorem dX1_isBefore_24 : decode cX1_isBefore 24 = .ok (.iaload, 1) := by decide +kernel
theorem dX1_isBefore_25 : decode cX1_isBefore 25 = .ok (.aload_n 0, 1) := by decide +kernel
theorem dX1_isBefore_26 : decode cX1_isBefore 26 = .ok (.getfield 18, 3) := by decide +kernel
theorem dX1_isBefore_29 : decode cX1_isBefore 29 = .ok (.iload_n 2, 1) := by decide +kernel
theorem dX1_isBefore_30 : decode cX1_isBefore 30 = .ok (.iaload, 1) := by decide +kernel
theorem dX1_isBefore_31 : decode cX1_isBefore 31 = .ok (.if_icmp .le 7, 3) := by decide +kernel
theorem dX1_isBefore_34 : decode cX1_isBefore 34 = .ok (.iconst 1, 1) := by decide +kernel
theorem dX1_isBefore_35 : decode cX1_isBefore 35 = .ok (.goto 4, 3) := by decide +kernel
theorem dX1_isBefore_38 : decode cX1_isBefore 38 = .ok (.iconst 0, 1) := by decide +kernel
theorem dX1_isBefore_39 : decode cX1_isBefore 39 = .ok (.ireturn, 1) := by decide +kernel
theorem dX1_isBefore_40 : decode cX1_isBefore 40 = .ok (.aload_n 0, 1) := by decide +kernel
theorem dX1_isBefore_41 : decode cX1_isBefore 41 = .ok (.getfield 21, 3) := by decide +kernel
theorem dX1_isBefore_44 : decode cX1_isBefore 44 = .ok (.getfield 95, 3) := by decide +kernel
theorem dX1_isBefore_47 : decode cX1_isBefore 47 = .ok (.iload_n 1, 1) := by decide +kernel
theorem dX1_isBefore_48 : decode cX1_isBefore 48 = .ok (.iaload, 1) := by decide +kernel
theorem dX1_isBefore_49 : decode cX1_isBefore 49 = .ok (.aload_n 0, 1) := by decide +kernel
theorem dX1_isBefore_50 : decode cX1_isBefore 50 = .ok (.getfield 21, 3) := by decide +kernel
theorem dX1_isBefore_53 : decode cX1_isBefore 53 = .ok (.getfield 95, 3) := by decide +kernel
theorem dX1_isBefore_56 : decode cX1_isBefore 56 = .ok (.iload_n 2, 1) := by decide +kernel
theorem dX1_isBefore_57 : decode cX1_isBefore 57 = .ok (.iaload, 1) := by decide +kernel
theorem dX1_isBefore_58 : decode cX1_isBefore 58 = .ok (.if_icmp .ge 7, 3) := by decide +kernel
theorem dX1_isBefore_61 : decode cX1_isBefore 61 = .ok (.iconst 1, 1) := by decide +kernel
theorem dX1_isBefore_62 : decode cX1_isBefore 62 = .ok (.goto 4, 3) := by decide +kernel
theorem dX1_isBefore_65 : decode cX1_isBefore 65 = .ok (.iconst 0, 1) := by decide +kernel
theorem dX1_isBefore_66 : decode cX1_isBefore 66 = .ok (.ireturn, 1) := by decide +kernel
theorem dX1_has_0 : decode cX1_has 0 = .ok (.iload_n 0, 1) := by decide +kernel
theorem dX1_has_1 : decode cX1_has 1 = .ok (.iload_n 1, 1) := by decide +kernel
theorem dX1_has_2 : decode cX1_has 2 = .ok (.ishr, 1) := by decide +kernel
theorem dX1_has_3 : decode cX1_has 3 = .ok (.iconst 1, 1) := by decide +kernel
theorem dX1_has_4 : decode cX1_has 4 = .ok (.iand, 1) := by decide +kernel
theorem dX1_has_5 : decode cX1_has 5 = .ok (.ifCond .eq 7, 3) := by decide +kernel
theorem dX1_has_8 : decode cX1_has 8 = .ok (.iconst 1, 1) := by decide +kernel
theorem dX1_has_9 : decode cX1_has 9 = .ok (.goto 4, 3) := by decide +kernel
theorem dX1_has_12 : decode cX1_has 12 = .ok (.iconst 0, 1) := by decide +kernel
theorem dX1_has_13 : decode cX1_has 13 = .ok (.ireturn, 1) := by decide +kernel
theorem dX2_keep_0 : decode cX2_keep 0 = .ok (.aload_n 0, 1) := by decide +kernel
theorem dX2_keep_1 : decode cX2_keep 1 = .ok (.getfield 11, 3) := by decide +kernel
theorem dX2_keep_4 : decode cX2_keep 4 = .ok (.aload_n 0, 1) := by decide +kernel
theorem dX2_keep_5 : decode cX2_keep 5 = .ok (.getfield 21, 3) := by decide +kernel
theorem dX2_keep_8 : decode cX2_keep 8 = .ok (.iload_n 1, 1) := by decide +kernel
theorem dX2_keep_9 : decode cX2_keep 9 = .ok (.iastore, 1) := by decide +kernel
theorem dX2_keep_10 : decode cX2_keep 10 = .ok (.aload_n 0, 1) := by decide +kernel
theorem dX2_keep_11 : decode cX2_keep 11 = .ok (.getfield 15, 3) := by decide +kernel
theorem dX2_keep_14 : decode cX2_keep 14 = .ok (.aload_n 0, 1) := by decide +kernel
theorem dX2_keep_15 : decode cX2_keep 15 = .ok (.getfield 21, 3) := by decide +kernel
theorem dX2_keep_18 : decode cX2_keep 18 = .ok (.iload_n 2, 1) := by decide +kernel
theorem dX2_keep_19 : decode cX2_keep 19 = .ok (.iastore, 1) := by decide +kernel
theorem dX2_keep_20 : decode cX2_keep 20 = .ok (.aload_n 0, 1) := by decide +kernel
theorem dX2_keep_21 : decode cX2_keep 21 = .ok (.getfield 18, 3) := by decide +kernel
theorem dX2_keep_24 : decode cX2_keep 24 = .ok (.aload_n 0, 1) := by decide +kernel
theorem dX2_keep_25 : decode cX2_keep 25 = .ok (.getfield 21, 3) := by decide +kernel
theorem dX2_keep_28 : decode cX2_keep 28 = .ok (.iload_n 3, 1) := by decide +kernel
theorem dX2_keep_29 : decode cX2_keep 29 = .ok (.iastore, 1) := by decide +kernel
theorem dX2_keep_30 : decode cX2_keep 30 = .ok (.aload_n 0, 1) := by decide +kernel
theorem dX2_keep_31 : decode cX2_keep 31 = .ok (.dup, 1) := by decide +kernel
theorem dX2_keep_32 : decode cX2_keep 32 = .ok (.getfield 21, 3) := by decide +kernel
theorem dX2_keep_35 : decode cX2_keep 35 = .ok (.iconst 1, 1) := by decide +kernel
theorem dX2_keep_36 : decode cX2_keep 36 = .ok (.iadd, 1) := by decide +kernel
theorem dX2_keep_37 : decode cX2_keep 37 = .ok (.putfield 21, 3) := by decide +kernel
theorem dX2_keep_40 : decode cX2_keep 40 = .ok (.aload_n 0, 1) := by decide +kernel
theorem dX2_keep_41 : decode cX2_keep 41 = .ok (.getfield 21, 3) := by decide +kernel
theorem dX2_keep_44 : decode cX2_keep 44 = .ok (.ireturn, 1) := by decide +kernel
theorem dX2_howOften_0 : decode cX2_howOften 0 = .ok (.iconst 0, 1) := by decide +kernel
theorem dX2_howOften_1 : decode cX2_howOften 1 = .ok (.istore_n 2, 1) := by decide +kernel
theorem dX2_howOften_2 : decode cX2_howOften 2 = .ok (.iconst 0, 1) := by decide +kernel
theorem dX2_howOften_3 : decode cX2_howOften 3 = .ok (.istore_n 3, 1) := by decide +kernel
theorem dX2_howOften_4 : decode cX2_howOften 4 = .ok (.iload_n 3, 1) := by decide +kernel
theorem dX2_howOften_5 : decode cX2_howOften 5 = .ok (.aload_n 0, 1) := by decide +kernel
theorem dX2_howOften_6 : decode cX2_howOften 6 = .ok (.getfield 21, 3) := by decide +kernel
theorem dX2_howOften_9 : decode cX2_howOften 9 = .ok (.if_icmp .ge 22, 3) := by decide +kernel
theorem dX2_howOften_12 : decode cX2_howOften 12 = .ok (.aload_n 0, 1) := by decide +kernel
theorem dX2_howOften_13 : decode cX2_howOften 13 = .ok (.getfield 11, 3) := by decide +kernel
theorem dX2_howOften_16 : decode cX2_howOften 16 = .ok (.iload_n 3, 1) := by decide +kernel
theorem dX2_howOften_17 : decode cX2_howOften 17 = .ok (.iaload, 1) := by decide +kernel
theorem dX2_howOften_18 : decode cX2_howOften 18 = .ok (.iload_n 1, 1) := by decide +kernel
theorem dX2_howOften_19 : decode cX2_howOften 19 = .ok (.if_icmp .ne 6, 3) := by decide +kernel
theorem dX2_howOften_22 : decode cX2_howOften 22 = .ok (.iinc 2 1, 3) := by decide +kernel
theorem dX2_howOften_25 : decode cX2_howOften 25 = .ok (.iinc 3 1, 3) := by decide +kernel
theorem dX2_howOften_28 : decode cX2_howOften 28 = .ok (.goto (-24), 3) := by decide +kernel
theorem dX2_howOften_31 : decode cX2_howOften 31 = .ok (.iload_n 2, 1) := by decide +kernel
theorem dX2_howOften_32 : decode cX2_howOften 32 = .ok (.ireturn, 1) := by decide +kernel
theorem dX2_greatest_0 : decode cX2_greatest 0 = .ok (.iconst (-1), 1) := by decide +kernel
theorem dX2_greatest_1 : decode cX2_greatest 1 = .ok (.istore_n 3, 1) := by decide +kernel
theorem dX2_greatest_2 : decode cX2_greatest 2 = .ok (.iconst 0, 1) := by decide +kernel
theorem dX2_greatest_3 : decode cX2_greatest 3 = .ok (.istore 4, 2) := by decide +kernel
theorem dX2_greatest_5 : decode cX2_greatest 5 = .ok (.iload 4, 2) := by decide +kernel
theorem dX2_greatest_7 : decode cX2_greatest 7 = .ok (.aload_n 0, 1) := by decide +kernel
theorem dX2_greatest_8 : decode cX2_greatest 8 = .ok (.getfield 21, 3) := by decide +kernel
theorem dX2_greatest_11 : decode cX2_greatest 11 = .ok (.if_icmp .ge 29, 3) := by decide +kernel
theorem dX2_greatest_14 : decode cX2_greatest 14 = .ok (.aload_n 0, 1) := by decide +kernel
theorem dX2_greatest_15 : decode cX2_greatest 15 = .ok (.getfield 11, 3) := by decide +kernel
theorem dX2_greatest_18 : decode cX2_greatest 18 = .ok (.iload 4, 2) := by decide +kernel
theorem dX2_greatest_20 : decode cX2_greatest 20 = .ok (.iaload, 1) := by decide +kernel
theorem dX2_greatest_21 : decode cX2_greatest 21 = .ok (.iload_n 1, 1) := by decide +kernel
theorem dX2_greatest_22 : decode cX2_greatest 22 = .ok (.if_icmp .ne 12, 3) := by decide +kernel
theorem dX2_greatest_25 : decode cX2_greatest 25 = .ok (.iload_n 3, 1) := by decide +kernel
theorem dX2_greatest_26 : decode cX2_greatest 26 = .ok (.aload_n 2, 1) := by decide +kernel
theorem dX2_greatest_27 : decode cX2_greatest 27 = .ok (.iload 4, 2) := by decide +kernel
theorem dX2_greatest_29 : decode cX2_greatest 29 = .ok (.iaload, 1) := by decide +kernel
theorem dX2_greatest_30 : decode cX2_greatest 30 = .ok (.invokestatic 25, 3) := by decide +kernel
theorem dX2_greatest_33 : decode cX2_greatest 33 = .ok (.istore_n 3, 1) := by decide +kernel
theorem dX2_greatest_34 : decode cX2_greatest 34 = .ok (.iinc 4 1, 3) := by decide +kernel
theorem dX2_greatest_37 : decode cX2_greatest 37 = .ok (.goto (-32), 3) := by decide +kernel
theorem dX2_greatest_40 : decode cX2_greatest 40 = .ok (.iload_n 3, 1) := by decide +kernel
theorem dX2_greatest_41 : decode cX2_greatest 41 = .ok (.ireturn, 1) := by decide +kernel
theorem dX3_tell_0 : decode cX3_tell 0 = .ok (.aload_n 0, 1) := by decide +kernel
theorem dX3_tell_1 : decode cX3_tell 1 = .ok (.iload_n 1, 1) := by decide +kernel
theorem dX3_tell_2 : decode cX3_tell 2 = .ok (.invokevirtual 21, 3) := by decide +kernel
theorem dX3_tell_5 : decode cX3_tell 5 = .ok (.iload_n 2, 1) := by decide +kernel
theorem dX3_tell_6 : decode cX3_tell 6 = .ok (.aload_n 0, 1) := by decide +kernel
theorem dX3_tell_7 : decode cX3_tell 7 = .ok (.getfield 7, 3) := by decide +kernel
theorem dX3_tell_10 : decode cX3_tell 10 = .ok (.arraylength, 1) := by decide +kernel
theorem dX3_tell_11 : decode cX3_tell 11 = .ok (.if_icmp .ge 10, 3) := by decide +kernel
theorem dX3_tell_14 : decode cX3_tell 14 = .ok (.aload_n 0, 1) := by decide +kernel
theorem dX3_tell_15 : decode cX3_tell 15 = .ok (.getfield 7, 3) := by decide +kernel
theorem dX3_tell_18 : decode cX3_tell 18 = .ok (.iload_n 2, 1) := by decide +kernel
theorem dX3_tell_19 : decode cX3_tell 19 = .ok (.iaload, 1) := by decide +kernel
theorem dX3_tell_20 : decode cX3_tell 20 = .ok (.ireturn, 1) := by decide +kernel
theorem dX3_tell_21 : decode cX3_tell 21 = .ok (.aload_n 0, 1) := by decide +kernel
theorem dX3_tell_22 : decode cX3_tell 22 = .ok (.getfield 7, 3) := by decide +kernel
theorem dX3_tell_25 : decode cX3_tell 25 = .ok (.iconst 0, 1) := by decide +kernel
theorem dX3_tell_26 : decode cX3_tell 26 = .ok (.iaload, 1) := by decide +kernel
theorem dX3_tell_27 : decode cX3_tell 27 = .ok (.aload_n 0, 1) := by decide +kernel
theorem dX3_tell_28 : decode cX3_tell 28 = .ok (.getfield 7, 3) := by decide +kernel
theorem dX3_tell_31 : decode cX3_tell 31 = .ok (.iconst 1, 1) := by decide +kernel
theorem dX3_tell_32 : decode cX3_tell 32 = .ok (.iaload, 1) := by decide +kernel
theorem dX3_tell_33 : decode cX3_tell 33 = .ok (.aload_n 0, 1) := by decide +kernel
theorem dX3_tell_34 : decode cX3_tell 34 = .ok (.getfield 7, 3) := by decide +kernel
theorem dX3_tell_37 : decode cX3_tell 37 = .ok (.iconst 2, 1) := by decide +kernel
theorem dX3_tell_38 : decode cX3_tell 38 = .ok (.iaload, 1) := by decide +kernel
theorem dX3_tell_39 : decode cX3_tell 39 = .ok (.aload_n 0, 1) := by decide +kernel
theorem dX3_tell_40 : decode cX3_tell 40 = .ok (.getfield 7, 3) := by decide +kernel
theorem dX3_tell_43 : decode cX3_tell 43 = .ok (.iconst 3, 1) := by decide +kernel
theorem dX3_tell_44 : decode cX3_tell 44 = .ok (.iaload, 1) := by decide +kernel
theorem dX3_tell_45 : decode cX3_tell 45 = .ok (.invokestatic 25, 3) := by decide +kernel
theorem dX3_tell_48 : decode cX3_tell 48 = .ok (.ireturn, 1) := by decide +kernel
theorem dX3_fill_0 : decode cX3_fill 0 = .ok (.iconst 0, 1) := by decide +kernel
theorem dX3_fill_1 : decode cX3_fill 1 = .ok (.istore_n 2, 1) := by decide +kernel
theorem dX3_fill_2 : decode cX3_fill 2 = .ok (.iload_n 2, 1) := by decide +kernel
theorem dX3_fill_3 : decode cX3_fill 3 = .ok (.aload_n 0, 1) := by decide +kernel
theorem dX3_fill_4 : decode cX3_fill 4 = .ok (.getfield 7, 3) := by decide +kernel
theorem dX3_fill_7 : decode cX3_fill 7 = .ok (.arraylength, 1) := by decide +kernel
theorem dX3_fill_8 : decode cX3_fill 8 = .ok (.if_icmp .ge 16, 3) := by decide +kernel
theorem dX3_fill_11 : decode cX3_fill 11 = .ok (.aload_n 0, 1) := by decide +kernel
theorem dX3_fill_12 : decode cX3_fill 12 = .ok (.getfield 7, 3) := by decide +kernel
theorem dX3_fill_15 : decode cX3_fill 15 = .ok (.iload_n 2, 1) := by decide +kernel
theorem dX3_fill_16 : decode cX3_fill 16 = .ok (.iconst 0, 1) := by decide +kernel
theorem dX3_fill_17 : decode cX3_fill 17 = .ok (.iastore, 1) := by decide +kernel
theorem dX3_fill_18 : decode cX3_fill 18 = .ok (.iinc 2 1, 3) := by decide +kernel
theorem dX3_fill_21 : decode cX3_fill 21 = .ok (.goto (-19), 3) := by decide +kernel
theorem dX3_fill_24 : decode cX3_fill 24 = .ok (.iconst 0, 1) := by decide +kernel
theorem dX3_fill_25 : decode cX3_fill 25 = .ok (.istore_n 2, 1) := by decide +kernel
theorem dX3_fill_26 : decode cX3_fill 26 = .ok (.iload_n 2, 1) := by decide +kernel
theorem dX3_fill_27 : decode cX3_fill 27 = .ok (.aload_n 0, 1) := by decide +kernel
theorem dX3_fill_28 : decode cX3_fill 28 = .ok (.getfield 13, 3) := by decide +kernel
theorem dX3_fill_31 : decode cX3_fill 31 = .ok (.getfield 31, 3) := by decide +kernel
theorem dX3_fill_34 : decode cX3_fill 34 = .ok (.if_icmp .ge 107, 3) := by decide +kernel
theorem dX3_fill_37 : decode cX3_fill 37 = .ok (.aload_n 0, 1) := by decide +kernel
theorem dX3_fill_38 : decode cX3_fill 38 = .ok (.getfield 13, 3) := by decide +kernel
theorem dX3_fill_41 : decode cX3_fill 41 = .ok (.aload_n 0, 1) := by decide +kernel
theorem dX3_fill_42 : decode cX3_fill 42 = .ok (.getfield 13, 3) := by decide +kernel
theorem dX3_fill_45 : decode cX3_fill 45 = .ok (.getfield 37, 3) := by decide +kernel
theorem dX3_fill_48 : decode cX3_fill 48 = .ok (.iload_n 2, 1) := by decide +kernel
theorem dX3_fill_49 : decode cX3_fill 49 = .ok (.iaload, 1) := by decide +kernel
theorem dX3_fill_50 : decode cX3_fill 50 = .ok (.iload_n 1, 1) := by decide +kernel
theorem dX3_fill_51 : decode cX3_fill 51 = .ok (.invokevirtual 40, 3) := by decide +kernel
theorem dX3_fill_54 : decode cX3_fill 54 = .ok (.istore_n 3, 1) := by decide +kernel
theorem dX3_fill_55 : decode cX3_fill 55 = .ok (.aload_n 0, 1) := by decide +kernel
theorem dX3_fill_56 : decode cX3_fill 56 = .ok (.getfield 13, 3) := by decide +kernel
theorem dX3_fill_59 : decode cX3_fill 59 = .ok (.aload_n 0, 1) := by decide +kernel
theorem dX3_fill_60 : decode cX3_fill 60 = .ok (.getfield 13, 3) := by decide +kernel
theorem dX3_fill_63 : decode cX3_fill 63 = .ok (.getfield 37, 3) := by decide +kernel
theorem dX3_fill_66 : decode cX3_fill 66 = .ok (.iload_n 2, 1) := by decide +kernel
theorem dX3_fill_67 : decode cX3_fill 67 = .ok (.iaload, 1) := by decide +kernel
theorem dX3_fill_68 : decode cX3_fill 68 = .ok (.iload_n 1, 1) := by decide +kernel
theorem dX3_fill_69 : decode cX3_fill 69 = .ok (.invokevirtual 44, 3) := by decide +kernel
theorem dX3_fill_72 : decode cX3_fill 72 = .ok (.istore 4, 2) := by decide +kernel
theorem dX3_fill_74 : decode cX3_fill 74 = .ok (.iload_n 2, 1) := by decide +kernel
theorem dX3_fill_75 : decode cX3_fill 75 = .ok (.aload_n 0, 1) := by decide +kernel
theorem dX3_fill_76 : decode cX3_fill 76 = .ok (.getfield 13, 3) := by decide +kernel
theorem dX3_fill_79 : decode cX3_fill 79 = .ok (.getfield 31, 3) := by decide +kernel
theorem dX3_fill_82 : decode cX3_fill 82 = .ok (.iconst 2, 1) := by decide +kernel
theorem dX3_fill_83 : decode cX3_fill 83 = .ok (.idiv, 1) := by decide +kernel
theorem dX3_fill_84 : decode cX3_fill 84 = .ok (.if_icmp .ge 7, 3) := by decide +kernel
theorem dX3_fill_87 : decode cX3_fill 87 = .ok (.iconst 0, 1) := by decide +kernel
theorem dX3_fill_88 : decode cX3_fill 88 = .ok (.goto 4, 3) := by decide +kernel
theorem dX3_fill_91 : decode cX3_fill 91 = .ok (.iconst 2, 1) := by decide +kernel
theorem dX3_fill_92 : decode cX3_fill 92 = .ok (.istore 5, 2) := by decide +kernel
theorem dX3_fill_94 : decode cX3_fill 94 = .ok (.iload_n 3, 1) := by decide +kernel
theorem dX3_fill_95 : decode cX3_fill 95 = .ok (.ifCond .le 40, 3) := by decide +kernel
theorem dX3_fill_98 : decode cX3_fill 98 = .ok (.aload_n 0, 1) := by decide +kernel
theorem dX3_fill_99 : decode cX3_fill 99 = .ok (.getfield 7, 3) := by decide +kernel
theorem dX3_fill_102 : decode cX3_fill 102 = .ok (.bipush 100, 2) := by decide +kernel
theorem dX3_fill_104 : decode cX3_fill 104 = .ok (.iload 4, 2) := by decide +kernel
theorem dX3_fill_106 : decode cX3_fill 106 = .ok (.imul, 1) := by decide +kernel
theorem dX3_fill_107 : decode cX3_fill 107 = .ok (.aload_n 0, 1) := by decide +kernel
theorem dX3_fill_108 : decode cX3_fill 108 = .ok (.getfield 17, 3) := by decide +kernel
theorem dX3_fill_111 : decode cX3_fill 111 = .ok (.getfield 47, 3) := by decide +kernel
theorem dX3_fill_114 : decode cX3_fill 114 = .ok (.iload_n 1, 1) := by decide +kernel
theorem dX3_fill_115 : decode cX3_fill 115 = .ok (.iaload, 1) := by decide +kernel
theorem dX3_fill_116 : decode cX3_fill 116 = .ok (.iload_n 3, 1) := by decide +kernel
theorem dX3_fill_117 : decode cX3_fill 117 = .ok (.imul, 1) := by decide +kernel
theorem dX3_fill_118 : decode cX3_fill 118 = .ok (.if_icmp .lt 8, 3) := by decide +kernel
theorem dX3_fill_121 : decode cX3_fill 121 = .ok (.iload 5, 2) := by decide +kernel
theorem dX3_fill_123 : decode cX3_fill 123 = .ok (.goto 7, 3) := by decide +kernel
theorem dX3_fill_126 : decode cX3_fill 126 = .ok (.iload 5, 2) := by decide +kernel
theorem dX3_fill_128 : decode cX3_fill 128 = .ok (.iconst 1, 1) := by decide +kernel
theorem dX3_fill_129 : decode cX3_fill 129 = .ok (.iadd, 1) := by decide +kernel
theorem dX3_fill_130 : decode cX3_fill 130 = .ok (.dup2, 1) := by decide +kernel
theorem dX3_fill_131 : decode cX3_fill 131 = .ok (.iaload, 1) := by decide +kernel
theorem dX3_fill_132 : decode cX3_fill 132 = .ok (.iconst 1, 1) := by decide +kernel
theorem dX3_fill_133 : decode cX3_fill 133 = .ok (.iadd, 1) := by decide +kernel
theorem dX3_fill_134 : decode cX3_fill 134 = .ok (.iastore, 1) := by decide +kernel
theorem dX3_fill_135 : decode cX3_fill 135 = .ok (.iinc 2 1, 3) := by decide +kernel
theorem dX3_fill_138 : decode cX3_fill 138 = .ok (.goto (-112), 3) := by decide +kernel
theorem dX3_fill_141 : decode cX3_fill 141 = .ok (.return_, 1) := by decide +kernel
theorem dX4_ofPassing_0 : decode cX4_ofPassing 0 = .ok (.lconst 0, 1) := by decide +kernel
theorem dX4_ofPassing_1 : decode cX4_ofPassing 1 = .ok (.lstore_n 3, 1) := by decide +kernel
theorem dX4_ofPassing_2 : decode cX4_ofPassing 2 = .ok (.iconst 0, 1) := by decide +kernel
theorem dX4_ofPassing_3 : decode cX4_ofPassing 3 = .ok (.istore 5, 2) := by decide +kernel
theorem dX4_ofPassing_5 : decode cX4_ofPassing 5 = .ok (.iload 5, 2) := by decide +kernel
theorem dX4_ofPassing_7 : decode cX4_ofPassing 7 = .ok (.iload_n 0, 1) := by decide +kernel
theorem dX4_ofPassing_8 : decode cX4_ofPassing 8 = .ok (.if_icmp .gt 48, 3) := by decide +kernel
theorem dX4_ofPassing_11 : decode cX4_ofPassing 11 = .ok (.bipush 100, 2) := by decide +kernel
theorem dX4_ofPassing_13 : decode cX4_ofPassing 13 = .ok (.iload 5, 2) := by decide +kernel
theorem dX4_ofPassing_15 : decode cX4_ofPassing 15 = .ok (.imul, 1) := by decide +kernel
theorem dX4_ofPassing_16 : decode cX4_ofPassing 16 = .ok (.iload_n 2, 1) := by decide +kernel
theorem dX4_ofPassing_17 : decode cX4_ofPassing 17 = .ok (.iload_n 0, 1) := by decide +kernel
theorem dX4_ofPassing_18 : decode cX4_ofPassing 18 = .ok (.imul, 1) := by decide +kernel
theorem dX4_ofPassing_19 : decode cX4_ofPassing 19 = .ok (.if_icmp .lt 31, 3) := by decide +kernel
theorem dX4_ofPassing_22 : decode cX4_ofPassing 22 = .ok (.lload_n 3, 1) := by decide +kernel
theorem dX4_ofPassing_23 : decode cX4_ofPassing 23 = .ok (.iload_n 0, 1) := by decide +kernel
theorem dX4_ofPassing_24 : decode cX4_ofPassing 24 = .ok (.iload 5, 2) := by decide +kernel
theorem dX4_ofPassing_26 : decode cX4_ofPassing 26 = .ok (.invokestatic 7, 3) := by decide +kernel
theorem dX4_ofPassing_29 : decode cX4_ofPassing 29 = .ok (.iload_n 1, 1) := by decide +kernel
theorem dX4_ofPassing_30 : decode cX4_ofPassing 30 = .ok (.iload 5, 2) := by decide +kernel
theorem dX4_ofPassing_32 : decode cX4_ofPassing 32 = .ok (.invokestatic 13, 3) := by decide +kernel
theorem dX4_ofPassing_35 : decode cX4_ofPassing 35 = .ok (.lmul, 1) := by decide +kernel
theorem dX4_ofPassing_36 : decode cX4_ofPassing 36 = .ok (.bipush 100, 2) := by decide +kernel
theorem dX4_ofPassing_38 : decode cX4_ofPassing 38 = .ok (.iload_n 1, 1) := by decide +kernel
theorem dX4_ofPassing_39 : decode cX4_ofPassing 39 = .ok (.isub, 1) := by decide +kernel
theorem dX4_ofPassing_40 : decode cX4_ofPassing 40 = .ok (.iload_n 0, 1) := by decide +kernel
theorem dX4_ofPassing_41 : decode cX4_ofPassing 41 = .ok (.iload 5, 2) := by decide +kernel
theorem dX4_ofPassing_43 : decode cX4_ofPassing 43 = .ok (.isub, 1) := by decide +kernel
theorem dX4_ofPassing_44 : decode cX4_ofPassing 44 = .ok (.invokestatic 13, 3) := by decide +kernel
theorem dX4_ofPassing_47 : decode cX4_ofPassing 47 = .ok (.lmul, 1) := by decide +kernel
theorem dX4_ofPassing_48 : decode cX4_ofPassing 48 = .ok (.ladd, 1) := by decide +kernel
theorem dX4_ofPassing_49 : decode cX4_ofPassing 49 = .ok (.lstore_n 3, 1) := by decide +kernel
theorem dX4_ofPassing_50 : decode cX4_ofPassing 50 = .ok (.iinc 5 1, 3) := by decide +kernel
theorem dX4_ofPassing_53 : decode cX4_ofPassing 53 = .ok (.goto (-48), 3) := by decide +kernel
theorem dX4_ofPassing_56 : decode cX4_ofPassing 56 = .ok (.iload_n 0, 1) := by decide +kernel
theorem dX4_ofPassing_57 : decode cX4_ofPassing 57 = .ok (.istore 5, 2) := by decide +kernel
theorem dX4_ofPassing_59 : decode cX4_ofPassing 59 = .ok (.iload 5, 2) := by decide +kernel
theorem dX4_ofPassing_61 : decode cX4_ofPassing 61 = .ok (.iconst 3, 1) := by decide +kernel
theorem dX4_ofPassing_62 : decode cX4_ofPassing 62 = .ok (.if_icmp .ge 15, 3) := by decide +kernel
theorem dX4_ofPassing_65 : decode cX4_ofPassing 65 = .ok (.lload_n 3, 1) := by decide +kernel
theorem dX4_ofPassing_66 : decode cX4_ofPassing 66 = .ok (.ldc2_w 16, 3) := by decide +kernel
theorem dX4_ofPassing_69 : decode cX4_ofPassing 69 = .ok (.lmul, 1) := by decide +kernel
theorem dX4_ofPassing_70 : decode cX4_ofPassing 70 = .ok (.lstore_n 3, 1) := by decide +kernel
theorem dX4_ofPassing_71 : decode cX4_ofPassing 71 = .ok (.iinc 5 1, 3) := by decide +kernel
theorem dX4_ofPassing_74 : decode cX4_ofPassing 74 = .ok (.goto (-15), 3) := by decide +kernel
theorem dX4_ofPassing_77 : decode cX4_ofPassing 77 = .ok (.iload_n 0, 1) := by decide +kernel
theorem dX4_ofPassing_78 : decode cX4_ofPassing 78 = .ok (.istore 5, 2) := by decide +kernel
theorem dX4_ofPassing_80 : decode cX4_ofPassing 80 = .ok (.iload 5, 2) := by decide +kernel
theorem dX4_ofPassing_82 : decode cX4_ofPassing 82 = .ok (.iconst 3, 1) := by decide +kernel
theorem dX4_ofPassing_83 : decode cX4_ofPassing 83 = .ok (.if_icmp .le 15, 3) := by decide +kernel
theorem dX4_ofPassing_86 : decode cX4_ofPassing 86 = .ok (.lload_n 3, 1) := by decide +kernel
theorem dX4_ofPassing_87 : decode cX4_ofPassing 87 = .ok (.ldc2_w 16, 3) := by decide +kernel
theorem dX4_ofPassing_90 : decode cX4_ofPassing 90 = .ok (.ldiv, 1) := by decide +kernel
theorem dX4_ofPassing_91 : decode cX4_ofPassing 91 = .ok (.lstore_n 3, 1) := by decide +kernel
theorem dX4_ofPassing_92 : decode cX4_ofPassing 92 = .ok (.iinc 5 (-1), 3) := by decide +kernel
theorem dX4_ofPassing_95 : decode cX4_ofPassing 95 = .ok (.goto (-15), 3) := by decide +kernel
theorem dX4_ofPassing_98 : decode cX4_ofPassing 98 = .ok (.lload_n 3, 1) := by decide +kernel
theorem dX4_ofPassing_99 : decode cX4_ofPassing 99 = .ok (.l2i, 1) := by decide +kernel
theorem dX4_ofPassing_100 : decode cX4_ofPassing 100 = .ok (.ireturn, 1) := by decide +kernel
theorem dX4_falseShare_0 : decode cX4_falseShare 0 = .ok (.iload_n 0, 1) := by decide +kernel
theorem dX4_falseShare_1 : decode cX4_falseShare 1 = .ok (.iload_n 1, 1) := by decide +kernel
theorem dX4_falseShare_2 : decode cX4_falseShare 2 = .ok (.iload_n 2, 1) := by decide +kernel
theorem dX4_falseShare_3 : decode cX4_falseShare 3 = .ok (.iload_n 3, 1) := by decide +kernel
theorem dX4_falseShare_4 : decode cX4_falseShare 4 = .ok (.invokestatic 18, 3) := by decide +kernel
theorem dX4_falseShare_7 : decode cX4_falseShare 7 = .ok (.istore 4, 2) := by decide +kernel
theorem dX4_falseShare_9 : decode cX4_falseShare 9 = .ok (.lconst 0, 1) := by decide +kernel
theorem dX4_falseShare_10 : decode cX4_falseShare 10 = .ok (.lstore 5, 2) := by decide +kernel
theorem dX4_falseShare_12 : decode cX4_falseShare 12 = .ok (.lconst 0, 1) := by decide +kernel
theorem dX4_falseShare_13 : decode cX4_falseShare 13 = .ok (.lstore 7, 2) := by decide +kernel
theorem dX4_falseShare_15 : decode cX4_falseShare 15 = .ok (.iconst 0, 1) := by decide +kernel
theorem dX4_falseShare_16 : decode cX4_falseShare 16 = .ok (.istore 9, 2) := by decide +kernel
theorem dX4_falseShare_18 : decode cX4_falseShare 18 = .ok (.iload 9, 2) := by decide +kernel
theorem dX4_falseShare_20 : decode cX4_falseShare 20 = .ok (.iload_n 0, 1) := by decide +kernel
theorem dX4_falseShare_21 : decode cX4_falseShare 21 = .ok (.iload_n 1, 1) := by decide +kernel
theorem dX4_falseShare_22 : decode cX4_falseShare 22 = .ok (.iadd, 1) := by decide +kernel
theorem dX4_falseShare_23 : decode cX4_falseShare 23 = .ok (.if_icmp .gt 66, 3) := by decide +kernel
theorem dX4_falseShare_26 : decode cX4_falseShare 26 = .ok (.iload_n 0, 1) := by decide +kernel
theorem dX4_falseShare_27 : decode cX4_falseShare 27 = .ok (.iload_n 2, 1) := by decide +kernel
theorem dX4_falseShare_28 : decode cX4_falseShare 28 = .ok (.iadd, 1) := by decide +kernel
theorem dX4_falseShare_29 : decode cX4_falseShare 29 = .ok (.iload 9, 2) := by decide +kernel
theorem dX4_falseShare_31 : decode cX4_falseShare 31 = .ok (.invokestatic 7, 3) := by decide +kernel
theorem dX4_falseShare_34 : decode cX4_falseShare 34 = .ok (.iload_n 1, 1) := by decide +kernel
theorem dX4_falseShare_35 : decode cX4_falseShare 35 = .ok (.iload_n 3, 1) := by decide +kernel
theorem dX4_falseShare_36 : decode cX4_falseShare 36 = .ok (.iadd, 1) := by decide +kernel
theorem dX4_falseShare_37 : decode cX4_falseShare 37 = .ok (.iload_n 0, 1) := by decide +kernel
theorem dX4_falseShare_38 : decode cX4_falseShare 38 = .ok (.iload_n 1, 1) := by decide +kernel
theorem dX4_falseShare_39 : decode cX4_falseShare 39 = .ok (.iadd, 1) := by decide +kernel
theorem dX4_falseShare_40 : decode cX4_falseShare 40 = .ok (.iload 9, 2) := by decide +kernel
theorem dX4_falseShare_42 : decode cX4_falseShare 42 = .ok (.isub, 1) := by decide +kernel
theorem dX4_falseShare_43 : decode cX4_falseShare 43 = .ok (.invokestatic 7, 3) := by decide +kernel
theorem dX4_falseShare_46 : decode cX4_falseShare 46 = .ok (.lmul, 1) := by decide +kernel
theorem dX4_falseShare_47 : decode cX4_falseShare 47 = .ok (.lstore 10, 2) := by decide +kernel
theorem dX4_falseShare_49 : decode cX4_falseShare 49 = .ok (.lload 7, 2) := by decide +kernel
theorem dX4_falseShare_51 : decode cX4_falseShare 51 = .ok (.lload 10, 2) := by decide +kernel
theorem dX4_falseShare_53 : decode cX4_falseShare 53 = .ok (.ladd, 1) := by decide +kernel
theorem dX4_falseShare_54 : decode cX4_falseShare 54 = .ok (.lstore 7, 2) := by decide +kernel
theorem dX4_falseShare_56 : decode cX4_falseShare 56 = .ok (.iload 4, 2) := by decide +kernel
theorem dX4_falseShare_58 : decode cX4_falseShare 58 = .ok (.ifCond .eq 12, 3) := by decide +kernel
theorem dX4_falseShare_61 : decode cX4_falseShare 61 = .ok (.iload 9, 2) := by decide +kernel
theorem dX4_falseShare_63 : decode cX4_falseShare 63 = .ok (.iload_n 0, 1) := by decide +kernel
theorem dX4_falseShare_64 : decode cX4_falseShare 64 = .ok (.if_icmp .lt 19, 3) := by decide +kernel
theorem dX4_falseShare_67 : decode cX4_falseShare 67 = .ok (.goto 9, 3) := by decide +kernel
theorem dX4_falseShare_70 : decode cX4_falseShare 70 = .ok (.iload 9, 2) := by decide +kernel
theorem dX4_falseShare_72 : decode cX4_falseShare 72 = .ok (.iload_n 0, 1) := by decide +kernel
theorem dX4_falseShare_73 : decode cX4_falseShare 73 = .ok (.if_icmp .gt 10, 3) := by decide +kernel
theorem dX4_falseShare_76 : decode cX4_falseShare 76 = .ok (.lload 5, 2) := by decide +kernel
theorem dX4_falseShare_78 : decode cX4_falseShare 78 = .ok (.lload 10, 2) := by decide +kernel
theorem dX4_falseShare_80 : decode cX4_falseShare 80 = .ok (.ladd, 1) := by decide +kernel
theorem dX4_falseShare_81 : decode cX4_falseShare 81 = .ok (.lstore 5, 2) := by decide +kernel
theorem dX4_falseShare_83 : decode cX4_falseShare 83 = .ok (.iinc 9 1, 3) := by decide +kernel
theorem dX4_falseShare_86 : decode cX4_falseShare 86 = .ok (.goto (-68), 3) := by decide +kernel
theorem dX4_falseShare_89 : decode cX4_falseShare 89 = .ok (.lload 5, 2) := by decide +kernel
theorem dX4_falseShare_91 : decode cX4_falseShare 91 = .ok (.lload 7, 2) := by decide +kernel
theorem dX4_falseShare_93 : decode cX4_falseShare 93 = .ok (.invokestatic 22, 3) := by decide +kernel
theorem dX4_falseShare_96 : decode cX4_falseShare 96 = .ok (.ireturn, 1) := by decide +kernel
theorem dX4_isNotBelow_0 : decode cX4_isNotBelow 0 = .ok (.iload_n 0, 1) := by decide +kernel
theorem dX4_isNotBelow_1 : decode cX4_isNotBelow 1 = .ok (.iload_n 1, 1) := by decide +kernel
theorem dX4_isNotBelow_2 : decode cX4_isNotBelow 2 = .ok (.iadd, 1) := by decide +kernel
theorem dX4_isNotBelow_3 : decode cX4_isNotBelow 3 = .ok (.ifCond .ne 13, 3) := by decide +kernel
theorem dX4_isNotBelow_6 : decode cX4_isNotBelow 6 = .ok (.iload_n 2, 1) := by decide +kernel
theorem dX4_isNotBelow_7 : decode cX4_isNotBelow 7 = .ok (.ifCond .ne 7, 3) := by decide +kernel
theorem dX4_isNotBelow_10 : decode cX4_isNotBelow 10 = .ok (.iconst 1, 1) := by decide +kernel
theorem dX4_isNotBelow_11 : decode cX4_isNotBelow 11 = .ok (.goto 4, 3) := by decide +kernel
theorem dX4_isNotBelow_14 : decode cX4_isNotBelow 14 = .ok (.iconst 0, 1) := by decide +kernel
theorem dX4_isNotBelow_15 : decode cX4_isNotBelow 15 = .ok (.ireturn, 1) := by decide +kernel
theorem dX4_isNotBelow_16 : decode cX4_isNotBelow 16 = .ok (.iload_n 0, 1) := by decide +kernel
theorem dX4_isNotBelow_17 : decode cX4_isNotBelow 17 = .ok (.iload_n 2, 1) := by decide +kernel
theorem dX4_isNotBelow_18 : decode cX4_isNotBelow 18 = .ok (.iload_n 3, 1) := by decide +kernel
theorem dX4_isNotBelow_19 : decode cX4_isNotBelow 19 = .ok (.iadd, 1) := by decide +kernel
theorem dX4_isNotBelow_20 : decode cX4_isNotBelow 20 = .ok (.imul, 1) := by decide +kernel
theorem dX4_isNotBelow_21 : decode cX4_isNotBelow 21 = .ok (.iload_n 2, 1) := by decide +kernel
theorem dX4_isNotBelow_22 : decode cX4_isNotBelow 22 = .ok (.iload_n 0, 1) := by decide +kernel
theorem dX4_isNotBelow_23 : decode cX4_isNotBelow 23 = .ok (.iload_n 1, 1) := by decide +kernel
theorem dX4_isNotBelow_24 : decode cX4_isNotBelow 24 = .ok (.iadd, 1) := by decide +kernel
theorem dX4_isNotBelow_25 : decode cX4_isNotBelow 25 = .ok (.imul, 1) := by decide +kernel
theorem dX4_isNotBelow_26 : decode cX4_isNotBelow 26 = .ok (.if_icmp .lt 7, 3) := by decide +kernel
theorem dX4_isNotBelow_29 : decode cX4_isNotBelow 29 = .ok (.iconst 1, 1) := by decide +kernel
theorem dX4_isNotBelow_30 : decode cX4_isNotBelow 30 = .ok (.goto 4, 3) := by decide +kernel
theorem dX4_isNotBelow_33 : decode cX4_isNotBelow 33 = .ok (.iconst 0, 1) := by decide +kernel
theorem dX4_isNotBelow_34 : decode cX4_isNotBelow 34 = .ok (.ireturn, 1) := by decide +kernel
theorem dX4_millionths_0 : decode cX4_millionths 0 = .ok (.lload_n 2, 1) := by decide +kernel
theorem dX4_millionths_1 : decode cX4_millionths 1 = .ok (.lconst 0, 1) := by decide +kernel
theorem dX4_millionths_2 : decode cX4_millionths 2 = .ok (.lcmp, 1) := by decide +kernel
theorem dX4_millionths_3 : decode cX4_millionths 3 = .ok (.ifCond .gt 5, 3) := by decide +kernel
theorem dX4_millionths_6 : decode cX4_millionths 6 = .ok (.iconst 0, 1) := by decide +kernel
theorem dX4_millionths_7 : decode cX4_millionths 7 = .ok (.ireturn, 1) := by decide +kernel
theorem dX4_millionths_8 : decode cX4_millionths 8 = .ok (.lload_n 0, 1) := by decide +kernel
theorem dX4_millionths_9 : decode cX4_millionths 9 = .ok (.lload_n 2, 1) := by decide +kernel
theorem dX4_millionths_10 : decode cX4_millionths 10 = .ok (.ldiv, 1) := by decide +kernel
theorem dX4_millionths_11 : decode cX4_millionths 11 = .ok (.lstore 4, 2) := by decide +kernel
theorem dX4_millionths_13 : decode cX4_millionths 13 = .ok (.lload_n 0, 1) := by decide +kernel
theorem dX4_millionths_14 : decode cX4_millionths 14 = .ok (.lload_n 2, 1) := by decide +kernel
theorem dX4_millionths_15 : decode cX4_millionths 15 = .ok (.lrem, 1) := by decide +kernel
theorem dX4_millionths_16 : decode cX4_millionths 16 = .ok (.lstore 6, 2) := by decide +kernel
theorem dX4_millionths_18 : decode cX4_millionths 18 = .ok (.iconst 0, 1) := by decide +kernel
theorem dX4_millionths_19 : decode cX4_millionths 19 = .ok (.istore 8, 2) := by decide +kernel
theorem dX4_millionths_21 : decode cX4_millionths 21 = .ok (.iload 8, 2) := by decide +kernel
theorem dX4_millionths_23 : decode cX4_millionths 23 = .ok (.bipush 6, 2) := by decide +kernel
theorem dX4_millionths_25 : decode cX4_millionths 25 = .ok (.if_icmp .ge 36, 3) := by decide +kernel
theorem dX4_millionths_28 : decode cX4_millionths 28 = .ok (.lload 6, 2) := by decide +kernel
theorem dX4_millionths_30 : decode cX4_millionths 30 = .ok (.ldc2_w 26, 3) := by decide +kernel
theorem dX4_millionths_33 : decode cX4_millionths 33 = .ok (.lmul, 1) := by decide +kernel
theorem dX4_millionths_34 : decode cX4_millionths 34 = .ok (.lstore 6, 2) := by decide +kernel
theorem dX4_millionths_36 : decode cX4_millionths 36 = .ok (.ldc2_w 26, 3) := by decide +kernel
theorem dX4_millionths_39 : decode cX4_millionths 39 = .ok (.lload 4, 2) := by decide +kernel
theorem dX4_millionths_41 : decode cX4_millionths 41 = .ok (.lmul, 1) := by decide +kernel
theorem dX4_millionths_42 : decode cX4_millionths 42 = .ok (.lload 6, 2) := by decide +kernel
theorem dX4_millionths_44 : decode cX4_millionths 44 = .ok (.lload_n 2, 1) := by decide +kernel
theorem dX4_millionths_45 : decode cX4_millionths 45 = .ok (.ldiv, 1) := by decide +kernel
theorem dX4_millionths_46 : decode cX4_millionths 46 = .ok (.ladd, 1) := by decide +kernel
theorem dX4_millionths_47 : decode cX4_millionths 47 = .ok (.lstore 4, 2) := by decide +kernel
theorem dX4_millionths_49 : decode cX4_millionths 49 = .ok (.lload 6, 2) := by decide +kernel
theorem dX4_millionths_51 : decode cX4_millionths 51 = .ok (.lload_n 2, 1) := by decide +kernel
theorem dX4_millionths_52 : decode cX4_millionths 52 = .ok (.lrem, 1) := by decide +kernel
theorem dX4_millionths_53 : decode cX4_millionths 53 = .ok (.lstore 6, 2) := by decide +kernel
theorem dX4_millionths_55 : decode cX4_millionths 55 = .ok (.iinc 8 1, 3) := by decide +kernel
theorem dX4_millionths_58 : decode cX4_millionths 58 = .ok (.goto (-37), 3) := by decide +kernel
theorem dX4_millionths_61 : decode cX4_millionths 61 = .ok (.lload 4, 2) := by decide +kernel
theorem dX4_millionths_63 : decode cX4_millionths 63 = .ok (.l2i, 1) := by decide +kernel
theorem dX4_millionths_64 : decode cX4_millionths 64 = .ok (.ireturn, 1) := by decide +kernel
theorem dX4_choose_0 : decode cX4_choose 0 = .ok (.iload_n 1, 1) := by decide +kernel
theorem dX4_choose_1 : decode cX4_choose 1 = .ok (.ifCond .lt 8, 3) := by decide +kernel
theorem dX4_choose_4 : decode cX4_choose 4 = .ok (.iload_n 1, 1) := by decide +kernel
theorem dX4_choose_5 : decode cX4_choose 5 = .ok (.iload_n 0, 1) := by decide +kernel
theorem dX4_choose_6 : decode cX4_choose 6 = .ok (.if_icmp .le 5, 3) := by decide +kernel
theorem dX4_choose_9 : decode cX4_choose 9 = .ok (.lconst 0, 1) := by decide +kernel
theorem dX4_choose_10 : decode cX4_choose 10 = .ok (.lreturn, 1) := by decide +kernel
theorem dX4_choose_11 : decode cX4_choose 11 = .ok (.lconst 1, 1) := by decide +kernel
theorem dX4_choose_12 : decode cX4_choose 12 = .ok (.lstore_n 2, 1) := by decide +kernel
theorem dX4_choose_13 : decode cX4_choose 13 = .ok (.iconst 1, 1) := by decide +kernel
theorem dX4_choose_14 : decode cX4_choose 14 = .ok (.istore 4, 2) := by decide +kernel
theorem dX4_choose_16 : decode cX4_choose 16 = .ok (.iload 4, 2) := by decide +kernel
theorem dX4_choose_18 : decode cX4_choose 18 = .ok (.iload_n 1, 1) := by decide +kernel
theorem dX4_choose_19 : decode cX4_choose 19 = .ok (.if_icmp .gt 23, 3) := by decide +kernel
theorem dX4_choose_22 : decode cX4_choose 22 = .ok (.lload_n 2, 1) := by decide +kernel
theorem dX4_choose_23 : decode cX4_choose 23 = .ok (.iload_n 0, 1) := by decide +kernel
theorem dX4_choose_24 : decode cX4_choose 24 = .ok (.iload_n 1, 1) := by decide +kernel
theorem dX4_choose_25 : decode cX4_choose 25 = .ok (.isub, 1) := by decide +kernel
theorem dX4_choose_26 : decode cX4_choose 26 = .ok (.iload 4, 2) := by decide +kernel
theorem dX4_choose_28 : decode cX4_choose 28 = .ok (.iadd, 1) := by decide +kernel
theorem dX4_choose_29 : decode cX4_choose 29 = .ok (.i2l, 1) := by decide +kernel
theorem dX4_choose_30 : decode cX4_choose 30 = .ok (.lmul, 1) := by decide +kernel
theorem dX4_choose_31 : decode cX4_choose 31 = .ok (.iload 4, 2) := by decide +kernel
theorem dX4_choose_33 : decode cX4_choose 33 = .ok (.i2l, 1) := by decide +kernel
theorem dX4_choose_34 : decode cX4_choose 34 = .ok (.ldiv, 1) := by decide +kernel
theorem dX4_choose_35 : decode cX4_choose 35 = .ok (.lstore_n 2, 1) := by decide +kernel
theorem dX4_choose_36 : decode cX4_choose 36 = .ok (.iinc 4 1, 3) := by decide +kernel
theorem dX4_choose_39 : decode cX4_choose 39 = .ok (.goto (-23), 3) := by decide +kernel
theorem dX4_choose_42 : decode cX4_choose 42 = .ok (.lload_n 2, 1) := by decide +kernel
theorem dX4_choose_43 : decode cX4_choose 43 = .ok (.lreturn, 1) := by decide +kernel
theorem dX4_power_0 : decode cX4_power 0 = .ok (.lconst 1, 1) := by decide +kernel
theorem dX4_power_1 : decode cX4_power 1 = .ok (.lstore_n 2, 1) := by decide +kernel
theorem dX4_power_2 : decode cX4_power 2 = .ok (.iconst 0, 1) := by decide +kernel
theorem dX4_power_3 : decode cX4_power 3 = .ok (.istore 4, 2) := by decide +kernel
theorem dX4_power_5 : decode cX4_power 5 = .ok (.iload 4, 2) := by decide +kernel
theorem dX4_power_7 : decode cX4_power 7 = .ok (.iload_n 1, 1) := by decide +kernel
theorem dX4_power_8 : decode cX4_power 8 = .ok (.if_icmp .ge 14, 3) := by decide +kernel
theorem dX4_power_11 : decode cX4_power 11 = .ok (.lload_n 2, 1) := by decide +kernel
theorem dX4_power_12 : decode cX4_power 12 = .ok (.iload_n 0, 1) := by decide +kernel
theorem dX4_power_13 : decode cX4_power 13 = .ok (.i2l, 1) := by decide +kernel
theorem dX4_power_14 : decode cX4_power 14 = .ok (.lmul, 1) := by decide +kernel
theorem dX4_power_15 : decode cX4_power 15 = .ok (.lstore_n 2, 1) := by decide +kernel
theorem dX4_power_16 : decode cX4_power 16 = .ok (.iinc 4 1, 3) := by decide +kernel
theorem dX4_power_19 : decode cX4_power 19 = .ok (.goto (-14), 3) := by decide +kernel
theorem dX4_power_22 : decode cX4_power 22 = .ok (.lload_n 2, 1) := by decide +kernel
theorem dX4_power_23 : decode cX4_power 23 = .ok (.lreturn, 1) := by decide +kernel
theorem dX5_mostYes_0 : decode cX5_mostYes 0 = .ok (.iconst (-1), 1) := by decide +kernel
theorem dX5_mostYes_1 : decode cX5_mostYes 1 = .ok (.istore_n 1, 1) := by decide +kernel
theorem dX5_mostYes_2 : decode cX5_mostYes 2 = .ok (.iconst (-1), 1) := by decide +kernel
theorem dX5_mostYes_3 : decode cX5_mostYes 3 = .ok (.istore_n 2, 1) := by decide +kernel
theorem dX5_mostYes_4 : decode cX5_mostYes 4 = .ok (.iconst 0, 1) := by decide +kernel
theorem dX5_mostYes_5 : decode cX5_mostYes 5 = .ok (.istore_n 3, 1) := by decide +kernel
theorem dX5_mostYes_6 : decode cX5_mostYes 6 = .ok (.iload_n 3, 1) := by decide +kernel
theorem dX5_mostYes_7 : decode cX5_mostYes 7 = .ok (.aload_n 0, 1) := by decide +kernel
theorem dX5_mostYes_8 : decode cX5_mostYes 8 = .ok (.getfield 9, 3) := by decide +kernel
theorem dX5_mostYes_11 : decode cX5_mostYes 11 = .ok (.getfield 19, 3) := by decide +kernel
theorem dX5_mostYes_14 : decode cX5_mostYes 14 = .ok (.if_icmp .ge 43, 3) := by decide +kernel
theorem dX5_mostYes_17 : decode cX5_mostYes 17 = .ok (.aload_n 0, 1) := by decide +kernel
theorem dX5_mostYes_18 : decode cX5_mostYes 18 = .ok (.aload_n 0, 1) := by decide +kernel
theorem dX5_mostYes_19 : decode cX5_mostYes 19 = .ok (.getfield 9, 3) := by decide +kernel
theorem dX5_mostYes_22 : decode cX5_mostYes 22 = .ok (.getfield 25, 3) := by decide +kernel
theorem dX5_mostYes_25 : decode cX5_mostYes 25 = .ok (.iload_n 3, 1) := by decide +kernel
theorem dX5_mostYes_26 : decode cX5_mostYes 26 = .ok (.iaload, 1) := by decide +kernel
theorem dX5_mostYes_27 : decode cX5_mostYes 27 = .ok (.invokevirtual 29, 3) := by decide +kernel
theorem dX5_mostYes_30 : decode cX5_mostYes 30 = .ok (.istore 4, 2) := by decide +kernel
theorem dX5_mostYes_32 : decode cX5_mostYes 32 = .ok (.iload 4, 2) := by decide +kernel
theorem dX5_mostYes_34 : decode cX5_mostYes 34 = .ok (.iload_n 2, 1) := by decide +kernel
theorem dX5_mostYes_35 : decode cX5_mostYes 35 = .ok (.if_icmp .le 16, 3) := by decide +kernel
theorem dX5_mostYes_38 : decode cX5_mostYes 38 = .ok (.iload 4, 2) := by decide +kernel
theorem dX5_mostYes_40 : decode cX5_mostYes 40 = .ok (.istore_n 2, 1) := by decide +kernel
theorem dX5_mostYes_41 : decode cX5_mostYes 41 = .ok (.aload_n 0, 1) := by decide +kernel
theorem dX5_mostYes_42 : decode cX5_mostYes 42 = .ok (.getfield 9, 3) := by decide +kernel
theorem dX5_mostYes_45 : decode cX5_mostYes 45 = .ok (.getfield 25, 3) := by decide +kernel
theorem dX5_mostYes_48 : decode cX5_mostYes 48 = .ok (.iload_n 3, 1) := by decide +kernel
theorem dX5_mostYes_49 : decode cX5_mostYes 49 = .ok (.iaload, 1) := by decide +kernel
theorem dX5_mostYes_50 : decode cX5_mostYes 50 = .ok (.istore_n 1, 1) := by decide +kernel
theorem dX5_mostYes_51 : decode cX5_mostYes 51 = .ok (.iinc 3 1, 3) := by decide +kernel
theorem dX5_mostYes_54 : decode cX5_mostYes 54 = .ok (.goto (-48), 3) := by decide +kernel
theorem dX5_mostYes_57 : decode cX5_mostYes 57 = .ok (.iload_n 1, 1) := by decide +kernel
theorem dX5_mostYes_58 : decode cX5_mostYes 58 = .ok (.ireturn, 1) := by decide +kernel
theorem dX5_greatestShare_0 : decode cX5_greatestShare 0 = .ok (.iconst (-1), 1) := by decide +kernel
theorem dX5_greatestShare_1 : decode cX5_greatestShare 1 = .ok (.istore_n 1, 1) := by decide +kernel
theorem dX5_greatestShare_2 : decode cX5_greatestShare 2 = .ok (.iconst 0, 1) := by decide +kernel
theorem dX5_greatestShare_3 : decode cX5_greatestShare 3 = .ok (.istore_n 2, 1) := by decide +kernel
theorem dX5_greatestShare_4 : decode cX5_greatestShare 4 = .ok (.iconst 0, 1) := by decide +kernel
theorem dX5_greatestShare_5 : decode cX5_greatestShare 5 = .ok (.istore_n 3, 1) := by decide +kernel
theorem dX5_greatestShare_6 : decode cX5_greatestShare 6 = .ok (.iconst 0, 1) := by decide +kernel
theorem dX5_greatestShare_7 : decode cX5_greatestShare 7 = .ok (.istore 4, 2) := by decide +kernel
theorem dX5_greatestShare_9 : decode cX5_greatestShare 9 = .ok (.iload 4, 2) := by decide +kernel
theorem dX5_greatestShare_11 : decode cX5_greatestShare 11 = .ok (.aload_n 0, 1) := by decide +kernel
theorem dX5_greatestShare_12 : decode cX5_greatestShare 12 = .ok (.getfield 9, 3) := by decide +kernel
theorem dX5_greatestShare_15 : decode cX5_greatestShare 15 = .ok (.getfield 19, 3) := by decide +kernel
theorem dX5_greatestShare_18 : decode cX5_greatestShare 18 = .ok (.if_icmp .ge 91, 3) := by decide +kernel
theorem dX5_greatestShare_21 : decode cX5_greatestShare 21 = .ok (.aload_n 0, 1) := by decide +kernel
theorem dX5_greatestShare_22 : decode cX5_greatestShare 22 = .ok (.aload_n 0, 1) := by decide +kernel
theorem dX5_greatestShare_23 : decode cX5_greatestShare 23 = .ok (.getfield 9, 3) := by decide +kernel
theorem dX5_greatestShare_26 : decode cX5_greatestShare 26 = .ok (.getfield 25, 3) := by decide +kernel
theorem dX5_greatestShare_29 : decode cX5_greatestShare 29 = .ok (.iload 4, 2) := by decide +kernel
theorem dX5_greatestShare_31 : decode cX5_greatestShare 31 = .ok (.iaload, 1) := by decide +kernel
theorem dX5_greatestShare_32 : decode cX5_greatestShare 32 = .ok (.invokevirtual 29, 3) := by decide +kernel
theorem dX5_greatestShare_35 : decode cX5_greatestShare 35 = .ok (.istore 5, 2) := by decide +kernel
theorem dX5_greatestShare_37 : decode cX5_greatestShare 37 = .ok (.aload_n 0, 1) := by decide +kernel
theorem dX5_greatestShare_38 : decode cX5_greatestShare 38 = .ok (.aload_n 0, 1) := by decide +kernel
theorem dX5_greatestShare_39 : decode cX5_greatestShare 39 = .ok (.getfield 9, 3) := by decide +kernel
theorem dX5_greatestShare_42 : decode cX5_greatestShare 42 = .ok (.getfield 25, 3) := by decide +kernel
theorem dX5_greatestShare_45 : decode cX5_greatestShare 45 = .ok (.iload 4, 2) := by decide +kernel
theorem dX5_greatestShare_47 : decode cX5_greatestShare 47 = .ok (.iaload, 1) := by decide +kernel
theorem dX5_greatestShare_48 : decode cX5_greatestShare 48 = .ok (.invokevirtual 33, 3) := by decide +kernel
theorem dX5_greatestShare_51 : decode cX5_greatestShare 51 = .ok (.istore 6, 2) := by decide +kernel
theorem dX5_greatestShare_53 : decode cX5_greatestShare 53 = .ok (.iload_n 1, 1) := by decide +kernel
theorem dX5_greatestShare_54 : decode cX5_greatestShare 54 = .ok (.iconst (-1), 1) := by decide +kernel
theorem dX5_greatestShare_55 : decode cX5_greatestShare 55 = .ok (.if_icmp .eq 14, 3) := by decide +kernel
theorem dX5_greatestShare_58 : decode cX5_greatestShare 58 = .ok (.iload 5, 2) := by decide +kernel
theorem dX5_greatestShare_60 : decode cX5_greatestShare 60 = .ok (.iload_n 3, 1) := by decide +kernel
theorem dX5_greatestShare_61 : decode cX5_greatestShare 61 = .ok (.imul, 1) := by decide +kernel
theorem dX5_greatestShare_62 : decode cX5_greatestShare 62 = .ok (.iload_n 2, 1) := by decide +kernel
theorem dX5_greatestShare_63 : decode cX5_greatestShare 63 = .ok (.iload 6, 2) := by decide +kernel
theorem dX5_greatestShare_65 : decode cX5_greatestShare 65 = .ok (.imul, 1) := by decide +kernel
theorem dX5_greatestShare_66 : decode cX5_greatestShare 66 = .ok (.if_icmp .le 7, 3) := by decide +kernel
theorem dX5_greatestShare_69 : decode cX5_greatestShare 69 = .ok (.iconst 1, 1) := by decide +kernel
theorem dX5_greatestShare_70 : decode cX5_greatestShare 70 = .ok (.goto 4, 3) := by decide +kernel
theorem dX5_greatestShare_73 : decode cX5_greatestShare 73 = .ok (.iconst 0, 1) := by decide +kernel
theorem dX5_greatestShare_74 : decode cX5_greatestShare 74 = .ok (.istore 7, 2) := by decide +kernel
theorem dX5_greatestShare_76 : decode cX5_greatestShare 76 = .ok (.iload 6, 2) := by decide +kernel
theorem dX5_greatestShare_78 : decode cX5_greatestShare 78 = .ok (.ifCond .le 25, 3) := by decide +kernel
theorem dX5_greatestShare_81 : decode cX5_greatestShare 81 = .ok (.iload 7, 2) := by decide +kernel
theorem dX5_greatestShare_83 : decode cX5_greatestShare 83 = .ok (.ifCond .eq 20, 3) := by decide +kernel
theorem dX5_greatestShare_86 : decode cX5_greatestShare 86 = .ok (.aload_n 0, 1) := by decide +kernel
theorem dX5_greatestShare_87 : decode cX5_greatestShare 87 = .ok (.getfield 9, 3) := by decide +kernel
theorem dX5_greatestShare_90 : decode cX5_greatestShare 90 = .ok (.getfield 25, 3) := by decide +kernel
theorem dX5_greatestShare_93 : decode cX5_greatestShare 93 = .ok (.iload 4, 2) := by decide +kernel
theorem dX5_greatestShare_95 : decode cX5_greatestShare 95 = .ok (.iaload, 1) := by decide +kernel
theorem dX5_greatestShare_96 : decode cX5_greatestShare 96 = .ok (.istore_n 1, 1) := by decide +kernel
theorem dX5_greatestShare_97 : decode cX5_greatestShare 97 = .ok (.iload 5, 2) := by decide +kernel
theorem dX5_greatestShare_99 : decode cX5_greatestShare 99 = .ok (.istore_n 2, 1) := by decide +kernel
theorem dX5_greatestShare_100 : decode cX5_greatestShare 100 = .ok (.iload 6, 2) := by decide +kernel
theorem dX5_greatestShare_102 : decode cX5_greatestShare 102 = .ok (.istore_n 3, 1) := by decide +kernel
theorem dX5_greatestShare_103 : decode cX5_greatestShare 103 = .ok (.iinc 4 1, 3) := by decide +kernel
theorem dX5_greatestShare_106 : decode cX5_greatestShare 106 = .ok (.goto (-97), 3) := by decide +kernel
theorem dX5_greatestShare_109 : decode cX5_greatestShare 109 = .ok (.iload_n 1, 1) := by decide +kernel
theorem dX5_greatestShare_110 : decode cX5_greatestShare 110 = .ok (.ireturn, 1) := by decide +kernel
theorem dX5_winnerOfAllPairs_0 : decode cX5_winnerOfAllPairs 0 = .ok (.iconst 0, 1) := by decide +kernel
theorem dX5_winnerOfAllPairs_1 : decode cX5_winnerOfAllPairs 1 = .ok (.istore_n 1, 1) := by decide +kernel
theorem dX5_winnerOfAllPairs_2 : decode cX5_winnerOfAllPairs 2 = .ok (.iload_n 1, 1) := by decide +kernel
theorem dX5_winnerOfAllPairs_3 : decode cX5_winnerOfAllPairs 3 = .ok (.aload_n 0, 1) := by decide +kernel
theorem dX5_winnerOfAllPairs_4 : decode cX5_winnerOfAllPairs 4 = .ok (.getfield 9, 3) := by decide +kernel
theorem dX5_winnerOfAllPairs_7 : decode cX5_winnerOfAllPairs 7 = .ok (.getfield 19, 3) := by decide +kernel
theorem dX5_winnerOfAllPairs_10 : decode cX5_winnerOfAllPairs 10 = .ok (.if_icmp .ge 19, 3) := by decide +kernel
theorem dX5_winnerOfAllPairs_13 : decode cX5_winnerOfAllPairs 13 = .ok (.aload_n 0, 1) := by decide +kernel
theorem dX5_winnerOfAllPairs_14 : decode cX5_winnerOfAllPairs 14 = .ok (.iload_n 1, 1) := by decide +kernel
theorem dX5_winnerOfAllPairs_15 : decode cX5_winnerOfAllPairs 15 = .ok (.invokevirtual 36, 3) := by decide +kernel
theorem dX5_winnerOfAllPairs_18 : decode cX5_winnerOfAllPairs 18 = .ok (.ifCond .eq 5, 3) := by decide +kernel
theorem dX5_winnerOfAllPairs_21 : decode cX5_winnerOfAllPairs 21 = .ok (.iload_n 1, 1) := by decide +kernel
theorem dX5_winnerOfAllPairs_22 : decode cX5_winnerOfAllPairs 22 = .ok (.ireturn, 1) := by decide +kernel
theorem dX5_winnerOfAllPairs_23 : decode cX5_winnerOfAllPairs 23 = .ok (.iinc 1 1, 3) := by decide +kernel
theorem dX5_winnerOfAllPairs_26 : decode cX5_winnerOfAllPairs 26 = .ok (.goto (-24), 3) := by decide +kernel
theorem dX5_winnerOfAllPairs_29 : decode cX5_winnerOfAllPairs 29 = .ok (.iconst (-1), 1) := by decide +kernel
theorem dX5_winnerOfAllPairs_30 : decode cX5_winnerOfAllPairs 30 = .ok (.ireturn, 1) := by decide +kernel
theorem dX5_winsAllPairs_0 : decode cX5_winsAllPairs 0 = .ok (.iconst 0, 1) := by decide +kernel
theorem dX5_winsAllPairs_1 : decode cX5_winsAllPairs 1 = .ok (.istore_n 2, 1) := by decide +kernel
theorem dX5_winsAllPairs_2 : decode cX5_winsAllPairs 2 = .ok (.iload_n 2, 1) := by decide +kernel
theorem dX5_winsAllPairs_3 : decode cX5_winsAllPairs 3 = .ok (.aload_n 0, 1) := by decide +kernel
theorem dX5_winsAllPairs_4 : decode cX5_winsAllPairs 4 = .ok (.getfield 9, 3) := by decide +kernel
theorem dX5_winsAllPairs_7 : decode cX5_winsAllPairs 7 = .ok (.getfield 19, 3) := by decide +kernel
theorem dX5_winsAllPairs_10 : decode cX5_winsAllPairs 10 = .ok (.if_icmp .ge 39, 3) := by decide +kernel
theorem dX5_winsAllPairs_13 : decode cX5_winsAllPairs 13 = .ok (.iload_n 2, 1) := by decide +kernel
theorem dX5_winsAllPairs_14 : decode cX5_winsAllPairs 14 = .ok (.iload_n 1, 1) := by decide +kernel
theorem dX5_winsAllPairs_15 : decode cX5_winsAllPairs 15 = .ok (.if_icmp .eq 28, 3) := by decide +kernel
theorem dX5_winsAllPairs_18 : decode cX5_winsAllPairs 18 = .ok (.aload_n 0, 1) := by decide +kernel
theorem dX5_winsAllPairs_19 : decode cX5_winsAllPairs 19 = .ok (.getfield 9, 3) := by decide +kernel
theorem dX5_winsAllPairs_22 : decode cX5_winsAllPairs 22 = .ok (.iload_n 1, 1) := by decide +kernel
theorem dX5_winsAllPairs_23 : decode cX5_winsAllPairs 23 = .ok (.iload_n 2, 1) := by decide +kernel
theorem dX5_winsAllPairs_24 : decode cX5_winsAllPairs 24 = .ok (.iconst 0, 1) := by decide +kernel
theorem dX5_winsAllPairs_25 : decode cX5_winsAllPairs 25 = .ok (.invokevirtual 40, 3) := by decide +kernel
theorem dX5_winsAllPairs_28 : decode cX5_winsAllPairs 28 = .ok (.aload_n 0, 1) := by decide +kernel
theorem dX5_winsAllPairs_29 : decode cX5_winsAllPairs 29 = .ok (.getfield 9, 3) := by decide +kernel
theorem dX5_winsAllPairs_32 : decode cX5_winsAllPairs 32 = .ok (.iload_n 2, 1) := by decide +kernel
theorem dX5_winsAllPairs_33 : decode cX5_winsAllPairs 33 = .ok (.iload_n 1, 1) := by decide +kernel
theorem dX5_winsAllPairs_34 : decode cX5_winsAllPairs 34 = .ok (.iconst 0, 1) := by decide +kernel
theorem dX5_winsAllPairs_35 : decode cX5_winsAllPairs 35 = .ok (.invokevirtual 40, 3) := by decide +kernel
theorem dX5_winsAllPairs_38 : decode cX5_winsAllPairs 38 = .ok (.if_icmp .gt 5, 3) := by decide +kernel
theorem dX5_winsAllPairs_41 : decode cX5_winsAllPairs 41 = .ok (.iconst 0, 1) := by decide +kernel
theorem dX5_winsAllPairs_42 : decode cX5_winsAllPairs 42 = .ok (.ireturn, 1) := by decide +kernel
theorem dX5_winsAllPairs_43 : decode cX5_winsAllPairs 43 = .ok (.iinc 2 1, 3) := by decide +kernel
theorem dX5_winsAllPairs_46 : decode cX5_winsAllPairs 46 = .ok (.goto (-44), 3) := by decide +kernel
theorem dX5_winsAllPairs_49 : decode cX5_winsAllPairs 49 = .ok (.iconst 1, 1) := by decide +kernel
theorem dX5_winsAllPairs_50 : decode cX5_winsAllPairs 50 = .ok (.ireturn, 1) := by decide +kernel
theorem dX5_yesInAll_0 : decode cX5_yesInAll 0 = .ok (.iconst 0, 1) := by decide +kernel
theorem dX5_yesInAll_1 : decode cX5_yesInAll 1 = .ok (.istore_n 2, 1) := by decide +kernel
theorem dX5_yesInAll_2 : decode cX5_yesInAll 2 = .ok (.iconst 0, 1) := by decide +kernel
theorem dX5_yesInAll_3 : decode cX5_yesInAll 3 = .ok (.istore_n 3, 1) := by decide +kernel
theorem dX5_yesInAll_4 : decode cX5_yesInAll 4 = .ok (.iload_n 3, 1) := by decide +kernel
theorem dX5_yesInAll_5 : decode cX5_yesInAll 5 = .ok (.aload_n 0, 1) := by decide +kernel
theorem dX5_yesInAll_6 : decode cX5_yesInAll 6 = .ok (.getfield 15, 3) := by decide +kernel
theorem dX5_yesInAll_9 : decode cX5_yesInAll 9 = .ok (.getfield 44, 3) := by decide +kernel
theorem dX5_yesInAll_12 : decode cX5_yesInAll 12 = .ok (.if_icmp .ge 21, 3) := by decide +kernel
theorem dX5_yesInAll_15 : decode cX5_yesInAll 15 = .ok (.iload_n 2, 1) := by decide +kernel
theorem dX5_yesInAll_16 : decode cX5_yesInAll 16 = .ok (.aload_n 0, 1) := by decide +kernel
theorem dX5_yesInAll_17 : decode cX5_yesInAll 17 = .ok (.getfield 9, 3) := by decide +kernel
theorem dX5_yesInAll_20 : decode cX5_yesInAll 20 = .ok (.iload_n 1, 1) := by decide +kernel
theorem dX5_yesInAll_21 : decode cX5_yesInAll 21 = .ok (.iload_n 3, 1) := by decide +kernel
theorem dX5_yesInAll_22 : decode cX5_yesInAll 22 = .ok (.invokevirtual 49, 3) := by decide +kernel
theorem dX5_yesInAll_25 : decode cX5_yesInAll 25 = .ok (.iadd, 1) := by decide +kernel
theorem dX5_yesInAll_26 : decode cX5_yesInAll 26 = .ok (.istore_n 2, 1) := by decide +kernel
theorem dX5_yesInAll_27 : decode cX5_yesInAll 27 = .ok (.iinc 3 1, 3) := by decide +kernel
theorem dX5_yesInAll_30 : decode cX5_yesInAll 30 = .ok (.goto (-26), 3) := by decide +kernel
theorem dX5_yesInAll_33 : decode cX5_yesInAll 33 = .ok (.iload_n 2, 1) := by decide +kernel
theorem dX5_yesInAll_34 : decode cX5_yesInAll 34 = .ok (.ireturn, 1) := by decide +kernel
theorem dX5_votesInAll_0 : decode cX5_votesInAll 0 = .ok (.iconst 0, 1) := by decide +kernel
theorem dX5_votesInAll_1 : decode cX5_votesInAll 1 = .ok (.istore_n 2, 1) := by decide +kernel
theorem dX5_votesInAll_2 : decode cX5_votesInAll 2 = .ok (.iconst 0, 1) := by decide +kernel
theorem dX5_votesInAll_3 : decode cX5_votesInAll 3 = .ok (.istore_n 3, 1) := by decide +kernel
theorem dX5_votesInAll_4 : decode cX5_votesInAll 4 = .ok (.iload_n 3, 1) := by decide +kernel
theorem dX5_votesInAll_5 : decode cX5_votesInAll 5 = .ok (.aload_n 0, 1) := by decide +kernel
theorem dX5_votesInAll_6 : decode cX5_votesInAll 6 = .ok (.getfield 15, 3) := by decide +kernel
theorem dX5_votesInAll_9 : decode cX5_votesInAll 9 = .ok (.getfield 44, 3) := by decide +kernel
theorem dX5_votesInAll_12 : decode cX5_votesInAll 12 = .ok (.if_icmp .ge 21, 3) := by decide +kernel
theorem dX5_votesInAll_15 : decode cX5_votesInAll 15 = .ok (.iload_n 2, 1) := by decide +kernel
theorem dX5_votesInAll_16 : decode cX5_votesInAll 16 = .ok (.aload_n 0, 1) := by decide +kernel
theorem dX5_votesInAll_17 : decode cX5_votesInAll 17 = .ok (.getfield 9, 3) := by decide +kernel
theorem dX5_votesInAll_20 : decode cX5_votesInAll 20 = .ok (.iload_n 1, 1) := by decide +kernel
theorem dX5_votesInAll_21 : decode cX5_votesInAll 21 = .ok (.iload_n 3, 1) := by decide +kernel
theorem dX5_votesInAll_22 : decode cX5_votesInAll 22 = .ok (.invokevirtual 53, 3) := by decide +kernel
theorem dX5_votesInAll_25 : decode cX5_votesInAll 25 = .ok (.iadd, 1) := by decide +kernel
theorem dX5_votesInAll_26 : decode cX5_votesInAll 26 = .ok (.istore_n 2, 1) := by decide +kernel
theorem dX5_votesInAll_27 : decode cX5_votesInAll 27 = .ok (.iinc 3 1, 3) := by decide +kernel
theorem dX5_votesInAll_30 : decode cX5_votesInAll 30 = .ok (.goto (-26), 3) := by decide +kernel
theorem dX5_votesInAll_33 : decode cX5_votesInAll 33 = .ok (.iload_n 2, 1) := by decide +kernel
theorem dX5_votesInAll_34 : decode cX5_votesInAll 34 = .ok (.ireturn, 1) := by decide +kernel
theorem dJ6_compare_7cf53_0 : decode cJ6_compare_7cf53 0 = .ok (.iload_n 0, 1) := by decide +kernel
theorem dJ6_compare_7cf53_1 : decode cJ6_compare_7cf53 1 = .ok (.iload_n 1, 1) := by decide +kernel
theorem dJ6_compare_7cf53_2 : decode cJ6_compare_7cf53 2 = .ok (.if_icmp .ge 7, 3) := by decide +kernel
theorem dJ6_compare_7cf53_5 : decode cJ6_compare_7cf53 5 = .ok (.iconst (-1), 1) := by decide +kernel
theorem dJ6_compare_7cf53_6 : decode cJ6_compare_7cf53 6 = .ok (.goto 13, 3) := by decide +kernel
theorem dJ6_compare_7cf53_9 : decode cJ6_compare_7cf53 9 = .ok (.iload_n 0, 1) := by decide +kernel
theorem dJ6_compare_7cf53_10 : decode cJ6_compare_7cf53 10 = .ok (.iload_n 1, 1) := by decide +kernel
theorem dJ6_compare_7cf53_11 : decode cJ6_compare_7cf53 11 = .ok (.if_icmp .ne 7, 3) := by decide +kernel
theorem dJ6_compare_7cf53_14 : decode cJ6_compare_7cf53 14 = .ok (.iconst 0, 1) := by decide +kernel
theorem dJ6_compare_7cf53_15 : decode cJ6_compare_7cf53 15 = .ok (.goto 4, 3) := by decide +kernel
theorem dJ6_compare_7cf53_18 : decode cJ6_compare_7cf53 18 = .ok (.iconst 1, 1) := by decide +kernel
theorem dJ6_compare_7cf53_19 : decode cJ6_compare_7cf53 19 = .ok (.ireturn, 1) := by decide +kernel
theorem dJ6_bitCount_0f7a4_0 : decode cJ6_bitCount_0f7a4 0 = .ok (.iload_n 0, 1) := by decide +kernel
theorem dJ6_bitCount_0f7a4_1 : decode cJ6_bitCount_0f7a4 1 = .ok (.iload_n 0, 1) := by decide +kernel
theorem dJ6_bitCount_0f7a4_2 : decode cJ6_bitCount_0f7a4 2 = .ok (.iconst 1, 1) := by decide +kernel
theorem dJ6_bitCount_0f7a4_3 : decode cJ6_bitCount_0f7a4 3 = .ok (.iushr, 1) := by decide +kernel
theorem dJ6_bitCount_0f7a4_4 : decode cJ6_bitCount_0f7a4 4 = .ok (.ldc_w 265, 3) := by decide +kernel
theorem dJ6_bitCount_0f7a4_7 : decode cJ6_bitCount_0f7a4 7 = .ok (.iand, 1) := by decide +kernel
theorem dJ6_bitCount_0f7a4_8 : decode cJ6_bitCount_0f7a4 8 = .ok (.isub, 1) := by decide +kernel
theorem dJ6_bitCount_0f7a4_9 : decode cJ6_bitCount_0f7a4 9 = .ok (.istore_n 0, 1) := by decide +kernel
theorem dJ6_bitCount_0f7a4_10 : decode cJ6_bitCount_0f7a4 10 = .ok (.iload_n 0, 1) := by decide +kernel
theorem dJ6_bitCount_0f7a4_11 : decode cJ6_bitCount_0f7a4 11 = .ok (.ldc_w 266, 3) := by decide +kernel
theorem dJ6_bitCount_0f7a4_14 : decode cJ6_bitCount_0f7a4 14 = .ok (.iand, 1) := by decide +kernel
theorem dJ6_bitCount_0f7a4_15 : decode cJ6_bitCount_0f7a4 15 = .ok (.iload_n 0, 1) := by decide +kernel
theorem dJ6_bitCount_0f7a4_16 : decode cJ6_bitCount_0f7a4 16 = .ok (.iconst 2, 1) := by decide +kernel
theorem dJ6_bitCount_0f7a4_17 : decode cJ6_bitCount_0f7a4 17 = .ok (.iushr, 1) := by decide +kernel
theorem dJ6_bitCount_0f7a4_18 : decode cJ6_bitCount_0f7a4 18 = .ok (.ldc_w 266, 3) := by decide +kernel
theorem dJ6_bitCount_0f7a4_21 : decode cJ6_bitCount_0f7a4 21 = .ok (.iand, 1) := by decide +kernel
theorem dJ6_bitCount_0f7a4_22 : decode cJ6_bitCount_0f7a4 22 = .ok (.iadd, 1) := by decide +kernel
theorem dJ6_bitCount_0f7a4_23 : decode cJ6_bitCount_0f7a4 23 = .ok (.istore_n 0, 1) := by decide +kernel
theorem dJ6_bitCount_0f7a4_24 : decode cJ6_bitCount_0f7a4 24 = .ok (.iload_n 0, 1) := by decide +kernel
theorem dJ6_bitCount_0f7a4_25 : decode cJ6_bitCount_0f7a4 25 = .ok (.iload_n 0, 1) := by decide +kernel
theorem dJ6_bitCount_0f7a4_26 : decode cJ6_bitCount_0f7a4 26 = .ok (.iconst 4, 1) := by decide +kernel
theorem dJ6_bitCount_0f7a4_27 : decode cJ6_bitCount_0f7a4 27 = .ok (.iushr, 1) := by decide +kernel
theorem dJ6_bitCount_0f7a4_28 : decode cJ6_bitCount_0f7a4 28 = .ok (.iadd, 1) := by decide +kernel
theorem dJ6_bitCount_0f7a4_29 : decode cJ6_bitCount_0f7a4 29 = .ok (.ldc_w 267, 3) := by decide +kernel
theorem dJ6_bitCount_0f7a4_32 : decode cJ6_bitCount_0f7a4 32 = .ok (.iand, 1) := by decide +kernel
theorem dJ6_bitCount_0f7a4_33 : decode cJ6_bitCount_0f7a4 33 = .ok (.istore_n 0, 1) := by decide +kernel
theorem dJ6_bitCount_0f7a4_34 : decode cJ6_bitCount_0f7a4 34 = .ok (.iload_n 0, 1) := by decide +kernel
theorem dJ6_bitCount_0f7a4_35 : decode cJ6_bitCount_0f7a4 35 = .ok (.iload_n 0, 1) := by decide +kernel
theorem dJ6_bitCount_0f7a4_36 : decode cJ6_bitCount_0f7a4 36 = .ok (.bipush 8, 2) := by decide +kernel
theorem dJ6_bitCount_0f7a4_38 : decode cJ6_bitCount_0f7a4 38 = .ok (.iushr, 1) := by decide +kernel
theorem dJ6_bitCount_0f7a4_39 : decode cJ6_bitCount_0f7a4 39 = .ok (.iadd, 1) := by decide +kernel
theorem dJ6_bitCount_0f7a4_40 : decode cJ6_bitCount_0f7a4 40 = .ok (.istore_n 0, 1) := by decide +kernel
theorem dJ6_bitCount_0f7a4_41 : decode cJ6_bitCount_0f7a4 41 = .ok (.iload_n 0, 1) := by decide +kernel
theorem dJ6_bitCount_0f7a4_42 : decode cJ6_bitCount_0f7a4 42 = .ok (.iload_n 0, 1) := by decide +kernel
theorem dJ6_bitCount_0f7a4_43 : decode cJ6_bitCount_0f7a4 43 = .ok (.bipush 16, 2) := by decide +kernel
theorem dJ6_bitCount_0f7a4_45 : decode cJ6_bitCount_0f7a4 45 = .ok (.iushr, 1) := by decide +kernel
theorem dJ6_bitCount_0f7a4_46 : decode cJ6_bitCount_0f7a4 46 = .ok (.iadd, 1) := by decide +kernel
theorem dJ6_bitCount_0f7a4_47 : decode cJ6_bitCount_0f7a4 47 = .ok (.istore_n 0, 1) := by decide +kernel
theorem dJ6_bitCount_0f7a4_48 : decode cJ6_bitCount_0f7a4 48 = .ok (.iload_n 0, 1) := by decide +kernel
theorem dJ6_bitCount_0f7a4_49 : decode cJ6_bitCount_0f7a4 49 = .ok (.bipush 63, 2) := by decide +kernel
theorem dJ6_bitCount_0f7a4_51 : decode cJ6_bitCount_0f7a4 51 = .ok (.iand, 1) := by decide +kernel
theorem dJ6_bitCount_0f7a4_52 : decode cJ6_bitCount_0f7a4 52 = .ok (.ireturn, 1) := by decide +kernel

theorem dX10_in_0 : decode cX10_in 0 = .ok (.iload_n 0, 1) := by decide +kernel
theorem dX10_in_1 : decode cX10_in 1 = .ok (.iload_n 1, 1) := by decide +kernel
theorem dX10_in_2 : decode cX10_in 2 = .ok (.if_icmp .lt 12, 3) := by decide +kernel
theorem dX10_in_5 : decode cX10_in 5 = .ok (.iload_n 0, 1) := by decide +kernel
theorem dX10_in_6 : decode cX10_in 6 = .ok (.iload_n 2, 1) := by decide +kernel
theorem dX10_in_7 : decode cX10_in 7 = .ok (.if_icmp .gt 7, 3) := by decide +kernel
theorem dX10_in_10 : decode cX10_in 10 = .ok (.iconst 1, 1) := by decide +kernel
theorem dX10_in_11 : decode cX10_in 11 = .ok (.goto 4, 3) := by decide +kernel
theorem dX10_in_14 : decode cX10_in 14 = .ok (.iconst 0, 1) := by decide +kernel
theorem dX10_in_15 : decode cX10_in 15 = .ok (.ireturn, 1) := by decide +kernel
theorem dX10_isPlayer_0 : decode cX10_isPlayer 0 = .ok (.iload_n 1, 1) := by decide +kernel
theorem dX10_isPlayer_1 : decode cX10_isPlayer 1 = .ok (.iconst 0, 1) := by decide +kernel
theorem dX10_isPlayer_2 : decode cX10_isPlayer 2 = .ok (.aload_n 0, 1) := by decide +kernel
theorem dX10_isPlayer_3 : decode cX10_isPlayer 3 = .ok (.getfield 72, 3) := by decide +kernel
theorem dX10_isPlayer_6 : decode cX10_isPlayer 6 = .ok (.iconst 1, 1) := by decide +kernel
theorem dX10_isPlayer_7 : decode cX10_isPlayer 7 = .ok (.isub, 1) := by decide +kernel
theorem dX10_isPlayer_8 : decode cX10_isPlayer 8 = .ok (.invokestatic 75, 3) := by decide +kernel
theorem dX10_isPlayer_11 : decode cX10_isPlayer 11 = .ok (.ireturn, 1) := by decide +kernel
theorem dX10_player_0 : decode cX10_player 0 = .ok (.iload_n 1, 1) := by decide +kernel
theorem dX10_player_1 : decode cX10_player 1 = .ok (.iconst 0, 1) := by decide +kernel
theorem dX10_player_2 : decode cX10_player 2 = .ok (.sipush 511, 3) := by decide +kernel
theorem dX10_player_5 : decode cX10_player 5 = .ok (.invokestatic 75, 3) := by decide +kernel
theorem dX10_player_8 : decode cX10_player 8 = .ok (.ifCond .ne 6, 3) := by decide +kernel
theorem dX10_player_11 : decode cX10_player 11 = .ok (.bipush (-2), 2) := by decide +kernel
theorem dX10_player_13 : decode cX10_player 13 = .ok (.ireturn, 1) := by decide +kernel
theorem dX10_player_14 : decode cX10_player 14 = .ok (.aload_n 0, 1) := by decide +kernel
theorem dX10_player_15 : decode cX10_player 15 = .ok (.getfield 72, 3) := by decide +kernel
theorem dX10_player_18 : decode cX10_player 18 = .ok (.bipush 24, 2) := by decide +kernel
theorem dX10_player_20 : decode cX10_player 20 = .ok (.if_icmp .ne 6, 3) := by decide +kernel
theorem dX10_player_23 : decode cX10_player 23 = .ok (.bipush (-4), 2) := by decide +kernel
theorem dX10_player_25 : decode cX10_player 25 = .ok (.ireturn, 1) := by decide +kernel
theorem dX10_player_26 : decode cX10_player 26 = .ok (.aload_n 0, 1) := by decide +kernel
theorem dX10_player_27 : decode cX10_player 27 = .ok (.getfield 7, 3) := by decide +kernel
theorem dX10_player_30 : decode cX10_player 30 = .ok (.aload_n 0, 1) := by decide +kernel
theorem dX10_player_31 : decode cX10_player 31 = .ok (.getfield 72, 3) := by decide +kernel
theorem dX10_player_34 : decode cX10_player 34 = .ok (.iload_n 1, 1) := by decide +kernel
theorem dX10_player_35 : decode cX10_player 35 = .ok (.iastore, 1) := by decide +kernel
theorem dX10_player_36 : decode cX10_player 36 = .ok (.aload_n 0, 1) := by decide +kernel
theorem dX10_player_37 : decode cX10_player 37 = .ok (.getfield 13, 3) := by decide +kernel
theorem dX10_player_40 : decode cX10_player 40 = .ok (.aload_n 0, 1) := by decide +kernel
theorem dX10_player_41 : decode cX10_player 41 = .ok (.getfield 72, 3) := by decide +kernel
theorem dX10_player_44 : decode cX10_player 44 = .ok (.aload_n 0, 1) := by decide +kernel
theorem dX10_player_45 : decode cX10_player 45 = .ok (.getfield 72, 3) := by decide +kernel
theorem dX10_player_48 : decode cX10_player 48 = .ok (.iastore, 1) := by decide +kernel
theorem dX10_player_49 : decode cX10_player 49 = .ok (.aload_n 0, 1) := by decide +kernel
theorem dX10_player_50 : decode cX10_player 50 = .ok (.dup, 1) := by decide +kernel
theorem dX10_player_51 : decode cX10_player 51 = .ok (.getfield 72, 3) := by decide +kernel
theorem dX10_player_54 : decode cX10_player 54 = .ok (.iconst 1, 1) := by decide +kernel
theorem dX10_player_55 : decode cX10_player 55 = .ok (.iadd, 1) := by decide +kernel
theorem dX10_player_56 : decode cX10_player 56 = .ok (.putfield 72, 3) := by decide +kernel
theorem dX10_player_59 : decode cX10_player 59 = .ok (.aload_n 0, 1) := by decide +kernel
theorem dX10_player_60 : decode cX10_player 60 = .ok (.getfield 72, 3) := by decide +kernel
theorem dX10_player_63 : decode cX10_player 63 = .ok (.iconst 1, 1) := by decide +kernel
theorem dX10_player_64 : decode cX10_player 64 = .ok (.isub, 1) := by decide +kernel
theorem dX10_player_65 : decode cX10_player 65 = .ok (.ireturn, 1) := by decide +kernel
theorem dX10_jurors_0 : decode cX10_jurors 0 = .ok (.iload_n 1, 1) := by decide +kernel
theorem dX10_jurors_1 : decode cX10_jurors 1 = .ok (.iconst 1, 1) := by decide +kernel
theorem dX10_jurors_2 : decode cX10_jurors 2 = .ok (.bipush 9, 2) := by decide +kernel
theorem dX10_jurors_4 : decode cX10_jurors 4 = .ok (.invokestatic 75, 3) := by decide +kernel
theorem dX10_jurors_7 : decode cX10_jurors 7 = .ok (.ifCond .ne 6, 3) := by decide +kernel
theorem dX10_jurors_10 : decode cX10_jurors 10 = .ok (.bipush (-2), 2) := by decide +kernel
theorem dX10_jurors_12 : decode cX10_jurors 12 = .ok (.ireturn, 1) := by decide +kernel
theorem dX10_jurors_13 : decode cX10_jurors 13 = .ok (.aload_n 0, 1) := by decide +kernel
theorem dX10_jurors_14 : decode cX10_jurors 14 = .ok (.getfield 16, 3) := by decide +kernel
theorem dX10_jurors_17 : decode cX10_jurors 17 = .ok (.istore_n 2, 1) := by decide +kernel
theorem dX10_jurors_18 : decode cX10_jurors 18 = .ok (.aload_n 0, 1) := by decide +kernel
theorem dX10_jurors_19 : decode cX10_jurors 19 = .ok (.iload_n 1, 1) := by decide +kernel
theorem dX10_jurors_20 : decode cX10_jurors 20 = .ok (.putfield 16, 3) := by decide +kernel
theorem dX10_jurors_23 : decode cX10_jurors 23 = .ok (.iload_n 2, 1) := by decide +kernel
theorem dX10_jurors_24 : decode cX10_jurors 24 = .ok (.ireturn, 1) := by decide +kernel
theorem dX10_draw_0 : decode cX10_draw 0 = .ok (.iconst 0, 1) := by decide +kernel
theorem dX10_draw_1 : decode cX10_draw 1 = .ok (.istore_n 2, 1) := by decide +kernel
theorem dX10_draw_2 : decode cX10_draw 2 = .ok (.iload_n 2, 1) := by decide +kernel
theorem dX10_draw_3 : decode cX10_draw 3 = .ok (.aload_n 0, 1) := by decide +kernel
theorem dX10_draw_4 : decode cX10_draw 4 = .ok (.getfield 72, 3) := by decide +kernel
theorem dX10_draw_7 : decode cX10_draw 7 = .ok (.if_icmp .ge 16, 3) := by decide +kernel
theorem dX10_draw_10 : decode cX10_draw 10 = .ok (.aload_n 0, 1) := by decide +kernel
theorem dX10_draw_11 : decode cX10_draw 11 = .ok (.getfield 13, 3) := by decide +kernel
theorem dX10_draw_14 : decode cX10_draw 14 = .ok (.iload_n 2, 1) := by decide +kernel
theorem dX10_draw_15 : decode cX10_draw 15 = .ok (.iload_n 2, 1) := by decide +kernel
theorem dX10_draw_16 : decode cX10_draw 16 = .ok (.iastore, 1) := by decide +kernel
theorem dX10_draw_17 : decode cX10_draw 17 = .ok (.iinc 2 1, 3) := by decide +kernel
theorem dX10_draw_20 : decode cX10_draw 20 = .ok (.goto (-18), 3) := by decide +kernel
theorem dX10_draw_23 : decode cX10_draw 23 = .ok (.iload_n 1, 1) := by decide +kernel
theorem dX10_draw_24 : decode cX10_draw 24 = .ok (.istore_n 2, 1) := by decide +kernel
theorem dX10_draw_25 : decode cX10_draw 25 = .ok (.aload_n 0, 1) := by decide +kernel
theorem dX10_draw_26 : decode cX10_draw 26 = .ok (.getfield 72, 3) := by decide +kernel
theorem dX10_draw_29 : decode cX10_draw 29 = .ok (.iconst 1, 1) := by decide +kernel
theorem dX10_draw_30 : decode cX10_draw 30 = .ok (.isub, 1) := by decide +kernel
theorem dX10_draw_31 : decode cX10_draw 31 = .ok (.istore_n 3, 1) := by decide +kernel
theorem dX10_draw_32 : decode cX10_draw 32 = .ok (.iload_n 3, 1) := by decide +kernel
theorem dX10_draw_33 : decode cX10_draw 33 = .ok (.ifCond .le 58, 3) := by decide +kernel
theorem dX10_draw_36 : decode cX10_draw 36 = .ok (.ldc 79, 2) := by decide +kernel
theorem dX10_draw_38 : decode cX10_draw 38 = .ok (.iload_n 2, 1) := by decide +kernel
theorem dX10_draw_39 : decode cX10_draw 39 = .ok (.imul, 1) := by decide +kernel
theorem dX10_draw_40 : decode cX10_draw 40 = .ok (.sipush 12345, 3) := by decide +kernel
theorem dX10_draw_43 : decode cX10_draw 43 = .ok (.iadd, 1) := by decide +kernel
theorem dX10_draw_44 : decode cX10_draw 44 = .ok (.istore_n 2, 1) := by decide +kernel
theorem dX10_draw_45 : decode cX10_draw 45 = .ok (.iload_n 2, 1) := by decide +kernel
theorem dX10_draw_46 : decode cX10_draw 46 = .ok (.bipush 16, 2) := by decide +kernel
theorem dX10_draw_48 : decode cX10_draw 48 = .ok (.iushr, 1) := by decide +kernel
theorem dX10_draw_49 : decode cX10_draw 49 = .ok (.iload_n 3, 1) := by decide +kernel
theorem dX10_draw_50 : decode cX10_draw 50 = .ok (.iconst 1, 1) := by decide +kernel
theorem dX10_draw_51 : decode cX10_draw 51 = .ok (.iadd, 1) := by decide +kernel
theorem dX10_draw_52 : decode cX10_draw 52 = .ok (.irem, 1) := by decide +kernel
theorem dX10_draw_53 : decode cX10_draw 53 = .ok (.istore 4, 2) := by decide +kernel
theorem dX10_draw_55 : decode cX10_draw 55 = .ok (.aload_n 0, 1) := by decide +kernel
theorem dX10_draw_56 : decode cX10_draw 56 = .ok (.getfield 13, 3) := by decide +kernel
theorem dX10_draw_59 : decode cX10_draw 59 = .ok (.iload_n 3, 1) := by decide +kernel
theorem dX10_draw_60 : decode cX10_draw 60 = .ok (.iaload, 1) := by decide +kernel
theorem dX10_draw_61 : decode cX10_draw 61 = .ok (.istore 5, 2) := by decide +kernel
theorem dX10_draw_63 : decode cX10_draw 63 = .ok (.aload_n 0, 1) := by decide +kernel
theorem dX10_draw_64 : decode cX10_draw 64 = .ok (.getfield 13, 3) := by decide +kernel
theorem dX10_draw_67 : decode cX10_draw 67 = .ok (.iload_n 3, 1) := by decide +kernel
theorem dX10_draw_68 : decode cX10_draw 68 = .ok (.aload_n 0, 1) := by decide +kernel
theorem dX10_draw_69 : decode cX10_draw 69 = .ok (.getfield 13, 3) := by decide +kernel
theorem dX10_draw_72 : decode cX10_draw 72 = .ok (.iload 4, 2) := by decide +kernel
theorem dX10_draw_74 : decode cX10_draw 74 = .ok (.iaload, 1) := by decide +kernel
theorem dX10_draw_75 : decode cX10_draw 75 = .ok (.iastore, 1) := by decide +kernel
theorem dX10_draw_76 : decode cX10_draw 76 = .ok (.aload_n 0, 1) := by decide +kernel
theorem dX10_draw_77 : decode cX10_draw 77 = .ok (.getfield 13, 3) := by decide +kernel
theorem dX10_draw_80 : decode cX10_draw 80 = .ok (.iload 4, 2) := by decide +kernel
theorem dX10_draw_82 : decode cX10_draw 82 = .ok (.iload 5, 2) := by decide +kernel
theorem dX10_draw_84 : decode cX10_draw 84 = .ok (.iastore, 1) := by decide +kernel
theorem dX10_draw_85 : decode cX10_draw 85 = .ok (.iinc 3 (-1), 3) := by decide +kernel
theorem dX10_draw_88 : decode cX10_draw 88 = .ok (.goto (-56), 3) := by decide +kernel
theorem dX10_draw_91 : decode cX10_draw 91 = .ok (.aload_n 0, 1) := by decide +kernel
theorem dX10_draw_92 : decode cX10_draw 92 = .ok (.getfield 72, 3) := by decide +kernel
theorem dX10_draw_95 : decode cX10_draw 95 = .ok (.ifCond .ne 7, 3) := by decide +kernel
theorem dX10_draw_98 : decode cX10_draw 98 = .ok (.iconst (-1), 1) := by decide +kernel
theorem dX10_draw_99 : decode cX10_draw 99 = .ok (.goto 9, 3) := by decide +kernel
theorem dX10_draw_102 : decode cX10_draw 102 = .ok (.aload_n 0, 1) := by decide +kernel
theorem dX10_draw_103 : decode cX10_draw 103 = .ok (.getfield 13, 3) := by decide +kernel
theorem dX10_draw_106 : decode cX10_draw 106 = .ok (.iconst 0, 1) := by decide +kernel
theorem dX10_draw_107 : decode cX10_draw 107 = .ok (.iaload, 1) := by decide +kernel
theorem dX10_draw_108 : decode cX10_draw 108 = .ok (.ireturn, 1) := by decide +kernel
theorem dX10_order_0 : decode cX10_order 0 = .ok (.iload_n 1, 1) := by decide +kernel
theorem dX10_order_1 : decode cX10_order 1 = .ok (.iconst 0, 1) := by decide +kernel
theorem dX10_order_2 : decode cX10_order 2 = .ok (.aload_n 0, 1) := by decide +kernel
theorem dX10_order_3 : decode cX10_order 3 = .ok (.getfield 72, 3) := by decide +kernel
theorem dX10_order_6 : decode cX10_order 6 = .ok (.iconst 1, 1) := by decide +kernel
theorem dX10_order_7 : decode cX10_order 7 = .ok (.isub, 1) := by decide +kernel
theorem dX10_order_8 : decode cX10_order 8 = .ok (.invokestatic 75, 3) := by decide +kernel
theorem dX10_order_11 : decode cX10_order 11 = .ok (.ifCond .eq 12, 3) := by decide +kernel
theorem dX10_order_14 : decode cX10_order 14 = .ok (.aload_n 0, 1) := by decide +kernel
theorem dX10_order_15 : decode cX10_order 15 = .ok (.getfield 13, 3) := by decide +kernel
theorem dX10_order_18 : decode cX10_order 18 = .ok (.iload_n 1, 1) := by decide +kernel
theorem dX10_order_19 : decode cX10_order 19 = .ok (.iaload, 1) := by decide +kernel
theorem dX10_order_20 : decode cX10_order 20 = .ok (.goto 5, 3) := by decide +kernel
theorem dX10_order_23 : decode cX10_order 23 = .ok (.bipush (-2), 2) := by decide +kernel
theorem dX10_order_25 : decode cX10_order 25 = .ok (.ireturn, 1) := by decide +kernel
theorem dX10_vote_0 : decode cX10_vote 0 = .ok (.bipush 9, 2) := by decide +kernel
theorem dX10_vote_2 : decode cX10_vote 2 = .ok (.iload_n 1, 1) := by decide +kernel
theorem dX10_vote_3 : decode cX10_vote 3 = .ok (.imul, 1) := by decide +kernel
theorem dX10_vote_4 : decode cX10_vote 4 = .ok (.iload_n 3, 1) := by decide +kernel
theorem dX10_vote_5 : decode cX10_vote 5 = .ok (.iadd, 1) := by decide +kernel
theorem dX10_vote_6 : decode cX10_vote 6 = .ok (.istore 4, 2) := by decide +kernel
theorem dX10_vote_8 : decode cX10_vote 8 = .ok (.iload_n 3, 1) := by decide +kernel
theorem dX10_vote_9 : decode cX10_vote 9 = .ok (.aload_n 0, 1) := by decide +kernel
theorem dX10_vote_10 : decode cX10_vote 10 = .ok (.getfield 16, 3) := by decide +kernel
theorem dX10_vote_13 : decode cX10_vote 13 = .ok (.if_icmp .ge 40, 3) := by decide +kernel
theorem dX10_vote_16 : decode cX10_vote 16 = .ok (.aload_n 0, 1) := by decide +kernel
theorem dX10_vote_17 : decode cX10_vote 17 = .ok (.getfield 7, 3) := by decide +kernel
theorem dX10_vote_20 : decode cX10_vote 20 = .ok (.iload_n 1, 1) := by decide +kernel
theorem dX10_vote_21 : decode cX10_vote 21 = .ok (.iaload, 1) := by decide +kernel
theorem dX10_vote_22 : decode cX10_vote 22 = .ok (.iload_n 3, 1) := by decide +kernel
theorem dX10_vote_23 : decode cX10_vote 23 = .ok (.ishr, 1) := by decide +kernel
theorem dX10_vote_24 : decode cX10_vote 24 = .ok (.iconst 1, 1) := by decide +kernel
theorem dX10_vote_25 : decode cX10_vote 25 = .ok (.iand, 1) := by decide +kernel
theorem dX10_vote_26 : decode cX10_vote 26 = .ok (.ifCond .ne 27, 3) := by decide +kernel
theorem dX10_vote_29 : decode cX10_vote 29 = .ok (.aload_n 0, 1) := by decide +kernel
theorem dX10_vote_30 : decode cX10_vote 30 = .ok (.getfield 56, 3) := by decide +kernel
theorem dX10_vote_33 : decode cX10_vote 33 = .ok (.iload_n 2, 1) := by decide +kernel
theorem dX10_vote_34 : decode cX10_vote 34 = .ok (.baload, 1) := by decide +kernel
theorem dX10_vote_35 : decode cX10_vote 35 = .ok (.ifCond .eq 18, 3) := by decide +kernel
theorem dX10_vote_38 : decode cX10_vote 38 = .ok (.iload 4, 2) := by decide +kernel
theorem dX10_vote_40 : decode cX10_vote 40 = .ok (.aload_n 0, 1) := by decide +kernel
theorem dX10_vote_41 : decode cX10_vote 41 = .ok (.getfield 63, 3) := by decide +kernel
theorem dX10_vote_44 : decode cX10_vote 44 = .ok (.iload_n 2, 1) := by decide +kernel
theorem dX10_vote_45 : decode cX10_vote 45 = .ok (.iaload, 1) := by decide +kernel
theorem dX10_vote_46 : decode cX10_vote 46 = .ok (.if_icmp .ge 7, 3) := by decide +kernel
theorem dX10_vote_49 : decode cX10_vote 49 = .ok (.iconst 1, 1) := by decide +kernel
theorem dX10_vote_50 : decode cX10_vote 50 = .ok (.goto 4, 3) := by decide +kernel
theorem dX10_vote_53 : decode cX10_vote 53 = .ok (.iconst 0, 1) := by decide +kernel
theorem dX10_vote_54 : decode cX10_vote 54 = .ok (.istore 5, 2) := by decide +kernel
theorem dX10_vote_56 : decode cX10_vote 56 = .ok (.iload 5, 2) := by decide +kernel
theorem dX10_vote_58 : decode cX10_vote 58 = .ok (.ifCond .eq 19, 3) := by decide +kernel
theorem dX10_vote_61 : decode cX10_vote 61 = .ok (.aload_n 0, 1) := by decide +kernel
theorem dX10_vote_62 : decode cX10_vote 62 = .ok (.getfield 66, 3) := by decide +kernel
theorem dX10_vote_65 : decode cX10_vote 65 = .ok (.sipush 240, 3) := by decide +kernel
theorem dX10_vote_68 : decode cX10_vote 68 = .ok (.iload_n 2, 1) := by decide +kernel
theorem dX10_vote_69 : decode cX10_vote 69 = .ok (.imul, 1) := by decide +kernel
theorem dX10_vote_70 : decode cX10_vote 70 = .ok (.iload 4, 2) := by decide +kernel
theorem dX10_vote_72 : decode cX10_vote 72 = .ok (.iadd, 1) := by decide +kernel
theorem dX10_vote_73 : decode cX10_vote 73 = .ok (.iaload, 1) := by decide +kernel
theorem dX10_vote_74 : decode cX10_vote 74 = .ok (.goto 4, 3) := by decide +kernel
theorem dX10_vote_77 : decode cX10_vote 77 = .ok (.iconst (-1), 1) := by decide +kernel
theorem dX10_vote_78 : decode cX10_vote 78 = .ok (.istore 6, 2) := by decide +kernel
theorem dX10_vote_80 : decode cX10_vote 80 = .ok (.iload 6, 2) := by decide +kernel
theorem dX10_vote_82 : decode cX10_vote 82 = .ok (.ifCond .le 7, 3) := by decide +kernel
theorem dX10_vote_85 : decode cX10_vote 85 = .ok (.iconst 1, 1) := by decide +kernel
theorem dX10_vote_86 : decode cX10_vote 86 = .ok (.goto 13, 3) := by decide +kernel
theorem dX10_vote_89 : decode cX10_vote 89 = .ok (.iload 6, 2) := by decide +kernel
theorem dX10_vote_91 : decode cX10_vote 91 = .ok (.ifCond .ne 7, 3) := by decide +kernel
theorem dX10_vote_94 : decode cX10_vote 94 = .ok (.iconst 0, 1) := by decide +kernel
theorem dX10_vote_95 : decode cX10_vote 95 = .ok (.goto 4, 3) := by decide +kernel
theorem dX10_vote_98 : decode cX10_vote 98 = .ok (.iconst (-1), 1) := by decide +kernel
theorem dX10_vote_99 : decode cX10_vote 99 = .ok (.ireturn, 1) := by decide +kernel
theorem dX10_counted_0 : decode cX10_counted 0 = .ok (.iconst 0, 1) := by decide +kernel
theorem dX10_counted_1 : decode cX10_counted 1 = .ok (.istore_n 3, 1) := by decide +kernel
theorem dX10_counted_2 : decode cX10_counted 2 = .ok (.iconst 0, 1) := by decide +kernel
theorem dX10_counted_3 : decode cX10_counted 3 = .ok (.istore 4, 2) := by decide +kernel
theorem dX10_counted_5 : decode cX10_counted 5 = .ok (.iload 4, 2) := by decide +kernel
theorem dX10_counted_7 : decode cX10_counted 7 = .ok (.bipush 9, 2) := by decide +kernel
theorem dX10_counted_9 : decode cX10_counted 9 = .ok (.if_icmp .ge 29, 3) := by decide +kernel
theorem dX10_counted_12 : decode cX10_counted 12 = .ok (.iload_n 3, 1) := by decide +kernel
theorem dX10_counted_13 : decode cX10_counted 13 = .ok (.aload_n 0, 1) := by decide +kernel
theorem dX10_counted_14 : decode cX10_counted 14 = .ok (.iload_n 1, 1) := by decide +kernel
theorem dX10_counted_15 : decode cX10_counted 15 = .ok (.iload_n 2, 1) := by decide +kernel
theorem dX10_counted_16 : decode cX10_counted 16 = .ok (.iload 4, 2) := by decide +kernel
theorem dX10_counted_18 : decode cX10_counted 18 = .ok (.invokevirtual 80, 3) := by decide +kernel
theorem dX10_counted_21 : decode cX10_counted 21 = .ok (.iconst (-1), 1) := by decide +kernel
theorem dX10_counted_22 : decode cX10_counted 22 = .ok (.if_icmp .ne 7, 3) := by decide +kernel
theorem dX10_counted_25 : decode cX10_counted 25 = .ok (.iconst 0, 1) := by decide +kernel
theorem dX10_counted_26 : decode cX10_counted 26 = .ok (.goto 4, 3) := by decide +kernel
theorem dX10_counted_29 : decode cX10_counted 29 = .ok (.iconst 1, 1) := by decide +kernel
theorem dX10_counted_30 : decode cX10_counted 30 = .ok (.iadd, 1) := by decide +kernel
theorem dX10_counted_31 : decode cX10_counted 31 = .ok (.istore_n 3, 1) := by decide +kernel
theorem dX10_counted_32 : decode cX10_counted 32 = .ok (.iinc 4 1, 3) := by decide +kernel
theorem dX10_counted_35 : decode cX10_counted 35 = .ok (.goto (-30), 3) := by decide +kernel
theorem dX10_counted_38 : decode cX10_counted 38 = .ok (.iload_n 3, 1) := by decide +kernel
theorem dX10_counted_39 : decode cX10_counted 39 = .ok (.ireturn, 1) := by decide +kernel
theorem dX10_yes_0 : decode cX10_yes 0 = .ok (.iconst 0, 1) := by decide +kernel
theorem dX10_yes_1 : decode cX10_yes 1 = .ok (.istore_n 3, 1) := by decide +kernel
theorem dX10_yes_2 : decode cX10_yes 2 = .ok (.iconst 0, 1) := by decide +kernel
theorem dX10_yes_3 : decode cX10_yes 3 = .ok (.istore 4, 2) := by decide +kernel
theorem dX10_yes_5 : decode cX10_yes 5 = .ok (.iload 4, 2) := by decide +kernel
theorem dX10_yes_7 : decode cX10_yes 7 = .ok (.bipush 9, 2) := by decide +kernel
theorem dX10_yes_9 : decode cX10_yes 9 = .ok (.if_icmp .ge 29, 3) := by decide +kernel
theorem dX10_yes_12 : decode cX10_yes 12 = .ok (.iload_n 3, 1) := by decide +kernel
theorem dX10_yes_13 : decode cX10_yes 13 = .ok (.aload_n 0, 1) := by decide +kernel
theorem dX10_yes_14 : decode cX10_yes 14 = .ok (.iload_n 1, 1) := by decide +kernel
theorem dX10_yes_15 : decode cX10_yes 15 = .ok (.iload_n 2, 1) := by decide +kernel
theorem dX10_yes_16 : decode cX10_yes 16 = .ok (.iload 4, 2) := by decide +kernel
theorem dX10_yes_18 : decode cX10_yes 18 = .ok (.invokevirtual 80, 3) := by decide +kernel
theorem dX10_yes_21 : decode cX10_yes 21 = .ok (.iconst 1, 1) := by decide +kernel
theorem dX10_yes_22 : decode cX10_yes 22 = .ok (.if_icmp .ne 7, 3) := by decide +kernel
theorem dX10_yes_25 : decode cX10_yes 25 = .ok (.iconst 1, 1) := by decide +kernel
theorem dX10_yes_26 : decode cX10_yes 26 = .ok (.goto 4, 3) := by decide +kernel
theorem dX10_yes_29 : decode cX10_yes 29 = .ok (.iconst 0, 1) := by decide +kernel
theorem dX10_yes_30 : decode cX10_yes 30 = .ok (.iadd, 1) := by decide +kernel
theorem dX10_yes_31 : decode cX10_yes 31 = .ok (.istore_n 3, 1) := by decide +kernel
theorem dX10_yes_32 : decode cX10_yes 32 = .ok (.iinc 4 1, 3) := by decide +kernel
theorem dX10_yes_35 : decode cX10_yes 35 = .ok (.goto (-30), 3) := by decide +kernel
theorem dX10_yes_38 : decode cX10_yes 38 = .ok (.iload_n 3, 1) := by decide +kernel
theorem dX10_yes_39 : decode cX10_yes 39 = .ok (.ireturn, 1) := by decide +kernel
theorem dX10_votes_0 : decode cX10_votes 0 = .ok (.aload_n 0, 1) := by decide +kernel
theorem dX10_votes_1 : decode cX10_votes 1 = .ok (.iload_n 1, 1) := by decide +kernel
theorem dX10_votes_2 : decode cX10_votes 2 = .ok (.invokevirtual 84, 3) := by decide +kernel
theorem dX10_votes_5 : decode cX10_votes 5 = .ok (.ifCond .eq 21, 3) := by decide +kernel
theorem dX10_votes_8 : decode cX10_votes 8 = .ok (.iload_n 2, 1) := by decide +kernel
theorem dX10_votes_9 : decode cX10_votes 9 = .ok (.iconst 0, 1) := by decide +kernel
theorem dX10_votes_10 : decode cX10_votes 10 = .ok (.iconst 3, 1) := by decide +kernel
theorem dX10_votes_11 : decode cX10_votes 11 = .ok (.invokestatic 75, 3) := by decide +kernel
theorem dX10_votes_14 : decode cX10_votes 14 = .ok (.ifCond .eq 12, 3) := by decide +kernel
theorem dX10_votes_17 : decode cX10_votes 17 = .ok (.iload_n 3, 1) := by decide +kernel
theorem dX10_votes_18 : decode cX10_votes 18 = .ok (.iconst 0, 1) := by decide +kernel
theorem dX10_votes_19 : decode cX10_votes 19 = .ok (.iconst 1, 1) := by decide +kernel
theorem dX10_votes_20 : decode cX10_votes 20 = .ok (.invokestatic 75, 3) := by decide +kernel
theorem dX10_votes_23 : decode cX10_votes 23 = .ok (.ifCond .ne 6, 3) := by decide +kernel
theorem dX10_votes_26 : decode cX10_votes 26 = .ok (.bipush (-2), 2) := by decide +kernel
theorem dX10_votes_28 : decode cX10_votes 28 = .ok (.ireturn, 1) := by decide +kernel
theorem dX10_votes_29 : decode cX10_votes 29 = .ok (.iload_n 3, 1) := by decide +kernel
theorem dX10_votes_30 : decode cX10_votes 30 = .ok (.ifCond .ne 12, 3) := by decide +kernel
theorem dX10_votes_33 : decode cX10_votes 33 = .ok (.aload_n 0, 1) := by decide +kernel
theorem dX10_votes_34 : decode cX10_votes 34 = .ok (.iload_n 1, 1) := by decide +kernel
theorem dX10_votes_35 : decode cX10_votes 35 = .ok (.iload_n 2, 1) := by decide +kernel
theorem dX10_votes_36 : decode cX10_votes 36 = .ok (.invokevirtual 88, 3) := by decide +kernel
theorem dX10_votes_39 : decode cX10_votes 39 = .ok (.goto 9, 3) := by decide +kernel
theorem dX10_votes_42 : decode cX10_votes 42 = .ok (.aload_n 0, 1) := by decide +kernel
theorem dX10_votes_43 : decode cX10_votes 43 = .ok (.iload_n 1, 1) := by decide +kernel
theorem dX10_votes_44 : decode cX10_votes 44 = .ok (.iload_n 2, 1) := by decide +kernel
theorem dX10_votes_45 : decode cX10_votes 45 = .ok (.invokevirtual 92, 3) := by decide +kernel
theorem dX10_votes_48 : decode cX10_votes 48 = .ok (.ireturn, 1) := by decide +kernel
theorem dX10_type_0 : decode cX10_type 0 = .ok (.iload_n 1, 1) := by decide +kernel
theorem dX10_type_1 : decode cX10_type 1 = .ok (.iconst 0, 1) := by decide +kernel
theorem dX10_type_2 : decode cX10_type 2 = .ok (.sipush 255, 3) := by decide +kernel
theorem dX10_type_5 : decode cX10_type 5 = .ok (.invokestatic 75, 3) := by decide +kernel
theorem dX10_type_8 : decode cX10_type 8 = .ok (.ifCond .ne 6, 3) := by decide +kernel
theorem dX10_type_11 : decode cX10_type 11 = .ok (.bipush (-2), 2) := by decide +kernel
theorem dX10_type_13 : decode cX10_type 13 = .ok (.ireturn, 1) := by decide +kernel
theorem dX10_type_14 : decode cX10_type 14 = .ok (.aload_n 0, 1) := by decide +kernel
theorem dX10_type_15 : decode cX10_type 15 = .ok (.getfield 95, 3) := by decide +kernel
theorem dX10_type_18 : decode cX10_type 18 = .ok (.bipush 60, 2) := by decide +kernel
theorem dX10_type_20 : decode cX10_type 20 = .ok (.if_icmp .ne 6, 3) := by decide +kernel
theorem dX10_type_23 : decode cX10_type 23 = .ok (.bipush (-4), 2) := by decide +kernel
theorem dX10_type_25 : decode cX10_type 25 = .ok (.ireturn, 1) := by decide +kernel
theorem dX10_type_26 : decode cX10_type 26 = .ok (.aload_n 0, 1) := by decide +kernel
theorem dX10_type_27 : decode cX10_type 27 = .ok (.getfield 20, 3) := by decide +kernel
theorem dX10_type_30 : decode cX10_type 30 = .ok (.aload_n 0, 1) := by decide +kernel
theorem dX10_type_31 : decode cX10_type 31 = .ok (.getfield 95, 3) := by decide +kernel
theorem dX10_type_34 : decode cX10_type 34 = .ok (.iload_n 1, 1) := by decide +kernel
theorem dX10_type_35 : decode cX10_type 35 = .ok (.iastore, 1) := by decide +kernel
theorem dX10_type_36 : decode cX10_type 36 = .ok (.aload_n 0, 1) := by decide +kernel
theorem dX10_type_37 : decode cX10_type 37 = .ok (.dup, 1) := by decide +kernel
theorem dX10_type_38 : decode cX10_type 38 = .ok (.getfield 95, 3) := by decide +kernel
theorem dX10_type_41 : decode cX10_type 41 = .ok (.iconst 1, 1) := by decide +kernel
theorem dX10_type_42 : decode cX10_type 42 = .ok (.iadd, 1) := by decide +kernel
theorem dX10_type_43 : decode cX10_type 43 = .ok (.putfield 95, 3) := by decide +kernel
theorem dX10_type_46 : decode cX10_type 46 = .ok (.aload_n 0, 1) := by decide +kernel
theorem dX10_type_47 : decode cX10_type 47 = .ok (.getfield 95, 3) := by decide +kernel
theorem dX10_type_50 : decode cX10_type 50 = .ok (.ireturn, 1) := by decide +kernel
theorem dX10_repeal_0 : decode cX10_repeal 0 = .ok (.aload_n 0, 1) := by decide +kernel
theorem dX10_repeal_1 : decode cX10_repeal 1 = .ok (.getfield 95, 3) := by decide +kernel
theorem dX10_repeal_4 : decode cX10_repeal 4 = .ok (.istore_n 1, 1) := by decide +kernel
theorem dX10_repeal_5 : decode cX10_repeal 5 = .ok (.aload_n 0, 1) := by decide +kernel
theorem dX10_repeal_6 : decode cX10_repeal 6 = .ok (.iconst 0, 1) := by decide +kernel
theorem dX10_repeal_7 : decode cX10_repeal 7 = .ok (.putfield 95, 3) := by decide +kernel
theorem dX10_repeal_10 : decode cX10_repeal 10 = .ok (.iload_n 1, 1) := by decide +kernel
theorem dX10_repeal_11 : decode cX10_repeal 11 = .ok (.ireturn, 1) := by decide +kernel
theorem dX10_byteAt_0 : decode cX10_byteAt 0 = .ok (.iload_n 1, 1) := by decide +kernel
theorem dX10_byteAt_1 : decode cX10_byteAt 1 = .ok (.aload_n 0, 1) := by decide +kernel
theorem dX10_byteAt_2 : decode cX10_byteAt 2 = .ok (.getfield 95, 3) := by decide +kernel
theorem dX10_byteAt_5 : decode cX10_byteAt 5 = .ok (.if_icmp .ge 12, 3) := by decide +kernel
theorem dX10_byteAt_8 : decode cX10_byteAt 8 = .ok (.aload_n 0, 1) := by decide +kernel
theorem dX10_byteAt_9 : decode cX10_byteAt 9 = .ok (.getfield 20, 3) := by decide +kernel
theorem dX10_byteAt_12 : decode cX10_byteAt 12 = .ok (.iload_n 1, 1) := by decide +kernel
theorem dX10_byteAt_13 : decode cX10_byteAt 13 = .ok (.iaload, 1) := by decide +kernel
theorem dX10_byteAt_14 : decode cX10_byteAt 14 = .ok (.goto 4, 3) := by decide +kernel
theorem dX10_byteAt_17 : decode cX10_byteAt 17 = .ok (.iconst (-1), 1) := by decide +kernel
theorem dX10_byteAt_18 : decode cX10_byteAt 18 = .ok (.ireturn, 1) := by decide +kernel
theorem dX10_expect_0 : decode cX10_expect 0 = .ok (.aload_n 0, 1) := by decide +kernel
theorem dX10_expect_1 : decode cX10_expect 1 = .ok (.getfield 98, 3) := by decide +kernel
theorem dX10_expect_4 : decode cX10_expect 4 = .ok (.iconst (-1), 1) := by decide +kernel
theorem dX10_expect_5 : decode cX10_expect 5 = .ok (.if_icmp .ne 23, 3) := by decide +kernel
theorem dX10_expect_8 : decode cX10_expect 8 = .ok (.aload_n 0, 1) := by decide +kernel
theorem dX10_expect_9 : decode cX10_expect 9 = .ok (.aload_n 0, 1) := by decide +kernel
theorem dX10_expect_10 : decode cX10_expect 10 = .ok (.getfield 101, 3) := by decide +kernel
theorem dX10_expect_13 : decode cX10_expect 13 = .ok (.invokevirtual 104, 3) := by decide +kernel
theorem dX10_expect_16 : decode cX10_expect 16 = .ok (.iload_n 1, 1) := by decide +kernel
theorem dX10_expect_17 : decode cX10_expect 17 = .ok (.if_icmp .eq 11, 3) := by decide +kernel
theorem dX10_expect_20 : decode cX10_expect 20 = .ok (.aload_n 0, 1) := by decide +kernel
theorem dX10_expect_21 : decode cX10_expect 21 = .ok (.aload_n 0, 1) := by decide +kernel
theorem dX10_expect_22 : decode cX10_expect 22 = .ok (.getfield 101, 3) := by decide +kernel
theorem dX10_expect_25 : decode cX10_expect 25 = .ok (.putfield 98, 3) := by decide +kernel
theorem dX10_expect_28 : decode cX10_expect 28 = .ok (.aload_n 0, 1) := by decide +kernel
theorem dX10_expect_29 : decode cX10_expect 29 = .ok (.dup, 1) := by decide +kernel
theorem dX10_expect_30 : decode cX10_expect 30 = .ok (.getfield 101, 3) := by decide +kernel
theorem dX10_expect_33 : decode cX10_expect 33 = .ok (.iconst 1, 1) := by decide +kernel
theorem dX10_expect_34 : decode cX10_expect 34 = .ok (.iadd, 1) := by decide +kernel
theorem dX10_expect_35 : decode cX10_expect 35 = .ok (.putfield 101, 3) := by decide +kernel
theorem dX10_expect_38 : decode cX10_expect 38 = .ok (.return_, 1) := by decide +kernel
theorem dX10_number_0 : decode cX10_number 0 = .ok (.aload_n 0, 1) := by decide +kernel
theorem dX10_number_1 : decode cX10_number 1 = .ok (.getfield 101, 3) := by decide +kernel
theorem dX10_number_4 : decode cX10_number 4 = .ok (.istore_n 2, 1) := by decide +kernel
theorem dX10_number_5 : decode cX10_number 5 = .ok (.iconst 0, 1) := by decide +kernel
theorem dX10_number_6 : decode cX10_number 6 = .ok (.istore_n 3, 1) := by decide +kernel
theorem dX10_number_7 : decode cX10_number 7 = .ok (.aload_n 0, 1) := by decide +kernel
theorem dX10_number_8 : decode cX10_number 8 = .ok (.getfield 101, 3) := by decide +kernel
theorem dX10_number_11 : decode cX10_number 11 = .ok (.iload_n 2, 1) := by decide +kernel
theorem dX10_number_12 : decode cX10_number 12 = .ok (.iconst 3, 1) := by decide +kernel
theorem dX10_number_13 : decode cX10_number 13 = .ok (.iadd, 1) := by decide +kernel
theorem dX10_number_14 : decode cX10_number 14 = .ok (.if_icmp .ge 59, 3) := by decide +kernel
theorem dX10_number_17 : decode cX10_number 17 = .ok (.aload_n 0, 1) := by decide +kernel
theorem dX10_number_18 : decode cX10_number 18 = .ok (.aload_n 0, 1) := by decide +kernel
theorem dX10_number_19 : decode cX10_number 19 = .ok (.getfield 101, 3) := by decide +kernel
theorem dX10_number_22 : decode cX10_number 22 = .ok (.invokevirtual 104, 3) := by decide +kernel
theorem dX10_number_25 : decode cX10_number 25 = .ok (.bipush 48, 2) := by decide +kernel
theorem dX10_number_27 : decode cX10_number 27 = .ok (.if_icmp .lt 46, 3) := by decide +kernel
theorem dX10_number_30 : decode cX10_number 30 = .ok (.aload_n 0, 1) := by decide +kernel
theorem dX10_number_31 : decode cX10_number 31 = .ok (.aload_n 0, 1) := by decide +kernel
theorem dX10_number_32 : decode cX10_number 32 = .ok (.getfield 101, 3) := by decide +kernel
theorem dX10_number_35 : decode cX10_number 35 = .ok (.invokevirtual 104, 3) := by decide +kernel
theorem dX10_number_38 : decode cX10_number 38 = .ok (.bipush 57, 2) := by decide +kernel
theorem dX10_number_40 : decode cX10_number 40 = .ok (.if_icmp .gt 33, 3) := by decide +kernel
theorem dX10_number_43 : decode cX10_number 43 = .ok (.bipush 10, 2) := by decide +kernel
theorem dX10_number_45 : decode cX10_number 45 = .ok (.iload_n 3, 1) := by decide +kernel
theorem dX10_number_46 : decode cX10_number 46 = .ok (.imul, 1) := by decide +kernel
theorem dX10_number_47 : decode cX10_number 47 = .ok (.aload_n 0, 1) := by decide +kernel
theorem dX10_number_48 : decode cX10_number 48 = .ok (.aload_n 0, 1) := by decide +kernel
theorem dX10_number_49 : decode cX10_number 49 = .ok (.getfield 101, 3) := by decide +kernel
theorem dX10_number_52 : decode cX10_number 52 = .ok (.invokevirtual 104, 3) := by decide +kernel
theorem dX10_number_55 : decode cX10_number 55 = .ok (.iadd, 1) := by decide +kernel
theorem dX10_number_56 : decode cX10_number 56 = .ok (.bipush 48, 2) := by decide +kernel
theorem dX10_number_58 : decode cX10_number 58 = .ok (.isub, 1) := by decide +kernel
theorem dX10_number_59 : decode cX10_number 59 = .ok (.istore_n 3, 1) := by decide +kernel
theorem dX10_number_60 : decode cX10_number 60 = .ok (.aload_n 0, 1) := by decide +kernel
theorem dX10_number_61 : decode cX10_number 61 = .ok (.dup, 1) := by decide +kernel
theorem dX10_number_62 : decode cX10_number 62 = .ok (.getfield 101, 3) := by decide +kernel
theorem dX10_number_65 : decode cX10_number 65 = .ok (.iconst 1, 1) := by decide +kernel
theorem dX10_number_66 : decode cX10_number 66 = .ok (.iadd, 1) := by decide +kernel
theorem dX10_number_67 : decode cX10_number 67 = .ok (.putfield 101, 3) := by decide +kernel
theorem dX10_number_70 : decode cX10_number 70 = .ok (.goto (-63), 3) := by decide +kernel
theorem dX10_number_73 : decode cX10_number 73 = .ok (.aload_n 0, 1) := by decide +kernel
theorem dX10_number_74 : decode cX10_number 74 = .ok (.getfield 98, 3) := by decide +kernel
theorem dX10_number_77 : decode cX10_number 77 = .ok (.iconst (-1), 1) := by decide +kernel
theorem dX10_number_78 : decode cX10_number 78 = .ok (.if_icmp .ne 25, 3) := by decide +kernel
theorem dX10_number_81 : decode cX10_number 81 = .ok (.aload_n 0, 1) := by decide +kernel
theorem dX10_number_82 : decode cX10_number 82 = .ok (.getfield 101, 3) := by decide +kernel
theorem dX10_number_85 : decode cX10_number 85 = .ok (.iload_n 2, 1) := by decide +kernel
theorem dX10_number_86 : decode cX10_number 86 = .ok (.if_icmp .eq 12, 3) := by decide +kernel
theorem dX10_number_89 : decode cX10_number 89 = .ok (.iload_n 3, 1) := by decide +kernel
theorem dX10_number_90 : decode cX10_number 90 = .ok (.iconst 1, 1) := by decide +kernel
theorem dX10_number_91 : decode cX10_number 91 = .ok (.iload_n 1, 1) := by decide +kernel
theorem dX10_number_92 : decode cX10_number 92 = .ok (.invokestatic 75, 3) := by decide +kernel
theorem dX10_number_95 : decode cX10_number 95 = .ok (.ifCond .ne 8, 3) := by decide +kernel
theorem dX10_number_98 : decode cX10_number 98 = .ok (.aload_n 0, 1) := by decide +kernel
theorem dX10_number_99 : decode cX10_number 99 = .ok (.iload_n 2, 1) := by decide +kernel
theorem dX10_number_100 : decode cX10_number 100 = .ok (.putfield 98, 3) := by decide +kernel
theorem dX10_number_103 : decode cX10_number 103 = .ok (.iload_n 3, 1) := by decide +kernel
theorem dX10_number_104 : decode cX10_number 104 = .ok (.ireturn, 1) := by decide +kernel
theorem dX10_read_0 : decode cX10_read 0 = .ok (.aload_n 0, 1) := by decide +kernel
theorem dX10_read_1 : decode cX10_read 1 = .ok (.iconst 0, 1) := by decide +kernel
theorem dX10_read_2 : decode cX10_read 2 = .ok (.putfield 101, 3) := by decide +kernel
theorem dX10_read_5 : decode cX10_read 5 = .ok (.aload_n 0, 1) := by decide +kernel
theorem dX10_read_6 : decode cX10_read 6 = .ok (.iconst (-1), 1) := by decide +kernel
theorem dX10_read_7 : decode cX10_read 7 = .ok (.putfield 98, 3) := by decide +kernel
theorem dX10_read_10 : decode cX10_read 10 = .ok (.aload_n 0, 1) := by decide +kernel
theorem dX10_read_11 : decode cX10_read 11 = .ok (.iconst 0, 1) := by decide +kernel
theorem dX10_read_12 : decode cX10_read 12 = .ok (.putfield 108, 3) := by decide +kernel
theorem dX10_read_15 : decode cX10_read 15 = .ok (.iconst 1, 1) := by decide +kernel
theorem dX10_read_16 : decode cX10_read 16 = .ok (.istore_n 1, 1) := by decide +kernel
theorem dX10_read_17 : decode cX10_read 17 = .ok (.iload_n 1, 1) := by decide +kernel
theorem dX10_read_18 : decode cX10_read 18 = .ok (.ifCond .eq 191, 3) := by decide +kernel
theorem dX10_read_21 : decode cX10_read 21 = .ok (.aload_n 0, 1) := by decide +kernel
theorem dX10_read_22 : decode cX10_read 22 = .ok (.getfield 98, 3) := by decide +kernel
theorem dX10_read_25 : decode cX10_read 25 = .ok (.iconst (-1), 1) := by decide +kernel
theorem dX10_read_26 : decode cX10_read 26 = .ok (.if_icmp .ne 183, 3) := by decide +kernel
theorem dX10_read_29 : decode cX10_read 29 = .ok (.aload_n 0, 1) := by decide +kernel
theorem dX10_read_30 : decode cX10_read 30 = .ok (.getfield 108, 3) := by decide +kernel
theorem dX10_read_33 : decode cX10_read 33 = .ok (.iconst 4, 1) := by decide +kernel
theorem dX10_read_34 : decode cX10_read 34 = .ok (.if_icmp .ne 16, 3) := by decide +kernel
theorem dX10_read_37 : decode cX10_read 37 = .ok (.aload_n 0, 1) := by decide +kernel
theorem dX10_read_38 : decode cX10_read 38 = .ok (.aload_n 0, 1) := by decide +kernel
theorem dX10_read_39 : decode cX10_read 39 = .ok (.getfield 101, 3) := by decide +kernel
theorem dX10_read_42 : decode cX10_read 42 = .ok (.iconst 1, 1) := by decide +kernel
theorem dX10_read_43 : decode cX10_read 43 = .ok (.isub, 1) := by decide +kernel
theorem dX10_read_44 : decode cX10_read 44 = .ok (.putfield 98, 3) := by decide +kernel
theorem dX10_read_47 : decode cX10_read 47 = .ok (.goto (-30), 3) := by decide +kernel
theorem dX10_read_50 : decode cX10_read 50 = .ok (.aload_n 0, 1) := by decide +kernel
theorem dX10_read_51 : decode cX10_read 51 = .ok (.bipush 118, 2) := by decide +kernel
theorem dX10_read_53 : decode cX10_read 53 = .ok (.invokevirtual 111, 3) := by decide +kernel
theorem dX10_read_56 : decode cX10_read 56 = .ok (.aload_n 0, 1) := by decide +kernel
theorem dX10_read_57 : decode cX10_read 57 = .ok (.getfield 23, 3) := by decide +kernel
theorem dX10_read_60 : decode cX10_read 60 = .ok (.aload_n 0, 1) := by decide +kernel
theorem dX10_read_61 : decode cX10_read 61 = .ok (.getfield 108, 3) := by decide +kernel
theorem dX10_read_64 : decode cX10_read 64 = .ok (.aload_n 0, 1) := by decide +kernel
theorem dX10_read_65 : decode cX10_read 65 = .ok (.bipush 100, 2) := by decide +kernel
theorem dX10_read_67 : decode cX10_read 67 = .ok (.invokevirtual 115, 3) := by decide +kernel
theorem dX10_read_70 : decode cX10_read 70 = .ok (.iastore, 1) := by decide +kernel
theorem dX10_read_71 : decode cX10_read 71 = .ok (.aload_n 0, 1) := by decide +kernel
theorem dX10_read_72 : decode cX10_read 72 = .ok (.bipush 97, 2) := by decide +kernel
theorem dX10_read_74 : decode cX10_read 74 = .ok (.invokevirtual 111, 3) := by decide +kernel
theorem dX10_read_77 : decode cX10_read 77 = .ok (.aload_n 0, 1) := by decide +kernel
theorem dX10_read_78 : decode cX10_read 78 = .ok (.getfield 26, 3) := by decide +kernel
theorem dX10_read_81 : decode cX10_read 81 = .ok (.aload_n 0, 1) := by decide +kernel
theorem dX10_read_82 : decode cX10_read 82 = .ok (.getfield 108, 3) := by decide +kernel
theorem dX10_read_85 : decode cX10_read 85 = .ok (.aload_n 0, 1) := by decide +kernel
theorem dX10_read_86 : decode cX10_read 86 = .ok (.bipush 24, 2) := by decide +kernel
theorem dX10_read_88 : decode cX10_read 88 = .ok (.invokevirtual 115, 3) := by decide +kernel
theorem dX10_read_91 : decode cX10_read 91 = .ok (.iastore, 1) := by decide +kernel
theorem dX10_read_92 : decode cX10_read 92 = .ok (.aload_n 0, 1) := by decide +kernel
theorem dX10_read_93 : decode cX10_read 93 = .ok (.aload_n 0, 1) := by decide +kernel
theorem dX10_read_94 : decode cX10_read 94 = .ok (.getfield 101, 3) := by decide +kernel
theorem dX10_read_97 : decode cX10_read 97 = .ok (.invokevirtual 104, 3) := by decide +kernel
theorem dX10_read_100 : decode cX10_read 100 = .ok (.istore_n 2, 1) := by decide +kernel
theorem dX10_read_101 : decode cX10_read 101 = .ok (.aload_n 0, 1) := by decide +kernel
theorem dX10_read_102 : decode cX10_read 102 = .ok (.getfield 98, 3) := by decide +kernel
theorem dX10_read_105 : decode cX10_read 105 = .ok (.iconst (-1), 1) := by decide +kernel
theorem dX10_read_106 : decode cX10_read 106 = .ok (.if_icmp .ne 35, 3) := by decide +kernel
theorem dX10_read_109 : decode cX10_read 109 = .ok (.iload_n 2, 1) := by decide +kernel
theorem dX10_read_110 : decode cX10_read 110 = .ok (.bipush 97, 2) := by decide +kernel
theorem dX10_read_112 : decode cX10_read 112 = .ok (.if_icmp .eq 29, 3) := by decide +kernel
theorem dX10_read_115 : decode cX10_read 115 = .ok (.iload_n 2, 1) := by decide +kernel
theorem dX10_read_116 : decode cX10_read 116 = .ok (.bipush 110, 2) := by decide +kernel
theorem dX10_read_118 : decode cX10_read 118 = .ok (.if_icmp .eq 23, 3) := by decide +kernel
theorem dX10_read_121 : decode cX10_read 121 = .ok (.iload_n 2, 1) := by decide +kernel
theorem dX10_read_122 : decode cX10_read 122 = .ok (.bipush 100, 2) := by decide +kernel
theorem dX10_read_124 : decode cX10_read 124 = .ok (.if_icmp .eq 17, 3) := by decide +kernel
theorem dX10_read_127 : decode cX10_read 127 = .ok (.iload_n 2, 1) := by decide +kernel
theorem dX10_read_128 : decode cX10_read 128 = .ok (.bipush 115, 2) := by decide +kernel
theorem dX10_read_130 : decode cX10_read 130 = .ok (.if_icmp .eq 11, 3) := by decide +kernel
theorem dX10_read_133 : decode cX10_read 133 = .ok (.aload_n 0, 1) := by decide +kernel
theorem dX10_read_134 : decode cX10_read 134 = .ok (.aload_n 0, 1) := by decide +kernel
theorem dX10_read_135 : decode cX10_read 135 = .ok (.getfield 101, 3) := by decide +kernel
theorem dX10_read_138 : decode cX10_read 138 = .ok (.putfield 98, 3) := by decide +kernel
theorem dX10_read_141 : decode cX10_read 141 = .ok (.aload_n 0, 1) := by decide +kernel
theorem dX10_read_142 : decode cX10_read 142 = .ok (.getfield 29, 3) := by decide +kernel
theorem dX10_read_145 : decode cX10_read 145 = .ok (.aload_n 0, 1) := by decide +kernel
theorem dX10_read_146 : decode cX10_read 146 = .ok (.getfield 108, 3) := by decide +kernel
theorem dX10_read_149 : decode cX10_read 149 = .ok (.iload_n 2, 1) := by decide +kernel
theorem dX10_read_150 : decode cX10_read 150 = .ok (.iastore, 1) := by decide +kernel
theorem dX10_read_151 : decode cX10_read 151 = .ok (.aload_n 0, 1) := by decide +kernel
theorem dX10_read_152 : decode cX10_read 152 = .ok (.dup, 1) := by decide +kernel
theorem dX10_read_153 : decode cX10_read 153 = .ok (.getfield 101, 3) := by decide +kernel
theorem dX10_read_156 : decode cX10_read 156 = .ok (.iconst 1, 1) := by decide +kernel
theorem dX10_read_157 : decode cX10_read 157 = .ok (.iadd, 1) := by decide +kernel
theorem dX10_read_158 : decode cX10_read 158 = .ok (.putfield 101, 3) := by decide +kernel
theorem dX10_read_161 : decode cX10_read 161 = .ok (.aload_n 0, 1) := by decide +kernel
theorem dX10_read_162 : decode cX10_read 162 = .ok (.dup, 1) := by decide +kernel
theorem dX10_read_163 : decode cX10_read 163 = .ok (.getfield 108, 3) := by decide +kernel
theorem dX10_read_166 : decode cX10_read 166 = .ok (.iconst 1, 1) := by decide +kernel
theorem dX10_read_167 : decode cX10_read 167 = .ok (.iadd, 1) := by decide +kernel
theorem dX10_read_168 : decode cX10_read 168 = .ok (.putfield 108, 3) := by decide +kernel
theorem dX10_read_171 : decode cX10_read 171 = .ok (.aload_n 0, 1) := by decide +kernel
theorem dX10_read_172 : decode cX10_read 172 = .ok (.getfield 98, 3) := by decide +kernel
theorem dX10_read_175 : decode cX10_read 175 = .ok (.iconst (-1), 1) := by decide +kernel
theorem dX10_read_176 : decode cX10_read 176 = .ok (.if_icmp .ne 18, 3) := by decide +kernel
theorem dX10_read_179 : decode cX10_read 179 = .ok (.aload_n 0, 1) := by decide +kernel
theorem dX10_read_180 : decode cX10_read 180 = .ok (.getfield 101, 3) := by decide +kernel
theorem dX10_read_183 : decode cX10_read 183 = .ok (.aload_n 0, 1) := by decide +kernel
theorem dX10_read_184 : decode cX10_read 184 = .ok (.getfield 95, 3) := by decide +kernel
theorem dX10_read_187 : decode cX10_read 187 = .ok (.if_icmp .ge 7, 3) := by decide +kernel
theorem dX10_read_190 : decode cX10_read 190 = .ok (.iconst 1, 1) := by decide +kernel
theorem dX10_read_191 : decode cX10_read 191 = .ok (.goto 4, 3) := by decide +kernel
theorem dX10_read_194 : decode cX10_read 194 = .ok (.iconst 0, 1) := by decide +kernel
theorem dX10_read_195 : decode cX10_read 195 = .ok (.istore_n 1, 1) := by decide +kernel
theorem dX10_read_196 : decode cX10_read 196 = .ok (.iload_n 1, 1) := by decide +kernel
theorem dX10_read_197 : decode cX10_read 197 = .ok (.ifCond .eq 9, 3) := by decide +kernel
theorem dX10_read_200 : decode cX10_read 200 = .ok (.aload_n 0, 1) := by decide +kernel
theorem dX10_read_201 : decode cX10_read 201 = .ok (.bipush 59, 2) := by decide +kernel
theorem dX10_read_203 : decode cX10_read 203 = .ok (.invokevirtual 111, 3) := by decide +kernel
theorem dX10_read_206 : decode cX10_read 206 = .ok (.goto (-189), 3) := by decide +kernel
theorem dX10_read_209 : decode cX10_read 209 = .ok (.return_, 1) := by decide +kernel
theorem dX10_fault_0 : decode cX10_fault 0 = .ok (.aload_n 0, 1) := by decide +kernel
theorem dX10_fault_1 : decode cX10_fault 1 = .ok (.invokevirtual 118, 3) := by decide +kernel
theorem dX10_fault_4 : decode cX10_fault 4 = .ok (.aload_n 0, 1) := by decide +kernel
theorem dX10_fault_5 : decode cX10_fault 5 = .ok (.getfield 98, 3) := by decide +kernel
theorem dX10_fault_8 : decode cX10_fault 8 = .ok (.ireturn, 1) := by decide +kernel
theorem dX10_refuses_0 : decode cX10_refuses 0 = .ok (.iload_n 1, 1) := by decide +kernel
theorem dX10_refuses_1 : decode cX10_refuses 1 = .ok (.iconst 0, 1) := by decide +kernel
theorem dX10_refuses_2 : decode cX10_refuses 2 = .ok (.iconst 3, 1) := by decide +kernel
theorem dX10_refuses_3 : decode cX10_refuses 3 = .ok (.invokestatic 75, 3) := by decide +kernel
theorem dX10_refuses_6 : decode cX10_refuses 6 = .ok (.ifCond .ne 6, 3) := by decide +kernel
theorem dX10_refuses_9 : decode cX10_refuses 9 = .ok (.bipush (-2), 2) := by decide +kernel
theorem dX10_refuses_11 : decode cX10_refuses 11 = .ok (.ireturn, 1) := by decide +kernel
theorem dX10_refuses_12 : decode cX10_refuses 12 = .ok (.aload_n 0, 1) := by decide +kernel
theorem dX10_refuses_13 : decode cX10_refuses 13 = .ok (.invokevirtual 118, 3) := by decide +kernel
theorem dX10_refuses_16 : decode cX10_refuses 16 = .ok (.aload_n 0, 1) := by decide +kernel
theorem dX10_refuses_17 : decode cX10_refuses 17 = .ok (.getfield 98, 3) := by decide +kernel
theorem dX10_refuses_20 : decode cX10_refuses 20 = .ok (.iconst (-1), 1) := by decide +kernel
theorem dX10_refuses_21 : decode cX10_refuses 21 = .ok (.if_icmp .eq 8, 3) := by decide +kernel
theorem dX10_refuses_24 : decode cX10_refuses 24 = .ok (.bipush (-3), 2) := by decide +kernel
theorem dX10_refuses_26 : decode cX10_refuses 26 = .ok (.goto 17, 3) := by decide +kernel
theorem dX10_refuses_29 : decode cX10_refuses 29 = .ok (.iload_n 1, 1) := by decide +kernel
theorem dX10_refuses_30 : decode cX10_refuses 30 = .ok (.aload_n 0, 1) := by decide +kernel
theorem dX10_refuses_31 : decode cX10_refuses 31 = .ok (.getfield 108, 3) := by decide +kernel
theorem dX10_refuses_34 : decode cX10_refuses 34 = .ok (.if_icmp .lt 8, 3) := by decide +kernel
theorem dX10_refuses_37 : decode cX10_refuses 37 = .ok (.bipush (-2), 2) := by decide +kernel
theorem dX10_refuses_39 : decode cX10_refuses 39 = .ok (.goto 4, 3) := by decide +kernel
theorem dX10_refuses_42 : decode cX10_refuses 42 = .ok (.iconst 0, 1) := by decide +kernel
theorem dX10_refuses_43 : decode cX10_refuses 43 = .ok (.ireturn, 1) := by decide +kernel
theorem dX10_law_0 : decode cX10_law 0 = .ok (.iload_n 2, 1) := by decide +kernel
theorem dX10_law_1 : decode cX10_law 1 = .ok (.iconst 0, 1) := by decide +kernel
theorem dX10_law_2 : decode cX10_law 2 = .ok (.iconst 2, 1) := by decide +kernel
theorem dX10_law_3 : decode cX10_law 3 = .ok (.invokestatic 75, 3) := by decide +kernel
theorem dX10_law_6 : decode cX10_law 6 = .ok (.ifCond .ne 6, 3) := by decide +kernel
theorem dX10_law_9 : decode cX10_law 9 = .ok (.bipush (-2), 2) := by decide +kernel
theorem dX10_law_11 : decode cX10_law 11 = .ok (.ireturn, 1) := by decide +kernel
theorem dX10_law_12 : decode cX10_law 12 = .ok (.aload_n 0, 1) := by decide +kernel
theorem dX10_law_13 : decode cX10_law 13 = .ok (.iload_n 1, 1) := by decide +kernel
theorem dX10_law_14 : decode cX10_law 14 = .ok (.invokevirtual 121, 3) := by decide +kernel
theorem dX10_law_17 : decode cX10_law 17 = .ok (.istore_n 3, 1) := by decide +kernel
theorem dX10_law_18 : decode cX10_law 18 = .ok (.iload_n 3, 1) := by decide +kernel
theorem dX10_law_19 : decode cX10_law 19 = .ok (.ifCond .eq 7, 3) := by decide +kernel
theorem dX10_law_22 : decode cX10_law 22 = .ok (.iload_n 3, 1) := by decide +kernel
theorem dX10_law_23 : decode cX10_law 23 = .ok (.goto 36, 3) := by decide +kernel
theorem dX10_law_26 : decode cX10_law 26 = .ok (.iload_n 2, 1) := by decide +kernel
theorem dX10_law_27 : decode cX10_law 27 = .ok (.ifCond .ne 12, 3) := by decide +kernel
theorem dX10_law_30 : decode cX10_law 30 = .ok (.aload_n 0, 1) := by decide +kernel
theorem dX10_law_31 : decode cX10_law 31 = .ok (.getfield 23, 3) := by decide +kernel
theorem dX10_law_34 : decode cX10_law 34 = .ok (.iload_n 1, 1) := by decide +kernel
theorem dX10_law_35 : decode cX10_law 35 = .ok (.iaload, 1) := by decide +kernel
theorem dX10_law_36 : decode cX10_law 36 = .ok (.goto 23, 3) := by decide +kernel
theorem dX10_law_39 : decode cX10_law 39 = .ok (.iload_n 2, 1) := by decide +kernel
theorem dX10_law_40 : decode cX10_law 40 = .ok (.iconst 1, 1) := by decide +kernel
theorem dX10_law_41 : decode cX10_law 41 = .ok (.if_icmp .ne 12, 3) := by decide +kernel
theorem dX10_law_44 : decode cX10_law 44 = .ok (.aload_n 0, 1) := by decide +kernel
theorem dX10_law_45 : decode cX10_law 45 = .ok (.getfield 26, 3) := by decide +kernel
theorem dX10_law_48 : decode cX10_law 48 = .ok (.iload_n 1, 1) := by decide +kernel
theorem dX10_law_49 : decode cX10_law 49 = .ok (.iaload, 1) := by decide +kernel
theorem dX10_law_50 : decode cX10_law 50 = .ok (.goto 9, 3) := by decide +kernel
theorem dX10_law_53 : decode cX10_law 53 = .ok (.aload_n 0, 1) := by decide +kernel
theorem dX10_law_54 : decode cX10_law 54 = .ok (.getfield 29, 3) := by decide +kernel
theorem dX10_law_57 : decode cX10_law 57 = .ok (.iload_n 1, 1) := by decide +kernel
theorem dX10_law_58 : decode cX10_law 58 = .ok (.iaload, 1) := by decide +kernel
theorem dX10_law_59 : decode cX10_law 59 = .ok (.ireturn, 1) := by decide +kernel
theorem dX10_dearer_0 : decode cX10_dearer 0 = .ok (.aload_n 0, 1) := by decide +kernel
theorem dX10_dearer_1 : decode cX10_dearer 1 = .ok (.iload_n 1, 1) := by decide +kernel
theorem dX10_dearer_2 : decode cX10_dearer 2 = .ok (.iload_n 3, 1) := by decide +kernel
theorem dX10_dearer_3 : decode cX10_dearer 3 = .ok (.invokevirtual 92, 3) := by decide +kernel
theorem dX10_dearer_6 : decode cX10_dearer 6 = .ok (.aload_n 0, 1) := by decide +kernel
theorem dX10_dearer_7 : decode cX10_dearer 7 = .ok (.iload_n 2, 1) := by decide +kernel
theorem dX10_dearer_8 : decode cX10_dearer 8 = .ok (.iload_n 3, 1) := by decide +kernel
theorem dX10_dearer_9 : decode cX10_dearer 9 = .ok (.invokevirtual 88, 3) := by decide +kernel
theorem dX10_dearer_12 : decode cX10_dearer 12 = .ok (.imul, 1) := by decide +kernel
theorem dX10_dearer_13 : decode cX10_dearer 13 = .ok (.aload_n 0, 1) := by decide +kernel
theorem dX10_dearer_14 : decode cX10_dearer 14 = .ok (.iload_n 2, 1) := by decide +kernel
theorem dX10_dearer_15 : decode cX10_dearer 15 = .ok (.iload_n 3, 1) := by decide +kernel
theorem dX10_dearer_16 : decode cX10_dearer 16 = .ok (.invokevirtual 92, 3) := by decide +kernel
theorem dX10_dearer_19 : decode cX10_dearer 19 = .ok (.aload_n 0, 1) := by decide +kernel
theorem dX10_dearer_20 : decode cX10_dearer 20 = .ok (.iload_n 1, 1) := by decide +kernel
theorem dX10_dearer_21 : decode cX10_dearer 21 = .ok (.iload_n 3, 1) := by decide +kernel
theorem dX10_dearer_22 : decode cX10_dearer 22 = .ok (.invokevirtual 88, 3) := by decide +kernel
theorem dX10_dearer_25 : decode cX10_dearer 25 = .ok (.imul, 1) := by decide +kernel
theorem dX10_dearer_26 : decode cX10_dearer 26 = .ok (.isub, 1) := by decide +kernel
theorem dX10_dearer_27 : decode cX10_dearer 27 = .ok (.ireturn, 1) := by decide +kernel
theorem dX10_yesSoFar_0 : decode cX10_yesSoFar 0 = .ok (.iconst 0, 1) := by decide +kernel
theorem dX10_yesSoFar_1 : decode cX10_yesSoFar 1 = .ok (.istore_n 3, 1) := by decide +kernel
theorem dX10_yesSoFar_2 : decode cX10_yesSoFar 2 = .ok (.iconst 0, 1) := by decide +kernel
theorem dX10_yesSoFar_3 : decode cX10_yesSoFar 3 = .ok (.istore 4, 2) := by decide +kernel
theorem dX10_yesSoFar_5 : decode cX10_yesSoFar 5 = .ok (.iload 4, 2) := by decide +kernel
theorem dX10_yesSoFar_7 : decode cX10_yesSoFar 7 = .ok (.iload_n 2, 1) := by decide +kernel
theorem dX10_yesSoFar_8 : decode cX10_yesSoFar 8 = .ok (.if_icmp .gt 19, 3) := by decide +kernel
theorem dX10_yesSoFar_11 : decode cX10_yesSoFar 11 = .ok (.iload_n 3, 1) := by decide +kernel
theorem dX10_yesSoFar_12 : decode cX10_yesSoFar 12 = .ok (.aload_n 0, 1) := by decide +kernel
theorem dX10_yesSoFar_13 : decode cX10_yesSoFar 13 = .ok (.iload_n 1, 1) := by decide +kernel
theorem dX10_yesSoFar_14 : decode cX10_yesSoFar 14 = .ok (.iload 4, 2) := by decide +kernel
theorem dX10_yesSoFar_16 : decode cX10_yesSoFar 16 = .ok (.invokevirtual 92, 3) := by decide +kernel
theorem dX10_yesSoFar_19 : decode cX10_yesSoFar 19 = .ok (.iadd, 1) := by decide +kernel
theorem dX10_yesSoFar_20 : decode cX10_yesSoFar 20 = .ok (.istore_n 3, 1) := by decide +kernel
theorem dX10_yesSoFar_21 : decode cX10_yesSoFar 21 = .ok (.iinc 4 1, 3) := by decide +kernel
theorem dX10_yesSoFar_24 : decode cX10_yesSoFar 24 = .ok (.goto (-19), 3) := by decide +kernel
theorem dX10_yesSoFar_27 : decode cX10_yesSoFar 27 = .ok (.iload_n 3, 1) := by decide +kernel
theorem dX10_yesSoFar_28 : decode cX10_yesSoFar 28 = .ok (.ireturn, 1) := by decide +kernel
theorem dX10_placeOf_0 : decode cX10_placeOf 0 = .ok (.iconst 0, 1) := by decide +kernel
theorem dX10_placeOf_1 : decode cX10_placeOf 1 = .ok (.istore_n 2, 1) := by decide +kernel
theorem dX10_placeOf_2 : decode cX10_placeOf 2 = .ok (.aload_n 0, 1) := by decide +kernel
theorem dX10_placeOf_3 : decode cX10_placeOf 3 = .ok (.getfield 13, 3) := by decide +kernel
theorem dX10_placeOf_6 : decode cX10_placeOf 6 = .ok (.iload_n 2, 1) := by decide +kernel
theorem dX10_placeOf_7 : decode cX10_placeOf 7 = .ok (.iaload, 1) := by decide +kernel
theorem dX10_placeOf_8 : decode cX10_placeOf 8 = .ok (.iload_n 1, 1) := by decide +kernel
theorem dX10_placeOf_9 : decode cX10_placeOf 9 = .ok (.if_icmp .eq 9, 3) := by decide +kernel
theorem dX10_placeOf_12 : decode cX10_placeOf 12 = .ok (.iinc 2 1, 3) := by decide +kernel
theorem dX10_placeOf_15 : decode cX10_placeOf 15 = .ok (.goto (-13), 3) := by decide +kernel
theorem dX10_placeOf_18 : decode cX10_placeOf 18 = .ok (.iload_n 2, 1) := by decide +kernel
theorem dX10_placeOf_19 : decode cX10_placeOf 19 = .ok (.ireturn, 1) := by decide +kernel
theorem dX10_isAhead_0 : decode cX10_isAhead 0 = .ok (.aload_n 0, 1) := by decide +kernel
theorem dX10_isAhead_1 : decode cX10_isAhead 1 = .ok (.getfield 29, 3) := by decide +kernel
theorem dX10_isAhead_4 : decode cX10_isAhead 4 = .ok (.iload_n 3, 1) := by decide +kernel
theorem dX10_isAhead_5 : decode cX10_isAhead 5 = .ok (.iaload, 1) := by decide +kernel
theorem dX10_isAhead_6 : decode cX10_isAhead 6 = .ok (.bipush 115, 2) := by decide +kernel
theorem dX10_isAhead_8 : decode cX10_isAhead 8 = .ok (.if_icmp .ne 19, 3) := by decide +kernel
theorem dX10_isAhead_11 : decode cX10_isAhead 11 = .ok (.aload_n 0, 1) := by decide +kernel
theorem dX10_isAhead_12 : decode cX10_isAhead 12 = .ok (.iload_n 1, 1) := by decide +kernel
theorem dX10_isAhead_13 : decode cX10_isAhead 13 = .ok (.iload_n 3, 1) := by decide +kernel
theorem dX10_isAhead_14 : decode cX10_isAhead 14 = .ok (.invokevirtual 124, 3) := by decide +kernel
theorem dX10_isAhead_17 : decode cX10_isAhead 17 = .ok (.aload_n 0, 1) := by decide +kernel
theorem dX10_isAhead_18 : decode cX10_isAhead 18 = .ok (.iload_n 2, 1) := by decide +kernel
theorem dX10_isAhead_19 : decode cX10_isAhead 19 = .ok (.iload_n 3, 1) := by decide +kernel
theorem dX10_isAhead_20 : decode cX10_isAhead 20 = .ok (.invokevirtual 124, 3) := by decide +kernel
theorem dX10_isAhead_23 : decode cX10_isAhead 23 = .ok (.isub, 1) := by decide +kernel
theorem dX10_isAhead_24 : decode cX10_isAhead 24 = .ok (.goto 4, 3) := by decide +kernel
theorem dX10_isAhead_27 : decode cX10_isAhead 27 = .ok (.iconst 0, 1) := by decide +kernel
theorem dX10_isAhead_28 : decode cX10_isAhead 28 = .ok (.istore 4, 2) := by decide +kernel
theorem dX10_isAhead_30 : decode cX10_isAhead 30 = .ok (.iload 4, 2) := by decide +kernel
theorem dX10_isAhead_32 : decode cX10_isAhead 32 = .ok (.ifCond .eq 16, 3) := by decide +kernel
theorem dX10_isAhead_35 : decode cX10_isAhead 35 = .ok (.iload 4, 2) := by decide +kernel
theorem dX10_isAhead_37 : decode cX10_isAhead 37 = .ok (.ifCond .le 7, 3) := by decide +kernel
theorem dX10_isAhead_40 : decode cX10_isAhead 40 = .ok (.iconst 1, 1) := by decide +kernel
theorem dX10_isAhead_41 : decode cX10_isAhead 41 = .ok (.goto 25, 3) := by decide +kernel
theorem dX10_isAhead_44 : decode cX10_isAhead 44 = .ok (.iconst 0, 1) := by decide +kernel
theorem dX10_isAhead_45 : decode cX10_isAhead 45 = .ok (.goto 21, 3) := by decide +kernel
theorem dX10_isAhead_48 : decode cX10_isAhead 48 = .ok (.aload_n 0, 1) := by decide +kernel
theorem dX10_isAhead_49 : decode cX10_isAhead 49 = .ok (.iload_n 1, 1) := by decide +kernel
theorem dX10_isAhead_50 : decode cX10_isAhead 50 = .ok (.invokevirtual 127, 3) := by decide +kernel
theorem dX10_isAhead_53 : decode cX10_isAhead 53 = .ok (.aload_n 0, 1) := by decide +kernel
theorem dX10_isAhead_54 : decode cX10_isAhead 54 = .ok (.iload_n 2, 1) := by decide +kernel
theorem dX10_isAhead_55 : decode cX10_isAhead 55 = .ok (.invokevirtual 127, 3) := by decide +kernel
theorem dX10_isAhead_58 : decode cX10_isAhead 58 = .ok (.if_icmp .ge 7, 3) := by decide +kernel
theorem dX10_isAhead_61 : decode cX10_isAhead 61 = .ok (.iconst 1, 1) := by decide +kernel
theorem dX10_isAhead_62 : decode cX10_isAhead 62 = .ok (.goto 4, 3) := by decide +kernel
theorem dX10_isAhead_65 : decode cX10_isAhead 65 = .ok (.iconst 0, 1) := by decide +kernel
theorem dX10_isAhead_66 : decode cX10_isAhead 66 = .ok (.ireturn, 1) := by decide +kernel
theorem dX10_passesIn_0 : decode cX10_passesIn 0 = .ok (.aload_n 0, 1) := by decide +kernel
theorem dX10_passesIn_1 : decode cX10_passesIn 1 = .ok (.iload_n 1, 1) := by decide +kernel
theorem dX10_passesIn_2 : decode cX10_passesIn 2 = .ok (.iload_n 2, 1) := by decide +kernel
theorem dX10_passesIn_3 : decode cX10_passesIn 3 = .ok (.invokevirtual 88, 3) := by decide +kernel
theorem dX10_passesIn_6 : decode cX10_passesIn 6 = .ok (.istore_n 3, 1) := by decide +kernel
theorem dX10_passesIn_7 : decode cX10_passesIn 7 = .ok (.iload_n 3, 1) := by decide +kernel
theorem dX10_passesIn_8 : decode cX10_passesIn 8 = .ok (.ifCond .le 27, 3) := by decide +kernel
theorem dX10_passesIn_11 : decode cX10_passesIn 11 = .ok (.bipush 100, 2) := by decide +kernel
theorem dX10_passesIn_13 : decode cX10_passesIn 13 = .ok (.aload_n 0, 1) := by decide +kernel
theorem dX10_passesIn_14 : decode cX10_passesIn 14 = .ok (.iload_n 1, 1) := by decide +kernel
theorem dX10_passesIn_15 : decode cX10_passesIn 15 = .ok (.iload_n 2, 1) := by decide +kernel
theorem dX10_passesIn_16 : decode cX10_passesIn 16 = .ok (.invokevirtual 92, 3) := by decide +kernel
theorem dX10_passesIn_19 : decode cX10_passesIn 19 = .ok (.imul, 1) := by decide +kernel
theorem dX10_passesIn_20 : decode cX10_passesIn 20 = .ok (.aload_n 0, 1) := by decide +kernel
theorem dX10_passesIn_21 : decode cX10_passesIn 21 = .ok (.getfield 23, 3) := by decide +kernel
theorem dX10_passesIn_24 : decode cX10_passesIn 24 = .ok (.iload_n 2, 1) := by decide +kernel
theorem dX10_passesIn_25 : decode cX10_passesIn 25 = .ok (.iaload, 1) := by decide +kernel
theorem dX10_passesIn_26 : decode cX10_passesIn 26 = .ok (.iload_n 3, 1) := by decide +kernel
theorem dX10_passesIn_27 : decode cX10_passesIn 27 = .ok (.imul, 1) := by decide +kernel
theorem dX10_passesIn_28 : decode cX10_passesIn 28 = .ok (.if_icmp .lt 7, 3) := by decide +kernel
theorem dX10_passesIn_31 : decode cX10_passesIn 31 = .ok (.iconst 1, 1) := by decide +kernel
theorem dX10_passesIn_32 : decode cX10_passesIn 32 = .ok (.goto 4, 3) := by decide +kernel
theorem dX10_passesIn_35 : decode cX10_passesIn 35 = .ok (.iconst 0, 1) := by decide +kernel
theorem dX10_passesIn_36 : decode cX10_passesIn 36 = .ok (.ireturn, 1) := by decide +kernel
theorem dX10_advances_0 : decode cX10_advances 0 = .ok (.iconst 0, 1) := by decide +kernel
theorem dX10_advances_1 : decode cX10_advances 1 = .ok (.istore_n 3, 1) := by decide +kernel
theorem dX10_advances_2 : decode cX10_advances 2 = .ok (.iconst 0, 1) := by decide +kernel
theorem dX10_advances_3 : decode cX10_advances 3 = .ok (.istore 4, 2) := by decide +kernel
theorem dX10_advances_5 : decode cX10_advances 5 = .ok (.iload 4, 2) := by decide +kernel
theorem dX10_advances_7 : decode cX10_advances 7 = .ok (.aload_n 0, 1) := by decide +kernel
theorem dX10_advances_8 : decode cX10_advances 8 = .ok (.getfield 72, 3) := by decide +kernel
theorem dX10_advances_11 : decode cX10_advances 11 = .ok (.if_icmp .ge 40, 3) := by decide +kernel
theorem dX10_advances_14 : decode cX10_advances 14 = .ok (.iload_n 3, 1) := by decide +kernel
theorem dX10_advances_15 : decode cX10_advances 15 = .ok (.iload_n 1, 1) := by decide +kernel
theorem dX10_advances_16 : decode cX10_advances 16 = .ok (.iload 4, 2) := by decide +kernel
theorem dX10_advances_18 : decode cX10_advances 18 = .ok (.ishr, 1) := by decide +kernel
theorem dX10_advances_19 : decode cX10_advances 19 = .ok (.iconst 1, 1) := by decide +kernel
theorem dX10_advances_20 : decode cX10_advances 20 = .ok (.iand, 1) := by decide +kernel
theorem dX10_advances_21 : decode cX10_advances 21 = .ok (.iconst 1, 1) := by decide +kernel
theorem dX10_advances_22 : decode cX10_advances 22 = .ok (.if_icmp .ne 20, 3) := by decide +kernel
theorem dX10_advances_25 : decode cX10_advances 25 = .ok (.aload_n 0, 1) := by decide +kernel
theorem dX10_advances_26 : decode cX10_advances 26 = .ok (.iload 4, 2) := by decide +kernel
theorem dX10_advances_28 : decode cX10_advances 28 = .ok (.iload_n 2, 1) := by decide +kernel
theorem dX10_advances_29 : decode cX10_advances 29 = .ok (.invokevirtual 130, 3) := by decide +kernel
theorem dX10_advances_32 : decode cX10_advances 32 = .ok (.ifCond .eq 10, 3) := by decide +kernel
theorem dX10_advances_35 : decode cX10_advances 35 = .ok (.iconst 1, 1) := by decide +kernel
theorem dX10_advances_36 : decode cX10_advances 36 = .ok (.iload 4, 2) := by decide +kernel
theorem dX10_advances_38 : decode cX10_advances 38 = .ok (.ishl, 1) := by decide +kernel
theorem dX10_advances_39 : decode cX10_advances 39 = .ok (.goto 4, 3) := by decide +kernel
theorem dX10_advances_42 : decode cX10_advances 42 = .ok (.iconst 0, 1) := by decide +kernel
theorem dX10_advances_43 : decode cX10_advances 43 = .ok (.ior, 1) := by decide +kernel
theorem dX10_advances_44 : decode cX10_advances 44 = .ok (.istore_n 3, 1) := by decide +kernel
theorem dX10_advances_45 : decode cX10_advances 45 = .ok (.iinc 4 1, 3) := by decide +kernel
theorem dX10_advances_48 : decode cX10_advances 48 = .ok (.goto (-43), 3) := by decide +kernel
theorem dX10_advances_51 : decode cX10_advances 51 = .ok (.iconst 0, 1) := by decide +kernel
theorem dX10_advances_52 : decode cX10_advances 52 = .ok (.istore 4, 2) := by decide +kernel
theorem dX10_advances_54 : decode cX10_advances 54 = .ok (.iconst 0, 1) := by decide +kernel
theorem dX10_advances_55 : decode cX10_advances 55 = .ok (.istore 5, 2) := by decide +kernel
theorem dX10_advances_57 : decode cX10_advances 57 = .ok (.iload 5, 2) := by decide +kernel
theorem dX10_advances_59 : decode cX10_advances 59 = .ok (.aload_n 0, 1) := by decide +kernel
theorem dX10_advances_60 : decode cX10_advances 60 = .ok (.getfield 72, 3) := by decide +kernel
theorem dX10_advances_63 : decode cX10_advances 63 = .ok (.if_icmp .ge 241, 3) := by decide +kernel
theorem dX10_advances_66 : decode cX10_advances 66 = .ok (.iload_n 3, 1) := by decide +kernel
theorem dX10_advances_67 : decode cX10_advances 67 = .ok (.iload 5, 2) := by decide +kernel
theorem dX10_advances_69 : decode cX10_advances 69 = .ok (.ishr, 1) := by decide +kernel
theorem dX10_advances_70 : decode cX10_advances 70 = .ok (.iconst 1, 1) := by decide +kernel
theorem dX10_advances_71 : decode cX10_advances 71 = .ok (.iand, 1) := by decide +kernel
theorem dX10_advances_72 : decode cX10_advances 72 = .ok (.iconst 1, 1) := by decide +kernel
theorem dX10_advances_73 : decode cX10_advances 73 = .ok (.if_icmp .ne 225, 3) := by decide +kernel
theorem dX10_advances_76 : decode cX10_advances 76 = .ok (.iconst 0, 1) := by decide +kernel
theorem dX10_advances_77 : decode cX10_advances 77 = .ok (.istore 6, 2) := by decide +kernel
theorem dX10_advances_79 : decode cX10_advances 79 = .ok (.iconst 0, 1) := by decide +kernel
theorem dX10_advances_80 : decode cX10_advances 80 = .ok (.istore 7, 2) := by decide +kernel
theorem dX10_advances_82 : decode cX10_advances 82 = .ok (.iconst 0, 1) := by decide +kernel
theorem dX10_advances_83 : decode cX10_advances 83 = .ok (.istore 8, 2) := by decide +kernel
theorem dX10_advances_85 : decode cX10_advances 85 = .ok (.iconst 0, 1) := by decide +kernel
theorem dX10_advances_86 : decode cX10_advances 86 = .ok (.istore 9, 2) := by decide +kernel
theorem dX10_advances_88 : decode cX10_advances 88 = .ok (.iload 9, 2) := by decide +kernel
theorem dX10_advances_90 : decode cX10_advances 90 = .ok (.aload_n 0, 1) := by decide +kernel
theorem dX10_advances_91 : decode cX10_advances 91 = .ok (.getfield 72, 3) := by decide +kernel
theorem dX10_advances_94 : decode cX10_advances 94 = .ok (.if_icmp .ge 94, 3) := by decide +kernel
theorem dX10_advances_97 : decode cX10_advances 97 = .ok (.iload_n 3, 1) := by decide +kernel
theorem dX10_advances_98 : decode cX10_advances 98 = .ok (.iload 9, 2) := by decide +kernel
theorem dX10_advances_100 : decode cX10_advances 100 = .ok (.ishr, 1) := by decide +kernel
theorem dX10_advances_101 : decode cX10_advances 101 = .ok (.iconst 1, 1) := by decide +kernel
theorem dX10_advances_102 : decode cX10_advances 102 = .ok (.iand, 1) := by decide +kernel
theorem dX10_advances_103 : decode cX10_advances 103 = .ok (.iconst 1, 1) := by decide +kernel
theorem dX10_advances_104 : decode cX10_advances 104 = .ok (.if_icmp .ne 78, 3) := by decide +kernel
theorem dX10_advances_107 : decode cX10_advances 107 = .ok (.aload_n 0, 1) := by decide +kernel
theorem dX10_advances_108 : decode cX10_advances 108 = .ok (.iload 9, 2) := by decide +kernel
theorem dX10_advances_110 : decode cX10_advances 110 = .ok (.iload 5, 2) := by decide +kernel
theorem dX10_advances_112 : decode cX10_advances 112 = .ok (.iload_n 2, 1) := by decide +kernel
theorem dX10_advances_113 : decode cX10_advances 113 = .ok (.invokevirtual 134, 3) := by decide +kernel
theorem dX10_advances_116 : decode cX10_advances 116 = .ok (.istore 10, 2) := by decide +kernel
theorem dX10_advances_118 : decode cX10_advances 118 = .ok (.iload 6, 2) := by decide +kernel
theorem dX10_advances_120 : decode cX10_advances 120 = .ok (.iload 10, 2) := by decide +kernel
theorem dX10_advances_122 : decode cX10_advances 122 = .ok (.ifCond .le 7, 3) := by decide +kernel
theorem dX10_advances_125 : decode cX10_advances 125 = .ok (.iconst 1, 1) := by decide +kernel
theorem dX10_advances_126 : decode cX10_advances 126 = .ok (.goto 4, 3) := by decide +kernel
theorem dX10_advances_129 : decode cX10_advances 129 = .ok (.iconst 0, 1) := by decide +kernel
theorem dX10_advances_130 : decode cX10_advances 130 = .ok (.iadd, 1) := by decide +kernel
theorem dX10_advances_131 : decode cX10_advances 131 = .ok (.istore 6, 2) := by decide +kernel
theorem dX10_advances_133 : decode cX10_advances 133 = .ok (.iload 7, 2) := by decide +kernel
theorem dX10_advances_135 : decode cX10_advances 135 = .ok (.iload 10, 2) := by decide +kernel
theorem dX10_advances_137 : decode cX10_advances 137 = .ok (.ifCond .ne 7, 3) := by decide +kernel
theorem dX10_advances_140 : decode cX10_advances 140 = .ok (.iconst 1, 1) := by decide +kernel
theorem dX10_advances_141 : decode cX10_advances 141 = .ok (.goto 4, 3) := by decide +kernel
theorem dX10_advances_144 : decode cX10_advances 144 = .ok (.iconst 0, 1) := by decide +kernel
theorem dX10_advances_145 : decode cX10_advances 145 = .ok (.iadd, 1) := by decide +kernel
theorem dX10_advances_146 : decode cX10_advances 146 = .ok (.istore 7, 2) := by decide +kernel
theorem dX10_advances_148 : decode cX10_advances 148 = .ok (.iload 8, 2) := by decide +kernel
theorem dX10_advances_150 : decode cX10_advances 150 = .ok (.iload 10, 2) := by decide +kernel
theorem dX10_advances_152 : decode cX10_advances 152 = .ok (.ifCond .ne 26, 3) := by decide +kernel
theorem dX10_advances_155 : decode cX10_advances 155 = .ok (.iload 9, 2) := by decide +kernel
theorem dX10_advances_157 : decode cX10_advances 157 = .ok (.iload 5, 2) := by decide +kernel
theorem dX10_advances_159 : decode cX10_advances 159 = .ok (.if_icmp .eq 19, 3) := by decide +kernel
theorem dX10_advances_162 : decode cX10_advances 162 = .ok (.aload_n 0, 1) := by decide +kernel
theorem dX10_advances_163 : decode cX10_advances 163 = .ok (.iload 9, 2) := by decide +kernel
theorem dX10_advances_165 : decode cX10_advances 165 = .ok (.iload 5, 2) := by decide +kernel
theorem dX10_advances_167 : decode cX10_advances 167 = .ok (.iload_n 2, 1) := by decide +kernel
theorem dX10_advances_168 : decode cX10_advances 168 = .ok (.invokevirtual 137, 3) := by decide +kernel
theorem dX10_advances_171 : decode cX10_advances 171 = .ok (.ifCond .eq 7, 3) := by decide +kernel
theorem dX10_advances_174 : decode cX10_advances 174 = .ok (.iconst 1, 1) := by decide +kernel
theorem dX10_advances_175 : decode cX10_advances 175 = .ok (.goto 4, 3) := by decide +kernel
theorem dX10_advances_178 : decode cX10_advances 178 = .ok (.iconst 0, 1) := by decide +kernel
theorem dX10_advances_179 : decode cX10_advances 179 = .ok (.iadd, 1) := by decide +kernel
theorem dX10_advances_180 : decode cX10_advances 180 = .ok (.istore 8, 2) := by decide +kernel
theorem dX10_advances_182 : decode cX10_advances 182 = .ok (.iinc 9 1, 3) := by decide +kernel
theorem dX10_advances_185 : decode cX10_advances 185 = .ok (.goto (-97), 3) := by decide +kernel
theorem dX10_advances_188 : decode cX10_advances 188 = .ok (.iload 6, 2) := by decide +kernel
theorem dX10_advances_190 : decode cX10_advances 190 = .ok (.iload 7, 2) := by decide +kernel
theorem dX10_advances_192 : decode cX10_advances 192 = .ok (.iadd, 1) := by decide +kernel
theorem dX10_advances_193 : decode cX10_advances 193 = .ok (.aload_n 0, 1) := by decide +kernel
theorem dX10_advances_194 : decode cX10_advances 194 = .ok (.getfield 26, 3) := by decide +kernel
theorem dX10_advances_197 : decode cX10_advances 197 = .ok (.iload_n 2, 1) := by decide +kernel
theorem dX10_advances_198 : decode cX10_advances 198 = .ok (.iaload, 1) := by decide +kernel
theorem dX10_advances_199 : decode cX10_advances 199 = .ok (.if_icmp .gt 7, 3) := by decide +kernel
theorem dX10_advances_202 : decode cX10_advances 202 = .ok (.iconst 1, 1) := by decide +kernel
theorem dX10_advances_203 : decode cX10_advances 203 = .ok (.goto 4, 3) := by decide +kernel
theorem dX10_advances_206 : decode cX10_advances 206 = .ok (.iconst 0, 1) := by decide +kernel
theorem dX10_advances_207 : decode cX10_advances 207 = .ok (.istore 9, 2) := by decide +kernel
theorem dX10_advances_209 : decode cX10_advances 209 = .ok (.iload 6, 2) := by decide +kernel
theorem dX10_advances_211 : decode cX10_advances 211 = .ok (.aload_n 0, 1) := by decide +kernel
theorem dX10_advances_212 : decode cX10_advances 212 = .ok (.getfield 26, 3) := by decide +kernel
theorem dX10_advances_215 : decode cX10_advances 215 = .ok (.iload_n 2, 1) := by decide +kernel
theorem dX10_advances_216 : decode cX10_advances 216 = .ok (.iaload, 1) := by decide +kernel
theorem dX10_advances_217 : decode cX10_advances 217 = .ok (.if_icmp .ge 7, 3) := by decide +kernel
theorem dX10_advances_220 : decode cX10_advances 220 = .ok (.iconst 1, 1) := by decide +kernel
theorem dX10_advances_221 : decode cX10_advances 221 = .ok (.goto 4, 3) := by decide +kernel
theorem dX10_advances_224 : decode cX10_advances 224 = .ok (.iconst 0, 1) := by decide +kernel
theorem dX10_advances_225 : decode cX10_advances 225 = .ok (.istore 10, 2) := by decide +kernel
theorem dX10_advances_227 : decode cX10_advances 227 = .ok (.aload_n 0, 1) := by decide +kernel
theorem dX10_advances_228 : decode cX10_advances 228 = .ok (.getfield 29, 3) := by decide +kernel
theorem dX10_advances_231 : decode cX10_advances 231 = .ok (.iload_n 2, 1) := by decide +kernel
theorem dX10_advances_232 : decode cX10_advances 232 = .ok (.iaload, 1) := by decide +kernel
theorem dX10_advances_233 : decode cX10_advances 233 = .ok (.istore 11, 2) := by decide +kernel
theorem dX10_advances_235 : decode cX10_advances 235 = .ok (.iload 9, 2) := by decide +kernel
theorem dX10_advances_237 : decode cX10_advances 237 = .ok (.ifCond .ne 36, 3) := by decide +kernel
theorem dX10_advances_240 : decode cX10_advances 240 = .ok (.iload 10, 2) := by decide +kernel
theorem dX10_advances_242 : decode cX10_advances 242 = .ok (.ifCond .eq 35, 3) := by decide +kernel
theorem dX10_advances_245 : decode cX10_advances 245 = .ok (.iload 11, 2) := by decide +kernel
theorem dX10_advances_247 : decode cX10_advances 247 = .ok (.bipush 97, 2) := by decide +kernel
theorem dX10_advances_249 : decode cX10_advances 249 = .ok (.if_icmp .eq 24, 3) := by decide +kernel
theorem dX10_advances_252 : decode cX10_advances 252 = .ok (.iload 11, 2) := by decide +kernel
theorem dX10_advances_254 : decode cX10_advances 254 = .ok (.bipush 110, 2) := by decide +kernel
theorem dX10_advances_256 : decode cX10_advances 256 = .ok (.if_icmp .eq 21, 3) := by decide +kernel
theorem dX10_advances_259 : decode cX10_advances 259 = .ok (.iload 6, 2) := by decide +kernel
theorem dX10_advances_261 : decode cX10_advances 261 = .ok (.iload 8, 2) := by decide +kernel
theorem dX10_advances_263 : decode cX10_advances 263 = .ok (.iadd, 1) := by decide +kernel
theorem dX10_advances_264 : decode cX10_advances 264 = .ok (.aload_n 0, 1) := by decide +kernel
theorem dX10_advances_265 : decode cX10_advances 265 = .ok (.getfield 26, 3) := by decide +kernel
theorem dX10_advances_268 : decode cX10_advances 268 = .ok (.iload_n 2, 1) := by decide +kernel
theorem dX10_advances_269 : decode cX10_advances 269 = .ok (.iaload, 1) := by decide +kernel
theorem dX10_advances_270 : decode cX10_advances 270 = .ok (.if_icmp .ge 7, 3) := by decide +kernel
theorem dX10_advances_273 : decode cX10_advances 273 = .ok (.iconst 1, 1) := by decide +kernel
theorem dX10_advances_274 : decode cX10_advances 274 = .ok (.goto 4, 3) := by decide +kernel
theorem dX10_advances_277 : decode cX10_advances 277 = .ok (.iconst 0, 1) := by decide +kernel
theorem dX10_advances_278 : decode cX10_advances 278 = .ok (.istore 12, 2) := by decide +kernel
theorem dX10_advances_280 : decode cX10_advances 280 = .ok (.iload 4, 2) := by decide +kernel
theorem dX10_advances_282 : decode cX10_advances 282 = .ok (.iload 12, 2) := by decide +kernel
theorem dX10_advances_284 : decode cX10_advances 284 = .ok (.ifCond .eq 10, 3) := by decide +kernel
theorem dX10_advances_287 : decode cX10_advances 287 = .ok (.iconst 1, 1) := by decide +kernel
theorem dX10_advances_288 : decode cX10_advances 288 = .ok (.iload 5, 2) := by decide +kernel
theorem dX10_advances_290 : decode cX10_advances 290 = .ok (.ishl, 1) := by decide +kernel
theorem dX10_advances_291 : decode cX10_advances 291 = .ok (.goto 4, 3) := by decide +kernel
theorem dX10_advances_294 : decode cX10_advances 294 = .ok (.iconst 0, 1) := by decide +kernel
theorem dX10_advances_295 : decode cX10_advances 295 = .ok (.ior, 1) := by decide +kernel
theorem dX10_advances_296 : decode cX10_advances 296 = .ok (.istore 4, 2) := by decide +kernel
theorem dX10_advances_298 : decode cX10_advances 298 = .ok (.iinc 5 1, 3) := by decide +kernel
theorem dX10_advances_301 : decode cX10_advances 301 = .ok (.goto (-244), 3) := by decide +kernel
theorem dX10_advances_304 : decode cX10_advances 304 = .ok (.iload 4, 2) := by decide +kernel
theorem dX10_advances_306 : decode cX10_advances 306 = .ok (.ireturn, 1) := by decide +kernel
theorem dX10_out_0 : decode cX10_out 0 = .ok (.aload_n 0, 1) := by decide +kernel
theorem dX10_out_1 : decode cX10_out 1 = .ok (.getfield 72, 3) := by decide +kernel
theorem dX10_out_4 : decode cX10_out 4 = .ok (.ifCond .ne 7, 3) := by decide +kernel
theorem dX10_out_7 : decode cX10_out 7 = .ok (.iconst 0, 1) := by decide +kernel
theorem dX10_out_8 : decode cX10_out 8 = .ok (.goto 11, 3) := by decide +kernel
theorem dX10_out_11 : decode cX10_out 11 = .ok (.iconst 1, 1) := by decide +kernel
theorem dX10_out_12 : decode cX10_out 12 = .ok (.aload_n 0, 1) := by decide +kernel
theorem dX10_out_13 : decode cX10_out 13 = .ok (.getfield 72, 3) := by decide +kernel
theorem dX10_out_16 : decode cX10_out 16 = .ok (.ishl, 1) := by decide +kernel
theorem dX10_out_17 : decode cX10_out 17 = .ok (.iconst 1, 1) := by decide +kernel
theorem dX10_out_18 : decode cX10_out 18 = .ok (.isub, 1) := by decide +kernel
theorem dX10_out_19 : decode cX10_out 19 = .ok (.istore_n 2, 1) := by decide +kernel
theorem dX10_out_20 : decode cX10_out 20 = .ok (.iconst 0, 1) := by decide +kernel
theorem dX10_out_21 : decode cX10_out 21 = .ok (.istore_n 3, 1) := by decide +kernel
theorem dX10_out_22 : decode cX10_out 22 = .ok (.iload_n 3, 1) := by decide +kernel
theorem dX10_out_23 : decode cX10_out 23 = .ok (.iload_n 1, 1) := by decide +kernel
theorem dX10_out_24 : decode cX10_out 24 = .ok (.if_icmp .gt 16, 3) := by decide +kernel
theorem dX10_out_27 : decode cX10_out 27 = .ok (.aload_n 0, 1) := by decide +kernel
theorem dX10_out_28 : decode cX10_out 28 = .ok (.iload_n 2, 1) := by decide +kernel
theorem dX10_out_29 : decode cX10_out 29 = .ok (.iload_n 3, 1) := by decide +kernel
theorem dX10_out_30 : decode cX10_out 30 = .ok (.invokevirtual 140, 3) := by decide +kernel
theorem dX10_out_33 : decode cX10_out 33 = .ok (.istore_n 2, 1) := by decide +kernel
theorem dX10_out_34 : decode cX10_out 34 = .ok (.iinc 3 1, 3) := by decide +kernel
theorem dX10_out_37 : decode cX10_out 37 = .ok (.goto (-15), 3) := by decide +kernel
theorem dX10_out_40 : decode cX10_out 40 = .ok (.iload_n 2, 1) := by decide +kernel
theorem dX10_out_41 : decode cX10_out 41 = .ok (.ireturn, 1) := by decide +kernel
theorem dX10_ones_0 : decode cX10_ones 0 = .ok (.iconst 0, 1) := by decide +kernel
theorem dX10_ones_1 : decode cX10_ones 1 = .ok (.istore_n 1, 1) := by decide +kernel
theorem dX10_ones_2 : decode cX10_ones 2 = .ok (.iconst 0, 1) := by decide +kernel
theorem dX10_ones_3 : decode cX10_ones 3 = .ok (.istore_n 2, 1) := by decide +kernel
theorem dX10_ones_4 : decode cX10_ones 4 = .ok (.iload_n 2, 1) := by decide +kernel
theorem dX10_ones_5 : decode cX10_ones 5 = .ok (.bipush 24, 2) := by decide +kernel
theorem dX10_ones_7 : decode cX10_ones 7 = .ok (.if_icmp .ge 17, 3) := by decide +kernel
theorem dX10_ones_10 : decode cX10_ones 10 = .ok (.iload_n 1, 1) := by decide +kernel
theorem dX10_ones_11 : decode cX10_ones 11 = .ok (.iload_n 0, 1) := by decide +kernel
theorem dX10_ones_12 : decode cX10_ones 12 = .ok (.iload_n 2, 1) := by decide +kernel
theorem dX10_ones_13 : decode cX10_ones 13 = .ok (.ishr, 1) := by decide +kernel
theorem dX10_ones_14 : decode cX10_ones 14 = .ok (.iconst 1, 1) := by decide +kernel
theorem dX10_ones_15 : decode cX10_ones 15 = .ok (.iand, 1) := by decide +kernel
theorem dX10_ones_16 : decode cX10_ones 16 = .ok (.iadd, 1) := by decide +kernel
theorem dX10_ones_17 : decode cX10_ones 17 = .ok (.istore_n 1, 1) := by decide +kernel
theorem dX10_ones_18 : decode cX10_ones 18 = .ok (.iinc 2 1, 3) := by decide +kernel
theorem dX10_ones_21 : decode cX10_ones 21 = .ok (.goto (-17), 3) := by decide +kernel
theorem dX10_ones_24 : decode cX10_ones 24 = .ok (.iload_n 1, 1) := by decide +kernel
theorem dX10_ones_25 : decode cX10_ones 25 = .ok (.ireturn, 1) := by decide +kernel
theorem dX10_advance_0 : decode cX10_advance 0 = .ok (.aload_n 0, 1) := by decide +kernel
theorem dX10_advance_1 : decode cX10_advance 1 = .ok (.iload_n 1, 1) := by decide +kernel
theorem dX10_advance_2 : decode cX10_advance 2 = .ok (.invokevirtual 121, 3) := by decide +kernel
theorem dX10_advance_5 : decode cX10_advance 5 = .ok (.istore_n 2, 1) := by decide +kernel
theorem dX10_advance_6 : decode cX10_advance 6 = .ok (.iload_n 2, 1) := by decide +kernel
theorem dX10_advance_7 : decode cX10_advance 7 = .ok (.ifCond .eq 7, 3) := by decide +kernel
theorem dX10_advance_10 : decode cX10_advance 10 = .ok (.iload_n 2, 1) := by decide +kernel
theorem dX10_advance_11 : decode cX10_advance 11 = .ok (.goto 11, 3) := by decide +kernel
theorem dX10_advance_14 : decode cX10_advance 14 = .ok (.aload_n 0, 1) := by decide +kernel
theorem dX10_advance_15 : decode cX10_advance 15 = .ok (.iload_n 1, 1) := by decide +kernel
theorem dX10_advance_16 : decode cX10_advance 16 = .ok (.invokevirtual 143, 3) := by decide +kernel
theorem dX10_advance_19 : decode cX10_advance 19 = .ok (.invokestatic 146, 3) := by decide +kernel
theorem dX10_advance_22 : decode cX10_advance 22 = .ok (.ireturn, 1) := by decide +kernel
theorem dX10_through_0 : decode cX10_through 0 = .ok (.aload_n 0, 1) := by decide +kernel
theorem dX10_through_1 : decode cX10_through 1 = .ok (.iload_n 1, 1) := by decide +kernel
theorem dX10_through_2 : decode cX10_through 2 = .ok (.invokevirtual 121, 3) := by decide +kernel
theorem dX10_through_5 : decode cX10_through 5 = .ok (.istore_n 2, 1) := by decide +kernel
theorem dX10_through_6 : decode cX10_through 6 = .ok (.iload_n 2, 1) := by decide +kernel
theorem dX10_through_7 : decode cX10_through 7 = .ok (.ifCond .eq 7, 3) := by decide +kernel
theorem dX10_through_10 : decode cX10_through 10 = .ok (.iload_n 2, 1) := by decide +kernel
theorem dX10_through_11 : decode cX10_through 11 = .ok (.goto 8, 3) := by decide +kernel
theorem dX10_through_14 : decode cX10_through 14 = .ok (.aload_n 0, 1) := by decide +kernel
theorem dX10_through_15 : decode cX10_through 15 = .ok (.iload_n 1, 1) := by decide +kernel
theorem dX10_through_16 : decode cX10_through 16 = .ok (.invokevirtual 143, 3) := by decide +kernel
theorem dX10_through_19 : decode cX10_through 19 = .ok (.ireturn, 1) := by decide +kernel
theorem dX10_chosenOne_0 : decode cX10_chosenOne 0 = .ok (.aload_n 0, 1) := by decide +kernel
theorem dX10_chosenOne_1 : decode cX10_chosenOne 1 = .ok (.aload_n 0, 1) := by decide +kernel
theorem dX10_chosenOne_2 : decode cX10_chosenOne 2 = .ok (.getfield 108, 3) := by decide +kernel
theorem dX10_chosenOne_5 : decode cX10_chosenOne 5 = .ok (.iconst 1, 1) := by decide +kernel
theorem dX10_chosenOne_6 : decode cX10_chosenOne 6 = .ok (.isub, 1) := by decide +kernel
theorem dX10_chosenOne_7 : decode cX10_chosenOne 7 = .ok (.invokevirtual 143, 3) := by decide +kernel
theorem dX10_chosenOne_10 : decode cX10_chosenOne 10 = .ok (.istore_n 1, 1) := by decide +kernel
theorem dX10_chosenOne_11 : decode cX10_chosenOne 11 = .ok (.iload_n 1, 1) := by decide +kernel
theorem dX10_chosenOne_12 : decode cX10_chosenOne 12 = .ok (.invokestatic 146, 3) := by decide +kernel
theorem dX10_chosenOne_15 : decode cX10_chosenOne 15 = .ok (.iconst 1, 1) := by decide +kernel
theorem dX10_chosenOne_16 : decode cX10_chosenOne 16 = .ok (.if_icmp .eq 5, 3) := by decide +kernel
theorem dX10_chosenOne_19 : decode cX10_chosenOne 19 = .ok (.iconst (-1), 1) := by decide +kernel
theorem dX10_chosenOne_20 : decode cX10_chosenOne 20 = .ok (.ireturn, 1) := by decide +kernel
theorem dX10_chosenOne_21 : decode cX10_chosenOne 21 = .ok (.iconst 0, 1) := by decide +kernel
theorem dX10_chosenOne_22 : decode cX10_chosenOne 22 = .ok (.istore_n 2, 1) := by decide +kernel
theorem dX10_chosenOne_23 : decode cX10_chosenOne 23 = .ok (.iload_n 1, 1) := by decide +kernel
theorem dX10_chosenOne_24 : decode cX10_chosenOne 24 = .ok (.iload_n 2, 1) := by decide +kernel
theorem dX10_chosenOne_25 : decode cX10_chosenOne 25 = .ok (.ishr, 1) := by decide +kernel
theorem dX10_chosenOne_26 : decode cX10_chosenOne 26 = .ok (.iconst 1, 1) := by decide +kernel
theorem dX10_chosenOne_27 : decode cX10_chosenOne 27 = .ok (.iand, 1) := by decide +kernel
theorem dX10_chosenOne_28 : decode cX10_chosenOne 28 = .ok (.ifCond .ne 9, 3) := by decide +kernel
theorem dX10_chosenOne_31 : decode cX10_chosenOne 31 = .ok (.iinc 2 1, 3) := by decide +kernel
theorem dX10_chosenOne_34 : decode cX10_chosenOne 34 = .ok (.goto (-11), 3) := by decide +kernel
theorem dX10_chosenOne_37 : decode cX10_chosenOne 37 = .ok (.iload_n 2, 1) := by decide +kernel
theorem dX10_chosenOne_38 : decode cX10_chosenOne 38 = .ok (.ireturn, 1) := by decide +kernel
theorem dX10_chosen_0 : decode cX10_chosen 0 = .ok (.aload_n 0, 1) := by decide +kernel
theorem dX10_chosen_1 : decode cX10_chosen 1 = .ok (.invokevirtual 118, 3) := by decide +kernel
theorem dX10_chosen_4 : decode cX10_chosen 4 = .ok (.aload_n 0, 1) := by decide +kernel
theorem dX10_chosen_5 : decode cX10_chosen 5 = .ok (.getfield 98, 3) := by decide +kernel
theorem dX10_chosen_8 : decode cX10_chosen 8 = .ok (.iconst (-1), 1) := by decide +kernel
theorem dX10_chosen_9 : decode cX10_chosen 9 = .ok (.if_icmp .eq 8, 3) := by decide +kernel
theorem dX10_chosen_12 : decode cX10_chosen 12 = .ok (.bipush (-3), 2) := by decide +kernel
theorem dX10_chosen_14 : decode cX10_chosen 14 = .ok (.goto 7, 3) := by decide +kernel
theorem dX10_chosen_17 : decode cX10_chosen 17 = .ok (.aload_n 0, 1) := by decide +kernel
theorem dX10_chosen_18 : decode cX10_chosen 18 = .ok (.invokevirtual 149, 3) := by decide +kernel
theorem dX10_chosen_21 : decode cX10_chosen 21 = .ok (.ireturn, 1) := by decide +kernel
theorem dX10_allVotes_0 : decode cX10_allVotes 0 = .ok (.iconst 0, 1) := by decide +kernel
theorem dX10_allVotes_1 : decode cX10_allVotes 1 = .ok (.istore_n 3, 1) := by decide +kernel
theorem dX10_allVotes_2 : decode cX10_allVotes 2 = .ok (.iconst 0, 1) := by decide +kernel
theorem dX10_allVotes_3 : decode cX10_allVotes 3 = .ok (.istore 4, 2) := by decide +kernel
theorem dX10_allVotes_5 : decode cX10_allVotes 5 = .ok (.iload 4, 2) := by decide +kernel
theorem dX10_allVotes_7 : decode cX10_allVotes 7 = .ok (.aload_n 0, 1) := by decide +kernel
theorem dX10_allVotes_8 : decode cX10_allVotes 8 = .ok (.getfield 108, 3) := by decide +kernel
theorem dX10_allVotes_11 : decode cX10_allVotes 11 = .ok (.if_icmp .ge 33, 3) := by decide +kernel
theorem dX10_allVotes_14 : decode cX10_allVotes 14 = .ok (.iload_n 3, 1) := by decide +kernel
theorem dX10_allVotes_15 : decode cX10_allVotes 15 = .ok (.iload_n 2, 1) := by decide +kernel
theorem dX10_allVotes_16 : decode cX10_allVotes 16 = .ok (.ifCond .eq 13, 3) := by decide +kernel
theorem dX10_allVotes_19 : decode cX10_allVotes 19 = .ok (.aload_n 0, 1) := by decide +kernel
theorem dX10_allVotes_20 : decode cX10_allVotes 20 = .ok (.iload_n 1, 1) := by decide +kernel
theorem dX10_allVotes_21 : decode cX10_allVotes 21 = .ok (.iload 4, 2) := by decide +kernel
theorem dX10_allVotes_23 : decode cX10_allVotes 23 = .ok (.invokevirtual 92, 3) := by decide +kernel
theorem dX10_allVotes_26 : decode cX10_allVotes 26 = .ok (.goto 10, 3) := by decide +kernel
theorem dX10_allVotes_29 : decode cX10_allVotes 29 = .ok (.aload_n 0, 1) := by decide +kernel
theorem dX10_allVotes_30 : decode cX10_allVotes 30 = .ok (.iload_n 1, 1) := by decide +kernel
theorem dX10_allVotes_31 : decode cX10_allVotes 31 = .ok (.iload 4, 2) := by decide +kernel
theorem dX10_allVotes_33 : decode cX10_allVotes 33 = .ok (.invokevirtual 88, 3) := by decide +kernel
theorem dX10_allVotes_36 : decode cX10_allVotes 36 = .ok (.iadd, 1) := by decide +kernel
theorem dX10_allVotes_37 : decode cX10_allVotes 37 = .ok (.istore_n 3, 1) := by decide +kernel
theorem dX10_allVotes_38 : decode cX10_allVotes 38 = .ok (.iinc 4 1, 3) := by decide +kernel
theorem dX10_allVotes_41 : decode cX10_allVotes 41 = .ok (.goto (-36), 3) := by decide +kernel
theorem dX10_allVotes_44 : decode cX10_allVotes 44 = .ok (.iload_n 3, 1) := by decide +kernel
theorem dX10_allVotes_45 : decode cX10_allVotes 45 = .ok (.ireturn, 1) := by decide +kernel
theorem dX10_parts_0 : decode cX10_parts 0 = .ok (.iconst 0, 1) := by decide +kernel
theorem dX10_parts_1 : decode cX10_parts 1 = .ok (.istore_n 3, 1) := by decide +kernel
theorem dX10_parts_2 : decode cX10_parts 2 = .ok (.iconst 0, 1) := by decide +kernel
theorem dX10_parts_3 : decode cX10_parts 3 = .ok (.istore 4, 2) := by decide +kernel
theorem dX10_parts_5 : decode cX10_parts 5 = .ok (.iload 4, 2) := by decide +kernel
theorem dX10_parts_7 : decode cX10_parts 7 = .ok (.bipush 9, 2) := by decide +kernel
theorem dX10_parts_9 : decode cX10_parts 9 = .ok (.if_icmp .ge 40, 3) := by decide +kernel
theorem dX10_parts_12 : decode cX10_parts 12 = .ok (.iload_n 3, 1) := by decide +kernel
theorem dX10_parts_13 : decode cX10_parts 13 = .ok (.aload_n 0, 1) := by decide +kernel
theorem dX10_parts_14 : decode cX10_parts 14 = .ok (.iload_n 1, 1) := by decide +kernel
theorem dX10_parts_15 : decode cX10_parts 15 = .ok (.iconst 0, 1) := by decide +kernel
theorem dX10_parts_16 : decode cX10_parts 16 = .ok (.iload 4, 2) := by decide +kernel
theorem dX10_parts_18 : decode cX10_parts 18 = .ok (.invokevirtual 80, 3) := by decide +kernel
theorem dX10_parts_21 : decode cX10_parts 21 = .ok (.iconst 1, 1) := by decide +kernel
theorem dX10_parts_22 : decode cX10_parts 22 = .ok (.if_icmp .ne 18, 3) := by decide +kernel
theorem dX10_parts_25 : decode cX10_parts 25 = .ok (.aload_n 0, 1) := by decide +kernel
theorem dX10_parts_26 : decode cX10_parts 26 = .ok (.iload_n 2, 1) := by decide +kernel
theorem dX10_parts_27 : decode cX10_parts 27 = .ok (.iconst 0, 1) := by decide +kernel
theorem dX10_parts_28 : decode cX10_parts 28 = .ok (.iload 4, 2) := by decide +kernel
theorem dX10_parts_30 : decode cX10_parts 30 = .ok (.invokevirtual 80, 3) := by decide +kernel
theorem dX10_parts_33 : decode cX10_parts 33 = .ok (.ifCond .ne 7, 3) := by decide +kernel
theorem dX10_parts_36 : decode cX10_parts 36 = .ok (.iconst 1, 1) := by decide +kernel
theorem dX10_parts_37 : decode cX10_parts 37 = .ok (.goto 4, 3) := by decide +kernel
theorem dX10_parts_40 : decode cX10_parts 40 = .ok (.iconst 0, 1) := by decide +kernel
theorem dX10_parts_41 : decode cX10_parts 41 = .ok (.iadd, 1) := by decide +kernel
theorem dX10_parts_42 : decode cX10_parts 42 = .ok (.istore_n 3, 1) := by decide +kernel
theorem dX10_parts_43 : decode cX10_parts 43 = .ok (.iinc 4 1, 3) := by decide +kernel
theorem dX10_parts_46 : decode cX10_parts 46 = .ok (.goto (-41), 3) := by decide +kernel
theorem dX10_parts_49 : decode cX10_parts 49 = .ok (.iload_n 3, 1) := by decide +kernel
theorem dX10_parts_50 : decode cX10_parts 50 = .ok (.ireturn, 1) := by decide +kernel
theorem dX10_beatsAll_0 : decode cX10_beatsAll 0 = .ok (.iconst 0, 1) := by decide +kernel
theorem dX10_beatsAll_1 : decode cX10_beatsAll 1 = .ok (.istore_n 2, 1) := by decide +kernel
theorem dX10_beatsAll_2 : decode cX10_beatsAll 2 = .ok (.iload_n 2, 1) := by decide +kernel
theorem dX10_beatsAll_3 : decode cX10_beatsAll 3 = .ok (.aload_n 0, 1) := by decide +kernel
theorem dX10_beatsAll_4 : decode cX10_beatsAll 4 = .ok (.getfield 72, 3) := by decide +kernel
theorem dX10_beatsAll_7 : decode cX10_beatsAll 7 = .ok (.if_icmp .ge 31, 3) := by decide +kernel
theorem dX10_beatsAll_10 : decode cX10_beatsAll 10 = .ok (.iload_n 2, 1) := by decide +kernel
theorem dX10_beatsAll_11 : decode cX10_beatsAll 11 = .ok (.iload_n 1, 1) := by decide +kernel
theorem dX10_beatsAll_12 : decode cX10_beatsAll 12 = .ok (.if_icmp .eq 20, 3) := by decide +kernel
theorem dX10_beatsAll_15 : decode cX10_beatsAll 15 = .ok (.aload_n 0, 1) := by decide +kernel
theorem dX10_beatsAll_16 : decode cX10_beatsAll 16 = .ok (.iload_n 1, 1) := by decide +kernel
theorem dX10_beatsAll_17 : decode cX10_beatsAll 17 = .ok (.iload_n 2, 1) := by decide +kernel
theorem dX10_beatsAll_18 : decode cX10_beatsAll 18 = .ok (.invokevirtual 153, 3) := by decide +kernel
theorem dX10_beatsAll_21 : decode cX10_beatsAll 21 = .ok (.aload_n 0, 1) := by decide +kernel
theorem dX10_beatsAll_22 : decode cX10_beatsAll 22 = .ok (.iload_n 2, 1) := by decide +kernel
theorem dX10_beatsAll_23 : decode cX10_beatsAll 23 = .ok (.iload_n 1, 1) := by decide +kernel
theorem dX10_beatsAll_24 : decode cX10_beatsAll 24 = .ok (.invokevirtual 153, 3) := by decide +kernel
theorem dX10_beatsAll_27 : decode cX10_beatsAll 27 = .ok (.if_icmp .gt 5, 3) := by decide +kernel
theorem dX10_beatsAll_30 : decode cX10_beatsAll 30 = .ok (.iconst 0, 1) := by decide +kernel
theorem dX10_beatsAll_31 : decode cX10_beatsAll 31 = .ok (.ireturn, 1) := by decide +kernel
theorem dX10_beatsAll_32 : decode cX10_beatsAll 32 = .ok (.iinc 2 1, 3) := by decide +kernel
theorem dX10_beatsAll_35 : decode cX10_beatsAll 35 = .ok (.goto (-33), 3) := by decide +kernel
theorem dX10_beatsAll_38 : decode cX10_beatsAll 38 = .ok (.iconst 1, 1) := by decide +kernel
theorem dX10_beatsAll_39 : decode cX10_beatsAll 39 = .ok (.ireturn, 1) := by decide +kernel
theorem dX10_other_0 : decode cX10_other 0 = .ok (.iload_n 1, 1) := by decide +kernel
theorem dX10_other_1 : decode cX10_other 1 = .ok (.iconst 1, 1) := by decide +kernel
theorem dX10_other_2 : decode cX10_other 2 = .ok (.iconst 3, 1) := by decide +kernel
theorem dX10_other_3 : decode cX10_other 3 = .ok (.invokestatic 75, 3) := by decide +kernel
theorem dX10_other_6 : decode cX10_other 6 = .ok (.ifCond .ne 6, 3) := by decide +kernel
theorem dX10_other_9 : decode cX10_other 9 = .ok (.bipush (-2), 2) := by decide +kernel
theorem dX10_other_11 : decode cX10_other 11 = .ok (.ireturn, 1) := by decide +kernel
theorem dX10_other_12 : decode cX10_other 12 = .ok (.aload_n 0, 1) := by decide +kernel
theorem dX10_other_13 : decode cX10_other 13 = .ok (.invokevirtual 118, 3) := by decide +kernel
theorem dX10_other_16 : decode cX10_other 16 = .ok (.iload_n 1, 1) := by decide +kernel
theorem dX10_other_17 : decode cX10_other 17 = .ok (.iconst 3, 1) := by decide +kernel
theorem dX10_other_18 : decode cX10_other 18 = .ok (.if_icmp .ge 14, 3) := by decide +kernel
theorem dX10_other_21 : decode cX10_other 21 = .ok (.aload_n 0, 1) := by decide +kernel
theorem dX10_other_22 : decode cX10_other 22 = .ok (.getfield 98, 3) := by decide +kernel
theorem dX10_other_25 : decode cX10_other 25 = .ok (.iconst (-1), 1) := by decide +kernel
theorem dX10_other_26 : decode cX10_other 26 = .ok (.if_icmp .eq 6, 3) := by decide +kernel
theorem dX10_other_29 : decode cX10_other 29 = .ok (.bipush (-3), 2) := by decide +kernel
theorem dX10_other_31 : decode cX10_other 31 = .ok (.ireturn, 1) := by decide +kernel
theorem dX10_other_32 : decode cX10_other 32 = .ok (.iconst (-1), 1) := by decide +kernel
theorem dX10_other_33 : decode cX10_other 33 = .ok (.istore_n 2, 1) := by decide +kernel
theorem dX10_other_34 : decode cX10_other 34 = .ok (.iconst 0, 1) := by decide +kernel
theorem dX10_other_35 : decode cX10_other 35 = .ok (.istore_n 3, 1) := by decide +kernel
theorem dX10_other_36 : decode cX10_other 36 = .ok (.iload_n 3, 1) := by decide +kernel
theorem dX10_other_37 : decode cX10_other 37 = .ok (.aload_n 0, 1) := by decide +kernel
theorem dX10_other_38 : decode cX10_other 38 = .ok (.getfield 72, 3) := by decide +kernel
theorem dX10_other_41 : decode cX10_other 41 = .ok (.if_icmp .ge 142, 3) := by decide +kernel
theorem dX10_other_44 : decode cX10_other 44 = .ok (.aload_n 0, 1) := by decide +kernel
theorem dX10_other_45 : decode cX10_other 45 = .ok (.getfield 13, 3) := by decide +kernel
theorem dX10_other_48 : decode cX10_other 48 = .ok (.iload_n 3, 1) := by decide +kernel
theorem dX10_other_49 : decode cX10_other 49 = .ok (.iaload, 1) := by decide +kernel
theorem dX10_other_50 : decode cX10_other 50 = .ok (.istore 4, 2) := by decide +kernel
theorem dX10_other_52 : decode cX10_other 52 = .ok (.iload_n 1, 1) := by decide +kernel
theorem dX10_other_53 : decode cX10_other 53 = .ok (.iconst 3, 1) := by decide +kernel
theorem dX10_other_54 : decode cX10_other 54 = .ok (.if_icmp .ne 22, 3) := by decide +kernel
theorem dX10_other_57 : decode cX10_other 57 = .ok (.aload_n 0, 1) := by decide +kernel
theorem dX10_other_58 : decode cX10_other 58 = .ok (.iload 4, 2) := by decide +kernel
theorem dX10_other_60 : decode cX10_other 60 = .ok (.invokevirtual 156, 3) := by decide +kernel
theorem dX10_other_63 : decode cX10_other 63 = .ok (.ifCond .eq 8, 3) := by decide +kernel
theorem dX10_other_66 : decode cX10_other 66 = .ok (.iload 4, 2) := by decide +kernel
theorem dX10_other_68 : decode cX10_other 68 = .ok (.goto 4, 3) := by decide +kernel
theorem dX10_other_71 : decode cX10_other 71 = .ok (.iload_n 2, 1) := by decide +kernel
theorem dX10_other_72 : decode cX10_other 72 = .ok (.istore_n 2, 1) := by decide +kernel
theorem dX10_other_73 : decode cX10_other 73 = .ok (.goto 104, 3) := by decide +kernel
theorem dX10_other_76 : decode cX10_other 76 = .ok (.iload_n 1, 1) := by decide +kernel
theorem dX10_other_77 : decode cX10_other 77 = .ok (.iconst 1, 1) := by decide +kernel
theorem dX10_other_78 : decode cX10_other 78 = .ok (.if_icmp .ne 34, 3) := by decide +kernel
theorem dX10_other_81 : decode cX10_other 81 = .ok (.iload_n 2, 1) := by decide +kernel
theorem dX10_other_82 : decode cX10_other 82 = .ok (.iconst (-1), 1) := by decide +kernel
theorem dX10_other_83 : decode cX10_other 83 = .ok (.if_icmp .eq 19, 3) := by decide +kernel
theorem dX10_other_86 : decode cX10_other 86 = .ok (.aload_n 0, 1) := by decide +kernel
theorem dX10_other_87 : decode cX10_other 87 = .ok (.iload 4, 2) := by decide +kernel
theorem dX10_other_89 : decode cX10_other 89 = .ok (.iconst 1, 1) := by decide +kernel
theorem dX10_other_90 : decode cX10_other 90 = .ok (.invokevirtual 159, 3) := by decide +kernel
theorem dX10_other_93 : decode cX10_other 93 = .ok (.aload_n 0, 1) := by decide +kernel
theorem dX10_other_94 : decode cX10_other 94 = .ok (.iload_n 2, 1) := by decide +kernel
theorem dX10_other_95 : decode cX10_other 95 = .ok (.iconst 1, 1) := by decide +kernel
theorem dX10_other_96 : decode cX10_other 96 = .ok (.invokevirtual 159, 3) := by decide +kernel
theorem dX10_other_99 : decode cX10_other 99 = .ok (.if_icmp .le 8, 3) := by decide +kernel
theorem dX10_other_102 : decode cX10_other 102 = .ok (.iload 4, 2) := by decide +kernel
theorem dX10_other_104 : decode cX10_other 104 = .ok (.goto 4, 3) := by decide +kernel
theorem dX10_other_107 : decode cX10_other 107 = .ok (.iload_n 2, 1) := by decide +kernel
theorem dX10_other_108 : decode cX10_other 108 = .ok (.istore_n 2, 1) := by decide +kernel
theorem dX10_other_109 : decode cX10_other 109 = .ok (.goto 68, 3) := by decide +kernel
theorem dX10_other_112 : decode cX10_other 112 = .ok (.aload_n 0, 1) := by decide +kernel
theorem dX10_other_113 : decode cX10_other 113 = .ok (.iload 4, 2) := by decide +kernel
theorem dX10_other_115 : decode cX10_other 115 = .ok (.iconst 0, 1) := by decide +kernel
theorem dX10_other_116 : decode cX10_other 116 = .ok (.invokevirtual 159, 3) := by decide +kernel
theorem dX10_other_119 : decode cX10_other 119 = .ok (.ifCond .le 58, 3) := by decide +kernel
theorem dX10_other_122 : decode cX10_other 122 = .ok (.iload_n 2, 1) := by decide +kernel
theorem dX10_other_123 : decode cX10_other 123 = .ok (.iconst (-1), 1) := by decide +kernel
theorem dX10_other_124 : decode cX10_other 124 = .ok (.if_icmp .eq 34, 3) := by decide +kernel
theorem dX10_other_127 : decode cX10_other 127 = .ok (.aload_n 0, 1) := by decide +kernel
theorem dX10_other_128 : decode cX10_other 128 = .ok (.iload 4, 2) := by decide +kernel
theorem dX10_other_130 : decode cX10_other 130 = .ok (.iconst 1, 1) := by decide +kernel
theorem dX10_other_131 : decode cX10_other 131 = .ok (.invokevirtual 159, 3) := by decide +kernel
theorem dX10_other_134 : decode cX10_other 134 = .ok (.aload_n 0, 1) := by decide +kernel
theorem dX10_other_135 : decode cX10_other 135 = .ok (.iload_n 2, 1) := by decide +kernel
theorem dX10_other_136 : decode cX10_other 136 = .ok (.iconst 0, 1) := by decide +kernel
theorem dX10_other_137 : decode cX10_other 137 = .ok (.invokevirtual 159, 3) := by decide +kernel
theorem dX10_other_140 : decode cX10_other 140 = .ok (.imul, 1) := by decide +kernel
theorem dX10_other_141 : decode cX10_other 141 = .ok (.aload_n 0, 1) := by decide +kernel
theorem dX10_other_142 : decode cX10_other 142 = .ok (.iload_n 2, 1) := by decide +kernel
theorem dX10_other_143 : decode cX10_other 143 = .ok (.iconst 1, 1) := by decide +kernel
theorem dX10_other_144 : decode cX10_other 144 = .ok (.invokevirtual 159, 3) := by decide +kernel
theorem dX10_other_147 : decode cX10_other 147 = .ok (.aload_n 0, 1) := by decide +kernel
theorem dX10_other_148 : decode cX10_other 148 = .ok (.iload 4, 2) := by decide +kernel
theorem dX10_other_150 : decode cX10_other 150 = .ok (.iconst 0, 1) := by decide +kernel
theorem dX10_other_151 : decode cX10_other 151 = .ok (.invokevirtual 159, 3) := by decide +kernel
theorem dX10_other_154 : decode cX10_other 154 = .ok (.imul, 1) := by decide +kernel
theorem dX10_other_155 : decode cX10_other 155 = .ok (.if_icmp .le 7, 3) := by decide +kernel
theorem dX10_other_158 : decode cX10_other 158 = .ok (.iconst 1, 1) := by decide +kernel
theorem dX10_other_159 : decode cX10_other 159 = .ok (.goto 4, 3) := by decide +kernel
theorem dX10_other_162 : decode cX10_other 162 = .ok (.iconst 0, 1) := by decide +kernel
theorem dX10_other_163 : decode cX10_other 163 = .ok (.istore 5, 2) := by decide +kernel
theorem dX10_other_165 : decode cX10_other 165 = .ok (.iload 5, 2) := by decide +kernel
theorem dX10_other_167 : decode cX10_other 167 = .ok (.ifCond .eq 8, 3) := by decide +kernel
theorem dX10_other_170 : decode cX10_other 170 = .ok (.iload 4, 2) := by decide +kernel
theorem dX10_other_172 : decode cX10_other 172 = .ok (.goto 4, 3) := by decide +kernel
theorem dX10_other_175 : decode cX10_other 175 = .ok (.iload_n 2, 1) := by decide +kernel
theorem dX10_other_176 : decode cX10_other 176 = .ok (.istore_n 2, 1) := by decide +kernel
theorem dX10_other_177 : decode cX10_other 177 = .ok (.iinc 3 1, 3) := by decide +kernel
theorem dX10_other_180 : decode cX10_other 180 = .ok (.goto (-144), 3) := by decide +kernel
theorem dX10_other_183 : decode cX10_other 183 = .ok (.iload_n 2, 1) := by decide +kernel
theorem dX10_other_184 : decode cX10_other 184 = .ok (.ireturn, 1) := by decide +kernel
theorem dX10_chance_0 : decode cX10_chance 0 = .ok (.iload_n 1, 1) := by decide +kernel
theorem dX10_chance_1 : decode cX10_chance 1 = .ok (.iconst 0, 1) := by decide +kernel
theorem dX10_chance_2 : decode cX10_chance 2 = .ok (.iconst 4, 1) := by decide +kernel
theorem dX10_chance_3 : decode cX10_chance 3 = .ok (.invokestatic 75, 3) := by decide +kernel
theorem dX10_chance_6 : decode cX10_chance 6 = .ok (.ifCond .eq 13, 3) := by decide +kernel
theorem dX10_chance_9 : decode cX10_chance 9 = .ok (.iload_n 2, 1) := by decide +kernel
theorem dX10_chance_10 : decode cX10_chance 10 = .ok (.iconst 0, 1) := by decide +kernel
theorem dX10_chance_11 : decode cX10_chance 11 = .ok (.bipush 100, 2) := by decide +kernel
theorem dX10_chance_13 : decode cX10_chance 13 = .ok (.invokestatic 75, 3) := by decide +kernel
theorem dX10_chance_16 : decode cX10_chance 16 = .ok (.ifCond .ne 6, 3) := by decide +kernel
theorem dX10_chance_19 : decode cX10_chance 19 = .ok (.bipush (-2), 2) := by decide +kernel
theorem dX10_chance_21 : decode cX10_chance 21 = .ok (.ireturn, 1) := by decide +kernel
theorem dX10_chance_22 : decode cX10_chance 22 = .ok (.aload_n 0, 1) := by decide +kernel
theorem dX10_chance_23 : decode cX10_chance 23 = .ok (.getfield 32, 3) := by decide +kernel
theorem dX10_chance_26 : decode cX10_chance 26 = .ok (.iload_n 1, 1) := by decide +kernel
theorem dX10_chance_27 : decode cX10_chance 27 = .ok (.iaload, 1) := by decide +kernel
theorem dX10_chance_28 : decode cX10_chance 28 = .ok (.istore_n 3, 1) := by decide +kernel
theorem dX10_chance_29 : decode cX10_chance 29 = .ok (.aload_n 0, 1) := by decide +kernel
theorem dX10_chance_30 : decode cX10_chance 30 = .ok (.getfield 32, 3) := by decide +kernel
theorem dX10_chance_33 : decode cX10_chance 33 = .ok (.iload_n 1, 1) := by decide +kernel
theorem dX10_chance_34 : decode cX10_chance 34 = .ok (.iload_n 2, 1) := by decide +kernel
theorem dX10_chance_35 : decode cX10_chance 35 = .ok (.iastore, 1) := by decide +kernel
theorem dX10_chance_36 : decode cX10_chance 36 = .ok (.iload_n 3, 1) := by decide +kernel
theorem dX10_chance_37 : decode cX10_chance 37 = .ok (.ireturn, 1) := by decide +kernel
theorem dX10_choose_0 : decode cX10_choose 0 = .ok (.lconst 1, 1) := by decide +kernel
theorem dX10_choose_1 : decode cX10_choose 1 = .ok (.lstore_n 2, 1) := by decide +kernel
theorem dX10_choose_2 : decode cX10_choose 2 = .ok (.iconst 1, 1) := by decide +kernel
theorem dX10_choose_3 : decode cX10_choose 3 = .ok (.istore 4, 2) := by decide +kernel
theorem dX10_choose_5 : decode cX10_choose 5 = .ok (.iload 4, 2) := by decide +kernel
theorem dX10_choose_7 : decode cX10_choose 7 = .ok (.iload_n 1, 1) := by decide +kernel
theorem dX10_choose_8 : decode cX10_choose 8 = .ok (.if_icmp .gt 23, 3) := by decide +kernel
theorem dX10_choose_11 : decode cX10_choose 11 = .ok (.lload_n 2, 1) := by decide +kernel
theorem dX10_choose_12 : decode cX10_choose 12 = .ok (.iload_n 0, 1) := by decide +kernel
theorem dX10_choose_13 : decode cX10_choose 13 = .ok (.iload_n 1, 1) := by decide +kernel
theorem dX10_choose_14 : decode cX10_choose 14 = .ok (.isub, 1) := by decide +kernel
theorem dX10_choose_15 : decode cX10_choose 15 = .ok (.iload 4, 2) := by decide +kernel
theorem dX10_choose_17 : decode cX10_choose 17 = .ok (.iadd, 1) := by decide +kernel
theorem dX10_choose_18 : decode cX10_choose 18 = .ok (.i2l, 1) := by decide +kernel
theorem dX10_choose_19 : decode cX10_choose 19 = .ok (.lmul, 1) := by decide +kernel
theorem dX10_choose_20 : decode cX10_choose 20 = .ok (.iload 4, 2) := by decide +kernel
theorem dX10_choose_22 : decode cX10_choose 22 = .ok (.i2l, 1) := by decide +kernel
theorem dX10_choose_23 : decode cX10_choose 23 = .ok (.ldiv, 1) := by decide +kernel
theorem dX10_choose_24 : decode cX10_choose 24 = .ok (.lstore_n 2, 1) := by decide +kernel
theorem dX10_choose_25 : decode cX10_choose 25 = .ok (.iinc 4 1, 3) := by decide +kernel
theorem dX10_choose_28 : decode cX10_choose 28 = .ok (.goto (-23), 3) := by decide +kernel
theorem dX10_choose_31 : decode cX10_choose 31 = .ok (.lload_n 2, 1) := by decide +kernel
theorem dX10_choose_32 : decode cX10_choose 32 = .ok (.lreturn, 1) := by decide +kernel
theorem dX10_toThe_0 : decode cX10_toThe 0 = .ok (.lconst 1, 1) := by decide +kernel
theorem dX10_toThe_1 : decode cX10_toThe 1 = .ok (.lstore_n 3, 1) := by decide +kernel
theorem dX10_toThe_2 : decode cX10_toThe 2 = .ok (.iconst 0, 1) := by decide +kernel
theorem dX10_toThe_3 : decode cX10_toThe 3 = .ok (.istore 5, 2) := by decide +kernel
theorem dX10_toThe_5 : decode cX10_toThe 5 = .ok (.iload 5, 2) := by decide +kernel
theorem dX10_toThe_7 : decode cX10_toThe 7 = .ok (.iload_n 2, 1) := by decide +kernel
theorem dX10_toThe_8 : decode cX10_toThe 8 = .ok (.if_icmp .ge 13, 3) := by decide +kernel
theorem dX10_toThe_11 : decode cX10_toThe 11 = .ok (.lload_n 3, 1) := by decide +kernel
theorem dX10_toThe_12 : decode cX10_toThe 12 = .ok (.lload_n 0, 1) := by decide +kernel
theorem dX10_toThe_13 : decode cX10_toThe 13 = .ok (.lmul, 1) := by decide +kernel
theorem dX10_toThe_14 : decode cX10_toThe 14 = .ok (.lstore_n 3, 1) := by decide +kernel
theorem dX10_toThe_15 : decode cX10_toThe 15 = .ok (.iinc 5 1, 3) := by decide +kernel
theorem dX10_toThe_18 : decode cX10_toThe 18 = .ok (.goto (-13), 3) := by decide +kernel
theorem dX10_toThe_21 : decode cX10_toThe 21 = .ok (.lload_n 3, 1) := by decide +kernel
theorem dX10_toThe_22 : decode cX10_toThe 22 = .ok (.lreturn, 1) := by decide +kernel
theorem dX10_comes_0 : decode cX10_comes 0 = .ok (.lconst 0, 1) := by decide +kernel
theorem dX10_comes_1 : decode cX10_comes 1 = .ok (.lstore_n 3, 1) := by decide +kernel
theorem dX10_comes_2 : decode cX10_comes 2 = .ok (.iconst 0, 1) := by decide +kernel
theorem dX10_comes_3 : decode cX10_comes 3 = .ok (.istore 5, 2) := by decide +kernel
theorem dX10_comes_5 : decode cX10_comes 5 = .ok (.iload 5, 2) := by decide +kernel
theorem dX10_comes_7 : decode cX10_comes 7 = .ok (.aload_n 0, 1) := by decide +kernel
theorem dX10_comes_8 : decode cX10_comes 8 = .ok (.getfield 16, 3) := by decide +kernel
theorem dX10_comes_11 : decode cX10_comes 11 = .ok (.if_icmp .gt 69, 3) := by decide +kernel
theorem dX10_comes_14 : decode cX10_comes 14 = .ok (.bipush 100, 2) := by decide +kernel
theorem dX10_comes_16 : decode cX10_comes 16 = .ok (.iload 5, 2) := by decide +kernel
theorem dX10_comes_18 : decode cX10_comes 18 = .ok (.imul, 1) := by decide +kernel
theorem dX10_comes_19 : decode cX10_comes 19 = .ok (.iload_n 2, 1) := by decide +kernel
theorem dX10_comes_20 : decode cX10_comes 20 = .ok (.aload_n 0, 1) := by decide +kernel
theorem dX10_comes_21 : decode cX10_comes 21 = .ok (.getfield 16, 3) := by decide +kernel
theorem dX10_comes_24 : decode cX10_comes 24 = .ok (.imul, 1) := by decide +kernel
theorem dX10_comes_25 : decode cX10_comes 25 = .ok (.if_icmp .lt 49, 3) := by decide +kernel
theorem dX10_comes_28 : decode cX10_comes 28 = .ok (.lload_n 3, 1) := by decide +kernel
theorem dX10_comes_29 : decode cX10_comes 29 = .ok (.aload_n 0, 1) := by decide +kernel
theorem dX10_comes_30 : decode cX10_comes 30 = .ok (.getfield 16, 3) := by decide +kernel
theorem dX10_comes_33 : decode cX10_comes 33 = .ok (.iload 5, 2) := by decide +kernel
theorem dX10_comes_35 : decode cX10_comes 35 = .ok (.invokestatic 163, 3) := by decide +kernel
theorem dX10_comes_38 : decode cX10_comes 38 = .ok (.aload_n 0, 1) := by decide +kernel
theorem dX10_comes_39 : decode cX10_comes 39 = .ok (.getfield 32, 3) := by decide +kernel
theorem dX10_comes_42 : decode cX10_comes 42 = .ok (.iload_n 1, 1) := by decide +kernel
theorem dX10_comes_43 : decode cX10_comes 43 = .ok (.iaload, 1) := by decide +kernel
theorem dX10_comes_44 : decode cX10_comes 44 = .ok (.i2l, 1) := by decide +kernel
theorem dX10_comes_45 : decode cX10_comes 45 = .ok (.iload 5, 2) := by decide +kernel
theorem dX10_comes_47 : decode cX10_comes 47 = .ok (.invokestatic 167, 3) := by decide +kernel
theorem dX10_comes_50 : decode cX10_comes 50 = .ok (.lmul, 1) := by decide +kernel
theorem dX10_comes_51 : decode cX10_comes 51 = .ok (.bipush 100, 2) := by decide +kernel
theorem dX10_comes_53 : decode cX10_comes 53 = .ok (.aload_n 0, 1) := by decide +kernel
theorem dX10_comes_54 : decode cX10_comes 54 = .ok (.getfield 32, 3) := by decide +kernel
theorem dX10_comes_57 : decode cX10_comes 57 = .ok (.iload_n 1, 1) := by decide +kernel
theorem dX10_comes_58 : decode cX10_comes 58 = .ok (.iaload, 1) := by decide +kernel
theorem dX10_comes_59 : decode cX10_comes 59 = .ok (.isub, 1) := by decide +kernel
theorem dX10_comes_60 : decode cX10_comes 60 = .ok (.i2l, 1) := by decide +kernel
theorem dX10_comes_61 : decode cX10_comes 61 = .ok (.aload_n 0, 1) := by decide +kernel
theorem dX10_comes_62 : decode cX10_comes 62 = .ok (.getfield 16, 3) := by decide +kernel
theorem dX10_comes_65 : decode cX10_comes 65 = .ok (.iload 5, 2) := by decide +kernel
theorem dX10_comes_67 : decode cX10_comes 67 = .ok (.isub, 1) := by decide +kernel
theorem dX10_comes_68 : decode cX10_comes 68 = .ok (.invokestatic 167, 3) := by decide +kernel
theorem dX10_comes_71 : decode cX10_comes 71 = .ok (.lmul, 1) := by decide +kernel
theorem dX10_comes_72 : decode cX10_comes 72 = .ok (.ladd, 1) := by decide +kernel
theorem dX10_comes_73 : decode cX10_comes 73 = .ok (.lstore_n 3, 1) := by decide +kernel
theorem dX10_comes_74 : decode cX10_comes 74 = .ok (.iinc 5 1, 3) := by decide +kernel
theorem dX10_comes_77 : decode cX10_comes 77 = .ok (.goto (-72), 3) := by decide +kernel
theorem dX10_comes_80 : decode cX10_comes 80 = .ok (.aload_n 0, 1) := by decide +kernel
theorem dX10_comes_81 : decode cX10_comes 81 = .ok (.getfield 16, 3) := by decide +kernel
theorem dX10_comes_84 : decode cX10_comes 84 = .ok (.iconst 3, 1) := by decide +kernel
theorem dX10_comes_85 : decode cX10_comes 85 = .ok (.if_icmp .ge 20, 3) := by decide +kernel
theorem dX10_comes_88 : decode cX10_comes 88 = .ok (.lload_n 3, 1) := by decide +kernel
theorem dX10_comes_89 : decode cX10_comes 89 = .ok (.ldc2_w 171, 3) := by decide +kernel
theorem dX10_comes_92 : decode cX10_comes 92 = .ok (.iconst 3, 1) := by decide +kernel
theorem dX10_comes_93 : decode cX10_comes 93 = .ok (.aload_n 0, 1) := by decide +kernel
theorem dX10_comes_94 : decode cX10_comes 94 = .ok (.getfield 16, 3) := by decide +kernel
theorem dX10_comes_97 : decode cX10_comes 97 = .ok (.isub, 1) := by decide +kernel
theorem dX10_comes_98 : decode cX10_comes 98 = .ok (.invokestatic 167, 3) := by decide +kernel
theorem dX10_comes_101 : decode cX10_comes 101 = .ok (.lmul, 1) := by decide +kernel
theorem dX10_comes_102 : decode cX10_comes 102 = .ok (.goto 17, 3) := by decide +kernel
theorem dX10_comes_105 : decode cX10_comes 105 = .ok (.lload_n 3, 1) := by decide +kernel
theorem dX10_comes_106 : decode cX10_comes 106 = .ok (.ldc2_w 171, 3) := by decide +kernel
theorem dX10_comes_109 : decode cX10_comes 109 = .ok (.aload_n 0, 1) := by decide +kernel
theorem dX10_comes_110 : decode cX10_comes 110 = .ok (.getfield 16, 3) := by decide +kernel
theorem dX10_comes_113 : decode cX10_comes 113 = .ok (.iconst 3, 1) := by decide +kernel
theorem dX10_comes_114 : decode cX10_comes 114 = .ok (.isub, 1) := by decide +kernel
theorem dX10_comes_115 : decode cX10_comes 115 = .ok (.invokestatic 167, 3) := by decide +kernel
theorem dX10_comes_118 : decode cX10_comes 118 = .ok (.ldiv, 1) := by decide +kernel
theorem dX10_comes_119 : decode cX10_comes 119 = .ok (.l2i, 1) := by decide +kernel
theorem dX10_comes_120 : decode cX10_comes 120 = .ok (.ireturn, 1) := by decide +kernel
theorem dX10_passes_0 : decode cX10_passes 0 = .ok (.iload_n 1, 1) := by decide +kernel
theorem dX10_passes_1 : decode cX10_passes 1 = .ok (.iconst 0, 1) := by decide +kernel
theorem dX10_passes_2 : decode cX10_passes 2 = .ok (.iconst 4, 1) := by decide +kernel
theorem dX10_passes_3 : decode cX10_passes 3 = .ok (.invokestatic 75, 3) := by decide +kernel
theorem dX10_passes_6 : decode cX10_passes 6 = .ok (.ifCond .eq 22, 3) := by decide +kernel
theorem dX10_passes_9 : decode cX10_passes 9 = .ok (.iload_n 2, 1) := by decide +kernel
theorem dX10_passes_10 : decode cX10_passes 10 = .ok (.iconst 1, 1) := by decide +kernel
theorem dX10_passes_11 : decode cX10_passes 11 = .ok (.bipush 100, 2) := by decide +kernel
theorem dX10_passes_13 : decode cX10_passes 13 = .ok (.invokestatic 75, 3) := by decide +kernel
theorem dX10_passes_16 : decode cX10_passes 16 = .ok (.ifCond .eq 12, 3) := by decide +kernel
theorem dX10_passes_19 : decode cX10_passes 19 = .ok (.aload_n 0, 1) := by decide +kernel
theorem dX10_passes_20 : decode cX10_passes 20 = .ok (.iload_n 1, 1) := by decide +kernel
theorem dX10_passes_21 : decode cX10_passes 21 = .ok (.iload_n 2, 1) := by decide +kernel
theorem dX10_passes_22 : decode cX10_passes 22 = .ok (.invokevirtual 173, 3) := by decide +kernel
theorem dX10_passes_25 : decode cX10_passes 25 = .ok (.goto 5, 3) := by decide +kernel
theorem dX10_passes_28 : decode cX10_passes 28 = .ok (.bipush (-2), 2) := by decide +kernel
theorem dX10_passes_30 : decode cX10_passes 30 = .ok (.ireturn, 1) := by decide +kernel
theorem dX10_all_0 : decode cX10_all 0 = .ok (.iload_n 1, 1) := by decide +kernel
theorem dX10_all_1 : decode cX10_all 1 = .ok (.iconst 0, 1) := by decide +kernel
theorem dX10_all_2 : decode cX10_all 2 = .ok (.iconst 4, 1) := by decide +kernel
theorem dX10_all_3 : decode cX10_all 3 = .ok (.invokestatic 75, 3) := by decide +kernel
theorem dX10_all_6 : decode cX10_all 6 = .ok (.ifCond .ne 6, 3) := by decide +kernel
theorem dX10_all_9 : decode cX10_all 9 = .ok (.bipush (-2), 2) := by decide +kernel
theorem dX10_all_11 : decode cX10_all 11 = .ok (.ireturn, 1) := by decide +kernel
theorem dX10_all_12 : decode cX10_all 12 = .ok (.aload_n 0, 1) := by decide +kernel
theorem dX10_all_13 : decode cX10_all 13 = .ok (.invokevirtual 118, 3) := by decide +kernel
theorem dX10_all_16 : decode cX10_all 16 = .ok (.aload_n 0, 1) := by decide +kernel
theorem dX10_all_17 : decode cX10_all 17 = .ok (.getfield 98, 3) := by decide +kernel
theorem dX10_all_20 : decode cX10_all 20 = .ok (.iconst (-1), 1) := by decide +kernel
theorem dX10_all_21 : decode cX10_all 21 = .ok (.if_icmp .eq 6, 3) := by decide +kernel
theorem dX10_all_24 : decode cX10_all 24 = .ok (.bipush (-3), 2) := by decide +kernel
theorem dX10_all_26 : decode cX10_all 26 = .ok (.ireturn, 1) := by decide +kernel
theorem dX10_all_27 : decode cX10_all 27 = .ok (.ldc2_w 176, 3) := by decide +kernel
theorem dX10_all_30 : decode cX10_all 30 = .ok (.lstore_n 2, 1) := by decide +kernel
theorem dX10_all_31 : decode cX10_all 31 = .ok (.iconst 0, 1) := by decide +kernel
theorem dX10_all_32 : decode cX10_all 32 = .ok (.istore 4, 2) := by decide +kernel
theorem dX10_all_34 : decode cX10_all 34 = .ok (.iload 4, 2) := by decide +kernel
theorem dX10_all_36 : decode cX10_all 36 = .ok (.aload_n 0, 1) := by decide +kernel
theorem dX10_all_37 : decode cX10_all 37 = .ok (.getfield 108, 3) := by decide +kernel
theorem dX10_all_40 : decode cX10_all 40 = .ok (.if_icmp .ge 29, 3) := by decide +kernel
theorem dX10_all_43 : decode cX10_all 43 = .ok (.lload_n 2, 1) := by decide +kernel
theorem dX10_all_44 : decode cX10_all 44 = .ok (.aload_n 0, 1) := by decide +kernel
theorem dX10_all_45 : decode cX10_all 45 = .ok (.iload_n 1, 1) := by decide +kernel
theorem dX10_all_46 : decode cX10_all 46 = .ok (.aload_n 0, 1) := by decide +kernel
theorem dX10_all_47 : decode cX10_all 47 = .ok (.getfield 23, 3) := by decide +kernel
theorem dX10_all_50 : decode cX10_all 50 = .ok (.iload 4, 2) := by decide +kernel
theorem dX10_all_52 : decode cX10_all 52 = .ok (.iaload, 1) := by decide +kernel
theorem dX10_all_53 : decode cX10_all 53 = .ok (.invokevirtual 173, 3) := by decide +kernel
theorem dX10_all_56 : decode cX10_all 56 = .ok (.i2l, 1) := by decide +kernel
theorem dX10_all_57 : decode cX10_all 57 = .ok (.lmul, 1) := by decide +kernel
theorem dX10_all_58 : decode cX10_all 58 = .ok (.ldc2_w 176, 3) := by decide +kernel
theorem dX10_all_61 : decode cX10_all 61 = .ok (.ldiv, 1) := by decide +kernel
theorem dX10_all_62 : decode cX10_all 62 = .ok (.lstore_n 2, 1) := by decide +kernel
theorem dX10_all_63 : decode cX10_all 63 = .ok (.iinc 4 1, 3) := by decide +kernel
theorem dX10_all_66 : decode cX10_all 66 = .ok (.goto (-32), 3) := by decide +kernel
theorem dX10_all_69 : decode cX10_all 69 = .ok (.lload_n 2, 1) := by decide +kernel
theorem dX10_all_70 : decode cX10_all 70 = .ok (.l2i, 1) := by decide +kernel
theorem dX10_all_71 : decode cX10_all 71 = .ok (.ireturn, 1) := by decide +kernel
theorem dX10_falseShare_0 : decode cX10_falseShare 0 = .ok (.iload_n 0, 1) := by decide +kernel
theorem dX10_falseShare_1 : decode cX10_falseShare 1 = .ok (.iload_n 1, 1) := by decide +kernel
theorem dX10_falseShare_2 : decode cX10_falseShare 2 = .ok (.iadd, 1) := by decide +kernel
theorem dX10_falseShare_3 : decode cX10_falseShare 3 = .ok (.istore 4, 2) := by decide +kernel
theorem dX10_falseShare_5 : decode cX10_falseShare 5 = .ok (.iload_n 2, 1) := by decide +kernel
theorem dX10_falseShare_6 : decode cX10_falseShare 6 = .ok (.iload_n 3, 1) := by decide +kernel
theorem dX10_falseShare_7 : decode cX10_falseShare 7 = .ok (.iadd, 1) := by decide +kernel
theorem dX10_falseShare_8 : decode cX10_falseShare 8 = .ok (.istore 5, 2) := by decide +kernel
theorem dX10_falseShare_10 : decode cX10_falseShare 10 = .ok (.iload_n 0, 1) := by decide +kernel
theorem dX10_falseShare_11 : decode cX10_falseShare 11 = .ok (.iload_n 2, 1) := by decide +kernel
theorem dX10_falseShare_12 : decode cX10_falseShare 12 = .ok (.iadd, 1) := by decide +kernel
theorem dX10_falseShare_13 : decode cX10_falseShare 13 = .ok (.istore 6, 2) := by decide +kernel
theorem dX10_falseShare_15 : decode cX10_falseShare 15 = .ok (.iload 4, 2) := by decide +kernel
theorem dX10_falseShare_17 : decode cX10_falseShare 17 = .ok (.iload 5, 2) := by decide +kernel
theorem dX10_falseShare_19 : decode cX10_falseShare 19 = .ok (.iadd, 1) := by decide +kernel
theorem dX10_falseShare_20 : decode cX10_falseShare 20 = .ok (.istore 7, 2) := by decide +kernel
theorem dX10_falseShare_22 : decode cX10_falseShare 22 = .ok (.iload 4, 2) := by decide +kernel
theorem dX10_falseShare_24 : decode cX10_falseShare 24 = .ok (.ifCond .ne 17, 3) := by decide +kernel
theorem dX10_falseShare_27 : decode cX10_falseShare 27 = .ok (.iload 5, 2) := by decide +kernel
theorem dX10_falseShare_29 : decode cX10_falseShare 29 = .ok (.ifCond .ne 7, 3) := by decide +kernel
theorem dX10_falseShare_32 : decode cX10_falseShare 32 = .ok (.iconst 0, 1) := by decide +kernel
theorem dX10_falseShare_33 : decode cX10_falseShare 33 = .ok (.goto 26, 3) := by decide +kernel
theorem dX10_falseShare_36 : decode cX10_falseShare 36 = .ok (.iload_n 2, 1) := by decide +kernel
theorem dX10_falseShare_37 : decode cX10_falseShare 37 = .ok (.ineg, 1) := by decide +kernel
theorem dX10_falseShare_38 : decode cX10_falseShare 38 = .ok (.goto 21, 3) := by decide +kernel
theorem dX10_falseShare_41 : decode cX10_falseShare 41 = .ok (.iload 5, 2) := by decide +kernel
theorem dX10_falseShare_43 : decode cX10_falseShare 43 = .ok (.ifCond .ne 7, 3) := by decide +kernel
theorem dX10_falseShare_46 : decode cX10_falseShare 46 = .ok (.iload_n 0, 1) := by decide +kernel
theorem dX10_falseShare_47 : decode cX10_falseShare 47 = .ok (.goto 12, 3) := by decide +kernel
theorem dX10_falseShare_50 : decode cX10_falseShare 50 = .ok (.iload_n 0, 1) := by decide +kernel
theorem dX10_falseShare_51 : decode cX10_falseShare 51 = .ok (.iload 5, 2) := by decide +kernel
theorem dX10_falseShare_53 : decode cX10_falseShare 53 = .ok (.imul, 1) := by decide +kernel
theorem dX10_falseShare_54 : decode cX10_falseShare 54 = .ok (.iload_n 2, 1) := by decide +kernel
theorem dX10_falseShare_55 : decode cX10_falseShare 55 = .ok (.iload 4, 2) := by decide +kernel
theorem dX10_falseShare_57 : decode cX10_falseShare 57 = .ok (.imul, 1) := by decide +kernel
theorem dX10_falseShare_58 : decode cX10_falseShare 58 = .ok (.isub, 1) := by decide +kernel
theorem dX10_falseShare_59 : decode cX10_falseShare 59 = .ok (.istore 8, 2) := by decide +kernel
theorem dX10_falseShare_61 : decode cX10_falseShare 61 = .ok (.lconst 0, 1) := by decide +kernel
theorem dX10_falseShare_62 : decode cX10_falseShare 62 = .ok (.lstore 9, 2) := by decide +kernel
theorem dX10_falseShare_64 : decode cX10_falseShare 64 = .ok (.iconst 0, 1) := by decide +kernel
theorem dX10_falseShare_65 : decode cX10_falseShare 65 = .ok (.istore 11, 2) := by decide +kernel
theorem dX10_falseShare_67 : decode cX10_falseShare 67 = .ok (.iload 11, 2) := by decide +kernel
theorem dX10_falseShare_69 : decode cX10_falseShare 69 = .ok (.iload 4, 2) := by decide +kernel
theorem dX10_falseShare_71 : decode cX10_falseShare 71 = .ok (.if_icmp .gt 96, 3) := by decide +kernel
theorem dX10_falseShare_74 : decode cX10_falseShare 74 = .ok (.iload 8, 2) := by decide +kernel
theorem dX10_falseShare_76 : decode cX10_falseShare 76 = .ok (.ifCond .lt 17, 3) := by decide +kernel
theorem dX10_falseShare_79 : decode cX10_falseShare 79 = .ok (.iload 11, 2) := by decide +kernel
theorem dX10_falseShare_81 : decode cX10_falseShare 81 = .ok (.iload_n 0, 1) := by decide +kernel
theorem dX10_falseShare_82 : decode cX10_falseShare 82 = .ok (.if_icmp .lt 7, 3) := by decide +kernel
theorem dX10_falseShare_85 : decode cX10_falseShare 85 = .ok (.iconst 1, 1) := by decide +kernel
theorem dX10_falseShare_86 : decode cX10_falseShare 86 = .ok (.goto 18, 3) := by decide +kernel
theorem dX10_falseShare_89 : decode cX10_falseShare 89 = .ok (.iconst 0, 1) := by decide +kernel
theorem dX10_falseShare_90 : decode cX10_falseShare 90 = .ok (.goto 14, 3) := by decide +kernel
theorem dX10_falseShare_93 : decode cX10_falseShare 93 = .ok (.iload 11, 2) := by decide +kernel
theorem dX10_falseShare_95 : decode cX10_falseShare 95 = .ok (.iload_n 0, 1) := by decide +kernel
theorem dX10_falseShare_96 : decode cX10_falseShare 96 = .ok (.if_icmp .gt 7, 3) := by decide +kernel
theorem dX10_falseShare_99 : decode cX10_falseShare 99 = .ok (.iconst 1, 1) := by decide +kernel
theorem dX10_falseShare_100 : decode cX10_falseShare 100 = .ok (.goto 4, 3) := by decide +kernel
theorem dX10_falseShare_103 : decode cX10_falseShare 103 = .ok (.iconst 0, 1) := by decide +kernel
theorem dX10_falseShare_104 : decode cX10_falseShare 104 = .ok (.istore 12, 2) := by decide +kernel
theorem dX10_falseShare_106 : decode cX10_falseShare 106 = .ok (.lload 9, 2) := by decide +kernel
theorem dX10_falseShare_108 : decode cX10_falseShare 108 = .ok (.iload 12, 2) := by decide +kernel
theorem dX10_falseShare_110 : decode cX10_falseShare 110 = .ok (.ifCond .eq 47, 3) := by decide +kernel
theorem dX10_falseShare_113 : decode cX10_falseShare 113 = .ok (.iload 11, 2) := by decide +kernel
theorem dX10_falseShare_115 : decode cX10_falseShare 115 = .ok (.iload 6, 2) := by decide +kernel
theorem dX10_falseShare_117 : decode cX10_falseShare 117 = .ok (.if_icmp .gt 40, 3) := by decide +kernel
theorem dX10_falseShare_120 : decode cX10_falseShare 120 = .ok (.iload 4, 2) := by decide +kernel
theorem dX10_falseShare_122 : decode cX10_falseShare 122 = .ok (.iload 11, 2) := by decide +kernel
theorem dX10_falseShare_124 : decode cX10_falseShare 124 = .ok (.isub, 1) := by decide +kernel
theorem dX10_falseShare_125 : decode cX10_falseShare 125 = .ok (.iload 7, 2) := by decide +kernel
theorem dX10_falseShare_127 : decode cX10_falseShare 127 = .ok (.iload 6, 2) := by decide +kernel
theorem dX10_falseShare_129 : decode cX10_falseShare 129 = .ok (.isub, 1) := by decide +kernel
theorem dX10_falseShare_130 : decode cX10_falseShare 130 = .ok (.if_icmp .gt 27, 3) := by decide +kernel
theorem dX10_falseShare_133 : decode cX10_falseShare 133 = .ok (.iload 6, 2) := by decide +kernel
theorem dX10_falseShare_135 : decode cX10_falseShare 135 = .ok (.iload 11, 2) := by decide +kernel
theorem dX10_falseShare_137 : decode cX10_falseShare 137 = .ok (.invokestatic 163, 3) := by decide +kernel
theorem dX10_falseShare_140 : decode cX10_falseShare 140 = .ok (.iload 7, 2) := by decide +kernel
theorem dX10_falseShare_142 : decode cX10_falseShare 142 = .ok (.iload 6, 2) := by decide +kernel
theorem dX10_falseShare_144 : decode cX10_falseShare 144 = .ok (.isub, 1) := by decide +kernel
theorem dX10_falseShare_145 : decode cX10_falseShare 145 = .ok (.iload 4, 2) := by decide +kernel
theorem dX10_falseShare_147 : decode cX10_falseShare 147 = .ok (.iload 11, 2) := by decide +kernel
theorem dX10_falseShare_149 : decode cX10_falseShare 149 = .ok (.isub, 1) := by decide +kernel
theorem dX10_falseShare_150 : decode cX10_falseShare 150 = .ok (.invokestatic 163, 3) := by decide +kernel
theorem dX10_falseShare_153 : decode cX10_falseShare 153 = .ok (.lmul, 1) := by decide +kernel
theorem dX10_falseShare_154 : decode cX10_falseShare 154 = .ok (.goto 4, 3) := by decide +kernel
theorem dX10_falseShare_157 : decode cX10_falseShare 157 = .ok (.lconst 0, 1) := by decide +kernel
theorem dX10_falseShare_158 : decode cX10_falseShare 158 = .ok (.ladd, 1) := by decide +kernel
theorem dX10_falseShare_159 : decode cX10_falseShare 159 = .ok (.lstore 9, 2) := by decide +kernel
theorem dX10_falseShare_161 : decode cX10_falseShare 161 = .ok (.iinc 11 1, 3) := by decide +kernel
theorem dX10_falseShare_164 : decode cX10_falseShare 164 = .ok (.goto (-97), 3) := by decide +kernel
theorem dX10_falseShare_167 : decode cX10_falseShare 167 = .ok (.iload 7, 2) := by decide +kernel
theorem dX10_falseShare_169 : decode cX10_falseShare 169 = .ok (.iload 4, 2) := by decide +kernel
theorem dX10_falseShare_171 : decode cX10_falseShare 171 = .ok (.invokestatic 163, 3) := by decide +kernel
theorem dX10_falseShare_174 : decode cX10_falseShare 174 = .ok (.lstore 11, 2) := by decide +kernel
theorem dX10_falseShare_176 : decode cX10_falseShare 176 = .ok (.iconst 0, 1) := by decide +kernel
theorem dX10_falseShare_177 : decode cX10_falseShare 177 = .ok (.istore 13, 2) := by decide +kernel
theorem dX10_falseShare_179 : decode cX10_falseShare 179 = .ok (.iconst 0, 1) := by decide +kernel
theorem dX10_falseShare_180 : decode cX10_falseShare 180 = .ok (.istore 14, 2) := by decide +kernel
theorem dX10_falseShare_182 : decode cX10_falseShare 182 = .ok (.iload 14, 2) := by decide +kernel
theorem dX10_falseShare_184 : decode cX10_falseShare 184 = .ok (.bipush 6, 2) := by decide +kernel
theorem dX10_falseShare_186 : decode cX10_falseShare 186 = .ok (.if_icmp .ge 38, 3) := by decide +kernel
theorem dX10_falseShare_189 : decode cX10_falseShare 189 = .ok (.lload 9, 2) := by decide +kernel
theorem dX10_falseShare_191 : decode cX10_falseShare 191 = .ok (.ldc2_w 178, 3) := by decide +kernel
theorem dX10_falseShare_194 : decode cX10_falseShare 194 = .ok (.lmul, 1) := by decide +kernel
theorem dX10_falseShare_195 : decode cX10_falseShare 195 = .ok (.lstore 9, 2) := by decide +kernel
theorem dX10_falseShare_197 : decode cX10_falseShare 197 = .ok (.bipush 10, 2) := by decide +kernel
theorem dX10_falseShare_199 : decode cX10_falseShare 199 = .ok (.iload 13, 2) := by decide +kernel
theorem dX10_falseShare_201 : decode cX10_falseShare 201 = .ok (.imul, 1) := by decide +kernel
theorem dX10_falseShare_202 : decode cX10_falseShare 202 = .ok (.lload 9, 2) := by decide +kernel
theorem dX10_falseShare_204 : decode cX10_falseShare 204 = .ok (.lload 11, 2) := by decide +kernel
theorem dX10_falseShare_206 : decode cX10_falseShare 206 = .ok (.ldiv, 1) := by decide +kernel
theorem dX10_falseShare_207 : decode cX10_falseShare 207 = .ok (.l2i, 1) := by decide +kernel
theorem dX10_falseShare_208 : decode cX10_falseShare 208 = .ok (.iadd, 1) := by decide +kernel
theorem dX10_falseShare_209 : decode cX10_falseShare 209 = .ok (.istore 13, 2) := by decide +kernel
theorem dX10_falseShare_211 : decode cX10_falseShare 211 = .ok (.lload 9, 2) := by decide +kernel
theorem dX10_falseShare_213 : decode cX10_falseShare 213 = .ok (.lload 11, 2) := by decide +kernel
theorem dX10_falseShare_215 : decode cX10_falseShare 215 = .ok (.lrem, 1) := by decide +kernel
theorem dX10_falseShare_216 : decode cX10_falseShare 216 = .ok (.lstore 9, 2) := by decide +kernel
theorem dX10_falseShare_218 : decode cX10_falseShare 218 = .ok (.iinc 14 1, 3) := by decide +kernel
theorem dX10_falseShare_221 : decode cX10_falseShare 221 = .ok (.goto (-39), 3) := by decide +kernel
theorem dX10_falseShare_224 : decode cX10_falseShare 224 = .ok (.iload 13, 2) := by decide +kernel
theorem dX10_falseShare_226 : decode cX10_falseShare 226 = .ok (.ireturn, 1) := by decide +kernel
theorem dX10_doubt_0 : decode cX10_doubt 0 = .ok (.iload_n 1, 1) := by decide +kernel
theorem dX10_doubt_1 : decode cX10_doubt 1 = .ok (.iconst 0, 1) := by decide +kernel
theorem dX10_doubt_2 : decode cX10_doubt 2 = .ok (.bipush 15, 2) := by decide +kernel
theorem dX10_doubt_4 : decode cX10_doubt 4 = .ok (.invokestatic 75, 3) := by decide +kernel
theorem dX10_doubt_7 : decode cX10_doubt 7 = .ok (.ifCond .eq 45, 3) := by decide +kernel
theorem dX10_doubt_10 : decode cX10_doubt 10 = .ok (.iload_n 2, 1) := by decide +kernel
theorem dX10_doubt_11 : decode cX10_doubt 11 = .ok (.iconst 0, 1) := by decide +kernel
theorem dX10_doubt_12 : decode cX10_doubt 12 = .ok (.bipush 15, 2) := by decide +kernel
theorem dX10_doubt_14 : decode cX10_doubt 14 = .ok (.invokestatic 75, 3) := by decide +kernel
theorem dX10_doubt_17 : decode cX10_doubt 17 = .ok (.ifCond .eq 35, 3) := by decide +kernel
theorem dX10_doubt_20 : decode cX10_doubt 20 = .ok (.iload_n 3, 1) := by decide +kernel
theorem dX10_doubt_21 : decode cX10_doubt 21 = .ok (.iconst 0, 1) := by decide +kernel
theorem dX10_doubt_22 : decode cX10_doubt 22 = .ok (.bipush 15, 2) := by decide +kernel
theorem dX10_doubt_24 : decode cX10_doubt 24 = .ok (.invokestatic 75, 3) := by decide +kernel
theorem dX10_doubt_27 : decode cX10_doubt 27 = .ok (.ifCond .eq 25, 3) := by decide +kernel
theorem dX10_doubt_30 : decode cX10_doubt 30 = .ok (.iload 4, 2) := by decide +kernel
theorem dX10_doubt_32 : decode cX10_doubt 32 = .ok (.iconst 0, 1) := by decide +kernel
theorem dX10_doubt_33 : decode cX10_doubt 33 = .ok (.bipush 15, 2) := by decide +kernel
theorem dX10_doubt_35 : decode cX10_doubt 35 = .ok (.invokestatic 75, 3) := by decide +kernel
theorem dX10_doubt_38 : decode cX10_doubt 38 = .ok (.ifCond .eq 14, 3) := by decide +kernel
theorem dX10_doubt_41 : decode cX10_doubt 41 = .ok (.iload_n 1, 1) := by decide +kernel
theorem dX10_doubt_42 : decode cX10_doubt 42 = .ok (.iload_n 2, 1) := by decide +kernel
theorem dX10_doubt_43 : decode cX10_doubt 43 = .ok (.iload_n 3, 1) := by decide +kernel
theorem dX10_doubt_44 : decode cX10_doubt 44 = .ok (.iload 4, 2) := by decide +kernel
theorem dX10_doubt_46 : decode cX10_doubt 46 = .ok (.invokestatic 180, 3) := by decide +kernel
theorem dX10_doubt_49 : decode cX10_doubt 49 = .ok (.goto 5, 3) := by decide +kernel
theorem dX10_doubt_52 : decode cX10_doubt 52 = .ok (.bipush (-2), 2) := by decide +kernel
theorem dX10_doubt_54 : decode cX10_doubt 54 = .ok (.ireturn, 1) := by decide +kernel
theorem dX10_morning_0 : decode cX10_morning 0 = .ok (.iload_n 2, 1) := by decide +kernel
theorem dX10_morning_1 : decode cX10_morning 1 = .ok (.iconst 0, 1) := by decide +kernel
theorem dX10_morning_2 : decode cX10_morning 2 = .ok (.iconst 4, 1) := by decide +kernel
theorem dX10_morning_3 : decode cX10_morning 3 = .ok (.invokestatic 75, 3) := by decide +kernel
theorem dX10_morning_6 : decode cX10_morning 6 = .ok (.ifCond .ne 6, 3) := by decide +kernel
theorem dX10_morning_9 : decode cX10_morning 9 = .ok (.bipush (-2), 2) := by decide +kernel
theorem dX10_morning_11 : decode cX10_morning 11 = .ok (.ireturn, 1) := by decide +kernel
theorem dX10_morning_12 : decode cX10_morning 12 = .ok (.aload_n 0, 1) := by decide +kernel
theorem dX10_morning_13 : decode cX10_morning 13 = .ok (.iload_n 1, 1) := by decide +kernel
theorem dX10_morning_14 : decode cX10_morning 14 = .ok (.invokevirtual 121, 3) := by decide +kernel
theorem dX10_morning_17 : decode cX10_morning 17 = .ok (.istore_n 3, 1) := by decide +kernel
theorem dX10_morning_18 : decode cX10_morning 18 = .ok (.iload_n 3, 1) := by decide +kernel
theorem dX10_morning_19 : decode cX10_morning 19 = .ok (.ifCond .eq 5, 3) := by decide +kernel
theorem dX10_morning_22 : decode cX10_morning 22 = .ok (.iload_n 3, 1) := by decide +kernel
theorem dX10_morning_23 : decode cX10_morning 23 = .ok (.ireturn, 1) := by decide +kernel
theorem dX10_morning_24 : decode cX10_morning 24 = .ok (.iconst 0, 1) := by decide +kernel
theorem dX10_morning_25 : decode cX10_morning 25 = .ok (.istore 4, 2) := by decide +kernel
theorem dX10_morning_27 : decode cX10_morning 27 = .ok (.iload 4, 2) := by decide +kernel
theorem dX10_morning_29 : decode cX10_morning 29 = .ok (.iconst 4, 1) := by decide +kernel
theorem dX10_morning_30 : decode cX10_morning 30 = .ok (.if_icmp .ge 17, 3) := by decide +kernel
theorem dX10_morning_33 : decode cX10_morning 33 = .ok (.aload_n 0, 1) := by decide +kernel
theorem dX10_morning_34 : decode cX10_morning 34 = .ok (.getfield 35, 3) := by decide +kernel
theorem dX10_morning_37 : decode cX10_morning 37 = .ok (.iload 4, 2) := by decide +kernel
theorem dX10_morning_39 : decode cX10_morning 39 = .ok (.iconst 0, 1) := by decide +kernel
theorem dX10_morning_40 : decode cX10_morning 40 = .ok (.iastore, 1) := by decide +kernel
theorem dX10_morning_41 : decode cX10_morning 41 = .ok (.iinc 4 1, 3) := by decide +kernel
theorem dX10_morning_44 : decode cX10_morning 44 = .ok (.goto (-17), 3) := by decide +kernel
theorem dX10_morning_47 : decode cX10_morning 47 = .ok (.iconst 0, 1) := by decide +kernel
theorem dX10_morning_48 : decode cX10_morning 48 = .ok (.istore 4, 2) := by decide +kernel
theorem dX10_morning_50 : decode cX10_morning 50 = .ok (.iload 4, 2) := by decide +kernel
theorem dX10_morning_52 : decode cX10_morning 52 = .ok (.aload_n 0, 1) := by decide +kernel
theorem dX10_morning_53 : decode cX10_morning 53 = .ok (.getfield 72, 3) := by decide +kernel
theorem dX10_morning_56 : decode cX10_morning 56 = .ok (.if_icmp .ge 69, 3) := by decide +kernel
theorem dX10_morning_59 : decode cX10_morning 59 = .ok (.aload_n 0, 1) := by decide +kernel
theorem dX10_morning_60 : decode cX10_morning 60 = .ok (.getfield 13, 3) := by decide +kernel
theorem dX10_morning_63 : decode cX10_morning 63 = .ok (.iload 4, 2) := by decide +kernel
theorem dX10_morning_65 : decode cX10_morning 65 = .ok (.iaload, 1) := by decide +kernel
theorem dX10_morning_66 : decode cX10_morning 66 = .ok (.istore 5, 2) := by decide +kernel
theorem dX10_morning_68 : decode cX10_morning 68 = .ok (.aload_n 0, 1) := by decide +kernel
theorem dX10_morning_69 : decode cX10_morning 69 = .ok (.iload 5, 2) := by decide +kernel
theorem dX10_morning_71 : decode cX10_morning 71 = .ok (.iload_n 1, 1) := by decide +kernel
theorem dX10_morning_72 : decode cX10_morning 72 = .ok (.invokevirtual 88, 3) := by decide +kernel
theorem dX10_morning_75 : decode cX10_morning 75 = .ok (.ifCond .le 44, 3) := by decide +kernel
theorem dX10_morning_78 : decode cX10_morning 78 = .ok (.aload_n 0, 1) := by decide +kernel
theorem dX10_morning_79 : decode cX10_morning 79 = .ok (.getfield 35, 3) := by decide +kernel
theorem dX10_morning_82 : decode cX10_morning 82 = .ok (.iload 4, 2) := by decide +kernel
theorem dX10_morning_84 : decode cX10_morning 84 = .ok (.aload_n 0, 1) := by decide +kernel
theorem dX10_morning_85 : decode cX10_morning 85 = .ok (.getfield 72, 3) := by decide +kernel
theorem dX10_morning_88 : decode cX10_morning 88 = .ok (.iconst 2, 1) := by decide +kernel
theorem dX10_morning_89 : decode cX10_morning 89 = .ok (.idiv, 1) := by decide +kernel
theorem dX10_morning_90 : decode cX10_morning 90 = .ok (.if_icmp .ge 7, 3) := by decide +kernel
theorem dX10_morning_93 : decode cX10_morning 93 = .ok (.iconst 0, 1) := by decide +kernel
theorem dX10_morning_94 : decode cX10_morning 94 = .ok (.goto 4, 3) := by decide +kernel
theorem dX10_morning_97 : decode cX10_morning 97 = .ok (.iconst 2, 1) := by decide +kernel
theorem dX10_morning_98 : decode cX10_morning 98 = .ok (.aload_n 0, 1) := by decide +kernel
theorem dX10_morning_99 : decode cX10_morning 99 = .ok (.iload 5, 2) := by decide +kernel
theorem dX10_morning_101 : decode cX10_morning 101 = .ok (.iload_n 1, 1) := by decide +kernel
theorem dX10_morning_102 : decode cX10_morning 102 = .ok (.invokevirtual 130, 3) := by decide +kernel
theorem dX10_morning_105 : decode cX10_morning 105 = .ok (.ifCond .eq 7, 3) := by decide +kernel
theorem dX10_morning_108 : decode cX10_morning 108 = .ok (.iconst 0, 1) := by decide +kernel
theorem dX10_morning_109 : decode cX10_morning 109 = .ok (.goto 4, 3) := by decide +kernel
theorem dX10_morning_112 : decode cX10_morning 112 = .ok (.iconst 1, 1) := by decide +kernel
theorem dX10_morning_113 : decode cX10_morning 113 = .ok (.iadd, 1) := by decide +kernel
theorem dX10_morning_114 : decode cX10_morning 114 = .ok (.dup2, 1) := by decide +kernel
theorem dX10_morning_115 : decode cX10_morning 115 = .ok (.iaload, 1) := by decide +kernel
theorem dX10_morning_116 : decode cX10_morning 116 = .ok (.iconst 1, 1) := by decide +kernel
theorem dX10_morning_117 : decode cX10_morning 117 = .ok (.iadd, 1) := by decide +kernel
theorem dX10_morning_118 : decode cX10_morning 118 = .ok (.iastore, 1) := by decide +kernel
theorem dX10_morning_119 : decode cX10_morning 119 = .ok (.iinc 4 1, 3) := by decide +kernel
theorem dX10_morning_122 : decode cX10_morning 122 = .ok (.goto (-72), 3) := by decide +kernel
theorem dX10_morning_125 : decode cX10_morning 125 = .ok (.iload_n 2, 1) := by decide +kernel
theorem dX10_morning_126 : decode cX10_morning 126 = .ok (.iconst 4, 1) := by decide +kernel
theorem dX10_morning_127 : decode cX10_morning 127 = .ok (.if_icmp .ne 33, 3) := by decide +kernel
theorem dX10_morning_130 : decode cX10_morning 130 = .ok (.aload_n 0, 1) := by decide +kernel
theorem dX10_morning_131 : decode cX10_morning 131 = .ok (.getfield 35, 3) := by decide +kernel
theorem dX10_morning_134 : decode cX10_morning 134 = .ok (.iconst 0, 1) := by decide +kernel
theorem dX10_morning_135 : decode cX10_morning 135 = .ok (.iaload, 1) := by decide +kernel
theorem dX10_morning_136 : decode cX10_morning 136 = .ok (.aload_n 0, 1) := by decide +kernel
theorem dX10_morning_137 : decode cX10_morning 137 = .ok (.getfield 35, 3) := by decide +kernel
theorem dX10_morning_140 : decode cX10_morning 140 = .ok (.iconst 1, 1) := by decide +kernel
theorem dX10_morning_141 : decode cX10_morning 141 = .ok (.iaload, 1) := by decide +kernel
theorem dX10_morning_142 : decode cX10_morning 142 = .ok (.aload_n 0, 1) := by decide +kernel
theorem dX10_morning_143 : decode cX10_morning 143 = .ok (.getfield 35, 3) := by decide +kernel
theorem dX10_morning_146 : decode cX10_morning 146 = .ok (.iconst 2, 1) := by decide +kernel
theorem dX10_morning_147 : decode cX10_morning 147 = .ok (.iaload, 1) := by decide +kernel
theorem dX10_morning_148 : decode cX10_morning 148 = .ok (.aload_n 0, 1) := by decide +kernel
theorem dX10_morning_149 : decode cX10_morning 149 = .ok (.getfield 35, 3) := by decide +kernel
theorem dX10_morning_152 : decode cX10_morning 152 = .ok (.iconst 3, 1) := by decide +kernel
theorem dX10_morning_153 : decode cX10_morning 153 = .ok (.iaload, 1) := by decide +kernel
theorem dX10_morning_154 : decode cX10_morning 154 = .ok (.invokestatic 180, 3) := by decide +kernel
theorem dX10_morning_157 : decode cX10_morning 157 = .ok (.goto 9, 3) := by decide +kernel
theorem dX10_morning_160 : decode cX10_morning 160 = .ok (.aload_n 0, 1) := by decide +kernel
theorem dX10_morning_161 : decode cX10_morning 161 = .ok (.getfield 35, 3) := by decide +kernel
theorem dX10_morning_164 : decode cX10_morning 164 = .ok (.iload_n 2, 1) := by decide +kernel
theorem dX10_morning_165 : decode cX10_morning 165 = .ok (.iaload, 1) := by decide +kernel
theorem dX10_morning_166 : decode cX10_morning 166 = .ok (.ireturn, 1) := by decide +kernel
theorem dX10_trial_0 : decode cX10_trial 0 = .ok (.aload_n 0, 1) := by decide +kernel
theorem dX10_trial_1 : decode cX10_trial 1 = .ok (.iload_n 1, 1) := by decide +kernel
theorem dX10_trial_2 : decode cX10_trial 2 = .ok (.invokevirtual 84, 3) := by decide +kernel
theorem dX10_trial_5 : decode cX10_trial 5 = .ok (.ifCond .ne 6, 3) := by decide +kernel
theorem dX10_trial_8 : decode cX10_trial 8 = .ok (.bipush (-2), 2) := by decide +kernel
theorem dX10_trial_10 : decode cX10_trial 10 = .ok (.ireturn, 1) := by decide +kernel
theorem dX10_trial_11 : decode cX10_trial 11 = .ok (.iconst 0, 1) := by decide +kernel
theorem dX10_trial_12 : decode cX10_trial 12 = .ok (.istore_n 2, 1) := by decide +kernel
theorem dX10_trial_13 : decode cX10_trial 13 = .ok (.iload_n 2, 1) := by decide +kernel
theorem dX10_trial_14 : decode cX10_trial 14 = .ok (.aload_n 0, 1) := by decide +kernel
theorem dX10_trial_15 : decode cX10_trial 15 = .ok (.getfield 184, 3) := by decide +kernel
theorem dX10_trial_18 : decode cX10_trial 18 = .ok (.if_icmp .ge 22, 3) := by decide +kernel
theorem dX10_trial_21 : decode cX10_trial 21 = .ok (.aload_n 0, 1) := by decide +kernel
theorem dX10_trial_22 : decode cX10_trial 22 = .ok (.getfield 38, 3) := by decide +kernel
theorem dX10_trial_25 : decode cX10_trial 25 = .ok (.iload_n 2, 1) := by decide +kernel
theorem dX10_trial_26 : decode cX10_trial 26 = .ok (.iaload, 1) := by decide +kernel
theorem dX10_trial_27 : decode cX10_trial 27 = .ok (.iload_n 1, 1) := by decide +kernel
theorem dX10_trial_28 : decode cX10_trial 28 = .ok (.if_icmp .ne 6, 3) := by decide +kernel
theorem dX10_trial_31 : decode cX10_trial 31 = .ok (.bipush (-3), 2) := by decide +kernel
theorem dX10_trial_33 : decode cX10_trial 33 = .ok (.ireturn, 1) := by decide +kernel
theorem dX10_trial_34 : decode cX10_trial 34 = .ok (.iinc 2 1, 3) := by decide +kernel
theorem dX10_trial_37 : decode cX10_trial 37 = .ok (.goto (-24), 3) := by decide +kernel
theorem dX10_trial_40 : decode cX10_trial 40 = .ok (.aload_n 0, 1) := by decide +kernel
theorem dX10_trial_41 : decode cX10_trial 41 = .ok (.getfield 184, 3) := by decide +kernel
theorem dX10_trial_44 : decode cX10_trial 44 = .ok (.bipush 6, 2) := by decide +kernel
theorem dX10_trial_46 : decode cX10_trial 46 = .ok (.if_icmp .ne 6, 3) := by decide +kernel
theorem dX10_trial_49 : decode cX10_trial 49 = .ok (.bipush (-4), 2) := by decide +kernel
theorem dX10_trial_51 : decode cX10_trial 51 = .ok (.ireturn, 1) := by decide +kernel
theorem dX10_trial_52 : decode cX10_trial 52 = .ok (.aload_n 0, 1) := by decide +kernel
theorem dX10_trial_53 : decode cX10_trial 53 = .ok (.getfield 38, 3) := by decide +kernel
theorem dX10_trial_56 : decode cX10_trial 56 = .ok (.aload_n 0, 1) := by decide +kernel
theorem dX10_trial_57 : decode cX10_trial 57 = .ok (.getfield 184, 3) := by decide +kernel
theorem dX10_trial_60 : decode cX10_trial 60 = .ok (.iload_n 1, 1) := by decide +kernel
theorem dX10_trial_61 : decode cX10_trial 61 = .ok (.iastore, 1) := by decide +kernel
theorem dX10_trial_62 : decode cX10_trial 62 = .ok (.aload_n 0, 1) := by decide +kernel
theorem dX10_trial_63 : decode cX10_trial 63 = .ok (.dup, 1) := by decide +kernel
theorem dX10_trial_64 : decode cX10_trial 64 = .ok (.getfield 184, 3) := by decide +kernel
theorem dX10_trial_67 : decode cX10_trial 67 = .ok (.iconst 1, 1) := by decide +kernel
theorem dX10_trial_68 : decode cX10_trial 68 = .ok (.iadd, 1) := by decide +kernel
theorem dX10_trial_69 : decode cX10_trial 69 = .ok (.putfield 184, 3) := by decide +kernel
theorem dX10_trial_72 : decode cX10_trial 72 = .ok (.aload_n 0, 1) := by decide +kernel
theorem dX10_trial_73 : decode cX10_trial 73 = .ok (.getfield 184, 3) := by decide +kernel
theorem dX10_trial_76 : decode cX10_trial 76 = .ok (.iconst 1, 1) := by decide +kernel
theorem dX10_trial_77 : decode cX10_trial 77 = .ok (.isub, 1) := by decide +kernel
theorem dX10_trial_78 : decode cX10_trial 78 = .ok (.ireturn, 1) := by decide +kernel
theorem dX10_week_0 : decode cX10_week 0 = .ok (.iload_n 1, 1) := by decide +kernel
theorem dX10_week_1 : decode cX10_week 1 = .ok (.iconst 0, 1) := by decide +kernel
theorem dX10_week_2 : decode cX10_week 2 = .ok (.aload_n 0, 1) := by decide +kernel
theorem dX10_week_3 : decode cX10_week 3 = .ok (.getfield 184, 3) := by decide +kernel
theorem dX10_week_6 : decode cX10_week 6 = .ok (.iconst 1, 1) := by decide +kernel
theorem dX10_week_7 : decode cX10_week 7 = .ok (.isub, 1) := by decide +kernel
theorem dX10_week_8 : decode cX10_week 8 = .ok (.invokestatic 75, 3) := by decide +kernel
theorem dX10_week_11 : decode cX10_week 11 = .ok (.ifCond .eq 13, 3) := by decide +kernel
theorem dX10_week_14 : decode cX10_week 14 = .ok (.iload_n 2, 1) := by decide +kernel
theorem dX10_week_15 : decode cX10_week 15 = .ok (.iconst 0, 1) := by decide +kernel
theorem dX10_week_16 : decode cX10_week 16 = .ok (.bipush 20, 2) := by decide +kernel
theorem dX10_week_18 : decode cX10_week 18 = .ok (.invokestatic 75, 3) := by decide +kernel
theorem dX10_week_21 : decode cX10_week 21 = .ok (.ifCond .ne 6, 3) := by decide +kernel
theorem dX10_week_24 : decode cX10_week 24 = .ok (.bipush (-2), 2) := by decide +kernel
theorem dX10_week_26 : decode cX10_week 26 = .ok (.ireturn, 1) := by decide +kernel
theorem dX10_week_27 : decode cX10_week 27 = .ok (.aload_n 0, 1) := by decide +kernel
theorem dX10_week_28 : decode cX10_week 28 = .ok (.getfield 41, 3) := by decide +kernel
theorem dX10_week_31 : decode cX10_week 31 = .ok (.iload_n 1, 1) := by decide +kernel
theorem dX10_week_32 : decode cX10_week 32 = .ok (.iaload, 1) := by decide +kernel
theorem dX10_week_33 : decode cX10_week 33 = .ok (.bipush 10, 2) := by decide +kernel
theorem dX10_week_35 : decode cX10_week 35 = .ok (.if_icmp .ne 6, 3) := by decide +kernel
theorem dX10_week_38 : decode cX10_week 38 = .ok (.bipush (-4), 2) := by decide +kernel
theorem dX10_week_40 : decode cX10_week 40 = .ok (.ireturn, 1) := by decide +kernel
theorem dX10_week_41 : decode cX10_week 41 = .ok (.aload_n 0, 1) := by decide +kernel
theorem dX10_week_42 : decode cX10_week 42 = .ok (.getfield 44, 3) := by decide +kernel
theorem dX10_week_45 : decode cX10_week 45 = .ok (.bipush 10, 2) := by decide +kernel
theorem dX10_week_47 : decode cX10_week 47 = .ok (.iload_n 1, 1) := by decide +kernel
theorem dX10_week_48 : decode cX10_week 48 = .ok (.imul, 1) := by decide +kernel
theorem dX10_week_49 : decode cX10_week 49 = .ok (.aload_n 0, 1) := by decide +kernel
theorem dX10_week_50 : decode cX10_week 50 = .ok (.getfield 41, 3) := by decide +kernel
theorem dX10_week_53 : decode cX10_week 53 = .ok (.iload_n 1, 1) := by decide +kernel
theorem dX10_week_54 : decode cX10_week 54 = .ok (.iaload, 1) := by decide +kernel
theorem dX10_week_55 : decode cX10_week 55 = .ok (.iadd, 1) := by decide +kernel
theorem dX10_week_56 : decode cX10_week 56 = .ok (.iload_n 2, 1) := by decide +kernel
theorem dX10_week_57 : decode cX10_week 57 = .ok (.iastore, 1) := by decide +kernel
theorem dX10_week_58 : decode cX10_week 58 = .ok (.aload_n 0, 1) := by decide +kernel
theorem dX10_week_59 : decode cX10_week 59 = .ok (.getfield 41, 3) := by decide +kernel
theorem dX10_week_62 : decode cX10_week 62 = .ok (.iload_n 1, 1) := by decide +kernel
theorem dX10_week_63 : decode cX10_week 63 = .ok (.dup2, 1) := by decide +kernel
theorem dX10_week_64 : decode cX10_week 64 = .ok (.iaload, 1) := by decide +kernel
theorem dX10_week_65 : decode cX10_week 65 = .ok (.iconst 1, 1) := by decide +kernel
theorem dX10_week_66 : decode cX10_week 66 = .ok (.iadd, 1) := by decide +kernel
theorem dX10_week_67 : decode cX10_week 67 = .ok (.iastore, 1) := by decide +kernel
theorem dX10_week_68 : decode cX10_week 68 = .ok (.aload_n 0, 1) := by decide +kernel
theorem dX10_week_69 : decode cX10_week 69 = .ok (.getfield 41, 3) := by decide +kernel
theorem dX10_week_72 : decode cX10_week 72 = .ok (.iload_n 1, 1) := by decide +kernel
theorem dX10_week_73 : decode cX10_week 73 = .ok (.iaload, 1) := by decide +kernel
theorem dX10_week_74 : decode cX10_week 74 = .ok (.ireturn, 1) := by decide +kernel
theorem dX10_betterOf_0 : decode cX10_betterOf 0 = .ok (.iconst 0, 1) := by decide +kernel
theorem dX10_betterOf_1 : decode cX10_betterOf 1 = .ok (.istore_n 3, 1) := by decide +kernel
theorem dX10_betterOf_2 : decode cX10_betterOf 2 = .ok (.iconst 0, 1) := by decide +kernel
theorem dX10_betterOf_3 : decode cX10_betterOf 3 = .ok (.istore 4, 2) := by decide +kernel
theorem dX10_betterOf_5 : decode cX10_betterOf 5 = .ok (.iconst 0, 1) := by decide +kernel
theorem dX10_betterOf_6 : decode cX10_betterOf 6 = .ok (.istore 5, 2) := by decide +kernel
theorem dX10_betterOf_8 : decode cX10_betterOf 8 = .ok (.iload 5, 2) := by decide +kernel
theorem dX10_betterOf_10 : decode cX10_betterOf 10 = .ok (.aload_n 0, 1) := by decide +kernel
theorem dX10_betterOf_11 : decode cX10_betterOf 11 = .ok (.getfield 41, 3) := by decide +kernel
theorem dX10_betterOf_14 : decode cX10_betterOf 14 = .ok (.iload_n 1, 1) := by decide +kernel
theorem dX10_betterOf_15 : decode cX10_betterOf 15 = .ok (.iaload, 1) := by decide +kernel
theorem dX10_betterOf_16 : decode cX10_betterOf 16 = .ok (.if_icmp .ge 76, 3) := by decide +kernel
theorem dX10_betterOf_19 : decode cX10_betterOf 19 = .ok (.iload 5, 2) := by decide +kernel
theorem dX10_betterOf_21 : decode cX10_betterOf 21 = .ok (.aload_n 0, 1) := by decide +kernel
theorem dX10_betterOf_22 : decode cX10_betterOf 22 = .ok (.getfield 41, 3) := by decide +kernel
theorem dX10_betterOf_25 : decode cX10_betterOf 25 = .ok (.iload_n 2, 1) := by decide +kernel
theorem dX10_betterOf_26 : decode cX10_betterOf 26 = .ok (.iaload, 1) := by decide +kernel
theorem dX10_betterOf_27 : decode cX10_betterOf 27 = .ok (.if_icmp .ge 65, 3) := by decide +kernel
theorem dX10_betterOf_30 : decode cX10_betterOf 30 = .ok (.aload_n 0, 1) := by decide +kernel
theorem dX10_betterOf_31 : decode cX10_betterOf 31 = .ok (.getfield 44, 3) := by decide +kernel
theorem dX10_betterOf_34 : decode cX10_betterOf 34 = .ok (.bipush 10, 2) := by decide +kernel
theorem dX10_betterOf_36 : decode cX10_betterOf 36 = .ok (.iload_n 1, 1) := by decide +kernel
theorem dX10_betterOf_37 : decode cX10_betterOf 37 = .ok (.imul, 1) := by decide +kernel
theorem dX10_betterOf_38 : decode cX10_betterOf 38 = .ok (.iload 5, 2) := by decide +kernel
theorem dX10_betterOf_40 : decode cX10_betterOf 40 = .ok (.iadd, 1) := by decide +kernel
theorem dX10_betterOf_41 : decode cX10_betterOf 41 = .ok (.iaload, 1) := by decide +kernel
theorem dX10_betterOf_42 : decode cX10_betterOf 42 = .ok (.aload_n 0, 1) := by decide +kernel
theorem dX10_betterOf_43 : decode cX10_betterOf 43 = .ok (.getfield 44, 3) := by decide +kernel
theorem dX10_betterOf_46 : decode cX10_betterOf 46 = .ok (.bipush 10, 2) := by decide +kernel
theorem dX10_betterOf_48 : decode cX10_betterOf 48 = .ok (.iload_n 2, 1) := by decide +kernel
theorem dX10_betterOf_49 : decode cX10_betterOf 49 = .ok (.imul, 1) := by decide +kernel
theorem dX10_betterOf_50 : decode cX10_betterOf 50 = .ok (.iload 5, 2) := by decide +kernel
theorem dX10_betterOf_52 : decode cX10_betterOf 52 = .ok (.iadd, 1) := by decide +kernel
theorem dX10_betterOf_53 : decode cX10_betterOf 53 = .ok (.iaload, 1) := by decide +kernel
theorem dX10_betterOf_54 : decode cX10_betterOf 54 = .ok (.isub, 1) := by decide +kernel
theorem dX10_betterOf_55 : decode cX10_betterOf 55 = .ok (.istore 6, 2) := by decide +kernel
theorem dX10_betterOf_57 : decode cX10_betterOf 57 = .ok (.iload_n 3, 1) := by decide +kernel
theorem dX10_betterOf_58 : decode cX10_betterOf 58 = .ok (.iload 6, 2) := by decide +kernel
theorem dX10_betterOf_60 : decode cX10_betterOf 60 = .ok (.ifCond .le 7, 3) := by decide +kernel
theorem dX10_betterOf_63 : decode cX10_betterOf 63 = .ok (.iconst 1, 1) := by decide +kernel
theorem dX10_betterOf_64 : decode cX10_betterOf 64 = .ok (.goto 13, 3) := by decide +kernel
theorem dX10_betterOf_67 : decode cX10_betterOf 67 = .ok (.iload 6, 2) := by decide +kernel
theorem dX10_betterOf_69 : decode cX10_betterOf 69 = .ok (.ifCond .ge 7, 3) := by decide +kernel
theorem dX10_betterOf_72 : decode cX10_betterOf 72 = .ok (.iconst (-1), 1) := by decide +kernel
theorem dX10_betterOf_73 : decode cX10_betterOf 73 = .ok (.goto 4, 3) := by decide +kernel
theorem dX10_betterOf_76 : decode cX10_betterOf 76 = .ok (.iconst 0, 1) := by decide +kernel
theorem dX10_betterOf_77 : decode cX10_betterOf 77 = .ok (.iadd, 1) := by decide +kernel
theorem dX10_betterOf_78 : decode cX10_betterOf 78 = .ok (.istore_n 3, 1) := by decide +kernel
theorem dX10_betterOf_79 : decode cX10_betterOf 79 = .ok (.iload 4, 2) := by decide +kernel
theorem dX10_betterOf_81 : decode cX10_betterOf 81 = .ok (.iload 6, 2) := by decide +kernel
theorem dX10_betterOf_83 : decode cX10_betterOf 83 = .ok (.iadd, 1) := by decide +kernel
theorem dX10_betterOf_84 : decode cX10_betterOf 84 = .ok (.istore 4, 2) := by decide +kernel
theorem dX10_betterOf_86 : decode cX10_betterOf 86 = .ok (.iinc 5 1, 3) := by decide +kernel
theorem dX10_betterOf_89 : decode cX10_betterOf 89 = .ok (.goto (-81), 3) := by decide +kernel
theorem dX10_betterOf_92 : decode cX10_betterOf 92 = .ok (.iload_n 3, 1) := by decide +kernel
theorem dX10_betterOf_93 : decode cX10_betterOf 93 = .ok (.ifCond .eq 7, 3) := by decide +kernel
theorem dX10_betterOf_96 : decode cX10_betterOf 96 = .ok (.iload_n 3, 1) := by decide +kernel
theorem dX10_betterOf_97 : decode cX10_betterOf 97 = .ok (.goto 5, 3) := by decide +kernel
theorem dX10_betterOf_100 : decode cX10_betterOf 100 = .ok (.iload 4, 2) := by decide +kernel
theorem dX10_betterOf_102 : decode cX10_betterOf 102 = .ok (.istore 5, 2) := by decide +kernel
theorem dX10_betterOf_104 : decode cX10_betterOf 104 = .ok (.iload 5, 2) := by decide +kernel
theorem dX10_betterOf_106 : decode cX10_betterOf 106 = .ok (.ifCond .le 7, 3) := by decide +kernel
theorem dX10_betterOf_109 : decode cX10_betterOf 109 = .ok (.iconst 1, 1) := by decide +kernel
theorem dX10_betterOf_110 : decode cX10_betterOf 110 = .ok (.goto 13, 3) := by decide +kernel
theorem dX10_betterOf_113 : decode cX10_betterOf 113 = .ok (.iload 5, 2) := by decide +kernel
theorem dX10_betterOf_115 : decode cX10_betterOf 115 = .ok (.ifCond .ge 7, 3) := by decide +kernel
theorem dX10_betterOf_118 : decode cX10_betterOf 118 = .ok (.iconst 0, 1) := by decide +kernel
theorem dX10_betterOf_119 : decode cX10_betterOf 119 = .ok (.goto 4, 3) := by decide +kernel
theorem dX10_betterOf_122 : decode cX10_betterOf 122 = .ok (.iconst (-1), 1) := by decide +kernel
theorem dX10_betterOf_123 : decode cX10_betterOf 123 = .ok (.ireturn, 1) := by decide +kernel
theorem dX10_better_0 : decode cX10_better 0 = .ok (.iload_n 1, 1) := by decide +kernel
theorem dX10_better_1 : decode cX10_better 1 = .ok (.iconst 0, 1) := by decide +kernel
theorem dX10_better_2 : decode cX10_better 2 = .ok (.aload_n 0, 1) := by decide +kernel
theorem dX10_better_3 : decode cX10_better 3 = .ok (.getfield 184, 3) := by decide +kernel
theorem dX10_better_6 : decode cX10_better 6 = .ok (.iconst 1, 1) := by decide +kernel
theorem dX10_better_7 : decode cX10_better 7 = .ok (.isub, 1) := by decide +kernel
theorem dX10_better_8 : decode cX10_better 8 = .ok (.invokestatic 75, 3) := by decide +kernel
theorem dX10_better_11 : decode cX10_better 11 = .ok (.ifCond .eq 31, 3) := by decide +kernel
theorem dX10_better_14 : decode cX10_better 14 = .ok (.iload_n 2, 1) := by decide +kernel
theorem dX10_better_15 : decode cX10_better 15 = .ok (.iconst 0, 1) := by decide +kernel
theorem dX10_better_16 : decode cX10_better 16 = .ok (.aload_n 0, 1) := by decide +kernel
theorem dX10_better_17 : decode cX10_better 17 = .ok (.getfield 184, 3) := by decide +kernel
theorem dX10_better_20 : decode cX10_better 20 = .ok (.iconst 1, 1) := by decide +kernel
theorem dX10_better_21 : decode cX10_better 21 = .ok (.isub, 1) := by decide +kernel
theorem dX10_better_22 : decode cX10_better 22 = .ok (.invokestatic 75, 3) := by decide +kernel
theorem dX10_better_25 : decode cX10_better 25 = .ok (.ifCond .eq 17, 3) := by decide +kernel
theorem dX10_better_28 : decode cX10_better 28 = .ok (.iload_n 1, 1) := by decide +kernel
theorem dX10_better_29 : decode cX10_better 29 = .ok (.iload_n 2, 1) := by decide +kernel
theorem dX10_better_30 : decode cX10_better 30 = .ok (.if_icmp .eq 12, 3) := by decide +kernel
theorem dX10_better_33 : decode cX10_better 33 = .ok (.aload_n 0, 1) := by decide +kernel
theorem dX10_better_34 : decode cX10_better 34 = .ok (.iload_n 1, 1) := by decide +kernel
theorem dX10_better_35 : decode cX10_better 35 = .ok (.iload_n 2, 1) := by decide +kernel
theorem dX10_better_36 : decode cX10_better 36 = .ok (.invokevirtual 187, 3) := by decide +kernel
theorem dX10_better_39 : decode cX10_better 39 = .ok (.goto 5, 3) := by decide +kernel
theorem dX10_better_42 : decode cX10_better 42 = .ok (.bipush (-2), 2) := by decide +kernel
theorem dX10_better_44 : decode cX10_better 44 = .ok (.ireturn, 1) := by decide +kernel
theorem dX10_seat_0 : decode cX10_seat 0 = .ok (.iconst 0, 1) := by decide +kernel
theorem dX10_seat_1 : decode cX10_seat 1 = .ok (.istore_n 1, 1) := by decide +kernel
theorem dX10_seat_2 : decode cX10_seat 2 = .ok (.iload_n 1, 1) := by decide +kernel
theorem dX10_seat_3 : decode cX10_seat 3 = .ok (.aload_n 0, 1) := by decide +kernel
theorem dX10_seat_4 : decode cX10_seat 4 = .ok (.getfield 184, 3) := by decide +kernel
theorem dX10_seat_7 : decode cX10_seat 7 = .ok (.if_icmp .ge 61, 3) := by decide +kernel
theorem dX10_seat_10 : decode cX10_seat 10 = .ok (.iconst 1, 1) := by decide +kernel
theorem dX10_seat_11 : decode cX10_seat 11 = .ok (.istore_n 2, 1) := by decide +kernel
theorem dX10_seat_12 : decode cX10_seat 12 = .ok (.iconst 0, 1) := by decide +kernel
theorem dX10_seat_13 : decode cX10_seat 13 = .ok (.istore_n 3, 1) := by decide +kernel
theorem dX10_seat_14 : decode cX10_seat 14 = .ok (.iload_n 3, 1) := by decide +kernel
theorem dX10_seat_15 : decode cX10_seat 15 = .ok (.aload_n 0, 1) := by decide +kernel
theorem dX10_seat_16 : decode cX10_seat 16 = .ok (.getfield 184, 3) := by decide +kernel
theorem dX10_seat_19 : decode cX10_seat 19 = .ok (.if_icmp .ge 32, 3) := by decide +kernel
theorem dX10_seat_22 : decode cX10_seat 22 = .ok (.iload_n 2, 1) := by decide +kernel
theorem dX10_seat_23 : decode cX10_seat 23 = .ok (.iload_n 1, 1) := by decide +kernel
theorem dX10_seat_24 : decode cX10_seat 24 = .ok (.iload_n 3, 1) := by decide +kernel
theorem dX10_seat_25 : decode cX10_seat 25 = .ok (.if_icmp .eq 13, 3) := by decide +kernel
theorem dX10_seat_28 : decode cX10_seat 28 = .ok (.aload_n 0, 1) := by decide +kernel
theorem dX10_seat_29 : decode cX10_seat 29 = .ok (.iload_n 1, 1) := by decide +kernel
theorem dX10_seat_30 : decode cX10_seat 30 = .ok (.iload_n 3, 1) := by decide +kernel
theorem dX10_seat_31 : decode cX10_seat 31 = .ok (.invokevirtual 187, 3) := by decide +kernel
theorem dX10_seat_34 : decode cX10_seat 34 = .ok (.iconst 1, 1) := by decide +kernel
theorem dX10_seat_35 : decode cX10_seat 35 = .ok (.if_icmp .ne 7, 3) := by decide +kernel
theorem dX10_seat_38 : decode cX10_seat 38 = .ok (.iconst 1, 1) := by decide +kernel
theorem dX10_seat_39 : decode cX10_seat 39 = .ok (.goto 4, 3) := by decide +kernel
theorem dX10_seat_42 : decode cX10_seat 42 = .ok (.iconst 0, 1) := by decide +kernel
theorem dX10_seat_43 : decode cX10_seat 43 = .ok (.iand, 1) := by decide +kernel
theorem dX10_seat_44 : decode cX10_seat 44 = .ok (.istore_n 2, 1) := by decide +kernel
theorem dX10_seat_45 : decode cX10_seat 45 = .ok (.iinc 3 1, 3) := by decide +kernel
theorem dX10_seat_48 : decode cX10_seat 48 = .ok (.goto (-34), 3) := by decide +kernel
theorem dX10_seat_51 : decode cX10_seat 51 = .ok (.iload_n 2, 1) := by decide +kernel
theorem dX10_seat_52 : decode cX10_seat 52 = .ok (.ifCond .eq 10, 3) := by decide +kernel
theorem dX10_seat_55 : decode cX10_seat 55 = .ok (.aload_n 0, 1) := by decide +kernel
theorem dX10_seat_56 : decode cX10_seat 56 = .ok (.getfield 38, 3) := by decide +kernel
theorem dX10_seat_59 : decode cX10_seat 59 = .ok (.iload_n 1, 1) := by decide +kernel
theorem dX10_seat_60 : decode cX10_seat 60 = .ok (.iaload, 1) := by decide +kernel
theorem dX10_seat_61 : decode cX10_seat 61 = .ok (.ireturn, 1) := by decide +kernel
theorem dX10_seat_62 : decode cX10_seat 62 = .ok (.iinc 1 1, 3) := by decide +kernel
theorem dX10_seat_65 : decode cX10_seat 65 = .ok (.goto (-63), 3) := by decide +kernel
theorem dX10_seat_68 : decode cX10_seat 68 = .ok (.iconst (-1), 1) := by decide +kernel
theorem dX10_seat_69 : decode cX10_seat 69 = .ok (.ireturn, 1) := by decide +kernel
theorem dX10_hear_0 : decode cX10_hear 0 = .ok (.iload_n 1, 1) := by decide +kernel
theorem dX10_hear_1 : decode cX10_hear 1 = .ok (.iconst 0, 1) := by decide +kernel
theorem dX10_hear_2 : decode cX10_hear 2 = .ok (.ldc 190, 2) := by decide +kernel
theorem dX10_hear_4 : decode cX10_hear 4 = .ok (.invokestatic 75, 3) := by decide +kernel
theorem dX10_hear_7 : decode cX10_hear 7 = .ok (.ifCond .eq 22, 3) := by decide +kernel
theorem dX10_hear_10 : decode cX10_hear 10 = .ok (.iload_n 2, 1) := by decide +kernel
theorem dX10_hear_11 : decode cX10_hear 11 = .ok (.iconst 0, 1) := by decide +kernel
theorem dX10_hear_12 : decode cX10_hear 12 = .ok (.bipush 99, 2) := by decide +kernel
theorem dX10_hear_14 : decode cX10_hear 14 = .ok (.invokestatic 75, 3) := by decide +kernel
theorem dX10_hear_17 : decode cX10_hear 17 = .ok (.ifCond .eq 12, 3) := by decide +kernel
theorem dX10_hear_20 : decode cX10_hear 20 = .ok (.iload_n 3, 1) := by decide +kernel
theorem dX10_hear_21 : decode cX10_hear 21 = .ok (.iconst 0, 1) := by decide +kernel
theorem dX10_hear_22 : decode cX10_hear 22 = .ok (.iconst 4, 1) := by decide +kernel
theorem dX10_hear_23 : decode cX10_hear 23 = .ok (.invokestatic 75, 3) := by decide +kernel
theorem dX10_hear_26 : decode cX10_hear 26 = .ok (.ifCond .ne 6, 3) := by decide +kernel
theorem dX10_hear_29 : decode cX10_hear 29 = .ok (.bipush (-2), 2) := by decide +kernel
theorem dX10_hear_31 : decode cX10_hear 31 = .ok (.ireturn, 1) := by decide +kernel
theorem dX10_hear_32 : decode cX10_hear 32 = .ok (.aload_n 0, 1) := by decide +kernel
theorem dX10_hear_33 : decode cX10_hear 33 = .ok (.getfield 191, 3) := by decide +kernel
theorem dX10_hear_36 : decode cX10_hear 36 = .ok (.bipush 60, 2) := by decide +kernel
theorem dX10_hear_38 : decode cX10_hear 38 = .ok (.if_icmp .ne 6, 3) := by decide +kernel
theorem dX10_hear_41 : decode cX10_hear 41 = .ok (.bipush (-4), 2) := by decide +kernel
theorem dX10_hear_43 : decode cX10_hear 43 = .ok (.ireturn, 1) := by decide +kernel
theorem dX10_hear_44 : decode cX10_hear 44 = .ok (.aload_n 0, 1) := by decide +kernel
theorem dX10_hear_45 : decode cX10_hear 45 = .ok (.getfield 47, 3) := by decide +kernel
theorem dX10_hear_48 : decode cX10_hear 48 = .ok (.aload_n 0, 1) := by decide +kernel
theorem dX10_hear_49 : decode cX10_hear 49 = .ok (.getfield 191, 3) := by decide +kernel
theorem dX10_hear_52 : decode cX10_hear 52 = .ok (.iload_n 1, 1) := by decide +kernel
theorem dX10_hear_53 : decode cX10_hear 53 = .ok (.iastore, 1) := by decide +kernel
theorem dX10_hear_54 : decode cX10_hear 54 = .ok (.aload_n 0, 1) := by decide +kernel
theorem dX10_hear_55 : decode cX10_hear 55 = .ok (.getfield 50, 3) := by decide +kernel
theorem dX10_hear_58 : decode cX10_hear 58 = .ok (.aload_n 0, 1) := by decide +kernel
theorem dX10_hear_59 : decode cX10_hear 59 = .ok (.getfield 191, 3) := by decide +kernel
theorem dX10_hear_62 : decode cX10_hear 62 = .ok (.iload_n 2, 1) := by decide +kernel
theorem dX10_hear_63 : decode cX10_hear 63 = .ok (.iastore, 1) := by decide +kernel
theorem dX10_hear_64 : decode cX10_hear 64 = .ok (.aload_n 0, 1) := by decide +kernel
theorem dX10_hear_65 : decode cX10_hear 65 = .ok (.getfield 53, 3) := by decide +kernel
theorem dX10_hear_68 : decode cX10_hear 68 = .ok (.aload_n 0, 1) := by decide +kernel
theorem dX10_hear_69 : decode cX10_hear 69 = .ok (.getfield 191, 3) := by decide +kernel
theorem dX10_hear_72 : decode cX10_hear 72 = .ok (.iload_n 3, 1) := by decide +kernel
theorem dX10_hear_73 : decode cX10_hear 73 = .ok (.iastore, 1) := by decide +kernel
theorem dX10_hear_74 : decode cX10_hear 74 = .ok (.aload_n 0, 1) := by decide +kernel
theorem dX10_hear_75 : decode cX10_hear 75 = .ok (.dup, 1) := by decide +kernel
theorem dX10_hear_76 : decode cX10_hear 76 = .ok (.getfield 191, 3) := by decide +kernel
theorem dX10_hear_79 : decode cX10_hear 79 = .ok (.iconst 1, 1) := by decide +kernel
theorem dX10_hear_80 : decode cX10_hear 80 = .ok (.iadd, 1) := by decide +kernel
theorem dX10_hear_81 : decode cX10_hear 81 = .ok (.putfield 191, 3) := by decide +kernel
theorem dX10_hear_84 : decode cX10_hear 84 = .ok (.aload_n 0, 1) := by decide +kernel
theorem dX10_hear_85 : decode cX10_hear 85 = .ok (.getfield 191, 3) := by decide +kernel
theorem dX10_hear_88 : decode cX10_hear 88 = .ok (.ireturn, 1) := by decide +kernel
theorem dX10_known_0 : decode cX10_known 0 = .ok (.iload_n 1, 1) := by decide +kernel
theorem dX10_known_1 : decode cX10_known 1 = .ok (.iconst 0, 1) := by decide +kernel
theorem dX10_known_2 : decode cX10_known 2 = .ok (.ldc 190, 2) := by decide +kernel
theorem dX10_known_4 : decode cX10_known 4 = .ok (.invokestatic 75, 3) := by decide +kernel
theorem dX10_known_7 : decode cX10_known 7 = .ok (.ifCond .eq 12, 3) := by decide +kernel
theorem dX10_known_10 : decode cX10_known 10 = .ok (.iload_n 2, 1) := by decide +kernel
theorem dX10_known_11 : decode cX10_known 11 = .ok (.iconst 0, 1) := by decide +kernel
theorem dX10_known_12 : decode cX10_known 12 = .ok (.iconst 2, 1) := by decide +kernel
theorem dX10_known_13 : decode cX10_known 13 = .ok (.invokestatic 75, 3) := by decide +kernel
theorem dX10_known_16 : decode cX10_known 16 = .ok (.ifCond .ne 6, 3) := by decide +kernel
theorem dX10_known_19 : decode cX10_known 19 = .ok (.bipush (-2), 2) := by decide +kernel
theorem dX10_known_21 : decode cX10_known 21 = .ok (.ireturn, 1) := by decide +kernel
theorem dX10_known_22 : decode cX10_known 22 = .ok (.iconst 0, 1) := by decide +kernel
theorem dX10_known_23 : decode cX10_known 23 = .ok (.istore_n 3, 1) := by decide +kernel
theorem dX10_known_24 : decode cX10_known 24 = .ok (.iconst (-1), 1) := by decide +kernel
theorem dX10_known_25 : decode cX10_known 25 = .ok (.istore 4, 2) := by decide +kernel
theorem dX10_known_27 : decode cX10_known 27 = .ok (.iconst (-1), 1) := by decide +kernel
theorem dX10_known_28 : decode cX10_known 28 = .ok (.istore 5, 2) := by decide +kernel
theorem dX10_known_30 : decode cX10_known 30 = .ok (.iconst 0, 1) := by decide +kernel
theorem dX10_known_31 : decode cX10_known 31 = .ok (.istore 6, 2) := by decide +kernel
theorem dX10_known_33 : decode cX10_known 33 = .ok (.iload 6, 2) := by decide +kernel
theorem dX10_known_35 : decode cX10_known 35 = .ok (.aload_n 0, 1) := by decide +kernel
theorem dX10_known_36 : decode cX10_known 36 = .ok (.getfield 191, 3) := by decide +kernel
theorem dX10_known_39 : decode cX10_known 39 = .ok (.if_icmp .ge 75, 3) := by decide +kernel
theorem dX10_known_42 : decode cX10_known 42 = .ok (.aload_n 0, 1) := by decide +kernel
theorem dX10_known_43 : decode cX10_known 43 = .ok (.getfield 47, 3) := by decide +kernel
theorem dX10_known_46 : decode cX10_known 46 = .ok (.iload 6, 2) := by decide +kernel
theorem dX10_known_48 : decode cX10_known 48 = .ok (.iaload, 1) := by decide +kernel
theorem dX10_known_49 : decode cX10_known 49 = .ok (.iload_n 1, 1) := by decide +kernel
theorem dX10_known_50 : decode cX10_known 50 = .ok (.if_icmp .ne 58, 3) := by decide +kernel
theorem dX10_known_53 : decode cX10_known 53 = .ok (.iinc 3 1, 3) := by decide +kernel
theorem dX10_known_56 : decode cX10_known 56 = .ok (.aload_n 0, 1) := by decide +kernel
theorem dX10_known_57 : decode cX10_known 57 = .ok (.getfield 53, 3) := by decide +kernel
theorem dX10_known_60 : decode cX10_known 60 = .ok (.iload 6, 2) := by decide +kernel
theorem dX10_known_62 : decode cX10_known 62 = .ok (.iaload, 1) := by decide +kernel
theorem dX10_known_63 : decode cX10_known 63 = .ok (.iload 4, 2) := by decide +kernel
theorem dX10_known_65 : decode cX10_known 65 = .ok (.if_icmp .le 13, 3) := by decide +kernel
theorem dX10_known_68 : decode cX10_known 68 = .ok (.aload_n 0, 1) := by decide +kernel
theorem dX10_known_69 : decode cX10_known 69 = .ok (.getfield 53, 3) := by decide +kernel
theorem dX10_known_72 : decode cX10_known 72 = .ok (.iload 6, 2) := by decide +kernel
theorem dX10_known_74 : decode cX10_known 74 = .ok (.iaload, 1) := by decide +kernel
theorem dX10_known_75 : decode cX10_known 75 = .ok (.goto 5, 3) := by decide +kernel
theorem dX10_known_78 : decode cX10_known 78 = .ok (.iload 4, 2) := by decide +kernel
theorem dX10_known_80 : decode cX10_known 80 = .ok (.istore 4, 2) := by decide +kernel
theorem dX10_known_82 : decode cX10_known 82 = .ok (.aload_n 0, 1) := by decide +kernel
theorem dX10_known_83 : decode cX10_known 83 = .ok (.getfield 50, 3) := by decide +kernel
theorem dX10_known_86 : decode cX10_known 86 = .ok (.iload 6, 2) := by decide +kernel
theorem dX10_known_88 : decode cX10_known 88 = .ok (.iaload, 1) := by decide +kernel
theorem dX10_known_89 : decode cX10_known 89 = .ok (.iload 5, 2) := by decide +kernel
theorem dX10_known_91 : decode cX10_known 91 = .ok (.if_icmp .le 13, 3) := by decide +kernel
theorem dX10_known_94 : decode cX10_known 94 = .ok (.aload_n 0, 1) := by decide +kernel
theorem dX10_known_95 : decode cX10_known 95 = .ok (.getfield 50, 3) := by decide +kernel
theorem dX10_known_98 : decode cX10_known 98 = .ok (.iload 6, 2) := by decide +kernel
theorem dX10_known_100 : decode cX10_known 100 = .ok (.iaload, 1) := by decide +kernel
theorem dX10_known_101 : decode cX10_known 101 = .ok (.goto 5, 3) := by decide +kernel
theorem dX10_known_104 : decode cX10_known 104 = .ok (.iload 5, 2) := by decide +kernel
theorem dX10_known_106 : decode cX10_known 106 = .ok (.istore 5, 2) := by decide +kernel
theorem dX10_known_108 : decode cX10_known 108 = .ok (.iinc 6 1, 3) := by decide +kernel
theorem dX10_known_111 : decode cX10_known 111 = .ok (.goto (-78), 3) := by decide +kernel
theorem dX10_known_114 : decode cX10_known 114 = .ok (.iload_n 2, 1) := by decide +kernel
theorem dX10_known_115 : decode cX10_known 115 = .ok (.ifCond .ne 7, 3) := by decide +kernel
theorem dX10_known_118 : decode cX10_known 118 = .ok (.iload_n 3, 1) := by decide +kernel
theorem dX10_known_119 : decode cX10_known 119 = .ok (.goto 15, 3) := by decide +kernel
theorem dX10_known_122 : decode cX10_known 122 = .ok (.iload_n 2, 1) := by decide +kernel
theorem dX10_known_123 : decode cX10_known 123 = .ok (.iconst 1, 1) := by decide +kernel
theorem dX10_known_124 : decode cX10_known 124 = .ok (.if_icmp .ne 8, 3) := by decide +kernel
theorem dX10_known_127 : decode cX10_known 127 = .ok (.iload 4, 2) := by decide +kernel
theorem dX10_known_129 : decode cX10_known 129 = .ok (.goto 5, 3) := by decide +kernel
theorem dX10_known_132 : decode cX10_known 132 = .ok (.iload 5, 2) := by decide +kernel
theorem dX10_known_134 : decode cX10_known 134 = .ok (.ireturn, 1) := by decide +kernel
theorem dX10_meets_0 : decode cX10_meets 0 = .ok (.aload_n 0, 1) := by decide +kernel
theorem dX10_meets_1 : decode cX10_meets 1 = .ok (.iload_n 1, 1) := by decide +kernel
theorem dX10_meets_2 : decode cX10_meets 2 = .ok (.putfield 194, 3) := by decide +kernel
theorem dX10_meets_5 : decode cX10_meets 5 = .ok (.bipush (-10), 2) := by decide +kernel
theorem dX10_meets_7 : decode cX10_meets 7 = .ok (.iload_n 1, 1) := by decide +kernel
theorem dX10_meets_8 : decode cX10_meets 8 = .ok (.isub, 1) := by decide +kernel
theorem dX10_meets_9 : decode cX10_meets 9 = .ok (.ireturn, 1) := by decide +kernel
theorem dX10_isSheet_0 : decode cX10_isSheet 0 = .ok (.iload_n 0, 1) := by decide +kernel
theorem dX10_isSheet_1 : decode cX10_isSheet 1 = .ok (.iconst 0, 1) := by decide +kernel
theorem dX10_isSheet_2 : decode cX10_isSheet 2 = .ok (.iconst 3, 1) := by decide +kernel
theorem dX10_isSheet_3 : decode cX10_isSheet 3 = .ok (.invokestatic 75, 3) := by decide +kernel
theorem dX10_isSheet_6 : decode cX10_isSheet 6 = .ok (.ireturn, 1) := by decide +kernel
theorem dX10_sheet_0 : decode cX10_sheet 0 = .ok (.iload_n 1, 1) := by decide +kernel
theorem dX10_sheet_1 : decode cX10_sheet 1 = .ok (.invokestatic 197, 3) := by decide +kernel
theorem dX10_sheet_4 : decode cX10_sheet 4 = .ok (.ifCond .eq 19, 3) := by decide +kernel
theorem dX10_sheet_7 : decode cX10_sheet 7 = .ok (.iload_n 2, 1) := by decide +kernel
theorem dX10_sheet_8 : decode cX10_sheet 8 = .ok (.iconst 0, 1) := by decide +kernel
theorem dX10_sheet_9 : decode cX10_sheet 9 = .ok (.iconst 2, 1) := by decide +kernel
theorem dX10_sheet_10 : decode cX10_sheet 10 = .ok (.invokestatic 75, 3) := by decide +kernel
theorem dX10_sheet_13 : decode cX10_sheet 13 = .ok (.ifCond .eq 10, 3) := by decide +kernel
theorem dX10_sheet_16 : decode cX10_sheet 16 = .ok (.iload_n 3, 1) := by decide +kernel
theorem dX10_sheet_17 : decode cX10_sheet 17 = .ok (.sipush 240, 3) := by decide +kernel
theorem dX10_sheet_20 : decode cX10_sheet 20 = .ok (.if_icmp .le 6, 3) := by decide +kernel
theorem dX10_sheet_23 : decode cX10_sheet 23 = .ok (.bipush (-2), 2) := by decide +kernel
theorem dX10_sheet_25 : decode cX10_sheet 25 = .ok (.ireturn, 1) := by decide +kernel
theorem dX10_sheet_26 : decode cX10_sheet 26 = .ok (.iload_n 3, 1) := by decide +kernel
theorem dX10_sheet_27 : decode cX10_sheet 27 = .ok (.ifCond .ge 9, 3) := by decide +kernel
theorem dX10_sheet_30 : decode cX10_sheet 30 = .ok (.aload_n 0, 1) := by decide +kernel
theorem dX10_sheet_31 : decode cX10_sheet 31 = .ok (.iconst 5, 1) := by decide +kernel
theorem dX10_sheet_32 : decode cX10_sheet 32 = .ok (.invokevirtual 200, 3) := by decide +kernel
theorem dX10_sheet_35 : decode cX10_sheet 35 = .ok (.ireturn, 1) := by decide +kernel
theorem dX10_sheet_36 : decode cX10_sheet 36 = .ok (.aload_n 0, 1) := by decide +kernel
theorem dX10_sheet_37 : decode cX10_sheet 37 = .ok (.getfield 56, 3) := by decide +kernel
theorem dX10_sheet_40 : decode cX10_sheet 40 = .ok (.iload_n 1, 1) := by decide +kernel
theorem dX10_sheet_41 : decode cX10_sheet 41 = .ok (.iconst 1, 1) := by decide +kernel
theorem dX10_sheet_42 : decode cX10_sheet 42 = .ok (.bastore, 1) := by decide +kernel
theorem dX10_sheet_43 : decode cX10_sheet 43 = .ok (.aload_n 0, 1) := by decide +kernel
theorem dX10_sheet_44 : decode cX10_sheet 44 = .ok (.getfield 60, 3) := by decide +kernel
theorem dX10_sheet_47 : decode cX10_sheet 47 = .ok (.iload_n 1, 1) := by decide +kernel
theorem dX10_sheet_48 : decode cX10_sheet 48 = .ok (.iload_n 2, 1) := by decide +kernel
theorem dX10_sheet_49 : decode cX10_sheet 49 = .ok (.iastore, 1) := by decide +kernel
theorem dX10_sheet_50 : decode cX10_sheet 50 = .ok (.aload_n 0, 1) := by decide +kernel
theorem dX10_sheet_51 : decode cX10_sheet 51 = .ok (.getfield 63, 3) := by decide +kernel
theorem dX10_sheet_54 : decode cX10_sheet 54 = .ok (.iload_n 1, 1) := by decide +kernel
theorem dX10_sheet_55 : decode cX10_sheet 55 = .ok (.iload_n 3, 1) := by decide +kernel
theorem dX10_sheet_56 : decode cX10_sheet 56 = .ok (.iastore, 1) := by decide +kernel
theorem dX10_sheet_57 : decode cX10_sheet 57 = .ok (.iconst 0, 1) := by decide +kernel
theorem dX10_sheet_58 : decode cX10_sheet 58 = .ok (.istore 4, 2) := by decide +kernel
theorem dX10_sheet_60 : decode cX10_sheet 60 = .ok (.iload 4, 2) := by decide +kernel
theorem dX10_sheet_62 : decode cX10_sheet 62 = .ok (.sipush 240, 3) := by decide +kernel
theorem dX10_sheet_65 : decode cX10_sheet 65 = .ok (.if_icmp .ge 23, 3) := by decide +kernel
theorem dX10_sheet_68 : decode cX10_sheet 68 = .ok (.aload_n 0, 1) := by decide +kernel
theorem dX10_sheet_69 : decode cX10_sheet 69 = .ok (.getfield 66, 3) := by decide +kernel
theorem dX10_sheet_72 : decode cX10_sheet 72 = .ok (.sipush 240, 3) := by decide +kernel
theorem dX10_sheet_75 : decode cX10_sheet 75 = .ok (.iload_n 1, 1) := by decide +kernel
theorem dX10_sheet_76 : decode cX10_sheet 76 = .ok (.imul, 1) := by decide +kernel
theorem dX10_sheet_77 : decode cX10_sheet 77 = .ok (.iload 4, 2) := by decide +kernel
theorem dX10_sheet_79 : decode cX10_sheet 79 = .ok (.iadd, 1) := by decide +kernel
theorem dX10_sheet_80 : decode cX10_sheet 80 = .ok (.iconst 0, 1) := by decide +kernel
theorem dX10_sheet_81 : decode cX10_sheet 81 = .ok (.iastore, 1) := by decide +kernel
theorem dX10_sheet_82 : decode cX10_sheet 82 = .ok (.iinc 4 1, 3) := by decide +kernel
theorem dX10_sheet_85 : decode cX10_sheet 85 = .ok (.goto (-25), 3) := by decide +kernel
theorem dX10_sheet_88 : decode cX10_sheet 88 = .ok (.iload_n 3, 1) := by decide +kernel
theorem dX10_sheet_89 : decode cX10_sheet 89 = .ok (.ireturn, 1) := by decide +kernel
theorem dX10_lose_0 : decode cX10_lose 0 = .ok (.iload_n 1, 1) := by decide +kernel
theorem dX10_lose_1 : decode cX10_lose 1 = .ok (.invokestatic 197, 3) := by decide +kernel
theorem dX10_lose_4 : decode cX10_lose 4 = .ok (.ifCond .ne 6, 3) := by decide +kernel
theorem dX10_lose_7 : decode cX10_lose 7 = .ok (.bipush (-2), 2) := by decide +kernel
theorem dX10_lose_9 : decode cX10_lose 9 = .ok (.ireturn, 1) := by decide +kernel
theorem dX10_lose_10 : decode cX10_lose 10 = .ok (.aload_n 0, 1) := by decide +kernel
theorem dX10_lose_11 : decode cX10_lose 11 = .ok (.getfield 56, 3) := by decide +kernel
theorem dX10_lose_14 : decode cX10_lose 14 = .ok (.iload_n 1, 1) := by decide +kernel
theorem dX10_lose_15 : decode cX10_lose 15 = .ok (.baload, 1) := by decide +kernel
theorem dX10_lose_16 : decode cX10_lose 16 = .ok (.ifCond .ne 9, 3) := by decide +kernel
theorem dX10_lose_19 : decode cX10_lose 19 = .ok (.aload_n 0, 1) := by decide +kernel
theorem dX10_lose_20 : decode cX10_lose 20 = .ok (.iconst 1, 1) := by decide +kernel
theorem dX10_lose_21 : decode cX10_lose 21 = .ok (.invokevirtual 200, 3) := by decide +kernel
theorem dX10_lose_24 : decode cX10_lose 24 = .ok (.ireturn, 1) := by decide +kernel
theorem dX10_lose_25 : decode cX10_lose 25 = .ok (.aload_n 0, 1) := by decide +kernel
theorem dX10_lose_26 : decode cX10_lose 26 = .ok (.getfield 56, 3) := by decide +kernel
theorem dX10_lose_29 : decode cX10_lose 29 = .ok (.iload_n 1, 1) := by decide +kernel
theorem dX10_lose_30 : decode cX10_lose 30 = .ok (.iconst 0, 1) := by decide +kernel
theorem dX10_lose_31 : decode cX10_lose 31 = .ok (.bastore, 1) := by decide +kernel
theorem dX10_lose_32 : decode cX10_lose 32 = .ok (.aload_n 0, 1) := by decide +kernel
theorem dX10_lose_33 : decode cX10_lose 33 = .ok (.getfield 63, 3) := by decide +kernel
theorem dX10_lose_36 : decode cX10_lose 36 = .ok (.iload_n 1, 1) := by decide +kernel
theorem dX10_lose_37 : decode cX10_lose 37 = .ok (.iaload, 1) := by decide +kernel
theorem dX10_lose_38 : decode cX10_lose 38 = .ok (.ireturn, 1) := by decide +kernel
theorem dX10_lacks_0 : decode cX10_lacks 0 = .ok (.aload_n 0, 1) := by decide +kernel
theorem dX10_lacks_1 : decode cX10_lacks 1 = .ok (.getfield 56, 3) := by decide +kernel
theorem dX10_lacks_4 : decode cX10_lacks 4 = .ok (.iload_n 1, 1) := by decide +kernel
theorem dX10_lacks_5 : decode cX10_lacks 5 = .ok (.baload, 1) := by decide +kernel
theorem dX10_lacks_6 : decode cX10_lacks 6 = .ok (.ifCond .ne 7, 3) := by decide +kernel
theorem dX10_lacks_9 : decode cX10_lacks 9 = .ok (.iconst 1, 1) := by decide +kernel
theorem dX10_lacks_10 : decode cX10_lacks 10 = .ok (.goto 38, 3) := by decide +kernel
theorem dX10_lacks_13 : decode cX10_lacks 13 = .ok (.aload_n 0, 1) := by decide +kernel
theorem dX10_lacks_14 : decode cX10_lacks 14 = .ok (.getfield 60, 3) := by decide +kernel
theorem dX10_lacks_17 : decode cX10_lacks 17 = .ok (.iload_n 1, 1) := by decide +kernel
theorem dX10_lacks_18 : decode cX10_lacks 18 = .ok (.iaload, 1) := by decide +kernel
theorem dX10_lacks_19 : decode cX10_lacks 19 = .ok (.iload_n 2, 1) := by decide +kernel
theorem dX10_lacks_20 : decode cX10_lacks 20 = .ok (.if_icmp .eq 7, 3) := by decide +kernel
theorem dX10_lacks_23 : decode cX10_lacks 23 = .ok (.iconst 3, 1) := by decide +kernel
theorem dX10_lacks_24 : decode cX10_lacks 24 = .ok (.goto 24, 3) := by decide +kernel
theorem dX10_lacks_27 : decode cX10_lacks 27 = .ok (.iload_n 3, 1) := by decide +kernel
theorem dX10_lacks_28 : decode cX10_lacks 28 = .ok (.iconst 0, 1) := by decide +kernel
theorem dX10_lacks_29 : decode cX10_lacks 29 = .ok (.aload_n 0, 1) := by decide +kernel
theorem dX10_lacks_30 : decode cX10_lacks 30 = .ok (.getfield 63, 3) := by decide +kernel
theorem dX10_lacks_33 : decode cX10_lacks 33 = .ok (.iload_n 1, 1) := by decide +kernel
theorem dX10_lacks_34 : decode cX10_lacks 34 = .ok (.iaload, 1) := by decide +kernel
theorem dX10_lacks_35 : decode cX10_lacks 35 = .ok (.iconst 1, 1) := by decide +kernel
theorem dX10_lacks_36 : decode cX10_lacks 36 = .ok (.isub, 1) := by decide +kernel
theorem dX10_lacks_37 : decode cX10_lacks 37 = .ok (.invokestatic 75, 3) := by decide +kernel
theorem dX10_lacks_40 : decode cX10_lacks 40 = .ok (.ifCond .eq 7, 3) := by decide +kernel
theorem dX10_lacks_43 : decode cX10_lacks 43 = .ok (.iconst 0, 1) := by decide +kernel
theorem dX10_lacks_44 : decode cX10_lacks 44 = .ok (.goto 4, 3) := by decide +kernel
theorem dX10_lacks_47 : decode cX10_lacks 47 = .ok (.iconst 2, 1) := by decide +kernel
theorem dX10_lacks_48 : decode cX10_lacks 48 = .ok (.ireturn, 1) := by decide +kernel
theorem dX10_put_0 : decode cX10_put 0 = .ok (.iload_n 1, 1) := by decide +kernel
theorem dX10_put_1 : decode cX10_put 1 = .ok (.invokestatic 197, 3) := by decide +kernel
theorem dX10_put_4 : decode cX10_put 4 = .ok (.ifCond .eq 12, 3) := by decide +kernel
theorem dX10_put_7 : decode cX10_put 7 = .ok (.iload_n 2, 1) := by decide +kernel
theorem dX10_put_8 : decode cX10_put 8 = .ok (.iconst 0, 1) := by decide +kernel
theorem dX10_put_9 : decode cX10_put 9 = .ok (.iconst 2, 1) := by decide +kernel
theorem dX10_put_10 : decode cX10_put 10 = .ok (.invokestatic 75, 3) := by decide +kernel
theorem dX10_put_13 : decode cX10_put 13 = .ok (.ifCond .ne 6, 3) := by decide +kernel
theorem dX10_put_16 : decode cX10_put 16 = .ok (.bipush (-2), 2) := by decide +kernel
theorem dX10_put_18 : decode cX10_put 18 = .ok (.ireturn, 1) := by decide +kernel
theorem dX10_put_19 : decode cX10_put 19 = .ok (.aload_n 0, 1) := by decide +kernel
theorem dX10_put_20 : decode cX10_put 20 = .ok (.iload_n 1, 1) := by decide +kernel
theorem dX10_put_21 : decode cX10_put 21 = .ok (.iload_n 2, 1) := by decide +kernel
theorem dX10_put_22 : decode cX10_put 22 = .ok (.iload_n 3, 1) := by decide +kernel
theorem dX10_put_23 : decode cX10_put 23 = .ok (.invokevirtual 203, 3) := by decide +kernel
theorem dX10_put_26 : decode cX10_put 26 = .ok (.istore 5, 2) := by decide +kernel
theorem dX10_put_28 : decode cX10_put 28 = .ok (.iload 5, 2) := by decide +kernel
theorem dX10_put_30 : decode cX10_put 30 = .ok (.ifCond .le 10, 3) := by decide +kernel
theorem dX10_put_33 : decode cX10_put 33 = .ok (.aload_n 0, 1) := by decide +kernel
theorem dX10_put_34 : decode cX10_put 34 = .ok (.iload 5, 2) := by decide +kernel
theorem dX10_put_36 : decode cX10_put 36 = .ok (.invokevirtual 200, 3) := by decide +kernel
theorem dX10_put_39 : decode cX10_put 39 = .ok (.ireturn, 1) := by decide +kernel
theorem dX10_put_40 : decode cX10_put 40 = .ok (.aload_n 0, 1) := by decide +kernel
theorem dX10_put_41 : decode cX10_put 41 = .ok (.getfield 66, 3) := by decide +kernel
theorem dX10_put_44 : decode cX10_put 44 = .ok (.sipush 240, 3) := by decide +kernel
theorem dX10_put_47 : decode cX10_put 47 = .ok (.iload_n 1, 1) := by decide +kernel
theorem dX10_put_48 : decode cX10_put 48 = .ok (.imul, 1) := by decide +kernel
theorem dX10_put_49 : decode cX10_put 49 = .ok (.iload_n 3, 1) := by decide +kernel
theorem dX10_put_50 : decode cX10_put 50 = .ok (.iadd, 1) := by decide +kernel
theorem dX10_put_51 : decode cX10_put 51 = .ok (.iload_n 2, 1) := by decide +kernel
theorem dX10_put_52 : decode cX10_put 52 = .ok (.ifCond .ne 9, 3) := by decide +kernel
theorem dX10_put_55 : decode cX10_put 55 = .ok (.iload 4, 2) := by decide +kernel
theorem dX10_put_57 : decode cX10_put 57 = .ok (.i2b, 1) := by decide +kernel
theorem dX10_put_58 : decode cX10_put 58 = .ok (.goto 16, 3) := by decide +kernel
theorem dX10_put_61 : decode cX10_put 61 = .ok (.iload_n 2, 1) := by decide +kernel
theorem dX10_put_62 : decode cX10_put 62 = .ok (.iconst 1, 1) := by decide +kernel
theorem dX10_put_63 : decode cX10_put 63 = .ok (.if_icmp .ne 9, 3) := by decide +kernel
theorem dX10_put_66 : decode cX10_put 66 = .ok (.iload 4, 2) := by decide +kernel
theorem dX10_put_68 : decode cX10_put 68 = .ok (.i2s, 1) := by decide +kernel
theorem dX10_put_69 : decode cX10_put 69 = .ok (.goto 5, 3) := by decide +kernel
theorem dX10_put_72 : decode cX10_put 72 = .ok (.iload 4, 2) := by decide +kernel
theorem dX10_put_74 : decode cX10_put 74 = .ok (.iastore, 1) := by decide +kernel
theorem dX10_put_75 : decode cX10_put 75 = .ok (.iconst 1, 1) := by decide +kernel
theorem dX10_put_76 : decode cX10_put 76 = .ok (.ireturn, 1) := by decide +kernel
theorem dX10_get_0 : decode cX10_get 0 = .ok (.iload_n 1, 1) := by decide +kernel
theorem dX10_get_1 : decode cX10_get 1 = .ok (.invokestatic 197, 3) := by decide +kernel
theorem dX10_get_4 : decode cX10_get 4 = .ok (.ifCond .eq 12, 3) := by decide +kernel
theorem dX10_get_7 : decode cX10_get 7 = .ok (.iload_n 2, 1) := by decide +kernel
theorem dX10_get_8 : decode cX10_get 8 = .ok (.iconst 0, 1) := by decide +kernel
theorem dX10_get_9 : decode cX10_get 9 = .ok (.iconst 2, 1) := by decide +kernel
theorem dX10_get_10 : decode cX10_get 10 = .ok (.invokestatic 75, 3) := by decide +kernel
theorem dX10_get_13 : decode cX10_get 13 = .ok (.ifCond .ne 6, 3) := by decide +kernel
theorem dX10_get_16 : decode cX10_get 16 = .ok (.ldc 206, 2) := by decide +kernel
theorem dX10_get_18 : decode cX10_get 18 = .ok (.ireturn, 1) := by decide +kernel
theorem dX10_get_19 : decode cX10_get 19 = .ok (.aload_n 0, 1) := by decide +kernel
theorem dX10_get_20 : decode cX10_get 20 = .ok (.iload_n 1, 1) := by decide +kernel
theorem dX10_get_21 : decode cX10_get 21 = .ok (.iload_n 2, 1) := by decide +kernel
theorem dX10_get_22 : decode cX10_get 22 = .ok (.iload_n 3, 1) := by decide +kernel
theorem dX10_get_23 : decode cX10_get 23 = .ok (.invokevirtual 203, 3) := by decide +kernel
theorem dX10_get_26 : decode cX10_get 26 = .ok (.istore 4, 2) := by decide +kernel
theorem dX10_get_28 : decode cX10_get 28 = .ok (.iload 4, 2) := by decide +kernel
theorem dX10_get_30 : decode cX10_get 30 = .ok (.ifCond .le 12, 3) := by decide +kernel
theorem dX10_get_33 : decode cX10_get 33 = .ok (.aload_n 0, 1) := by decide +kernel
theorem dX10_get_34 : decode cX10_get 34 = .ok (.iload 4, 2) := by decide +kernel
theorem dX10_get_36 : decode cX10_get 36 = .ok (.putfield 194, 3) := by decide +kernel
theorem dX10_get_39 : decode cX10_get 39 = .ok (.ldc 206, 2) := by decide +kernel
theorem dX10_get_41 : decode cX10_get 41 = .ok (.ireturn, 1) := by decide +kernel
theorem dX10_get_42 : decode cX10_get 42 = .ok (.aload_n 0, 1) := by decide +kernel
theorem dX10_get_43 : decode cX10_get 43 = .ok (.getfield 66, 3) := by decide +kernel
theorem dX10_get_46 : decode cX10_get 46 = .ok (.sipush 240, 3) := by decide +kernel
theorem dX10_get_49 : decode cX10_get 49 = .ok (.iload_n 1, 1) := by decide +kernel
theorem dX10_get_50 : decode cX10_get 50 = .ok (.imul, 1) := by decide +kernel
theorem dX10_get_51 : decode cX10_get 51 = .ok (.iload_n 3, 1) := by decide +kernel
theorem dX10_get_52 : decode cX10_get 52 = .ok (.iadd, 1) := by decide +kernel
theorem dX10_get_53 : decode cX10_get 53 = .ok (.iaload, 1) := by decide +kernel
theorem dX10_get_54 : decode cX10_get 54 = .ok (.ireturn, 1) := by decide +kernel
theorem dX10_copy_0 : decode cX10_copy 0 = .ok (.iload_n 1, 1) := by decide +kernel
theorem dX10_copy_1 : decode cX10_copy 1 = .ok (.invokestatic 197, 3) := by decide +kernel
theorem dX10_copy_4 : decode cX10_copy 4 = .ok (.ifCond .eq 10, 3) := by decide +kernel
theorem dX10_copy_7 : decode cX10_copy 7 = .ok (.iload_n 3, 1) := by decide +kernel
theorem dX10_copy_8 : decode cX10_copy 8 = .ok (.invokestatic 197, 3) := by decide +kernel
theorem dX10_copy_11 : decode cX10_copy 11 = .ok (.ifCond .ne 6, 3) := by decide +kernel
theorem dX10_copy_14 : decode cX10_copy 14 = .ok (.bipush (-2), 2) := by decide +kernel
theorem dX10_copy_16 : decode cX10_copy 16 = .ok (.ireturn, 1) := by decide +kernel
theorem dX10_copy_17 : decode cX10_copy 17 = .ok (.aload_n 0, 1) := by decide +kernel
theorem dX10_copy_18 : decode cX10_copy 18 = .ok (.getfield 56, 3) := by decide +kernel
theorem dX10_copy_21 : decode cX10_copy 21 = .ok (.iload_n 1, 1) := by decide +kernel
theorem dX10_copy_22 : decode cX10_copy 22 = .ok (.baload, 1) := by decide +kernel
theorem dX10_copy_23 : decode cX10_copy 23 = .ok (.ifCond .eq 12, 3) := by decide +kernel
theorem dX10_copy_26 : decode cX10_copy 26 = .ok (.aload_n 0, 1) := by decide +kernel
theorem dX10_copy_27 : decode cX10_copy 27 = .ok (.getfield 56, 3) := by decide +kernel
theorem dX10_copy_30 : decode cX10_copy 30 = .ok (.iload_n 3, 1) := by decide +kernel
theorem dX10_copy_31 : decode cX10_copy 31 = .ok (.baload, 1) := by decide +kernel
theorem dX10_copy_32 : decode cX10_copy 32 = .ok (.ifCond .ne 9, 3) := by decide +kernel
theorem dX10_copy_35 : decode cX10_copy 35 = .ok (.aload_n 0, 1) := by decide +kernel
theorem dX10_copy_36 : decode cX10_copy 36 = .ok (.iconst 1, 1) := by decide +kernel
theorem dX10_copy_37 : decode cX10_copy 37 = .ok (.invokevirtual 200, 3) := by decide +kernel
theorem dX10_copy_40 : decode cX10_copy 40 = .ok (.ireturn, 1) := by decide +kernel
theorem dX10_copy_41 : decode cX10_copy 41 = .ok (.aload_n 0, 1) := by decide +kernel
theorem dX10_copy_42 : decode cX10_copy 42 = .ok (.getfield 60, 3) := by decide +kernel
theorem dX10_copy_45 : decode cX10_copy 45 = .ok (.iload_n 1, 1) := by decide +kernel
theorem dX10_copy_46 : decode cX10_copy 46 = .ok (.iaload, 1) := by decide +kernel
theorem dX10_copy_47 : decode cX10_copy 47 = .ok (.aload_n 0, 1) := by decide +kernel
theorem dX10_copy_48 : decode cX10_copy 48 = .ok (.getfield 60, 3) := by decide +kernel
theorem dX10_copy_51 : decode cX10_copy 51 = .ok (.iload_n 3, 1) := by decide +kernel
theorem dX10_copy_52 : decode cX10_copy 52 = .ok (.iaload, 1) := by decide +kernel
theorem dX10_copy_53 : decode cX10_copy 53 = .ok (.if_icmp .eq 9, 3) := by decide +kernel
theorem dX10_copy_56 : decode cX10_copy 56 = .ok (.aload_n 0, 1) := by decide +kernel
theorem dX10_copy_57 : decode cX10_copy 57 = .ok (.iconst 4, 1) := by decide +kernel
theorem dX10_copy_58 : decode cX10_copy 58 = .ok (.invokevirtual 200, 3) := by decide +kernel
theorem dX10_copy_61 : decode cX10_copy 61 = .ok (.ireturn, 1) := by decide +kernel
theorem dX10_copy_62 : decode cX10_copy 62 = .ok (.iload_n 2, 1) := by decide +kernel
theorem dX10_copy_63 : decode cX10_copy 63 = .ok (.ifCond .lt 48, 3) := by decide +kernel
theorem dX10_copy_66 : decode cX10_copy 66 = .ok (.iload 4, 2) := by decide +kernel
theorem dX10_copy_68 : decode cX10_copy 68 = .ok (.ifCond .lt 43, 3) := by decide +kernel
theorem dX10_copy_71 : decode cX10_copy 71 = .ok (.iload 5, 2) := by decide +kernel
theorem dX10_copy_73 : decode cX10_copy 73 = .ok (.ifCond .lt 38, 3) := by decide +kernel
theorem dX10_copy_76 : decode cX10_copy 76 = .ok (.iload_n 2, 1) := by decide +kernel
theorem dX10_copy_77 : decode cX10_copy 77 = .ok (.i2l, 1) := by decide +kernel
theorem dX10_copy_78 : decode cX10_copy 78 = .ok (.iload 5, 2) := by decide +kernel
theorem dX10_copy_80 : decode cX10_copy 80 = .ok (.i2l, 1) := by decide +kernel
theorem dX10_copy_81 : decode cX10_copy 81 = .ok (.ladd, 1) := by decide +kernel
theorem dX10_copy_82 : decode cX10_copy 82 = .ok (.aload_n 0, 1) := by decide +kernel
theorem dX10_copy_83 : decode cX10_copy 83 = .ok (.getfield 63, 3) := by decide +kernel
theorem dX10_copy_86 : decode cX10_copy 86 = .ok (.iload_n 1, 1) := by decide +kernel
theorem dX10_copy_87 : decode cX10_copy 87 = .ok (.iaload, 1) := by decide +kernel
theorem dX10_copy_88 : decode cX10_copy 88 = .ok (.i2l, 1) := by decide +kernel
theorem dX10_copy_89 : decode cX10_copy 89 = .ok (.lcmp, 1) := by decide +kernel
theorem dX10_copy_90 : decode cX10_copy 90 = .ok (.ifCond .gt 21, 3) := by decide +kernel
theorem dX10_copy_93 : decode cX10_copy 93 = .ok (.iload 4, 2) := by decide +kernel
theorem dX10_copy_95 : decode cX10_copy 95 = .ok (.i2l, 1) := by decide +kernel
theorem dX10_copy_96 : decode cX10_copy 96 = .ok (.iload 5, 2) := by decide +kernel
theorem dX10_copy_98 : decode cX10_copy 98 = .ok (.i2l, 1) := by decide +kernel
theorem dX10_copy_99 : decode cX10_copy 99 = .ok (.ladd, 1) := by decide +kernel
theorem dX10_copy_100 : decode cX10_copy 100 = .ok (.aload_n 0, 1) := by decide +kernel
theorem dX10_copy_101 : decode cX10_copy 101 = .ok (.getfield 63, 3) := by decide +kernel
theorem dX10_copy_104 : decode cX10_copy 104 = .ok (.iload_n 3, 1) := by decide +kernel
theorem dX10_copy_105 : decode cX10_copy 105 = .ok (.iaload, 1) := by decide +kernel
theorem dX10_copy_106 : decode cX10_copy 106 = .ok (.i2l, 1) := by decide +kernel
theorem dX10_copy_107 : decode cX10_copy 107 = .ok (.lcmp, 1) := by decide +kernel
theorem dX10_copy_108 : decode cX10_copy 108 = .ok (.ifCond .le 9, 3) := by decide +kernel
theorem dX10_copy_111 : decode cX10_copy 111 = .ok (.aload_n 0, 1) := by decide +kernel
theorem dX10_copy_112 : decode cX10_copy 112 = .ok (.iconst 2, 1) := by decide +kernel
theorem dX10_copy_113 : decode cX10_copy 113 = .ok (.invokevirtual 200, 3) := by decide +kernel
theorem dX10_copy_116 : decode cX10_copy 116 = .ok (.ireturn, 1) := by decide +kernel
theorem dX10_copy_117 : decode cX10_copy 117 = .ok (.iconst 0, 1) := by decide +kernel
theorem dX10_copy_118 : decode cX10_copy 118 = .ok (.istore 6, 2) := by decide +kernel
theorem dX10_copy_120 : decode cX10_copy 120 = .ok (.iload 6, 2) := by decide +kernel
theorem dX10_copy_122 : decode cX10_copy 122 = .ok (.iload 5, 2) := by decide +kernel
theorem dX10_copy_124 : decode cX10_copy 124 = .ok (.if_icmp .ge 31, 3) := by decide +kernel
theorem dX10_copy_127 : decode cX10_copy 127 = .ok (.aload_n 0, 1) := by decide +kernel
theorem dX10_copy_128 : decode cX10_copy 128 = .ok (.getfield 69, 3) := by decide +kernel
theorem dX10_copy_131 : decode cX10_copy 131 = .ok (.iload 6, 2) := by decide +kernel
theorem dX10_copy_133 : decode cX10_copy 133 = .ok (.aload_n 0, 1) := by decide +kernel
theorem dX10_copy_134 : decode cX10_copy 134 = .ok (.getfield 66, 3) := by decide +kernel
theorem dX10_copy_137 : decode cX10_copy 137 = .ok (.sipush 240, 3) := by decide +kernel
theorem dX10_copy_140 : decode cX10_copy 140 = .ok (.iload_n 1, 1) := by decide +kernel
theorem dX10_copy_141 : decode cX10_copy 141 = .ok (.imul, 1) := by decide +kernel
theorem dX10_copy_142 : decode cX10_copy 142 = .ok (.iload_n 2, 1) := by decide +kernel
theorem dX10_copy_143 : decode cX10_copy 143 = .ok (.iadd, 1) := by decide +kernel
theorem dX10_copy_144 : decode cX10_copy 144 = .ok (.iload 6, 2) := by decide +kernel
theorem dX10_copy_146 : decode cX10_copy 146 = .ok (.iadd, 1) := by decide +kernel
theorem dX10_copy_147 : decode cX10_copy 147 = .ok (.iaload, 1) := by decide +kernel
theorem dX10_copy_148 : decode cX10_copy 148 = .ok (.iastore, 1) := by decide +kernel
theorem dX10_copy_149 : decode cX10_copy 149 = .ok (.iinc 6 1, 3) := by decide +kernel
theorem dX10_copy_152 : decode cX10_copy 152 = .ok (.goto (-32), 3) := by decide +kernel
theorem dX10_copy_155 : decode cX10_copy 155 = .ok (.iconst 0, 1) := by decide +kernel
theorem dX10_copy_156 : decode cX10_copy 156 = .ok (.istore 6, 2) := by decide +kernel
theorem dX10_copy_158 : decode cX10_copy 158 = .ok (.iload 6, 2) := by decide +kernel
theorem dX10_copy_160 : decode cX10_copy 160 = .ok (.iload 5, 2) := by decide +kernel
theorem dX10_copy_162 : decode cX10_copy 162 = .ok (.if_icmp .ge 32, 3) := by decide +kernel
theorem dX10_copy_165 : decode cX10_copy 165 = .ok (.aload_n 0, 1) := by decide +kernel
theorem dX10_copy_166 : decode cX10_copy 166 = .ok (.getfield 66, 3) := by decide +kernel
theorem dX10_copy_169 : decode cX10_copy 169 = .ok (.sipush 240, 3) := by decide +kernel
theorem dX10_copy_172 : decode cX10_copy 172 = .ok (.iload_n 3, 1) := by decide +kernel
theorem dX10_copy_173 : decode cX10_copy 173 = .ok (.imul, 1) := by decide +kernel
theorem dX10_copy_174 : decode cX10_copy 174 = .ok (.iload 4, 2) := by decide +kernel
theorem dX10_copy_176 : decode cX10_copy 176 = .ok (.iadd, 1) := by decide +kernel
theorem dX10_copy_177 : decode cX10_copy 177 = .ok (.iload 6, 2) := by decide +kernel
theorem dX10_copy_179 : decode cX10_copy 179 = .ok (.iadd, 1) := by decide +kernel
theorem dX10_copy_180 : decode cX10_copy 180 = .ok (.aload_n 0, 1) := by decide +kernel
theorem dX10_copy_181 : decode cX10_copy 181 = .ok (.getfield 69, 3) := by decide +kernel
theorem dX10_copy_184 : decode cX10_copy 184 = .ok (.iload 6, 2) := by decide +kernel
theorem dX10_copy_186 : decode cX10_copy 186 = .ok (.iaload, 1) := by decide +kernel
theorem dX10_copy_187 : decode cX10_copy 187 = .ok (.iastore, 1) := by decide +kernel
theorem dX10_copy_188 : decode cX10_copy 188 = .ok (.iinc 6 1, 3) := by decide +kernel
theorem dX10_copy_191 : decode cX10_copy 191 = .ok (.goto (-33), 3) := by decide +kernel
theorem dX10_copy_194 : decode cX10_copy 194 = .ok (.iconst 1, 1) := by decide +kernel
theorem dX10_copy_195 : decode cX10_copy 195 = .ok (.ireturn, 1) := by decide +kernel
theorem dX10_count_0 : decode cX10_count 0 = .ok (.iload_n 1, 1) := by decide +kernel
theorem dX10_count_1 : decode cX10_count 1 = .ok (.tableswitch 94 0 6 #[43, 48, 53, 58, 79, 84, 89], 43) := by decide +kernel
theorem dX10_count_44 : decode cX10_count 44 = .ok (.aload_n 0, 1) := by decide +kernel
theorem dX10_count_45 : decode cX10_count 45 = .ok (.getfield 72, 3) := by decide +kernel
theorem dX10_count_48 : decode cX10_count 48 = .ok (.ireturn, 1) := by decide +kernel
theorem dX10_count_49 : decode cX10_count 49 = .ok (.aload_n 0, 1) := by decide +kernel
theorem dX10_count_50 : decode cX10_count 50 = .ok (.getfield 16, 3) := by decide +kernel
theorem dX10_count_53 : decode cX10_count 53 = .ok (.ireturn, 1) := by decide +kernel
theorem dX10_count_54 : decode cX10_count 54 = .ok (.aload_n 0, 1) := by decide +kernel
theorem dX10_count_55 : decode cX10_count 55 = .ok (.getfield 95, 3) := by decide +kernel
theorem dX10_count_58 : decode cX10_count 58 = .ok (.ireturn, 1) := by decide +kernel
theorem dX10_count_59 : decode cX10_count 59 = .ok (.aload_n 0, 1) := by decide +kernel
theorem dX10_count_60 : decode cX10_count 60 = .ok (.invokevirtual 118, 3) := by decide +kernel
theorem dX10_count_63 : decode cX10_count 63 = .ok (.aload_n 0, 1) := by decide +kernel
theorem dX10_count_64 : decode cX10_count 64 = .ok (.getfield 98, 3) := by decide +kernel
theorem dX10_count_67 : decode cX10_count 67 = .ok (.iconst (-1), 1) := by decide +kernel
theorem dX10_count_68 : decode cX10_count 68 = .ok (.if_icmp .eq 7, 3) := by decide +kernel
theorem dX10_count_71 : decode cX10_count 71 = .ok (.iconst 0, 1) := by decide +kernel
theorem dX10_count_72 : decode cX10_count 72 = .ok (.goto 7, 3) := by decide +kernel
theorem dX10_count_75 : decode cX10_count 75 = .ok (.aload_n 0, 1) := by decide +kernel
theorem dX10_count_76 : decode cX10_count 76 = .ok (.getfield 108, 3) := by decide +kernel
theorem dX10_count_79 : decode cX10_count 79 = .ok (.ireturn, 1) := by decide +kernel
theorem dX10_count_80 : decode cX10_count 80 = .ok (.aload_n 0, 1) := by decide +kernel
theorem dX10_count_81 : decode cX10_count 81 = .ok (.getfield 184, 3) := by decide +kernel
theorem dX10_count_84 : decode cX10_count 84 = .ok (.ireturn, 1) := by decide +kernel
theorem dX10_count_85 : decode cX10_count 85 = .ok (.aload_n 0, 1) := by decide +kernel
theorem dX10_count_86 : decode cX10_count 86 = .ok (.getfield 191, 3) := by decide +kernel
theorem dX10_count_89 : decode cX10_count 89 = .ok (.ireturn, 1) := by decide +kernel
theorem dX10_count_90 : decode cX10_count 90 = .ok (.aload_n 0, 1) := by decide +kernel
theorem dX10_count_91 : decode cX10_count 91 = .ok (.getfield 194, 3) := by decide +kernel
theorem dX10_count_94 : decode cX10_count 94 = .ok (.ireturn, 1) := by decide +kernel
theorem dX10_count_95 : decode cX10_count 95 = .ok (.bipush (-2), 2) := by decide +kernel
theorem dX10_count_97 : decode cX10_count 97 = .ok (.ireturn, 1) := by decide +kernel
theorem dX10_digest_0 : decode cX10_digest 0 = .ok (.ldc2_w 207, 3) := by decide +kernel
theorem dX10_digest_3 : decode cX10_digest 3 = .ok (.lstore_n 1, 1) := by decide +kernel
theorem dX10_digest_4 : decode cX10_digest 4 = .ok (.iconst 0, 1) := by decide +kernel
theorem dX10_digest_5 : decode cX10_digest 5 = .ok (.istore_n 3, 1) := by decide +kernel
theorem dX10_digest_6 : decode cX10_digest 6 = .ok (.iload_n 3, 1) := by decide +kernel
theorem dX10_digest_7 : decode cX10_digest 7 = .ok (.bipush 6, 2) := by decide +kernel
theorem dX10_digest_9 : decode cX10_digest 9 = .ok (.if_icmp .ge 22, 3) := by decide +kernel
theorem dX10_digest_12 : decode cX10_digest 12 = .ok (.ldc2_w 209, 3) := by decide +kernel
theorem dX10_digest_15 : decode cX10_digest 15 = .ok (.lload_n 1, 1) := by decide +kernel
theorem dX10_digest_16 : decode cX10_digest 16 = .ok (.lmul, 1) := by decide +kernel
theorem dX10_digest_17 : decode cX10_digest 17 = .ok (.aload_n 0, 1) := by decide +kernel
theorem dX10_digest_18 : decode cX10_digest 18 = .ok (.iload_n 3, 1) := by decide +kernel
theorem dX10_digest_19 : decode cX10_digest 19 = .ok (.invokevirtual 211, 3) := by decide +kernel
theorem dX10_digest_22 : decode cX10_digest 22 = .ok (.i2l, 1) := by decide +kernel
theorem dX10_digest_23 : decode cX10_digest 23 = .ok (.ladd, 1) := by decide +kernel
theorem dX10_digest_24 : decode cX10_digest 24 = .ok (.lstore_n 1, 1) := by decide +kernel
theorem dX10_digest_25 : decode cX10_digest 25 = .ok (.iinc 3 1, 3) := by decide +kernel
theorem dX10_digest_28 : decode cX10_digest 28 = .ok (.goto (-22), 3) := by decide +kernel
theorem dX10_digest_31 : decode cX10_digest 31 = .ok (.iconst 0, 1) := by decide +kernel
theorem dX10_digest_32 : decode cX10_digest 32 = .ok (.istore_n 3, 1) := by decide +kernel
theorem dX10_digest_33 : decode cX10_digest 33 = .ok (.iload_n 3, 1) := by decide +kernel
theorem dX10_digest_34 : decode cX10_digest 34 = .ok (.aload_n 0, 1) := by decide +kernel
theorem dX10_digest_35 : decode cX10_digest 35 = .ok (.getfield 72, 3) := by decide +kernel
theorem dX10_digest_38 : decode cX10_digest 38 = .ok (.if_icmp .ge 23, 3) := by decide +kernel
theorem dX10_digest_41 : decode cX10_digest 41 = .ok (.ldc2_w 209, 3) := by decide +kernel
theorem dX10_digest_44 : decode cX10_digest 44 = .ok (.lload_n 1, 1) := by decide +kernel
theorem dX10_digest_45 : decode cX10_digest 45 = .ok (.lmul, 1) := by decide +kernel
theorem dX10_digest_46 : decode cX10_digest 46 = .ok (.aload_n 0, 1) := by decide +kernel
theorem dX10_digest_47 : decode cX10_digest 47 = .ok (.getfield 13, 3) := by decide +kernel
theorem dX10_digest_50 : decode cX10_digest 50 = .ok (.iload_n 3, 1) := by decide +kernel
theorem dX10_digest_51 : decode cX10_digest 51 = .ok (.iaload, 1) := by decide +kernel
theorem dX10_digest_52 : decode cX10_digest 52 = .ok (.i2l, 1) := by decide +kernel
theorem dX10_digest_53 : decode cX10_digest 53 = .ok (.ladd, 1) := by decide +kernel
theorem dX10_digest_54 : decode cX10_digest 54 = .ok (.lstore_n 1, 1) := by decide +kernel
theorem dX10_digest_55 : decode cX10_digest 55 = .ok (.iinc 3 1, 3) := by decide +kernel
theorem dX10_digest_58 : decode cX10_digest 58 = .ok (.goto (-25), 3) := by decide +kernel
theorem dX10_digest_61 : decode cX10_digest 61 = .ok (.iconst 0, 1) := by decide +kernel
theorem dX10_digest_62 : decode cX10_digest 62 = .ok (.istore_n 3, 1) := by decide +kernel
theorem dX10_digest_63 : decode cX10_digest 63 = .ok (.iload_n 3, 1) := by decide +kernel
theorem dX10_digest_64 : decode cX10_digest 64 = .ok (.aload_n 0, 1) := by decide +kernel
theorem dX10_digest_65 : decode cX10_digest 65 = .ok (.getfield 72, 3) := by decide +kernel
theorem dX10_digest_68 : decode cX10_digest 68 = .ok (.if_icmp .ge 54, 3) := by decide +kernel
theorem dX10_digest_71 : decode cX10_digest 71 = .ok (.iconst 0, 1) := by decide +kernel
theorem dX10_digest_72 : decode cX10_digest 72 = .ok (.istore 4, 2) := by decide +kernel
theorem dX10_digest_74 : decode cX10_digest 74 = .ok (.iload 4, 2) := by decide +kernel
theorem dX10_digest_76 : decode cX10_digest 76 = .ok (.iconst 4, 1) := by decide +kernel
theorem dX10_digest_77 : decode cX10_digest 77 = .ok (.if_icmp .ge 39, 3) := by decide +kernel
theorem dX10_digest_80 : decode cX10_digest 80 = .ok (.ldc2_w 209, 3) := by decide +kernel
theorem dX10_digest_83 : decode cX10_digest 83 = .ok (.lload_n 1, 1) := by decide +kernel
theorem dX10_digest_84 : decode cX10_digest 84 = .ok (.lmul, 1) := by decide +kernel
theorem dX10_digest_85 : decode cX10_digest 85 = .ok (.aload_n 0, 1) := by decide +kernel
theorem dX10_digest_86 : decode cX10_digest 86 = .ok (.iload_n 3, 1) := by decide +kernel
theorem dX10_digest_87 : decode cX10_digest 87 = .ok (.iload 4, 2) := by decide +kernel
theorem dX10_digest_89 : decode cX10_digest 89 = .ok (.invokevirtual 88, 3) := by decide +kernel
theorem dX10_digest_92 : decode cX10_digest 92 = .ok (.i2l, 1) := by decide +kernel
theorem dX10_digest_93 : decode cX10_digest 93 = .ok (.ladd, 1) := by decide +kernel
theorem dX10_digest_94 : decode cX10_digest 94 = .ok (.lstore_n 1, 1) := by decide +kernel
theorem dX10_digest_95 : decode cX10_digest 95 = .ok (.ldc2_w 209, 3) := by decide +kernel
theorem dX10_digest_98 : decode cX10_digest 98 = .ok (.lload_n 1, 1) := by decide +kernel
theorem dX10_digest_99 : decode cX10_digest 99 = .ok (.lmul, 1) := by decide +kernel
theorem dX10_digest_100 : decode cX10_digest 100 = .ok (.aload_n 0, 1) := by decide +kernel
theorem dX10_digest_101 : decode cX10_digest 101 = .ok (.iload_n 3, 1) := by decide +kernel
theorem dX10_digest_102 : decode cX10_digest 102 = .ok (.iload 4, 2) := by decide +kernel
theorem dX10_digest_104 : decode cX10_digest 104 = .ok (.invokevirtual 92, 3) := by decide +kernel
theorem dX10_digest_107 : decode cX10_digest 107 = .ok (.i2l, 1) := by decide +kernel
theorem dX10_digest_108 : decode cX10_digest 108 = .ok (.ladd, 1) := by decide +kernel
theorem dX10_digest_109 : decode cX10_digest 109 = .ok (.lstore_n 1, 1) := by decide +kernel
theorem dX10_digest_110 : decode cX10_digest 110 = .ok (.iinc 4 1, 3) := by decide +kernel
theorem dX10_digest_113 : decode cX10_digest 113 = .ok (.goto (-39), 3) := by decide +kernel
theorem dX10_digest_116 : decode cX10_digest 116 = .ok (.iinc 3 1, 3) := by decide +kernel
theorem dX10_digest_119 : decode cX10_digest 119 = .ok (.goto (-56), 3) := by decide +kernel
theorem dX10_digest_122 : decode cX10_digest 122 = .ok (.ldc2_w 209, 3) := by decide +kernel
theorem dX10_digest_125 : decode cX10_digest 125 = .ok (.lload_n 1, 1) := by decide +kernel
theorem dX10_digest_126 : decode cX10_digest 126 = .ok (.lmul, 1) := by decide +kernel
theorem dX10_digest_127 : decode cX10_digest 127 = .ok (.aload_n 0, 1) := by decide +kernel
theorem dX10_digest_128 : decode cX10_digest 128 = .ok (.invokevirtual 214, 3) := by decide +kernel
theorem dX10_digest_131 : decode cX10_digest 131 = .ok (.i2l, 1) := by decide +kernel
theorem dX10_digest_132 : decode cX10_digest 132 = .ok (.ladd, 1) := by decide +kernel
theorem dX10_digest_133 : decode cX10_digest 133 = .ok (.lstore_n 1, 1) := by decide +kernel
theorem dX10_digest_134 : decode cX10_digest 134 = .ok (.ldc2_w 209, 3) := by decide +kernel
theorem dX10_digest_137 : decode cX10_digest 137 = .ok (.lload_n 1, 1) := by decide +kernel
theorem dX10_digest_138 : decode cX10_digest 138 = .ok (.lmul, 1) := by decide +kernel
theorem dX10_digest_139 : decode cX10_digest 139 = .ok (.aload_n 0, 1) := by decide +kernel
theorem dX10_digest_140 : decode cX10_digest 140 = .ok (.invokevirtual 217, 3) := by decide +kernel
theorem dX10_digest_143 : decode cX10_digest 143 = .ok (.i2l, 1) := by decide +kernel
theorem dX10_digest_144 : decode cX10_digest 144 = .ok (.ladd, 1) := by decide +kernel
theorem dX10_digest_145 : decode cX10_digest 145 = .ok (.lreturn, 1) := by decide +kernel

/-! ===== code tables ===== -/
def cd_X9_player : sv_Cd := [(0, o_il 1 1),
  (1, o_ic 0 2),
  (2, o_ic 511 5),
  (5, o_sI m_X9_within 3 8),
  (8, o_if (fun x => x = 0) 11 14),
  (11, o_ic (-2) 13),
  (13, o_ir),
  (14, o_al 0 15),
  (15, o_gR 0 9 18),
  (18, o_gI 9 4 21),
  (21, o_ic 24 23),
  (23, o_ic2 (fun x y => y ≤ x) 37 26),
  (26, o_al 0 27),
  (27, o_gR 0 9 30),
  (30, o_il 1 31),
  (31, o_vI m_X6_addPlayer 1 9 34),
  (34, o_go 39),
  (37, o_ic (-4) 39),
  (39, o_ir)]
set_option maxRecDepth 20000 in
theorem sn_X9_player : ∀ q ∈ cd_X9_player, sv_Snd m_X9_player q.1 q.2 := by
  unfold cd_X9_player
  refine List.forall_mem_cons.mpr ⟨s_iload_n dX9_player_0 rfl, ?_⟩
  refine List.forall_mem_cons.mpr ⟨s_iconst dX9_player_1 (by decide), ?_⟩
  refine List.forall_mem_cons.mpr ⟨s_sipush dX9_player_2 (by decide), ?_⟩
  refine List.forall_mem_cons.mpr ⟨s_callSI ca_X9_within ml_X9_73 st_X9_within ⟨(Nat.le_of_ble_eq_true rfl), (Nat.le_of_ble_eq_true rfl)⟩ dX9_player_5, ?_⟩
  refine List.forall_mem_cons.mpr ⟨s_if_ne dX9_player_8 (by decide), ?_⟩
  refine List.forall_mem_cons.mpr ⟨s_bipush dX9_player_11 (by decide), ?_⟩
  refine List.forall_mem_cons.mpr ⟨s_ireturn dX9_player_13 rfl, ?_⟩
  refine List.forall_mem_cons.mpr ⟨s_aload_n dX9_player_14 rfl, ?_⟩
  refine List.forall_mem_cons.mpr ⟨s_getR (j := 1) cf_X9 (Nat.le_of_ble_eq_true rfl) rfl fl_X9_21 dX9_player_15, ?_⟩
  refine List.forall_mem_cons.mpr ⟨s_getIN cf_X6 (Nat.le_of_ble_eq_true rfl) rfl fl_X9_77 dX9_player_18, ?_⟩
  refine List.forall_mem_cons.mpr ⟨s_bipush dX9_player_21 (by decide), ?_⟩
  refine List.forall_mem_cons.mpr ⟨s_icmp_ge dX9_player_23 (by decide), ?_⟩
  refine List.forall_mem_cons.mpr ⟨s_aload_n dX9_player_26 rfl, ?_⟩
  refine List.forall_mem_cons.mpr ⟨s_getR (j := 1) cf_X9 (Nat.le_of_ble_eq_true rfl) rfl fl_X9_21 dX9_player_27, ?_⟩
  refine List.forall_mem_cons.mpr ⟨s_iload_n dX9_player_30 rfl, ?_⟩
  refine List.forall_mem_cons.mpr ⟨s_callVI cf_X6 rfl ca_X6_addPlayer ml_X9_81 im_X6_addPlayer se_X6_addPlayer ⟨(Nat.le_of_ble_eq_true rfl), (Nat.le_of_ble_eq_true rfl)⟩ dX9_player_31, ?_⟩
  refine List.forall_mem_cons.mpr ⟨s_goto dX9_player_34 (by decide), ?_⟩
  refine List.forall_mem_cons.mpr ⟨s_bipush dX9_player_37 (by decide), ?_⟩
  refine List.forall_mem_cons.mpr ⟨s_ireturn dX9_player_39 rfl, ?_⟩
  exact fun _ h => absurd h List.not_mem_nil
def cd_X9_jurors : sv_Cd := [(0, o_il 1 1),
  (1, o_ic 1 2),
  (2, o_ic 9 4),
  (4, o_sI m_X9_within 3 7),
  (7, o_if (fun x => x = 0) 10 13),
  (10, o_ic (-2) 12),
  (12, o_ir),
  (13, o_al 0 14),
  (14, o_gR 0 9 17),
  (17, o_gI 9 5 20),
  (20, o_is 2 21),
  (21, o_al 0 22),
  (22, o_gR 0 9 25),
  (25, o_il 1 26),
  (26, o_pI 9 5 29),
  (29, o_il 2 30),
  (30, o_ir)]
set_option maxRecDepth 20000 in
theorem sn_X9_jurors : ∀ q ∈ cd_X9_jurors, sv_Snd m_X9_jurors q.1 q.2 := by
  unfold cd_X9_jurors
  refine List.forall_mem_cons.mpr ⟨s_iload_n dX9_jurors_0 rfl, ?_⟩
  refine List.forall_mem_cons.mpr ⟨s_iconst dX9_jurors_1 (by decide), ?_⟩
  refine List.forall_mem_cons.mpr ⟨s_bipush dX9_jurors_2 (by decide), ?_⟩
  refine List.forall_mem_cons.mpr ⟨s_callSI ca_X9_within ml_X9_73 st_X9_within ⟨(Nat.le_of_ble_eq_true rfl), (Nat.le_of_ble_eq_true rfl)⟩ dX9_jurors_4, ?_⟩
  refine List.forall_mem_cons.mpr ⟨s_if_ne dX9_jurors_7 (by decide), ?_⟩
  refine List.forall_mem_cons.mpr ⟨s_bipush dX9_jurors_10 (by decide), ?_⟩
  refine List.forall_mem_cons.mpr ⟨s_ireturn dX9_jurors_12 rfl, ?_⟩
  refine List.forall_mem_cons.mpr ⟨s_aload_n dX9_jurors_13 rfl, ?_⟩
  refine List.forall_mem_cons.mpr ⟨s_getR (j := 1) cf_X9 (Nat.le_of_ble_eq_true rfl) rfl fl_X9_21 dX9_jurors_14, ?_⟩
  refine List.forall_mem_cons.mpr ⟨s_getIN cf_X6 (Nat.le_of_ble_eq_true rfl) rfl fl_X9_85 dX9_jurors_17, ?_⟩
  refine List.forall_mem_cons.mpr ⟨s_istore_n dX9_jurors_20 rfl (Nat.le_of_ble_eq_true rfl), ?_⟩
  refine List.forall_mem_cons.mpr ⟨s_aload_n dX9_jurors_21 rfl, ?_⟩
  refine List.forall_mem_cons.mpr ⟨s_getR (j := 1) cf_X9 (Nat.le_of_ble_eq_true rfl) rfl fl_X9_21 dX9_jurors_22, ?_⟩
  refine List.forall_mem_cons.mpr ⟨s_iload_n dX9_jurors_25 rfl, ?_⟩
  refine List.forall_mem_cons.mpr ⟨s_putN cf_X6 (Nat.le_of_ble_eq_true rfl) rfl fl_X9_85 rfl (tyX6_ok 5 (Nat.le_of_ble_eq_true rfl)) dX9_jurors_26, ?_⟩
  refine List.forall_mem_cons.mpr ⟨s_iload_n dX9_jurors_29 rfl, ?_⟩
  refine List.forall_mem_cons.mpr ⟨s_ireturn dX9_jurors_30 rfl, ?_⟩
  exact fun _ h => absurd h List.not_mem_nil
def cd_X9_draw : sv_Cd := [(0, o_al 0 1),
  (1, o_gR 0 9 4),
  (4, o_il 1 5),
  (5, o_vV m_X6_shuffle 1 9 8),
  (8, o_al 0 9),
  (9, o_gR 0 9 12),
  (12, o_gI 9 4 15),
  (15, o_if (fun x => x ≤ 0) 30 18),
  (18, o_al 0 19),
  (19, o_gR 0 9 22),
  (22, o_gR 9 11 25),
  (25, o_ic 0 26),
  (26, o_ia 27),
  (27, o_go 31),
  (30, o_ic (-1) 31),
  (31, o_ir)]
set_option maxRecDepth 20000 in
theorem sn_X9_draw : ∀ q ∈ cd_X9_draw, sv_Snd m_X9_draw q.1 q.2 := by
  unfold cd_X9_draw
  refine List.forall_mem_cons.mpr ⟨s_aload_n dX9_draw_0 rfl, ?_⟩
  refine List.forall_mem_cons.mpr ⟨s_getR (j := 1) cf_X9 (Nat.le_of_ble_eq_true rfl) rfl fl_X9_21 dX9_draw_1, ?_⟩
  refine List.forall_mem_cons.mpr ⟨s_iload_n dX9_draw_4 rfl, ?_⟩
  refine List.forall_mem_cons.mpr ⟨s_callVV cf_X6 rfl ca_X6_shuffle ml_X9_88 im_X6_shuffle se_X6_shuffle ⟨(Nat.le_of_ble_eq_true rfl), (Nat.le_of_ble_eq_true rfl)⟩ dX9_draw_5, ?_⟩
  refine List.forall_mem_cons.mpr ⟨s_aload_n dX9_draw_8 rfl, ?_⟩
  refine List.forall_mem_cons.mpr ⟨s_getR (j := 1) cf_X9 (Nat.le_of_ble_eq_true rfl) rfl fl_X9_21 dX9_draw_9, ?_⟩
  refine List.forall_mem_cons.mpr ⟨s_getIN cf_X6 (Nat.le_of_ble_eq_true rfl) rfl fl_X9_77 dX9_draw_12, ?_⟩
  refine List.forall_mem_cons.mpr ⟨s_if_le dX9_draw_15 (by decide), ?_⟩
  refine List.forall_mem_cons.mpr ⟨s_aload_n dX9_draw_18 rfl, ?_⟩
  refine List.forall_mem_cons.mpr ⟨s_getR (j := 1) cf_X9 (Nat.le_of_ble_eq_true rfl) rfl fl_X9_21 dX9_draw_19, ?_⟩
  refine List.forall_mem_cons.mpr ⟨s_getRN (j := 2) cf_X6 (Nat.le_of_ble_eq_true rfl) rfl fl_X9_92 dX9_draw_22, ?_⟩
  refine List.forall_mem_cons.mpr ⟨s_iconst dX9_draw_25 (by decide), ?_⟩
  refine List.forall_mem_cons.mpr ⟨s_iaload dX9_draw_26, ?_⟩
  refine List.forall_mem_cons.mpr ⟨s_goto dX9_draw_27 (by decide), ?_⟩
  refine List.forall_mem_cons.mpr ⟨s_iconst dX9_draw_30 (by decide), ?_⟩
  refine List.forall_mem_cons.mpr ⟨s_ireturn dX9_draw_31 rfl, ?_⟩
  exact fun _ h => absurd h List.not_mem_nil
def cd_X9_order : sv_Cd := [(0, o_al 0 1),
  (1, o_il 1 2),
  (2, o_vI m_X9_isPlayer 1 0 5),
  (5, o_if (fun x => x = 0) 20 8),
  (8, o_al 0 9),
  (9, o_gR 0 9 12),
  (12, o_gR 9 11 15),
  (15, o_il 1 16),
  (16, o_ia 17),
  (17, o_go 22),
  (20, o_ic (-2) 22),
  (22, o_ir)]
set_option maxRecDepth 20000 in
theorem sn_X9_order : ∀ q ∈ cd_X9_order, sv_Snd m_X9_order q.1 q.2 := by
  unfold cd_X9_order
  refine List.forall_mem_cons.mpr ⟨s_aload_n dX9_order_0 rfl, ?_⟩
  refine List.forall_mem_cons.mpr ⟨s_iload_n dX9_order_1 rfl, ?_⟩
  refine List.forall_mem_cons.mpr ⟨s_callVI cf_X9 rfl ca_X9_isPlayer ml_X9_95 im_X9_isPlayer se_X9_isPlayer ⟨(Nat.le_of_ble_eq_true rfl), (Nat.le_of_ble_eq_true rfl)⟩ dX9_order_2, ?_⟩
  refine List.forall_mem_cons.mpr ⟨s_if_eq dX9_order_5 (by decide), ?_⟩
  refine List.forall_mem_cons.mpr ⟨s_aload_n dX9_order_8 rfl, ?_⟩
  refine List.forall_mem_cons.mpr ⟨s_getR (j := 1) cf_X9 (Nat.le_of_ble_eq_true rfl) rfl fl_X9_21 dX9_order_9, ?_⟩
  refine List.forall_mem_cons.mpr ⟨s_getRN (j := 2) cf_X6 (Nat.le_of_ble_eq_true rfl) rfl fl_X9_92 dX9_order_12, ?_⟩
  refine List.forall_mem_cons.mpr ⟨s_iload_n dX9_order_15 rfl, ?_⟩
  refine List.forall_mem_cons.mpr ⟨s_iaload dX9_order_16, ?_⟩
  refine List.forall_mem_cons.mpr ⟨s_goto dX9_order_17 (by decide), ?_⟩
  refine List.forall_mem_cons.mpr ⟨s_bipush dX9_order_20 (by decide), ?_⟩
  refine List.forall_mem_cons.mpr ⟨s_ireturn dX9_order_22 rfl, ?_⟩
  exact fun _ h => absurd h List.not_mem_nil
def cd_X9_votes : sv_Cd := [(0, o_al 0 1),
  (1, o_il 1 2),
  (2, o_vI m_X9_isPlayer 1 0 5),
  (5, o_if (fun x => x = 0) 24 8),
  (8, o_il 2 9),
  (9, o_sI m_X9_isRound 1 12),
  (12, o_if (fun x => x = 0) 24 15),
  (15, o_il 3 16),
  (16, o_ic 0 17),
  (17, o_ic 1 18),
  (18, o_sI m_X9_within 3 21),
  (21, o_if (fun x => x = 0) 24 27),
  (24, o_ic (-2) 26),
  (26, o_ir),
  (27, o_il 3 28),
  (28, o_if (fun x => x = 0) 31 43),
  (31, o_al 0 32),
  (32, o_gR 0 9 35),
  (35, o_il 1 36),
  (36, o_il 2 37),
  (37, o_vI m_X6_countingVotes 2 9 40),
  (40, o_go 52),
  (43, o_al 0 44),
  (44, o_gR 0 9 47),
  (47, o_il 1 48),
  (48, o_il 2 49),
  (49, o_vI m_X6_yesVotes 2 9 52),
  (52, o_ir)]
set_option maxRecDepth 20000 in
theorem sn_X9_votes : ∀ q ∈ cd_X9_votes, sv_Snd m_X9_votes q.1 q.2 := by
  unfold cd_X9_votes
  refine List.forall_mem_cons.mpr ⟨s_aload_n dX9_votes_0 rfl, ?_⟩
  refine List.forall_mem_cons.mpr ⟨s_iload_n dX9_votes_1 rfl, ?_⟩
  refine List.forall_mem_cons.mpr ⟨s_callVI cf_X9 rfl ca_X9_isPlayer ml_X9_95 im_X9_isPlayer se_X9_isPlayer ⟨(Nat.le_of_ble_eq_true rfl), (Nat.le_of_ble_eq_true rfl)⟩ dX9_votes_2, ?_⟩
  refine List.forall_mem_cons.mpr ⟨s_if_eq dX9_votes_5 (by decide), ?_⟩
  refine List.forall_mem_cons.mpr ⟨s_iload_n dX9_votes_8 rfl, ?_⟩
  refine List.forall_mem_cons.mpr ⟨s_callSI ca_X9_isRound ml_X9_99 st_X9_isRound ⟨(Nat.le_of_ble_eq_true rfl), (Nat.le_of_ble_eq_true rfl)⟩ dX9_votes_9, ?_⟩
  refine List.forall_mem_cons.mpr ⟨s_if_eq dX9_votes_12 (by decide), ?_⟩
  refine List.forall_mem_cons.mpr ⟨s_iload_n dX9_votes_15 rfl, ?_⟩
  refine List.forall_mem_cons.mpr ⟨s_iconst dX9_votes_16 (by decide), ?_⟩
  refine List.forall_mem_cons.mpr ⟨s_iconst dX9_votes_17 (by decide), ?_⟩
  refine List.forall_mem_cons.mpr ⟨s_callSI ca_X9_within ml_X9_73 st_X9_within ⟨(Nat.le_of_ble_eq_true rfl), (Nat.le_of_ble_eq_true rfl)⟩ dX9_votes_18, ?_⟩
  refine List.forall_mem_cons.mpr ⟨s_if_ne dX9_votes_21 (by decide), ?_⟩
  refine List.forall_mem_cons.mpr ⟨s_bipush dX9_votes_24 (by decide), ?_⟩
  refine List.forall_mem_cons.mpr ⟨s_ireturn dX9_votes_26 rfl, ?_⟩
  refine List.forall_mem_cons.mpr ⟨s_iload_n dX9_votes_27 rfl, ?_⟩
  refine List.forall_mem_cons.mpr ⟨s_if_ne dX9_votes_28 (by decide), ?_⟩
  refine List.forall_mem_cons.mpr ⟨s_aload_n dX9_votes_31 rfl, ?_⟩
  refine List.forall_mem_cons.mpr ⟨s_getR (j := 1) cf_X9 (Nat.le_of_ble_eq_true rfl) rfl fl_X9_21 dX9_votes_32, ?_⟩
  refine List.forall_mem_cons.mpr ⟨s_iload_n dX9_votes_35 rfl, ?_⟩
  refine List.forall_mem_cons.mpr ⟨s_iload_n dX9_votes_36 rfl, ?_⟩
  refine List.forall_mem_cons.mpr ⟨s_callVI cf_X6 rfl ca_X6_countingVotes ml_X9_102 im_X6_countingVotes se_X6_countingVotes ⟨(Nat.le_of_ble_eq_true rfl), (Nat.le_of_ble_eq_true rfl)⟩ dX9_votes_37, ?_⟩
  refine List.forall_mem_cons.mpr ⟨s_goto dX9_votes_40 (by decide), ?_⟩
  refine List.forall_mem_cons.mpr ⟨s_aload_n dX9_votes_43 rfl, ?_⟩
  refine List.forall_mem_cons.mpr ⟨s_getR (j := 1) cf_X9 (Nat.le_of_ble_eq_true rfl) rfl fl_X9_21 dX9_votes_44, ?_⟩
  refine List.forall_mem_cons.mpr ⟨s_iload_n dX9_votes_47 rfl, ?_⟩
  refine List.forall_mem_cons.mpr ⟨s_iload_n dX9_votes_48 rfl, ?_⟩
  refine List.forall_mem_cons.mpr ⟨s_callVI cf_X6 rfl ca_X6_yesVotes ml_X9_106 im_X6_yesVotes se_X6_yesVotes ⟨(Nat.le_of_ble_eq_true rfl), (Nat.le_of_ble_eq_true rfl)⟩ dX9_votes_49, ?_⟩
  refine List.forall_mem_cons.mpr ⟨s_ireturn dX9_votes_52 rfl, ?_⟩
  exact fun _ h => absurd h List.not_mem_nil
def cd_X9_type : sv_Cd := [(0, o_il 1 1),
  (1, o_ic 0 2),
  (2, o_ic 255 5),
  (5, o_sI m_X9_within 3 8),
  (8, o_if (fun x => x = 0) 11 14),
  (11, o_ic (-2) 13),
  (13, o_ir),
  (14, o_al 0 15),
  (15, o_gR 0 13 18),
  (18, o_gI 13 4 21),
  (21, o_ic 60 23),
  (23, o_ic2 (fun x y => y ≤ x) 37 26),
  (26, o_al 0 27),
  (27, o_gR 0 13 30),
  (30, o_il 1 31),
  (31, o_vI m_X0_append 1 13 34),
  (34, o_go 39),
  (37, o_ic (-4) 39),
  (39, o_ir)]
set_option maxRecDepth 20000 in
theorem sn_X9_type : ∀ q ∈ cd_X9_type, sv_Snd m_X9_type q.1 q.2 := by
  unfold cd_X9_type
  refine List.forall_mem_cons.mpr ⟨s_iload_n dX9_type_0 rfl, ?_⟩
  refine List.forall_mem_cons.mpr ⟨s_iconst dX9_type_1 (by decide), ?_⟩
  refine List.forall_mem_cons.mpr ⟨s_sipush dX9_type_2 (by decide), ?_⟩
  refine List.forall_mem_cons.mpr ⟨s_callSI ca_X9_within ml_X9_73 st_X9_within ⟨(Nat.le_of_ble_eq_true rfl), (Nat.le_of_ble_eq_true rfl)⟩ dX9_type_5, ?_⟩
  refine List.forall_mem_cons.mpr ⟨s_if_ne dX9_type_8 (by decide), ?_⟩
  refine List.forall_mem_cons.mpr ⟨s_bipush dX9_type_11 (by decide), ?_⟩
  refine List.forall_mem_cons.mpr ⟨s_ireturn dX9_type_13 rfl, ?_⟩
  refine List.forall_mem_cons.mpr ⟨s_aload_n dX9_type_14 rfl, ?_⟩
  refine List.forall_mem_cons.mpr ⟨s_getR (j := 2) cf_X9 (Nat.le_of_ble_eq_true rfl) rfl fl_X9_28 dX9_type_15, ?_⟩
  refine List.forall_mem_cons.mpr ⟨s_getIN cf_X0 (Nat.le_of_ble_eq_true rfl) rfl fl_X9_109 dX9_type_18, ?_⟩
  refine List.forall_mem_cons.mpr ⟨s_bipush dX9_type_21 (by decide), ?_⟩
  refine List.forall_mem_cons.mpr ⟨s_icmp_ge dX9_type_23 (by decide), ?_⟩
  refine List.forall_mem_cons.mpr ⟨s_aload_n dX9_type_26 rfl, ?_⟩
  refine List.forall_mem_cons.mpr ⟨s_getR (j := 2) cf_X9 (Nat.le_of_ble_eq_true rfl) rfl fl_X9_28 dX9_type_27, ?_⟩
  refine List.forall_mem_cons.mpr ⟨s_iload_n dX9_type_30 rfl, ?_⟩
  refine List.forall_mem_cons.mpr ⟨s_callVI cf_X0 rfl ca_X0_append ml_X9_112 im_X0_append se_X0_append ⟨(Nat.le_of_ble_eq_true rfl), (Nat.le_of_ble_eq_true rfl)⟩ dX9_type_31, ?_⟩
  refine List.forall_mem_cons.mpr ⟨s_goto dX9_type_34 (by decide), ?_⟩
  refine List.forall_mem_cons.mpr ⟨s_bipush dX9_type_37 (by decide), ?_⟩
  refine List.forall_mem_cons.mpr ⟨s_ireturn dX9_type_39 rfl, ?_⟩
  exact fun _ h => absurd h List.not_mem_nil
def cd_X9_repeal : sv_Cd := [(0, o_al 0 1),
  (1, o_gR 0 13 4),
  (4, o_vI m_X0_clear 0 13 7),
  (7, o_ir)]
set_option maxRecDepth 20000 in
theorem sn_X9_repeal : ∀ q ∈ cd_X9_repeal, sv_Snd m_X9_repeal q.1 q.2 := by
  unfold cd_X9_repeal
  refine List.forall_mem_cons.mpr ⟨s_aload_n dX9_repeal_0 rfl, ?_⟩
  refine List.forall_mem_cons.mpr ⟨s_getR (j := 2) cf_X9 (Nat.le_of_ble_eq_true rfl) rfl fl_X9_28 dX9_repeal_1, ?_⟩
  refine List.forall_mem_cons.mpr ⟨s_callVI cf_X0 rfl ca_X0_clear ml_X9_115 im_X0_clear se_X0_clear ⟨(Nat.le_of_ble_eq_true rfl), (Nat.le_of_ble_eq_true rfl)⟩ dX9_repeal_4, ?_⟩
  refine List.forall_mem_cons.mpr ⟨s_ireturn dX9_repeal_7 rfl, ?_⟩
  exact fun _ h => absurd h List.not_mem_nil
def cd_X9_fault : sv_Cd := [(0, o_al 0 1),
  (1, o_gR 0 13 4),
  (4, o_gI 13 6 7),
  (7, o_ir)]
set_option maxRecDepth 20000 in
theorem sn_X9_fault : ∀ q ∈ cd_X9_fault, sv_Snd m_X9_fault q.1 q.2 := by
  unfold cd_X9_fault
  refine List.forall_mem_cons.mpr ⟨s_aload_n dX9_fault_0 rfl, ?_⟩
  refine List.forall_mem_cons.mpr ⟨s_getR (j := 2) cf_X9 (Nat.le_of_ble_eq_true rfl) rfl fl_X9_28 dX9_fault_1, ?_⟩
  refine List.forall_mem_cons.mpr ⟨s_getIN cf_X0 (Nat.le_of_ble_eq_true rfl) rfl fl_X9_119 dX9_fault_4, ?_⟩
  refine List.forall_mem_cons.mpr ⟨s_ireturn dX9_fault_7 rfl, ?_⟩
  exact fun _ h => absurd h List.not_mem_nil
def cd_X9_law : sv_Cd := [(0, o_il 2 1),
  (1, o_ic 0 2),
  (2, o_ic 2 3),
  (3, o_sI m_X9_within 3 6),
  (6, o_if (fun x => x = 0) 9 12),
  (9, o_ic (-2) 11),
  (11, o_ir),
  (12, o_al 0 13),
  (13, o_il 1 14),
  (14, o_vI m_X9_refusalOfRound 1 0 17),
  (17, o_is 3 18),
  (18, o_il 3 19),
  (19, o_if (fun x => x = 0) 24 22),
  (22, o_il 3 23),
  (23, o_ir),
  (24, o_il 2 25),
  (25, o_if (fun x => x = 0) 28 38),
  (28, o_al 0 29),
  (29, o_gR 0 13 32),
  (32, o_gR 13 15 35),
  (35, o_il 1 36),
  (36, o_ia 37),
  (37, o_ir),
  (38, o_il 2 39),
  (39, o_ic 1 40),
  (40, o_ic2 (fun x y => x = y) 43 55),
  (43, o_al 0 44),
  (44, o_gR 0 13 47),
  (47, o_gR 13 16 50),
  (50, o_il 1 51),
  (51, o_ia 52),
  (52, o_go 64),
  (55, o_al 0 56),
  (56, o_gR 0 13 59),
  (59, o_gR 13 17 62),
  (62, o_il 1 63),
  (63, o_ia 64),
  (64, o_ir)]
set_option maxRecDepth 20000 in
theorem sn_X9_law : ∀ q ∈ cd_X9_law, sv_Snd m_X9_law q.1 q.2 := by
  unfold cd_X9_law
  refine List.forall_mem_cons.mpr ⟨s_iload_n dX9_law_0 rfl, ?_⟩
  refine List.forall_mem_cons.mpr ⟨s_iconst dX9_law_1 (by decide), ?_⟩
  refine List.forall_mem_cons.mpr ⟨s_iconst dX9_law_2 (by decide), ?_⟩
  refine List.forall_mem_cons.mpr ⟨s_callSI ca_X9_within ml_X9_73 st_X9_within ⟨(Nat.le_of_ble_eq_true rfl), (Nat.le_of_ble_eq_true rfl)⟩ dX9_law_3, ?_⟩
  refine List.forall_mem_cons.mpr ⟨s_if_ne dX9_law_6 (by decide), ?_⟩
  refine List.forall_mem_cons.mpr ⟨s_bipush dX9_law_9 (by decide), ?_⟩
  refine List.forall_mem_cons.mpr ⟨s_ireturn dX9_law_11 rfl, ?_⟩
  refine List.forall_mem_cons.mpr ⟨s_aload_n dX9_law_12 rfl, ?_⟩
  refine List.forall_mem_cons.mpr ⟨s_iload_n dX9_law_13 rfl, ?_⟩
  refine List.forall_mem_cons.mpr ⟨s_callVI cf_X9 rfl ca_X9_refusalOfRound ml_X9_122 im_X9_refusalOfRound se_X9_refusalOfRound ⟨(Nat.le_of_ble_eq_true rfl), (Nat.le_of_ble_eq_true rfl)⟩ dX9_law_14, ?_⟩
  refine List.forall_mem_cons.mpr ⟨s_istore_n dX9_law_17 rfl (Nat.le_of_ble_eq_true rfl), ?_⟩
  refine List.forall_mem_cons.mpr ⟨s_iload_n dX9_law_18 rfl, ?_⟩
  refine List.forall_mem_cons.mpr ⟨s_if_eq dX9_law_19 (by decide), ?_⟩
  refine List.forall_mem_cons.mpr ⟨s_iload_n dX9_law_22 rfl, ?_⟩
  refine List.forall_mem_cons.mpr ⟨s_ireturn dX9_law_23 rfl, ?_⟩
  refine List.forall_mem_cons.mpr ⟨s_iload_n dX9_law_24 rfl, ?_⟩
  refine List.forall_mem_cons.mpr ⟨s_if_ne dX9_law_25 (by decide), ?_⟩
  refine List.forall_mem_cons.mpr ⟨s_aload_n dX9_law_28 rfl, ?_⟩
  refine List.forall_mem_cons.mpr ⟨s_getR (j := 2) cf_X9 (Nat.le_of_ble_eq_true rfl) rfl fl_X9_28 dX9_law_29, ?_⟩
  refine List.forall_mem_cons.mpr ⟨s_getRN (j := 1) cf_X0 (Nat.le_of_ble_eq_true rfl) rfl fl_X9_125 dX9_law_32, ?_⟩
  refine List.forall_mem_cons.mpr ⟨s_iload_n dX9_law_35 rfl, ?_⟩
  refine List.forall_mem_cons.mpr ⟨s_iaload dX9_law_36, ?_⟩
  refine List.forall_mem_cons.mpr ⟨s_ireturn dX9_law_37 rfl, ?_⟩
  refine List.forall_mem_cons.mpr ⟨s_iload_n dX9_law_38 rfl, ?_⟩
  refine List.forall_mem_cons.mpr ⟨s_iconst dX9_law_39 (by decide), ?_⟩
  refine List.forall_mem_cons.mpr ⟨s_icmp_ne dX9_law_40 (by decide), ?_⟩
  refine List.forall_mem_cons.mpr ⟨s_aload_n dX9_law_43 rfl, ?_⟩
  refine List.forall_mem_cons.mpr ⟨s_getR (j := 2) cf_X9 (Nat.le_of_ble_eq_true rfl) rfl fl_X9_28 dX9_law_44, ?_⟩
  refine List.forall_mem_cons.mpr ⟨s_getRN (j := 2) cf_X0 (Nat.le_of_ble_eq_true rfl) rfl fl_X9_128 dX9_law_47, ?_⟩
  refine List.forall_mem_cons.mpr ⟨s_iload_n dX9_law_50 rfl, ?_⟩
  refine List.forall_mem_cons.mpr ⟨s_iaload dX9_law_51, ?_⟩
  refine List.forall_mem_cons.mpr ⟨s_goto dX9_law_52 (by decide), ?_⟩
  refine List.forall_mem_cons.mpr ⟨s_aload_n dX9_law_55 rfl, ?_⟩
  refine List.forall_mem_cons.mpr ⟨s_getR (j := 2) cf_X9 (Nat.le_of_ble_eq_true rfl) rfl fl_X9_28 dX9_law_56, ?_⟩
  refine List.forall_mem_cons.mpr ⟨s_getRN (j := 3) cf_X0 (Nat.le_of_ble_eq_true rfl) rfl fl_X9_131 dX9_law_59, ?_⟩
  refine List.forall_mem_cons.mpr ⟨s_iload_n dX9_law_62 rfl, ?_⟩
  refine List.forall_mem_cons.mpr ⟨s_iaload dX9_law_63, ?_⟩
  refine List.forall_mem_cons.mpr ⟨s_ireturn dX9_law_64 rfl, ?_⟩
  exact fun _ h => absurd h List.not_mem_nil
def cd_X9_advance : sv_Cd := [(0, o_al 0 1),
  (1, o_il 1 2),
  (2, o_vI m_X9_refusalOfRound 1 0 5),
  (5, o_is 2 6),
  (6, o_il 2 7),
  (7, o_if (fun x => x = 0) 10 24),
  (10, o_al 0 11),
  (11, o_gR 0 18 14),
  (14, o_il 1 15),
  (15, o_vI m_X1_advancedOutOf 1 18 18),
  (18, o_sI m_J6_bitCount_0f7a4 1 21),
  (21, o_go 25),
  (24, o_il 2 25),
  (25, o_ir)]
set_option maxRecDepth 20000 in
theorem sn_X9_advance : ∀ q ∈ cd_X9_advance, sv_Snd m_X9_advance q.1 q.2 := by
  unfold cd_X9_advance
  refine List.forall_mem_cons.mpr ⟨s_aload_n dX9_advance_0 rfl, ?_⟩
  refine List.forall_mem_cons.mpr ⟨s_iload_n dX9_advance_1 rfl, ?_⟩
  refine List.forall_mem_cons.mpr ⟨s_callVI cf_X9 rfl ca_X9_refusalOfRound ml_X9_122 im_X9_refusalOfRound se_X9_refusalOfRound ⟨(Nat.le_of_ble_eq_true rfl), (Nat.le_of_ble_eq_true rfl)⟩ dX9_advance_2, ?_⟩
  refine List.forall_mem_cons.mpr ⟨s_istore_n dX9_advance_5 rfl (Nat.le_of_ble_eq_true rfl), ?_⟩
  refine List.forall_mem_cons.mpr ⟨s_iload_n dX9_advance_6 rfl, ?_⟩
  refine List.forall_mem_cons.mpr ⟨s_if_ne dX9_advance_7 (by decide), ?_⟩
  refine List.forall_mem_cons.mpr ⟨s_aload_n dX9_advance_10 rfl, ?_⟩
  refine List.forall_mem_cons.mpr ⟨s_getR (j := 3) cf_X9 (Nat.le_of_ble_eq_true rfl) rfl fl_X9_37 dX9_advance_11, ?_⟩
  refine List.forall_mem_cons.mpr ⟨s_iload_n dX9_advance_14 rfl, ?_⟩
  refine List.forall_mem_cons.mpr ⟨s_callVI cf_X1 rfl ca_X1_advancedOutOf ml_X9_134 im_X1_advancedOutOf se_X1_advancedOutOf ⟨(Nat.le_of_ble_eq_true rfl), (Nat.le_of_ble_eq_true rfl)⟩ dX9_advance_15, ?_⟩
  refine List.forall_mem_cons.mpr ⟨s_callSI ca_J6_bitCount_0f7a4 ml_X9_137 st_J6_bitCount_0f7a4 ⟨(Nat.le_of_ble_eq_true rfl), (Nat.le_of_ble_eq_true rfl)⟩ dX9_advance_18, ?_⟩
  refine List.forall_mem_cons.mpr ⟨s_goto dX9_advance_21 (by decide), ?_⟩
  refine List.forall_mem_cons.mpr ⟨s_iload_n dX9_advance_24 rfl, ?_⟩
  refine List.forall_mem_cons.mpr ⟨s_ireturn dX9_advance_25 rfl, ?_⟩
  exact fun _ h => absurd h List.not_mem_nil
def cd_X9_through : sv_Cd := [(0, o_al 0 1),
  (1, o_il 1 2),
  (2, o_vI m_X9_refusalOfRound 1 0 5),
  (5, o_is 2 6),
  (6, o_il 2 7),
  (7, o_if (fun x => x = 0) 10 21),
  (10, o_al 0 11),
  (11, o_gR 0 18 14),
  (14, o_il 1 15),
  (15, o_vI m_X1_advancedOutOf 1 18 18),
  (18, o_go 22),
  (21, o_il 2 22),
  (22, o_ir)]
set_option maxRecDepth 20000 in
theorem sn_X9_through : ∀ q ∈ cd_X9_through, sv_Snd m_X9_through q.1 q.2 := by
  unfold cd_X9_through
  refine List.forall_mem_cons.mpr ⟨s_aload_n dX9_through_0 rfl, ?_⟩
  refine List.forall_mem_cons.mpr ⟨s_iload_n dX9_through_1 rfl, ?_⟩
  refine List.forall_mem_cons.mpr ⟨s_callVI cf_X9 rfl ca_X9_refusalOfRound ml_X9_122 im_X9_refusalOfRound se_X9_refusalOfRound ⟨(Nat.le_of_ble_eq_true rfl), (Nat.le_of_ble_eq_true rfl)⟩ dX9_through_2, ?_⟩
  refine List.forall_mem_cons.mpr ⟨s_istore_n dX9_through_5 rfl (Nat.le_of_ble_eq_true rfl), ?_⟩
  refine List.forall_mem_cons.mpr ⟨s_iload_n dX9_through_6 rfl, ?_⟩
  refine List.forall_mem_cons.mpr ⟨s_if_ne dX9_through_7 (by decide), ?_⟩
  refine List.forall_mem_cons.mpr ⟨s_aload_n dX9_through_10 rfl, ?_⟩
  refine List.forall_mem_cons.mpr ⟨s_getR (j := 3) cf_X9 (Nat.le_of_ble_eq_true rfl) rfl fl_X9_37 dX9_through_11, ?_⟩
  refine List.forall_mem_cons.mpr ⟨s_iload_n dX9_through_14 rfl, ?_⟩
  refine List.forall_mem_cons.mpr ⟨s_callVI cf_X1 rfl ca_X1_advancedOutOf ml_X9_134 im_X1_advancedOutOf se_X1_advancedOutOf ⟨(Nat.le_of_ble_eq_true rfl), (Nat.le_of_ble_eq_true rfl)⟩ dX9_through_15, ?_⟩
  refine List.forall_mem_cons.mpr ⟨s_goto dX9_through_18 (by decide), ?_⟩
  refine List.forall_mem_cons.mpr ⟨s_iload_n dX9_through_21 rfl, ?_⟩
  refine List.forall_mem_cons.mpr ⟨s_ireturn dX9_through_22 rfl, ?_⟩
  exact fun _ h => absurd h List.not_mem_nil
def cd_X9_chosen : sv_Cd := [(0, o_al 0 1),
  (1, o_gR 0 13 4),
  (4, o_gI 13 5 7),
  (7, o_if (fun x => x = 0) 10 13),
  (10, o_ic (-3) 12),
  (12, o_ir),
  (13, o_al 0 14),
  (14, o_gR 0 18 17),
  (17, o_al 0 18),
  (18, o_gR 0 13 21),
  (21, o_gI 13 5 24),
  (24, o_ic 1 25),
  (25, o_b (fun x y => x - y) 26),
  (26, o_vI m_X1_advancedOutOf 1 18 29),
  (29, o_is 1 30),
  (30, o_ic 0 31),
  (31, o_is 2 32),
  (32, o_il 2 33),
  (33, o_al 0 34),
  (34, o_gR 0 9 37),
  (37, o_gI 9 4 40),
  (40, o_ic2 (fun x y => y ≤ x) 58 43),
  (43, o_il 1 44),
  (44, o_ic 1 45),
  (45, o_il 2 46),
  (46, o_b (fun x y => x <<< (y &&& 31)) 47),
  (47, o_ic2 (fun x y => x = y) 50 52),
  (50, o_il 2 51),
  (51, o_ir),
  (52, o_in 2 1 55),
  (55, o_go 32),
  (58, o_ic (-1) 59),
  (59, o_ir)]
set_option maxRecDepth 20000 in
theorem sn_X9_chosen : ∀ q ∈ cd_X9_chosen, sv_Snd m_X9_chosen q.1 q.2 := by
  unfold cd_X9_chosen
  refine List.forall_mem_cons.mpr ⟨s_aload_n dX9_chosen_0 rfl, ?_⟩
  refine List.forall_mem_cons.mpr ⟨s_getR (j := 2) cf_X9 (Nat.le_of_ble_eq_true rfl) rfl fl_X9_28 dX9_chosen_1, ?_⟩
  refine List.forall_mem_cons.mpr ⟨s_getIN cf_X0 (Nat.le_of_ble_eq_true rfl) rfl fl_X9_142 dX9_chosen_4, ?_⟩
  refine List.forall_mem_cons.mpr ⟨s_if_ne dX9_chosen_7 (by decide), ?_⟩
  refine List.forall_mem_cons.mpr ⟨s_bipush dX9_chosen_10 (by decide), ?_⟩
  refine List.forall_mem_cons.mpr ⟨s_ireturn dX9_chosen_12 rfl, ?_⟩
  refine List.forall_mem_cons.mpr ⟨s_aload_n dX9_chosen_13 rfl, ?_⟩
  refine List.forall_mem_cons.mpr ⟨s_getR (j := 3) cf_X9 (Nat.le_of_ble_eq_true rfl) rfl fl_X9_37 dX9_chosen_14, ?_⟩
  refine List.forall_mem_cons.mpr ⟨s_aload_n dX9_chosen_17 rfl, ?_⟩
  refine List.forall_mem_cons.mpr ⟨s_getR (j := 2) cf_X9 (Nat.le_of_ble_eq_true rfl) rfl fl_X9_28 dX9_chosen_18, ?_⟩
  refine List.forall_mem_cons.mpr ⟨s_getIN cf_X0 (Nat.le_of_ble_eq_true rfl) rfl fl_X9_142 dX9_chosen_21, ?_⟩
  refine List.forall_mem_cons.mpr ⟨s_iconst dX9_chosen_24 (by decide), ?_⟩
  refine List.forall_mem_cons.mpr ⟨s_isub dX9_chosen_25, ?_⟩
  refine List.forall_mem_cons.mpr ⟨s_callVI cf_X1 rfl ca_X1_advancedOutOf ml_X9_134 im_X1_advancedOutOf se_X1_advancedOutOf ⟨(Nat.le_of_ble_eq_true rfl), (Nat.le_of_ble_eq_true rfl)⟩ dX9_chosen_26, ?_⟩
  refine List.forall_mem_cons.mpr ⟨s_istore_n dX9_chosen_29 rfl (Nat.le_of_ble_eq_true rfl), ?_⟩
  refine List.forall_mem_cons.mpr ⟨s_iconst dX9_chosen_30 (by decide), ?_⟩
  refine List.forall_mem_cons.mpr ⟨s_istore_n dX9_chosen_31 rfl (Nat.le_of_ble_eq_true rfl), ?_⟩
  refine List.forall_mem_cons.mpr ⟨s_iload_n dX9_chosen_32 rfl, ?_⟩
  refine List.forall_mem_cons.mpr ⟨s_aload_n dX9_chosen_33 rfl, ?_⟩
  refine List.forall_mem_cons.mpr ⟨s_getR (j := 1) cf_X9 (Nat.le_of_ble_eq_true rfl) rfl fl_X9_21 dX9_chosen_34, ?_⟩
  refine List.forall_mem_cons.mpr ⟨s_getIN cf_X6 (Nat.le_of_ble_eq_true rfl) rfl fl_X9_77 dX9_chosen_37, ?_⟩
  refine List.forall_mem_cons.mpr ⟨s_icmp_ge dX9_chosen_40 (by decide), ?_⟩
  refine List.forall_mem_cons.mpr ⟨s_iload_n dX9_chosen_43 rfl, ?_⟩
  refine List.forall_mem_cons.mpr ⟨s_iconst dX9_chosen_44 (by decide), ?_⟩
  refine List.forall_mem_cons.mpr ⟨s_iload_n dX9_chosen_45 rfl, ?_⟩
  refine List.forall_mem_cons.mpr ⟨s_ishl dX9_chosen_46, ?_⟩
  refine List.forall_mem_cons.mpr ⟨s_icmp_ne dX9_chosen_47 (by decide), ?_⟩
  refine List.forall_mem_cons.mpr ⟨s_iload_n dX9_chosen_50 rfl, ?_⟩
  refine List.forall_mem_cons.mpr ⟨s_ireturn dX9_chosen_51 rfl, ?_⟩
  refine List.forall_mem_cons.mpr ⟨s_iinc dX9_chosen_52 (by decide) (Nat.le_of_ble_eq_true rfl), ?_⟩
  refine List.forall_mem_cons.mpr ⟨s_goto dX9_chosen_55 (by decide), ?_⟩
  refine List.forall_mem_cons.mpr ⟨s_iconst dX9_chosen_58 (by decide), ?_⟩
  refine List.forall_mem_cons.mpr ⟨s_ireturn dX9_chosen_59 rfl, ?_⟩
  exact fun _ h => absurd h List.not_mem_nil
def cd_X9_other : sv_Cd := [(0, o_il 1 1),
  (1, o_ic 1 2),
  (2, o_ic 3 3),
  (3, o_sI m_X9_within 3 6),
  (6, o_if (fun x => x = 0) 9 12),
  (9, o_ic (-2) 11),
  (11, o_ir),
  (12, o_il 1 13),
  (13, o_ic 3 14),
  (14, o_ic2 (fun x y => x = y) 17 25),
  (17, o_al 0 18),
  (18, o_gR 0 22 21),
  (21, o_vI m_X5_winnerOfAllPairs 0 22 24),
  (24, o_ir),
  (25, o_al 0 26),
  (26, o_gR 0 13 29),
  (29, o_gI 13 5 32),
  (32, o_if (fun x => x = 0) 35 38),
  (35, o_ic (-3) 37),
  (37, o_ir),
  (38, o_il 1 39),
  (39, o_ic 1 40),
  (40, o_ic2 (fun x y => x = y) 43 53),
  (43, o_al 0 44),
  (44, o_gR 0 22 47),
  (47, o_vI m_X5_mostYes 0 22 50),
  (50, o_go 60),
  (53, o_al 0 54),
  (54, o_gR 0 22 57),
  (57, o_vI m_X5_greatestShare 0 22 60),
  (60, o_ir)]
set_option maxRecDepth 20000 in
theorem sn_X9_other : ∀ q ∈ cd_X9_other, sv_Snd m_X9_other q.1 q.2 := by
  unfold cd_X9_other
  refine List.forall_mem_cons.mpr ⟨s_iload_n dX9_other_0 rfl, ?_⟩
  refine List.forall_mem_cons.mpr ⟨s_iconst dX9_other_1 (by decide), ?_⟩
  refine List.forall_mem_cons.mpr ⟨s_iconst dX9_other_2 (by decide), ?_⟩
  refine List.forall_mem_cons.mpr ⟨s_callSI ca_X9_within ml_X9_73 st_X9_within ⟨(Nat.le_of_ble_eq_true rfl), (Nat.le_of_ble_eq_true rfl)⟩ dX9_other_3, ?_⟩
  refine List.forall_mem_cons.mpr ⟨s_if_ne dX9_other_6 (by decide), ?_⟩
  refine List.forall_mem_cons.mpr ⟨s_bipush dX9_other_9 (by decide), ?_⟩
  refine List.forall_mem_cons.mpr ⟨s_ireturn dX9_other_11 rfl, ?_⟩
  refine List.forall_mem_cons.mpr ⟨s_iload_n dX9_other_12 rfl, ?_⟩
  refine List.forall_mem_cons.mpr ⟨s_iconst dX9_other_13 (by decide), ?_⟩
  refine List.forall_mem_cons.mpr ⟨s_icmp_ne dX9_other_14 (by decide), ?_⟩
  refine List.forall_mem_cons.mpr ⟨s_aload_n dX9_other_17 rfl, ?_⟩
  refine List.forall_mem_cons.mpr ⟨s_getR (j := 4) cf_X9 (Nat.le_of_ble_eq_true rfl) rfl fl_X9_44 dX9_other_18, ?_⟩
  refine List.forall_mem_cons.mpr ⟨s_callVI cf_X5 rfl ca_X5_winnerOfAllPairs ml_X9_145 im_X5_winnerOfAllPairs se_X5_winnerOfAllPairs ⟨(Nat.le_of_ble_eq_true rfl), (Nat.le_of_ble_eq_true rfl)⟩ dX9_other_21, ?_⟩
  refine List.forall_mem_cons.mpr ⟨s_ireturn dX9_other_24 rfl, ?_⟩
  refine List.forall_mem_cons.mpr ⟨s_aload_n dX9_other_25 rfl, ?_⟩
  refine List.forall_mem_cons.mpr ⟨s_getR (j := 2) cf_X9 (Nat.le_of_ble_eq_true rfl) rfl fl_X9_28 dX9_other_26, ?_⟩
  refine List.forall_mem_cons.mpr ⟨s_getIN cf_X0 (Nat.le_of_ble_eq_true rfl) rfl fl_X9_142 dX9_other_29, ?_⟩
  refine List.forall_mem_cons.mpr ⟨s_if_ne dX9_other_32 (by decide), ?_⟩
  refine List.forall_mem_cons.mpr ⟨s_bipush dX9_other_35 (by decide), ?_⟩
  refine List.forall_mem_cons.mpr ⟨s_ireturn dX9_other_37 rfl, ?_⟩
  refine List.forall_mem_cons.mpr ⟨s_iload_n dX9_other_38 rfl, ?_⟩
  refine List.forall_mem_cons.mpr ⟨s_iconst dX9_other_39 (by decide), ?_⟩
  refine List.forall_mem_cons.mpr ⟨s_icmp_ne dX9_other_40 (by decide), ?_⟩
  refine List.forall_mem_cons.mpr ⟨s_aload_n dX9_other_43 rfl, ?_⟩
  refine List.forall_mem_cons.mpr ⟨s_getR (j := 4) cf_X9 (Nat.le_of_ble_eq_true rfl) rfl fl_X9_44 dX9_other_44, ?_⟩
  refine List.forall_mem_cons.mpr ⟨s_callVI cf_X5 rfl ca_X5_mostYes ml_X9_148 im_X5_mostYes se_X5_mostYes ⟨(Nat.le_of_ble_eq_true rfl), (Nat.le_of_ble_eq_true rfl)⟩ dX9_other_47, ?_⟩
  refine List.forall_mem_cons.mpr ⟨s_goto dX9_other_50 (by decide), ?_⟩
  refine List.forall_mem_cons.mpr ⟨s_aload_n dX9_other_53 rfl, ?_⟩
  refine List.forall_mem_cons.mpr ⟨s_getR (j := 4) cf_X9 (Nat.le_of_ble_eq_true rfl) rfl fl_X9_44 dX9_other_54, ?_⟩
  refine List.forall_mem_cons.mpr ⟨s_callVI cf_X5 rfl ca_X5_greatestShare ml_X9_151 im_X5_greatestShare se_X5_greatestShare ⟨(Nat.le_of_ble_eq_true rfl), (Nat.le_of_ble_eq_true rfl)⟩ dX9_other_57, ?_⟩
  refine List.forall_mem_cons.mpr ⟨s_ireturn dX9_other_60 rfl, ?_⟩
  exact fun _ h => absurd h List.not_mem_nil
def cd_X9_chance : sv_Cd := [(0, o_al 0 1),
  (1, o_il 1 2),
  (2, o_vI m_X9_isSkill 1 0 5),
  (5, o_if (fun x => x = 0) 18 8),
  (8, o_il 2 9),
  (9, o_ic 0 10),
  (10, o_ic 100 12),
  (12, o_sI m_X9_within 3 15),
  (15, o_if (fun x => x = 0) 18 21),
  (18, o_ic (-2) 20),
  (20, o_ir),
  (21, o_al 0 22),
  (22, o_gR 0 39 25),
  (25, o_il 1 26),
  (26, o_ia 27),
  (27, o_is 3 28),
  (28, o_al 0 29),
  (29, o_gR 0 39 32),
  (32, o_il 1 33),
  (33, o_il 2 34),
  (34, o_is3 35),
  (35, o_il 3 36),
  (36, o_ir)]
set_option maxRecDepth 20000 in
theorem sn_X9_chance : ∀ q ∈ cd_X9_chance, sv_Snd m_X9_chance q.1 q.2 := by
  unfold cd_X9_chance
  refine List.forall_mem_cons.mpr ⟨s_aload_n dX9_chance_0 rfl, ?_⟩
  refine List.forall_mem_cons.mpr ⟨s_iload_n dX9_chance_1 rfl, ?_⟩
  refine List.forall_mem_cons.mpr ⟨s_callVI cf_X9 rfl ca_X9_isSkill ml_X9_154 im_X9_isSkill se_X9_isSkill ⟨(Nat.le_of_ble_eq_true rfl), (Nat.le_of_ble_eq_true rfl)⟩ dX9_chance_2, ?_⟩
  refine List.forall_mem_cons.mpr ⟨s_if_eq dX9_chance_5 (by decide), ?_⟩
  refine List.forall_mem_cons.mpr ⟨s_iload_n dX9_chance_8 rfl, ?_⟩
  refine List.forall_mem_cons.mpr ⟨s_iconst dX9_chance_9 (by decide), ?_⟩
  refine List.forall_mem_cons.mpr ⟨s_bipush dX9_chance_10 (by decide), ?_⟩
  refine List.forall_mem_cons.mpr ⟨s_callSI ca_X9_within ml_X9_73 st_X9_within ⟨(Nat.le_of_ble_eq_true rfl), (Nat.le_of_ble_eq_true rfl)⟩ dX9_chance_12, ?_⟩
  refine List.forall_mem_cons.mpr ⟨s_if_ne dX9_chance_15 (by decide), ?_⟩
  refine List.forall_mem_cons.mpr ⟨s_bipush dX9_chance_18 (by decide), ?_⟩
  refine List.forall_mem_cons.mpr ⟨s_ireturn dX9_chance_20 rfl, ?_⟩
  refine List.forall_mem_cons.mpr ⟨s_aload_n dX9_chance_21 rfl, ?_⟩
  refine List.forall_mem_cons.mpr ⟨s_getR (j := 8) cf_X9 (Nat.le_of_ble_eq_true rfl) rfl fl_X9_69 dX9_chance_22, ?_⟩
  refine List.forall_mem_cons.mpr ⟨s_iload_n dX9_chance_25 rfl, ?_⟩
  refine List.forall_mem_cons.mpr ⟨s_iaload dX9_chance_26, ?_⟩
  refine List.forall_mem_cons.mpr ⟨s_istore_n dX9_chance_27 rfl (Nat.le_of_ble_eq_true rfl), ?_⟩
  refine List.forall_mem_cons.mpr ⟨s_aload_n dX9_chance_28 rfl, ?_⟩
  refine List.forall_mem_cons.mpr ⟨s_getR (j := 8) cf_X9 (Nat.le_of_ble_eq_true rfl) rfl fl_X9_69 dX9_chance_29, ?_⟩
  refine List.forall_mem_cons.mpr ⟨s_iload_n dX9_chance_32 rfl, ?_⟩
  refine List.forall_mem_cons.mpr ⟨s_iload_n dX9_chance_33 rfl, ?_⟩
  refine List.forall_mem_cons.mpr ⟨s_iastore dX9_chance_34, ?_⟩
  refine List.forall_mem_cons.mpr ⟨s_iload_n dX9_chance_35 rfl, ?_⟩
  refine List.forall_mem_cons.mpr ⟨s_ireturn dX9_chance_36 rfl, ?_⟩
  exact fun _ h => absurd h List.not_mem_nil
def cd_X9_passes : sv_Cd := [(0, o_al 0 1),
  (1, o_il 1 2),
  (2, o_vI m_X9_isSkill 1 0 5),
  (5, o_if (fun x => x = 0) 18 8),
  (8, o_il 2 9),
  (9, o_ic 1 10),
  (10, o_ic 100 12),
  (12, o_sI m_X9_within 3 15),
  (15, o_if (fun x => x = 0) 18 21),
  (18, o_ic (-2) 20),
  (20, o_ir),
  (21, o_al 0 22),
  (22, o_gR 0 9 25),
  (25, o_gI 9 5 28),
  (28, o_al 0 29),
  (29, o_gR 0 39 32),
  (32, o_il 1 33),
  (33, o_ia 34),
  (34, o_il 2 35),
  (35, o_sI m_X4_ofPassing 3 38),
  (38, o_ir)]
set_option maxRecDepth 20000 in
theorem sn_X9_passes : ∀ q ∈ cd_X9_passes, sv_Snd m_X9_passes q.1 q.2 := by
  unfold cd_X9_passes
  refine List.forall_mem_cons.mpr ⟨s_aload_n dX9_passes_0 rfl, ?_⟩
  refine List.forall_mem_cons.mpr ⟨s_iload_n dX9_passes_1 rfl, ?_⟩
  refine List.forall_mem_cons.mpr ⟨s_callVI cf_X9 rfl ca_X9_isSkill ml_X9_154 im_X9_isSkill se_X9_isSkill ⟨(Nat.le_of_ble_eq_true rfl), (Nat.le_of_ble_eq_true rfl)⟩ dX9_passes_2, ?_⟩
  refine List.forall_mem_cons.mpr ⟨s_if_eq dX9_passes_5 (by decide), ?_⟩
  refine List.forall_mem_cons.mpr ⟨s_iload_n dX9_passes_8 rfl, ?_⟩
  refine List.forall_mem_cons.mpr ⟨s_iconst dX9_passes_9 (by decide), ?_⟩
  refine List.forall_mem_cons.mpr ⟨s_bipush dX9_passes_10 (by decide), ?_⟩
  refine List.forall_mem_cons.mpr ⟨s_callSI ca_X9_within ml_X9_73 st_X9_within ⟨(Nat.le_of_ble_eq_true rfl), (Nat.le_of_ble_eq_true rfl)⟩ dX9_passes_12, ?_⟩
  refine List.forall_mem_cons.mpr ⟨s_if_ne dX9_passes_15 (by decide), ?_⟩
  refine List.forall_mem_cons.mpr ⟨s_bipush dX9_passes_18 (by decide), ?_⟩
  refine List.forall_mem_cons.mpr ⟨s_ireturn dX9_passes_20 rfl, ?_⟩
  refine List.forall_mem_cons.mpr ⟨s_aload_n dX9_passes_21 rfl, ?_⟩
  refine List.forall_mem_cons.mpr ⟨s_getR (j := 1) cf_X9 (Nat.le_of_ble_eq_true rfl) rfl fl_X9_21 dX9_passes_22, ?_⟩
  refine List.forall_mem_cons.mpr ⟨s_getIN cf_X6 (Nat.le_of_ble_eq_true rfl) rfl fl_X9_85 dX9_passes_25, ?_⟩
  refine List.forall_mem_cons.mpr ⟨s_aload_n dX9_passes_28 rfl, ?_⟩
  refine List.forall_mem_cons.mpr ⟨s_getR (j := 8) cf_X9 (Nat.le_of_ble_eq_true rfl) rfl fl_X9_69 dX9_passes_29, ?_⟩
  refine List.forall_mem_cons.mpr ⟨s_iload_n dX9_passes_32 rfl, ?_⟩
  refine List.forall_mem_cons.mpr ⟨s_iaload dX9_passes_33, ?_⟩
  refine List.forall_mem_cons.mpr ⟨s_iload_n dX9_passes_34 rfl, ?_⟩
  refine List.forall_mem_cons.mpr ⟨s_callSI ca_X4_ofPassing ml_X9_157 st_X4_ofPassing ⟨(Nat.le_of_ble_eq_true rfl), (Nat.le_of_ble_eq_true rfl)⟩ dX9_passes_35, ?_⟩
  refine List.forall_mem_cons.mpr ⟨s_ireturn dX9_passes_38 rfl, ?_⟩
  exact fun _ h => absurd h List.not_mem_nil
def cd_X9_all : sv_Cd := [(0, o_al 0 1),
  (1, o_il 1 2),
  (2, o_vI m_X9_isSkill 1 0 5),
  (5, o_if (fun x => x = 0) 8 11),
  (8, o_ic (-2) 10),
  (10, o_ir),
  (11, o_al 0 12),
  (12, o_gR 0 13 15),
  (15, o_gI 13 5 18),
  (18, o_if (fun x => x = 0) 21 24),
  (21, o_ic (-3) 23),
  (23, o_ir),
  (24, o_lc 1000000 27),
  (27, o_ls 2 28),
  (28, o_ic 0 29),
  (29, o_is 4 31),
  (31, o_il 4 33),
  (33, o_al 0 34),
  (34, o_gR 0 13 37),
  (37, o_gI 13 5 40),
  (40, o_ic2 (fun x y => y ≤ x) 83 43),
  (43, o_ll 2 44),
  (44, o_al 0 45),
  (45, o_gR 0 9 48),
  (48, o_gI 9 5 51),
  (51, o_al 0 52),
  (52, o_gR 0 39 55),
  (55, o_il 1 56),
  (56, o_ia 57),
  (57, o_al 0 58),
  (58, o_gR 0 13 61),
  (61, o_gR 13 15 64),
  (64, o_il 4 66),
  (66, o_ia 67),
  (67, o_sI m_X4_ofPassing 3 70),
  (70, o_i2l 71),
  (71, o_lb (fun x y => x * y) 72),
  (72, o_lc 1000000 75),
  (75, o_ld (fun x y => x / y) 76),
  (76, o_ls 2 77),
  (77, o_in 4 1 80),
  (80, o_go 31),
  (83, o_ll 2 84),
  (84, o_l2i 85),
  (85, o_ir)]
set_option maxRecDepth 20000 in
theorem sn_X9_all : ∀ q ∈ cd_X9_all, sv_Snd m_X9_all q.1 q.2 := by
  unfold cd_X9_all
  refine List.forall_mem_cons.mpr ⟨s_aload_n dX9_all_0 rfl, ?_⟩
  refine List.forall_mem_cons.mpr ⟨s_iload_n dX9_all_1 rfl, ?_⟩
  refine List.forall_mem_cons.mpr ⟨s_callVI cf_X9 rfl ca_X9_isSkill ml_X9_154 im_X9_isSkill se_X9_isSkill ⟨(Nat.le_of_ble_eq_true rfl), (Nat.le_of_ble_eq_true rfl)⟩ dX9_all_2, ?_⟩
  refine List.forall_mem_cons.mpr ⟨s_if_ne dX9_all_5 (by decide), ?_⟩
  refine List.forall_mem_cons.mpr ⟨s_bipush dX9_all_8 (by decide), ?_⟩
  refine List.forall_mem_cons.mpr ⟨s_ireturn dX9_all_10 rfl, ?_⟩
  refine List.forall_mem_cons.mpr ⟨s_aload_n dX9_all_11 rfl, ?_⟩
  refine List.forall_mem_cons.mpr ⟨s_getR (j := 2) cf_X9 (Nat.le_of_ble_eq_true rfl) rfl fl_X9_28 dX9_all_12, ?_⟩
  refine List.forall_mem_cons.mpr ⟨s_getIN cf_X0 (Nat.le_of_ble_eq_true rfl) rfl fl_X9_142 dX9_all_15, ?_⟩
  refine List.forall_mem_cons.mpr ⟨s_if_ne dX9_all_18 (by decide), ?_⟩
  refine List.forall_mem_cons.mpr ⟨s_bipush dX9_all_21 (by decide), ?_⟩
  refine List.forall_mem_cons.mpr ⟨s_ireturn dX9_all_23 rfl, ?_⟩
  refine List.forall_mem_cons.mpr ⟨s_ldc2 dX9_all_24 cs_X9_163, ?_⟩
  refine List.forall_mem_cons.mpr ⟨s_lstore_n dX9_all_27 rfl (Nat.le_of_ble_eq_true rfl), ?_⟩
  refine List.forall_mem_cons.mpr ⟨s_iconst dX9_all_28 (by decide), ?_⟩
  refine List.forall_mem_cons.mpr ⟨s_istore dX9_all_29 (Nat.le_of_ble_eq_true rfl), ?_⟩
  refine List.forall_mem_cons.mpr ⟨s_iload dX9_all_31, ?_⟩
  refine List.forall_mem_cons.mpr ⟨s_aload_n dX9_all_33 rfl, ?_⟩
  refine List.forall_mem_cons.mpr ⟨s_getR (j := 2) cf_X9 (Nat.le_of_ble_eq_true rfl) rfl fl_X9_28 dX9_all_34, ?_⟩
  refine List.forall_mem_cons.mpr ⟨s_getIN cf_X0 (Nat.le_of_ble_eq_true rfl) rfl fl_X9_142 dX9_all_37, ?_⟩
  refine List.forall_mem_cons.mpr ⟨s_icmp_ge dX9_all_40 (by decide), ?_⟩
  refine List.forall_mem_cons.mpr ⟨s_lload_n dX9_all_43 rfl, ?_⟩
  refine List.forall_mem_cons.mpr ⟨s_aload_n dX9_all_44 rfl, ?_⟩
  refine List.forall_mem_cons.mpr ⟨s_getR (j := 1) cf_X9 (Nat.le_of_ble_eq_true rfl) rfl fl_X9_21 dX9_all_45, ?_⟩
  refine List.forall_mem_cons.mpr ⟨s_getIN cf_X6 (Nat.le_of_ble_eq_true rfl) rfl fl_X9_85 dX9_all_48, ?_⟩
  refine List.forall_mem_cons.mpr ⟨s_aload_n dX9_all_51 rfl, ?_⟩
  refine List.forall_mem_cons.mpr ⟨s_getR (j := 8) cf_X9 (Nat.le_of_ble_eq_true rfl) rfl fl_X9_69 dX9_all_52, ?_⟩
  refine List.forall_mem_cons.mpr ⟨s_iload_n dX9_all_55 rfl, ?_⟩
  refine List.forall_mem_cons.mpr ⟨s_iaload dX9_all_56, ?_⟩
  refine List.forall_mem_cons.mpr ⟨s_aload_n dX9_all_57 rfl, ?_⟩
  refine List.forall_mem_cons.mpr ⟨s_getR (j := 2) cf_X9 (Nat.le_of_ble_eq_true rfl) rfl fl_X9_28 dX9_all_58, ?_⟩
  refine List.forall_mem_cons.mpr ⟨s_getRN (j := 1) cf_X0 (Nat.le_of_ble_eq_true rfl) rfl fl_X9_125 dX9_all_61, ?_⟩
  refine List.forall_mem_cons.mpr ⟨s_iload dX9_all_64, ?_⟩
  refine List.forall_mem_cons.mpr ⟨s_iaload dX9_all_66, ?_⟩
  refine List.forall_mem_cons.mpr ⟨s_callSI ca_X4_ofPassing ml_X9_157 st_X4_ofPassing ⟨(Nat.le_of_ble_eq_true rfl), (Nat.le_of_ble_eq_true rfl)⟩ dX9_all_67, ?_⟩
  refine List.forall_mem_cons.mpr ⟨s_i2l dX9_all_70, ?_⟩
  refine List.forall_mem_cons.mpr ⟨s_lmul dX9_all_71, ?_⟩
  refine List.forall_mem_cons.mpr ⟨s_ldc2 dX9_all_72 cs_X9_163, ?_⟩
  refine List.forall_mem_cons.mpr ⟨s_ldiv dX9_all_75, ?_⟩
  refine List.forall_mem_cons.mpr ⟨s_lstore_n dX9_all_76 rfl (Nat.le_of_ble_eq_true rfl), ?_⟩
  refine List.forall_mem_cons.mpr ⟨s_iinc dX9_all_77 (by decide) (Nat.le_of_ble_eq_true rfl), ?_⟩
  refine List.forall_mem_cons.mpr ⟨s_goto dX9_all_80 (by decide), ?_⟩
  refine List.forall_mem_cons.mpr ⟨s_lload_n dX9_all_83 rfl, ?_⟩
  refine List.forall_mem_cons.mpr ⟨s_l2i dX9_all_84, ?_⟩
  refine List.forall_mem_cons.mpr ⟨s_ireturn dX9_all_85 rfl, ?_⟩
  exact fun _ h => absurd h List.not_mem_nil
def cd_X9_doubt : sv_Cd := [(0, o_il 1 1),
  (1, o_sI m_X9_inTable 1 4),
  (4, o_if (fun x => x = 0) 29 7),
  (7, o_il 2 8),
  (8, o_sI m_X9_inTable 1 11),
  (11, o_if (fun x => x = 0) 29 14),
  (14, o_il 3 15),
  (15, o_sI m_X9_inTable 1 18),
  (18, o_if (fun x => x = 0) 29 21),
  (21, o_il 4 23),
  (23, o_sI m_X9_inTable 1 26),
  (26, o_if (fun x => x = 0) 29 32),
  (29, o_ic (-2) 31),
  (31, o_ir),
  (32, o_il 1 33),
  (33, o_il 2 34),
  (34, o_il 3 35),
  (35, o_il 4 37),
  (37, o_sI m_X4_falseShare 4 40),
  (40, o_ir)]
set_option maxRecDepth 20000 in
theorem sn_X9_doubt : ∀ q ∈ cd_X9_doubt, sv_Snd m_X9_doubt q.1 q.2 := by
  unfold cd_X9_doubt
  refine List.forall_mem_cons.mpr ⟨s_iload_n dX9_doubt_0 rfl, ?_⟩
  refine List.forall_mem_cons.mpr ⟨s_callSI ca_X9_inTable ml_X9_165 st_X9_inTable ⟨(Nat.le_of_ble_eq_true rfl), (Nat.le_of_ble_eq_true rfl)⟩ dX9_doubt_1, ?_⟩
  refine List.forall_mem_cons.mpr ⟨s_if_eq dX9_doubt_4 (by decide), ?_⟩
  refine List.forall_mem_cons.mpr ⟨s_iload_n dX9_doubt_7 rfl, ?_⟩
  refine List.forall_mem_cons.mpr ⟨s_callSI ca_X9_inTable ml_X9_165 st_X9_inTable ⟨(Nat.le_of_ble_eq_true rfl), (Nat.le_of_ble_eq_true rfl)⟩ dX9_doubt_8, ?_⟩
  refine List.forall_mem_cons.mpr ⟨s_if_eq dX9_doubt_11 (by decide), ?_⟩
  refine List.forall_mem_cons.mpr ⟨s_iload_n dX9_doubt_14 rfl, ?_⟩
  refine List.forall_mem_cons.mpr ⟨s_callSI ca_X9_inTable ml_X9_165 st_X9_inTable ⟨(Nat.le_of_ble_eq_true rfl), (Nat.le_of_ble_eq_true rfl)⟩ dX9_doubt_15, ?_⟩
  refine List.forall_mem_cons.mpr ⟨s_if_eq dX9_doubt_18 (by decide), ?_⟩
  refine List.forall_mem_cons.mpr ⟨s_iload dX9_doubt_21, ?_⟩
  refine List.forall_mem_cons.mpr ⟨s_callSI ca_X9_inTable ml_X9_165 st_X9_inTable ⟨(Nat.le_of_ble_eq_true rfl), (Nat.le_of_ble_eq_true rfl)⟩ dX9_doubt_23, ?_⟩
  refine List.forall_mem_cons.mpr ⟨s_if_ne dX9_doubt_26 (by decide), ?_⟩
  refine List.forall_mem_cons.mpr ⟨s_bipush dX9_doubt_29 (by decide), ?_⟩
  refine List.forall_mem_cons.mpr ⟨s_ireturn dX9_doubt_31 rfl, ?_⟩
  refine List.forall_mem_cons.mpr ⟨s_iload_n dX9_doubt_32 rfl, ?_⟩
  refine List.forall_mem_cons.mpr ⟨s_iload_n dX9_doubt_33 rfl, ?_⟩
  refine List.forall_mem_cons.mpr ⟨s_iload_n dX9_doubt_34 rfl, ?_⟩
  refine List.forall_mem_cons.mpr ⟨s_iload dX9_doubt_35, ?_⟩
  refine List.forall_mem_cons.mpr ⟨s_callSI ca_X4_falseShare ml_X9_168 st_X4_falseShare ⟨(Nat.le_of_ble_eq_true rfl), (Nat.le_of_ble_eq_true rfl)⟩ dX9_doubt_37, ?_⟩
  refine List.forall_mem_cons.mpr ⟨s_ireturn dX9_doubt_40 rfl, ?_⟩
  exact fun _ h => absurd h List.not_mem_nil
def cd_X9_morning : sv_Cd := [(0, o_il 2 1),
  (1, o_ic 0 2),
  (2, o_ic 4 3),
  (3, o_sI m_X9_within 3 6),
  (6, o_if (fun x => x = 0) 9 12),
  (9, o_ic (-2) 11),
  (11, o_ir),
  (12, o_al 0 13),
  (13, o_il 1 14),
  (14, o_vI m_X9_refusalOfRound 1 0 17),
  (17, o_is 3 18),
  (18, o_il 3 19),
  (19, o_if (fun x => x = 0) 22 34),
  (22, o_al 0 23),
  (23, o_gR 0 23 26),
  (26, o_il 1 27),
  (27, o_il 2 28),
  (28, o_vI m_X3_tell 2 23 31),
  (31, o_go 35),
  (34, o_il 3 35),
  (35, o_ir)]
set_option maxRecDepth 20000 in
theorem sn_X9_morning : ∀ q ∈ cd_X9_morning, sv_Snd m_X9_morning q.1 q.2 := by
  unfold cd_X9_morning
  refine List.forall_mem_cons.mpr ⟨s_iload_n dX9_morning_0 rfl, ?_⟩
  refine List.forall_mem_cons.mpr ⟨s_iconst dX9_morning_1 (by decide), ?_⟩
  refine List.forall_mem_cons.mpr ⟨s_iconst dX9_morning_2 (by decide), ?_⟩
  refine List.forall_mem_cons.mpr ⟨s_callSI ca_X9_within ml_X9_73 st_X9_within ⟨(Nat.le_of_ble_eq_true rfl), (Nat.le_of_ble_eq_true rfl)⟩ dX9_morning_3, ?_⟩
  refine List.forall_mem_cons.mpr ⟨s_if_ne dX9_morning_6 (by decide), ?_⟩
  refine List.forall_mem_cons.mpr ⟨s_bipush dX9_morning_9 (by decide), ?_⟩
  refine List.forall_mem_cons.mpr ⟨s_ireturn dX9_morning_11 rfl, ?_⟩
  refine List.forall_mem_cons.mpr ⟨s_aload_n dX9_morning_12 rfl, ?_⟩
  refine List.forall_mem_cons.mpr ⟨s_iload_n dX9_morning_13 rfl, ?_⟩
  refine List.forall_mem_cons.mpr ⟨s_callVI cf_X9 rfl ca_X9_refusalOfRound ml_X9_122 im_X9_refusalOfRound se_X9_refusalOfRound ⟨(Nat.le_of_ble_eq_true rfl), (Nat.le_of_ble_eq_true rfl)⟩ dX9_morning_14, ?_⟩
  refine List.forall_mem_cons.mpr ⟨s_istore_n dX9_morning_17 rfl (Nat.le_of_ble_eq_true rfl), ?_⟩
  refine List.forall_mem_cons.mpr ⟨s_iload_n dX9_morning_18 rfl, ?_⟩
  refine List.forall_mem_cons.mpr ⟨s_if_ne dX9_morning_19 (by decide), ?_⟩
  refine List.forall_mem_cons.mpr ⟨s_aload_n dX9_morning_22 rfl, ?_⟩
  refine List.forall_mem_cons.mpr ⟨s_getR (j := 5) cf_X9 (Nat.le_of_ble_eq_true rfl) rfl fl_X9_51 dX9_morning_23, ?_⟩
  refine List.forall_mem_cons.mpr ⟨s_iload_n dX9_morning_26 rfl, ?_⟩
  refine List.forall_mem_cons.mpr ⟨s_iload_n dX9_morning_27 rfl, ?_⟩
  refine List.forall_mem_cons.mpr ⟨s_callVI cf_X3 rfl ca_X3_tell ml_X9_172 im_X3_tell se_X3_tell ⟨(Nat.le_of_ble_eq_true rfl), (Nat.le_of_ble_eq_true rfl)⟩ dX9_morning_28, ?_⟩
  refine List.forall_mem_cons.mpr ⟨s_goto dX9_morning_31 (by decide), ?_⟩
  refine List.forall_mem_cons.mpr ⟨s_iload_n dX9_morning_34 rfl, ?_⟩
  refine List.forall_mem_cons.mpr ⟨s_ireturn dX9_morning_35 rfl, ?_⟩
  exact fun _ h => absurd h List.not_mem_nil
def cd_X9_trial : sv_Cd := [(0, o_al 0 1),
  (1, o_il 1 2),
  (2, o_vI m_X9_isPlayer 1 0 5),
  (5, o_if (fun x => x = 0) 8 11),
  (8, o_ic (-2) 10),
  (10, o_ir),
  (11, o_al 0 12),
  (12, o_gR 0 25 15),
  (15, o_il 1 16),
  (16, o_vI m_X8_has 1 25 19),
  (19, o_if (fun x => x = 0) 25 22),
  (22, o_ic (-3) 24),
  (24, o_ir),
  (25, o_al 0 26),
  (26, o_gR 0 25 29),
  (29, o_gI 25 3 32),
  (32, o_ic 6 34),
  (34, o_ic2 (fun x y => y ≤ x) 48 37),
  (37, o_al 0 38),
  (38, o_gR 0 25 41),
  (41, o_il 1 42),
  (42, o_vI m_X8_open 1 25 45),
  (45, o_go 50),
  (48, o_ic (-4) 50),
  (50, o_ir)]
set_option maxRecDepth 20000 in
theorem sn_X9_trial : ∀ q ∈ cd_X9_trial, sv_Snd m_X9_trial q.1 q.2 := by
  unfold cd_X9_trial
  refine List.forall_mem_cons.mpr ⟨s_aload_n dX9_trial_0 rfl, ?_⟩
  refine List.forall_mem_cons.mpr ⟨s_iload_n dX9_trial_1 rfl, ?_⟩
  refine List.forall_mem_cons.mpr ⟨s_callVI cf_X9 rfl ca_X9_isPlayer ml_X9_95 im_X9_isPlayer se_X9_isPlayer ⟨(Nat.le_of_ble_eq_true rfl), (Nat.le_of_ble_eq_true rfl)⟩ dX9_trial_2, ?_⟩
  refine List.forall_mem_cons.mpr ⟨s_if_ne dX9_trial_5 (by decide), ?_⟩
  refine List.forall_mem_cons.mpr ⟨s_bipush dX9_trial_8 (by decide), ?_⟩
  refine List.forall_mem_cons.mpr ⟨s_ireturn dX9_trial_10 rfl, ?_⟩
  refine List.forall_mem_cons.mpr ⟨s_aload_n dX9_trial_11 rfl, ?_⟩
  refine List.forall_mem_cons.mpr ⟨s_getR (j := 6) cf_X9 (Nat.le_of_ble_eq_true rfl) rfl fl_X9_58 dX9_trial_12, ?_⟩
  refine List.forall_mem_cons.mpr ⟨s_iload_n dX9_trial_15 rfl, ?_⟩
  refine List.forall_mem_cons.mpr ⟨s_callVI cf_X8 rfl ca_X8_has ml_X9_175 im_X8_has se_X8_has ⟨(Nat.le_of_ble_eq_true rfl), (Nat.le_of_ble_eq_true rfl)⟩ dX9_trial_16, ?_⟩
  refine List.forall_mem_cons.mpr ⟨s_if_eq dX9_trial_19 (by decide), ?_⟩
  refine List.forall_mem_cons.mpr ⟨s_bipush dX9_trial_22 (by decide), ?_⟩
  refine List.forall_mem_cons.mpr ⟨s_ireturn dX9_trial_24 rfl, ?_⟩
  refine List.forall_mem_cons.mpr ⟨s_aload_n dX9_trial_25 rfl, ?_⟩
  refine List.forall_mem_cons.mpr ⟨s_getR (j := 6) cf_X9 (Nat.le_of_ble_eq_true rfl) rfl fl_X9_58 dX9_trial_26, ?_⟩
  refine List.forall_mem_cons.mpr ⟨s_getIN cf_X8 (Nat.le_of_ble_eq_true rfl) rfl fl_X9_178 dX9_trial_29, ?_⟩
  refine List.forall_mem_cons.mpr ⟨s_bipush dX9_trial_32 (by decide), ?_⟩
  refine List.forall_mem_cons.mpr ⟨s_icmp_ge dX9_trial_34 (by decide), ?_⟩
  refine List.forall_mem_cons.mpr ⟨s_aload_n dX9_trial_37 rfl, ?_⟩
  refine List.forall_mem_cons.mpr ⟨s_getR (j := 6) cf_X9 (Nat.le_of_ble_eq_true rfl) rfl fl_X9_58 dX9_trial_38, ?_⟩
  refine List.forall_mem_cons.mpr ⟨s_iload_n dX9_trial_41 rfl, ?_⟩
  refine List.forall_mem_cons.mpr ⟨s_callVI cf_X8 rfl ca_X8_open ml_X9_181 im_X8_open se_X8_open ⟨(Nat.le_of_ble_eq_true rfl), (Nat.le_of_ble_eq_true rfl)⟩ dX9_trial_42, ?_⟩
  refine List.forall_mem_cons.mpr ⟨s_goto dX9_trial_45 (by decide), ?_⟩
  refine List.forall_mem_cons.mpr ⟨s_bipush dX9_trial_48 (by decide), ?_⟩
  refine List.forall_mem_cons.mpr ⟨s_ireturn dX9_trial_50 rfl, ?_⟩
  exact fun _ h => absurd h List.not_mem_nil
def cd_X9_week : sv_Cd := [(0, o_al 0 1),
  (1, o_il 1 2),
  (2, o_vI m_X9_isPlace 1 0 5),
  (5, o_if (fun x => x = 0) 18 8),
  (8, o_il 2 9),
  (9, o_ic 0 10),
  (10, o_ic 20 12),
  (12, o_sI m_X9_within 3 15),
  (15, o_if (fun x => x = 0) 18 21),
  (18, o_ic (-2) 20),
  (20, o_ir),
  (21, o_al 0 22),
  (22, o_gR 0 25 25),
  (25, o_gR 25 27 28),
  (28, o_il 1 29),
  (29, o_ia 30),
  (30, o_ic 10 32),
  (32, o_ic2 (fun x y => y ≤ x) 47 35),
  (35, o_al 0 36),
  (36, o_gR 0 25 39),
  (39, o_il 1 40),
  (40, o_il 2 41),
  (41, o_vI m_X8_addMark 2 25 44),
  (44, o_go 49),
  (47, o_ic (-4) 49),
  (49, o_ir)]
set_option maxRecDepth 20000 in
theorem sn_X9_week : ∀ q ∈ cd_X9_week, sv_Snd m_X9_week q.1 q.2 := by
  unfold cd_X9_week
  refine List.forall_mem_cons.mpr ⟨s_aload_n dX9_week_0 rfl, ?_⟩
  refine List.forall_mem_cons.mpr ⟨s_iload_n dX9_week_1 rfl, ?_⟩
  refine List.forall_mem_cons.mpr ⟨s_callVI cf_X9 rfl ca_X9_isPlace ml_X9_184 im_X9_isPlace se_X9_isPlace ⟨(Nat.le_of_ble_eq_true rfl), (Nat.le_of_ble_eq_true rfl)⟩ dX9_week_2, ?_⟩
  refine List.forall_mem_cons.mpr ⟨s_if_eq dX9_week_5 (by decide), ?_⟩
  refine List.forall_mem_cons.mpr ⟨s_iload_n dX9_week_8 rfl, ?_⟩
  refine List.forall_mem_cons.mpr ⟨s_iconst dX9_week_9 (by decide), ?_⟩
  refine List.forall_mem_cons.mpr ⟨s_bipush dX9_week_10 (by decide), ?_⟩
  refine List.forall_mem_cons.mpr ⟨s_callSI ca_X9_within ml_X9_73 st_X9_within ⟨(Nat.le_of_ble_eq_true rfl), (Nat.le_of_ble_eq_true rfl)⟩ dX9_week_12, ?_⟩
  refine List.forall_mem_cons.mpr ⟨s_if_ne dX9_week_15 (by decide), ?_⟩
  refine List.forall_mem_cons.mpr ⟨s_bipush dX9_week_18 (by decide), ?_⟩
  refine List.forall_mem_cons.mpr ⟨s_ireturn dX9_week_20 rfl, ?_⟩
  refine List.forall_mem_cons.mpr ⟨s_aload_n dX9_week_21 rfl, ?_⟩
  refine List.forall_mem_cons.mpr ⟨s_getR (j := 6) cf_X9 (Nat.le_of_ble_eq_true rfl) rfl fl_X9_58 dX9_week_22, ?_⟩
  refine List.forall_mem_cons.mpr ⟨s_getRN (j := 1) cf_X8 (Nat.le_of_ble_eq_true rfl) rfl fl_X9_187 dX9_week_25, ?_⟩
  refine List.forall_mem_cons.mpr ⟨s_iload_n dX9_week_28 rfl, ?_⟩
  refine List.forall_mem_cons.mpr ⟨s_iaload dX9_week_29, ?_⟩
  refine List.forall_mem_cons.mpr ⟨s_bipush dX9_week_30 (by decide), ?_⟩
  refine List.forall_mem_cons.mpr ⟨s_icmp_ge dX9_week_32 (by decide), ?_⟩
  refine List.forall_mem_cons.mpr ⟨s_aload_n dX9_week_35 rfl, ?_⟩
  refine List.forall_mem_cons.mpr ⟨s_getR (j := 6) cf_X9 (Nat.le_of_ble_eq_true rfl) rfl fl_X9_58 dX9_week_36, ?_⟩
  refine List.forall_mem_cons.mpr ⟨s_iload_n dX9_week_39 rfl, ?_⟩
  refine List.forall_mem_cons.mpr ⟨s_iload_n dX9_week_40 rfl, ?_⟩
  refine List.forall_mem_cons.mpr ⟨s_callVI cf_X8 rfl ca_X8_addMark ml_X9_190 im_X8_addMark se_X8_addMark ⟨(Nat.le_of_ble_eq_true rfl), (Nat.le_of_ble_eq_true rfl)⟩ dX9_week_41, ?_⟩
  refine List.forall_mem_cons.mpr ⟨s_goto dX9_week_44 (by decide), ?_⟩
  refine List.forall_mem_cons.mpr ⟨s_bipush dX9_week_47 (by decide), ?_⟩
  refine List.forall_mem_cons.mpr ⟨s_ireturn dX9_week_49 rfl, ?_⟩
  exact fun _ h => absurd h List.not_mem_nil
def cd_X9_better : sv_Cd := [(0, o_al 0 1),
  (1, o_il 1 2),
  (2, o_vI m_X9_isPlace 1 0 5),
  (5, o_if (fun x => x = 0) 21 8),
  (8, o_al 0 9),
  (9, o_il 2 10),
  (10, o_vI m_X9_isPlace 1 0 13),
  (13, o_if (fun x => x = 0) 21 16),
  (16, o_il 1 17),
  (17, o_il 2 18),
  (18, o_ic2 (fun x y => x = y) 21 24),
  (21, o_ic (-2) 23),
  (23, o_ir),
  (24, o_al 0 25),
  (25, o_gR 0 25 28),
  (28, o_il 1 29),
  (29, o_il 2 30),
  (30, o_vI m_X8_lead 2 25 33),
  (33, o_is 3 34),
  (34, o_il 3 35),
  (35, o_if (fun x => x = 0) 38 40),
  (38, o_ic (-1) 39),
  (39, o_ir),
  (40, o_il 3 41),
  (41, o_if (fun x => x ≤ 0) 48 44),
  (44, o_ic 1 45),
  (45, o_go 49),
  (48, o_ic 0 49),
  (49, o_ir)]
set_option maxRecDepth 20000 in
theorem sn_X9_better : ∀ q ∈ cd_X9_better, sv_Snd m_X9_better q.1 q.2 := by
  unfold cd_X9_better
  refine List.forall_mem_cons.mpr ⟨s_aload_n dX9_better_0 rfl, ?_⟩
  refine List.forall_mem_cons.mpr ⟨s_iload_n dX9_better_1 rfl, ?_⟩
  refine List.forall_mem_cons.mpr ⟨s_callVI cf_X9 rfl ca_X9_isPlace ml_X9_184 im_X9_isPlace se_X9_isPlace ⟨(Nat.le_of_ble_eq_true rfl), (Nat.le_of_ble_eq_true rfl)⟩ dX9_better_2, ?_⟩
  refine List.forall_mem_cons.mpr ⟨s_if_eq dX9_better_5 (by decide), ?_⟩
  refine List.forall_mem_cons.mpr ⟨s_aload_n dX9_better_8 rfl, ?_⟩
  refine List.forall_mem_cons.mpr ⟨s_iload_n dX9_better_9 rfl, ?_⟩
  refine List.forall_mem_cons.mpr ⟨s_callVI cf_X9 rfl ca_X9_isPlace ml_X9_184 im_X9_isPlace se_X9_isPlace ⟨(Nat.le_of_ble_eq_true rfl), (Nat.le_of_ble_eq_true rfl)⟩ dX9_better_10, ?_⟩
  refine List.forall_mem_cons.mpr ⟨s_if_eq dX9_better_13 (by decide), ?_⟩
  refine List.forall_mem_cons.mpr ⟨s_iload_n dX9_better_16 rfl, ?_⟩
  refine List.forall_mem_cons.mpr ⟨s_iload_n dX9_better_17 rfl, ?_⟩
  refine List.forall_mem_cons.mpr ⟨s_icmp_ne dX9_better_18 (by decide), ?_⟩
  refine List.forall_mem_cons.mpr ⟨s_bipush dX9_better_21 (by decide), ?_⟩
  refine List.forall_mem_cons.mpr ⟨s_ireturn dX9_better_23 rfl, ?_⟩
  refine List.forall_mem_cons.mpr ⟨s_aload_n dX9_better_24 rfl, ?_⟩
  refine List.forall_mem_cons.mpr ⟨s_getR (j := 6) cf_X9 (Nat.le_of_ble_eq_true rfl) rfl fl_X9_58 dX9_better_25, ?_⟩
  refine List.forall_mem_cons.mpr ⟨s_iload_n dX9_better_28 rfl, ?_⟩
  refine List.forall_mem_cons.mpr ⟨s_iload_n dX9_better_29 rfl, ?_⟩
  refine List.forall_mem_cons.mpr ⟨s_callVI cf_X8 rfl ca_X8_lead ml_X9_193 im_X8_lead se_X8_lead ⟨(Nat.le_of_ble_eq_true rfl), (Nat.le_of_ble_eq_true rfl)⟩ dX9_better_30, ?_⟩
  refine List.forall_mem_cons.mpr ⟨s_istore_n dX9_better_33 rfl (Nat.le_of_ble_eq_true rfl), ?_⟩
  refine List.forall_mem_cons.mpr ⟨s_iload_n dX9_better_34 rfl, ?_⟩
  refine List.forall_mem_cons.mpr ⟨s_if_ne dX9_better_35 (by decide), ?_⟩
  refine List.forall_mem_cons.mpr ⟨s_iconst dX9_better_38 (by decide), ?_⟩
  refine List.forall_mem_cons.mpr ⟨s_ireturn dX9_better_39 rfl, ?_⟩
  refine List.forall_mem_cons.mpr ⟨s_iload_n dX9_better_40 rfl, ?_⟩
  refine List.forall_mem_cons.mpr ⟨s_if_le dX9_better_41 (by decide), ?_⟩
  refine List.forall_mem_cons.mpr ⟨s_iconst dX9_better_44 (by decide), ?_⟩
  refine List.forall_mem_cons.mpr ⟨s_goto dX9_better_45 (by decide), ?_⟩
  refine List.forall_mem_cons.mpr ⟨s_iconst dX9_better_48 (by decide), ?_⟩
  refine List.forall_mem_cons.mpr ⟨s_ireturn dX9_better_49 rfl, ?_⟩
  exact fun _ h => absurd h List.not_mem_nil
def cd_X9_seat : sv_Cd := [(0, o_al 0 1),
  (1, o_gR 0 25 4),
  (4, o_vI m_X8_seated 0 25 7),
  (7, o_ir)]
set_option maxRecDepth 20000 in
theorem sn_X9_seat : ∀ q ∈ cd_X9_seat, sv_Snd m_X9_seat q.1 q.2 := by
  unfold cd_X9_seat
  refine List.forall_mem_cons.mpr ⟨s_aload_n dX9_seat_0 rfl, ?_⟩
  refine List.forall_mem_cons.mpr ⟨s_getR (j := 6) cf_X9 (Nat.le_of_ble_eq_true rfl) rfl fl_X9_58 dX9_seat_1, ?_⟩
  refine List.forall_mem_cons.mpr ⟨s_callVI cf_X8 rfl ca_X8_seated ml_X9_196 im_X8_seated se_X8_seated ⟨(Nat.le_of_ble_eq_true rfl), (Nat.le_of_ble_eq_true rfl)⟩ dX9_seat_4, ?_⟩
  refine List.forall_mem_cons.mpr ⟨s_ireturn dX9_seat_7 rfl, ?_⟩
  exact fun _ h => absurd h List.not_mem_nil
def cd_X9_hear : sv_Cd := [(0, o_il 1 1),
  (1, o_sI m_X9_isNumber 1 4),
  (4, o_if (fun x => x = 0) 26 7),
  (7, o_il 2 8),
  (8, o_ic 0 9),
  (9, o_ic 99 11),
  (11, o_sI m_X9_within 3 14),
  (14, o_if (fun x => x = 0) 26 17),
  (17, o_il 3 18),
  (18, o_ic 0 19),
  (19, o_ic 4 20),
  (20, o_sI m_X9_within 3 23),
  (23, o_if (fun x => x = 0) 26 29),
  (26, o_ic (-2) 28),
  (28, o_ir),
  (29, o_al 0 30),
  (30, o_gR 0 35 33),
  (33, o_gI 35 3 36),
  (36, o_ic 60 38),
  (38, o_ic2 (fun x y => y ≤ x) 54 41),
  (41, o_al 0 42),
  (42, o_gR 0 35 45),
  (45, o_il 1 46),
  (46, o_il 2 47),
  (47, o_il 3 48),
  (48, o_vI m_X2_keep 3 35 51),
  (51, o_go 56),
  (54, o_ic (-4) 56),
  (56, o_ir)]
set_option maxRecDepth 20000 in
theorem sn_X9_hear : ∀ q ∈ cd_X9_hear, sv_Snd m_X9_hear q.1 q.2 := by
  unfold cd_X9_hear
  refine List.forall_mem_cons.mpr ⟨s_iload_n dX9_hear_0 rfl, ?_⟩
  refine List.forall_mem_cons.mpr ⟨s_callSI ca_X9_isNumber ml_X9_199 st_X9_isNumber ⟨(Nat.le_of_ble_eq_true rfl), (Nat.le_of_ble_eq_true rfl)⟩ dX9_hear_1, ?_⟩
  refine List.forall_mem_cons.mpr ⟨s_if_eq dX9_hear_4 (by decide), ?_⟩
  refine List.forall_mem_cons.mpr ⟨s_iload_n dX9_hear_7 rfl, ?_⟩
  refine List.forall_mem_cons.mpr ⟨s_iconst dX9_hear_8 (by decide), ?_⟩
  refine List.forall_mem_cons.mpr ⟨s_bipush dX9_hear_9 (by decide), ?_⟩
  refine List.forall_mem_cons.mpr ⟨s_callSI ca_X9_within ml_X9_73 st_X9_within ⟨(Nat.le_of_ble_eq_true rfl), (Nat.le_of_ble_eq_true rfl)⟩ dX9_hear_11, ?_⟩
  refine List.forall_mem_cons.mpr ⟨s_if_eq dX9_hear_14 (by decide), ?_⟩
  refine List.forall_mem_cons.mpr ⟨s_iload_n dX9_hear_17 rfl, ?_⟩
  refine List.forall_mem_cons.mpr ⟨s_iconst dX9_hear_18 (by decide), ?_⟩
  refine List.forall_mem_cons.mpr ⟨s_iconst dX9_hear_19 (by decide), ?_⟩
  refine List.forall_mem_cons.mpr ⟨s_callSI ca_X9_within ml_X9_73 st_X9_within ⟨(Nat.le_of_ble_eq_true rfl), (Nat.le_of_ble_eq_true rfl)⟩ dX9_hear_20, ?_⟩
  refine List.forall_mem_cons.mpr ⟨s_if_ne dX9_hear_23 (by decide), ?_⟩
  refine List.forall_mem_cons.mpr ⟨s_bipush dX9_hear_26 (by decide), ?_⟩
  refine List.forall_mem_cons.mpr ⟨s_ireturn dX9_hear_28 rfl, ?_⟩
  refine List.forall_mem_cons.mpr ⟨s_aload_n dX9_hear_29 rfl, ?_⟩
  refine List.forall_mem_cons.mpr ⟨s_getR (j := 7) cf_X9 (Nat.le_of_ble_eq_true rfl) rfl fl_X9_65 dX9_hear_30, ?_⟩
  refine List.forall_mem_cons.mpr ⟨s_getIN cf_X2 (Nat.le_of_ble_eq_true rfl) rfl fl_X9_202 dX9_hear_33, ?_⟩
  refine List.forall_mem_cons.mpr ⟨s_bipush dX9_hear_36 (by decide), ?_⟩
  refine List.forall_mem_cons.mpr ⟨s_icmp_ge dX9_hear_38 (by decide), ?_⟩
  refine List.forall_mem_cons.mpr ⟨s_aload_n dX9_hear_41 rfl, ?_⟩
  refine List.forall_mem_cons.mpr ⟨s_getR (j := 7) cf_X9 (Nat.le_of_ble_eq_true rfl) rfl fl_X9_65 dX9_hear_42, ?_⟩
  refine List.forall_mem_cons.mpr ⟨s_iload_n dX9_hear_45 rfl, ?_⟩
  refine List.forall_mem_cons.mpr ⟨s_iload_n dX9_hear_46 rfl, ?_⟩
  refine List.forall_mem_cons.mpr ⟨s_iload_n dX9_hear_47 rfl, ?_⟩
  refine List.forall_mem_cons.mpr ⟨s_callVI cf_X2 rfl ca_X2_keep ml_X9_205 im_X2_keep se_X2_keep ⟨(Nat.le_of_ble_eq_true rfl), (Nat.le_of_ble_eq_true rfl)⟩ dX9_hear_48, ?_⟩
  refine List.forall_mem_cons.mpr ⟨s_goto dX9_hear_51 (by decide), ?_⟩
  refine List.forall_mem_cons.mpr ⟨s_bipush dX9_hear_54 (by decide), ?_⟩
  refine List.forall_mem_cons.mpr ⟨s_ireturn dX9_hear_56 rfl, ?_⟩
  exact fun _ h => absurd h List.not_mem_nil
def cd_X9_known : sv_Cd := [(0, o_il 1 1),
  (1, o_sI m_X9_isNumber 1 4),
  (4, o_if (fun x => x = 0) 16 7),
  (7, o_il 2 8),
  (8, o_ic 0 9),
  (9, o_ic 2 10),
  (10, o_sI m_X9_within 3 13),
  (13, o_if (fun x => x = 0) 16 19),
  (16, o_ic (-2) 18),
  (18, o_ir),
  (19, o_il 2 20),
  (20, o_if (fun x => x = 0) 23 32),
  (23, o_al 0 24),
  (24, o_gR 0 35 27),
  (27, o_il 1 28),
  (28, o_vI m_X2_howOften 1 35 31),
  (31, o_ir),
  (32, o_al 0 33),
  (33, o_gR 0 35 36),
  (36, o_il 1 37),
  (37, o_il 2 38),
  (38, o_ic 1 39),
  (39, o_ic2 (fun x y => x = y) 42 52),
  (42, o_al 0 43),
  (43, o_gR 0 35 46),
  (46, o_gR 35 38 49),
  (49, o_go 59),
  (52, o_al 0 53),
  (53, o_gR 0 35 56),
  (56, o_gR 35 37 59),
  (59, o_vI m_X2_greatest 2 35 62),
  (62, o_ir)]
set_option maxRecDepth 20000 in
theorem sn_X9_known : ∀ q ∈ cd_X9_known, sv_Snd m_X9_known q.1 q.2 := by
  unfold cd_X9_known
  refine List.forall_mem_cons.mpr ⟨s_iload_n dX9_known_0 rfl, ?_⟩
  refine List.forall_mem_cons.mpr ⟨s_callSI ca_X9_isNumber ml_X9_199 st_X9_isNumber ⟨(Nat.le_of_ble_eq_true rfl), (Nat.le_of_ble_eq_true rfl)⟩ dX9_known_1, ?_⟩
  refine List.forall_mem_cons.mpr ⟨s_if_eq dX9_known_4 (by decide), ?_⟩
  refine List.forall_mem_cons.mpr ⟨s_iload_n dX9_known_7 rfl, ?_⟩
  refine List.forall_mem_cons.mpr ⟨s_iconst dX9_known_8 (by decide), ?_⟩
  refine List.forall_mem_cons.mpr ⟨s_iconst dX9_known_9 (by decide), ?_⟩
  refine List.forall_mem_cons.mpr ⟨s_callSI ca_X9_within ml_X9_73 st_X9_within ⟨(Nat.le_of_ble_eq_true rfl), (Nat.le_of_ble_eq_true rfl)⟩ dX9_known_10, ?_⟩
  refine List.forall_mem_cons.mpr ⟨s_if_ne dX9_known_13 (by decide), ?_⟩
  refine List.forall_mem_cons.mpr ⟨s_bipush dX9_known_16 (by decide), ?_⟩
  refine List.forall_mem_cons.mpr ⟨s_ireturn dX9_known_18 rfl, ?_⟩
  refine List.forall_mem_cons.mpr ⟨s_iload_n dX9_known_19 rfl, ?_⟩
  refine List.forall_mem_cons.mpr ⟨s_if_ne dX9_known_20 (by decide), ?_⟩
  refine List.forall_mem_cons.mpr ⟨s_aload_n dX9_known_23 rfl, ?_⟩
  refine List.forall_mem_cons.mpr ⟨s_getR (j := 7) cf_X9 (Nat.le_of_ble_eq_true rfl) rfl fl_X9_65 dX9_known_24, ?_⟩
  refine List.forall_mem_cons.mpr ⟨s_iload_n dX9_known_27 rfl, ?_⟩
  refine List.forall_mem_cons.mpr ⟨s_callVI cf_X2 rfl ca_X2_howOften ml_X9_208 im_X2_howOften se_X2_howOften ⟨(Nat.le_of_ble_eq_true rfl), (Nat.le_of_ble_eq_true rfl)⟩ dX9_known_28, ?_⟩
  refine List.forall_mem_cons.mpr ⟨s_ireturn dX9_known_31 rfl, ?_⟩
  refine List.forall_mem_cons.mpr ⟨s_aload_n dX9_known_32 rfl, ?_⟩
  refine List.forall_mem_cons.mpr ⟨s_getR (j := 7) cf_X9 (Nat.le_of_ble_eq_true rfl) rfl fl_X9_65 dX9_known_33, ?_⟩
  refine List.forall_mem_cons.mpr ⟨s_iload_n dX9_known_36 rfl, ?_⟩
  refine List.forall_mem_cons.mpr ⟨s_iload_n dX9_known_37 rfl, ?_⟩
  refine List.forall_mem_cons.mpr ⟨s_iconst dX9_known_38 (by decide), ?_⟩
  refine List.forall_mem_cons.mpr ⟨s_icmp_ne dX9_known_39 (by decide), ?_⟩
  refine List.forall_mem_cons.mpr ⟨s_aload_n dX9_known_42 rfl, ?_⟩
  refine List.forall_mem_cons.mpr ⟨s_getR (j := 7) cf_X9 (Nat.le_of_ble_eq_true rfl) rfl fl_X9_65 dX9_known_43, ?_⟩
  refine List.forall_mem_cons.mpr ⟨s_getRN (j := 2) cf_X2 (Nat.le_of_ble_eq_true rfl) rfl fl_X9_211 dX9_known_46, ?_⟩
  refine List.forall_mem_cons.mpr ⟨s_goto dX9_known_49 (by decide), ?_⟩
  refine List.forall_mem_cons.mpr ⟨s_aload_n dX9_known_52 rfl, ?_⟩
  refine List.forall_mem_cons.mpr ⟨s_getR (j := 7) cf_X9 (Nat.le_of_ble_eq_true rfl) rfl fl_X9_65 dX9_known_53, ?_⟩
  refine List.forall_mem_cons.mpr ⟨s_getRN (j := 1) cf_X2 (Nat.le_of_ble_eq_true rfl) rfl fl_X9_213 dX9_known_56, ?_⟩
  refine List.forall_mem_cons.mpr ⟨s_callVI cf_X2 rfl ca_X2_greatest ml_X9_216 im_X2_greatest se_X2_greatest ⟨(Nat.le_of_ble_eq_true rfl), (Nat.le_of_ble_eq_true rfl)⟩ dX9_known_59, ?_⟩
  refine List.forall_mem_cons.mpr ⟨s_ireturn dX9_known_62 rfl, ?_⟩
  exact fun _ h => absurd h List.not_mem_nil
def cd_X9_sheet : sv_Cd := [(0, o_il 1 1),
  (1, o_sI m_X9_isSheet 1 4),
  (4, o_if (fun x => x = 0) 21 7),
  (7, o_il 2 8),
  (8, o_sI m_X9_isForm 1 11),
  (11, o_if (fun x => x = 0) 21 14),
  (14, o_il 3 15),
  (15, o_ic 240 18),
  (18, o_ic2 (fun x y => x ≤ y) 24 21),
  (21, o_ic (-2) 23),
  (23, o_ir),
  (24, o_il 3 25),
  (25, o_if (fun x => 0 ≤ x) 39 28),
  (28, o_al 0 29),
  (29, o_gR 0 1 32),
  (32, o_ic 5 33),
  (33, o_vI m_X7_found 1 1 36),
  (36, o_go 49),
  (39, o_al 0 40),
  (40, o_gR 0 1 43),
  (43, o_il 1 44),
  (44, o_il 2 45),
  (45, o_il 3 46),
  (46, o_vI m_X7_lay 3 1 49),
  (49, o_ir)]
set_option maxRecDepth 20000 in
theorem sn_X9_sheet : ∀ q ∈ cd_X9_sheet, sv_Snd m_X9_sheet q.1 q.2 := by
  unfold cd_X9_sheet
  refine List.forall_mem_cons.mpr ⟨s_iload_n dX9_sheet_0 rfl, ?_⟩
  refine List.forall_mem_cons.mpr ⟨s_callSI ca_X9_isSheet ml_X9_220 st_X9_isSheet ⟨(Nat.le_of_ble_eq_true rfl), (Nat.le_of_ble_eq_true rfl)⟩ dX9_sheet_1, ?_⟩
  refine List.forall_mem_cons.mpr ⟨s_if_eq dX9_sheet_4 (by decide), ?_⟩
  refine List.forall_mem_cons.mpr ⟨s_iload_n dX9_sheet_7 rfl, ?_⟩
  refine List.forall_mem_cons.mpr ⟨s_callSI ca_X9_isForm ml_X9_223 st_X9_isForm ⟨(Nat.le_of_ble_eq_true rfl), (Nat.le_of_ble_eq_true rfl)⟩ dX9_sheet_8, ?_⟩
  refine List.forall_mem_cons.mpr ⟨s_if_eq dX9_sheet_11 (by decide), ?_⟩
  refine List.forall_mem_cons.mpr ⟨s_iload_n dX9_sheet_14 rfl, ?_⟩
  refine List.forall_mem_cons.mpr ⟨s_sipush dX9_sheet_15 (by decide), ?_⟩
  refine List.forall_mem_cons.mpr ⟨s_icmp_le dX9_sheet_18 (by decide), ?_⟩
  refine List.forall_mem_cons.mpr ⟨s_bipush dX9_sheet_21 (by decide), ?_⟩
  refine List.forall_mem_cons.mpr ⟨s_ireturn dX9_sheet_23 rfl, ?_⟩
  refine List.forall_mem_cons.mpr ⟨s_iload_n dX9_sheet_24 rfl, ?_⟩
  refine List.forall_mem_cons.mpr ⟨s_if_ge dX9_sheet_25 (by decide), ?_⟩
  refine List.forall_mem_cons.mpr ⟨s_aload_n dX9_sheet_28 rfl, ?_⟩
  refine List.forall_mem_cons.mpr ⟨s_getR (j := 0) cf_X9 (Nat.le_of_ble_eq_true rfl) rfl fl_X9_10 dX9_sheet_29, ?_⟩
  refine List.forall_mem_cons.mpr ⟨s_iconst dX9_sheet_32 (by decide), ?_⟩
  refine List.forall_mem_cons.mpr ⟨s_callVI cf_X7 rfl ca_X7_found ml_X9_226 im_X7_found se_X7_found ⟨(Nat.le_of_ble_eq_true rfl), (Nat.le_of_ble_eq_true rfl)⟩ dX9_sheet_33, ?_⟩
  refine List.forall_mem_cons.mpr ⟨s_goto dX9_sheet_36 (by decide), ?_⟩
  refine List.forall_mem_cons.mpr ⟨s_aload_n dX9_sheet_39 rfl, ?_⟩
  refine List.forall_mem_cons.mpr ⟨s_getR (j := 0) cf_X9 (Nat.le_of_ble_eq_true rfl) rfl fl_X9_10 dX9_sheet_40, ?_⟩
  refine List.forall_mem_cons.mpr ⟨s_iload_n dX9_sheet_43 rfl, ?_⟩
  refine List.forall_mem_cons.mpr ⟨s_iload_n dX9_sheet_44 rfl, ?_⟩
  refine List.forall_mem_cons.mpr ⟨s_iload_n dX9_sheet_45 rfl, ?_⟩
  refine List.forall_mem_cons.mpr ⟨s_callVI cf_X7 rfl ca_X7_lay ml_X9_229 im_X7_lay se_X7_lay ⟨(Nat.le_of_ble_eq_true rfl), (Nat.le_of_ble_eq_true rfl)⟩ dX9_sheet_46, ?_⟩
  refine List.forall_mem_cons.mpr ⟨s_ireturn dX9_sheet_49 rfl, ?_⟩
  exact fun _ h => absurd h List.not_mem_nil
def cd_X9_lose : sv_Cd := [(0, o_il 1 1),
  (1, o_sI m_X9_isSheet 1 4),
  (4, o_if (fun x => x = 0) 7 10),
  (7, o_ic (-2) 9),
  (9, o_ir),
  (10, o_al 0 11),
  (11, o_gR 0 1 14),
  (14, o_il 1 15),
  (15, o_vI m_X7_isLost 1 1 18),
  (18, o_if (fun x => x = 0) 32 21),
  (21, o_al 0 22),
  (22, o_gR 0 1 25),
  (25, o_ic 1 26),
  (26, o_vI m_X7_found 1 1 29),
  (29, o_go 40),
  (32, o_al 0 33),
  (33, o_gR 0 1 36),
  (36, o_il 1 37),
  (37, o_vI m_X7_drop 1 1 40),
  (40, o_ir)]
set_option maxRecDepth 20000 in
theorem sn_X9_lose : ∀ q ∈ cd_X9_lose, sv_Snd m_X9_lose q.1 q.2 := by
  unfold cd_X9_lose
  refine List.forall_mem_cons.mpr ⟨s_iload_n dX9_lose_0 rfl, ?_⟩
  refine List.forall_mem_cons.mpr ⟨s_callSI ca_X9_isSheet ml_X9_220 st_X9_isSheet ⟨(Nat.le_of_ble_eq_true rfl), (Nat.le_of_ble_eq_true rfl)⟩ dX9_lose_1, ?_⟩
  refine List.forall_mem_cons.mpr ⟨s_if_ne dX9_lose_4 (by decide), ?_⟩
  refine List.forall_mem_cons.mpr ⟨s_bipush dX9_lose_7 (by decide), ?_⟩
  refine List.forall_mem_cons.mpr ⟨s_ireturn dX9_lose_9 rfl, ?_⟩
  refine List.forall_mem_cons.mpr ⟨s_aload_n dX9_lose_10 rfl, ?_⟩
  refine List.forall_mem_cons.mpr ⟨s_getR (j := 0) cf_X9 (Nat.le_of_ble_eq_true rfl) rfl fl_X9_10 dX9_lose_11, ?_⟩
  refine List.forall_mem_cons.mpr ⟨s_iload_n dX9_lose_14 rfl, ?_⟩
  refine List.forall_mem_cons.mpr ⟨s_callVI cf_X7 rfl ca_X7_isLost ml_X9_232 im_X7_isLost se_X7_isLost ⟨(Nat.le_of_ble_eq_true rfl), (Nat.le_of_ble_eq_true rfl)⟩ dX9_lose_15, ?_⟩
  refine List.forall_mem_cons.mpr ⟨s_if_eq dX9_lose_18 (by decide), ?_⟩
  refine List.forall_mem_cons.mpr ⟨s_aload_n dX9_lose_21 rfl, ?_⟩
  refine List.forall_mem_cons.mpr ⟨s_getR (j := 0) cf_X9 (Nat.le_of_ble_eq_true rfl) rfl fl_X9_10 dX9_lose_22, ?_⟩
  refine List.forall_mem_cons.mpr ⟨s_iconst dX9_lose_25 (by decide), ?_⟩
  refine List.forall_mem_cons.mpr ⟨s_callVI cf_X7 rfl ca_X7_found ml_X9_226 im_X7_found se_X7_found ⟨(Nat.le_of_ble_eq_true rfl), (Nat.le_of_ble_eq_true rfl)⟩ dX9_lose_26, ?_⟩
  refine List.forall_mem_cons.mpr ⟨s_goto dX9_lose_29 (by decide), ?_⟩
  refine List.forall_mem_cons.mpr ⟨s_aload_n dX9_lose_32 rfl, ?_⟩
  refine List.forall_mem_cons.mpr ⟨s_getR (j := 0) cf_X9 (Nat.le_of_ble_eq_true rfl) rfl fl_X9_10 dX9_lose_33, ?_⟩
  refine List.forall_mem_cons.mpr ⟨s_iload_n dX9_lose_36 rfl, ?_⟩
  refine List.forall_mem_cons.mpr ⟨s_callVI cf_X7 rfl ca_X7_drop ml_X9_235 im_X7_drop se_X7_drop ⟨(Nat.le_of_ble_eq_true rfl), (Nat.le_of_ble_eq_true rfl)⟩ dX9_lose_37, ?_⟩
  refine List.forall_mem_cons.mpr ⟨s_ireturn dX9_lose_40 rfl, ?_⟩
  exact fun _ h => absurd h List.not_mem_nil
def cd_X9_put : sv_Cd := [(0, o_il 1 1),
  (1, o_sI m_X9_isSheet 1 4),
  (4, o_if (fun x => x = 0) 14 7),
  (7, o_il 2 8),
  (8, o_sI m_X9_isForm 1 11),
  (11, o_if (fun x => x = 0) 14 17),
  (14, o_ic (-2) 16),
  (16, o_ir),
  (17, o_al 0 18),
  (18, o_gR 0 1 21),
  (21, o_il 1 22),
  (22, o_il 2 23),
  (23, o_il 3 24),
  (24, o_vI m_X7_findingOfItem 3 1 27),
  (27, o_is 5 29),
  (29, o_il 5 31),
  (31, o_if (fun x => x = 0) 44 34),
  (34, o_al 0 35),
  (35, o_gR 0 1 38),
  (38, o_il 5 40),
  (40, o_vI m_X7_found 1 1 43),
  (43, o_ir),
  (44, o_al 0 45),
  (45, o_gR 0 1 48),
  (48, o_gR 1 2 51),
  (51, o_il 1 52),
  (52, o_aa 53),
  (53, o_il 3 54),
  (54, o_il 2 55),
  (55, o_il 4 57),
  (57, o_sI m_X7_lowestBits 2 60),
  (60, o_is3 61),
  (61, o_ic 1 62),
  (62, o_ir)]
set_option maxRecDepth 20000 in
theorem sn_X9_put : ∀ q ∈ cd_X9_put, sv_Snd m_X9_put q.1 q.2 := by
  unfold cd_X9_put
  refine List.forall_mem_cons.mpr ⟨s_iload_n dX9_put_0 rfl, ?_⟩
  refine List.forall_mem_cons.mpr ⟨s_callSI ca_X9_isSheet ml_X9_220 st_X9_isSheet ⟨(Nat.le_of_ble_eq_true rfl), (Nat.le_of_ble_eq_true rfl)⟩ dX9_put_1, ?_⟩
  refine List.forall_mem_cons.mpr ⟨s_if_eq dX9_put_4 (by decide), ?_⟩
  refine List.forall_mem_cons.mpr ⟨s_iload_n dX9_put_7 rfl, ?_⟩
  refine List.forall_mem_cons.mpr ⟨s_callSI ca_X9_isForm ml_X9_223 st_X9_isForm ⟨(Nat.le_of_ble_eq_true rfl), (Nat.le_of_ble_eq_true rfl)⟩ dX9_put_8, ?_⟩
  refine List.forall_mem_cons.mpr ⟨s_if_ne dX9_put_11 (by decide), ?_⟩
  refine List.forall_mem_cons.mpr ⟨s_bipush dX9_put_14 (by decide), ?_⟩
  refine List.forall_mem_cons.mpr ⟨s_ireturn dX9_put_16 rfl, ?_⟩
  refine List.forall_mem_cons.mpr ⟨s_aload_n dX9_put_17 rfl, ?_⟩
  refine List.forall_mem_cons.mpr ⟨s_getR (j := 0) cf_X9 (Nat.le_of_ble_eq_true rfl) rfl fl_X9_10 dX9_put_18, ?_⟩
  refine List.forall_mem_cons.mpr ⟨s_iload_n dX9_put_21 rfl, ?_⟩
  refine List.forall_mem_cons.mpr ⟨s_iload_n dX9_put_22 rfl, ?_⟩
  refine List.forall_mem_cons.mpr ⟨s_iload_n dX9_put_23 rfl, ?_⟩
  refine List.forall_mem_cons.mpr ⟨s_callVI cf_X7 rfl ca_X7_findingOfItem ml_X9_238 im_X7_findingOfItem se_X7_findingOfItem ⟨(Nat.le_of_ble_eq_true rfl), (Nat.le_of_ble_eq_true rfl)⟩ dX9_put_24, ?_⟩
  refine List.forall_mem_cons.mpr ⟨s_istore dX9_put_27 (Nat.le_of_ble_eq_true rfl), ?_⟩
  refine List.forall_mem_cons.mpr ⟨s_iload dX9_put_29, ?_⟩
  refine List.forall_mem_cons.mpr ⟨s_if_eq dX9_put_31 (by decide), ?_⟩
  refine List.forall_mem_cons.mpr ⟨s_aload_n dX9_put_34 rfl, ?_⟩
  refine List.forall_mem_cons.mpr ⟨s_getR (j := 0) cf_X9 (Nat.le_of_ble_eq_true rfl) rfl fl_X9_10 dX9_put_35, ?_⟩
  refine List.forall_mem_cons.mpr ⟨s_iload dX9_put_38, ?_⟩
  refine List.forall_mem_cons.mpr ⟨s_callVI cf_X7 rfl ca_X7_found ml_X9_226 im_X7_found se_X7_found ⟨(Nat.le_of_ble_eq_true rfl), (Nat.le_of_ble_eq_true rfl)⟩ dX9_put_40, ?_⟩
  refine List.forall_mem_cons.mpr ⟨s_ireturn dX9_put_43 rfl, ?_⟩
  refine List.forall_mem_cons.mpr ⟨s_aload_n dX9_put_44 rfl, ?_⟩
  refine List.forall_mem_cons.mpr ⟨s_getR (j := 0) cf_X9 (Nat.le_of_ble_eq_true rfl) rfl fl_X9_10 dX9_put_45, ?_⟩
  refine List.forall_mem_cons.mpr ⟨s_getRN (j := 0) cf_X7 (Nat.le_of_ble_eq_true rfl) rfl fl_X9_241 dX9_put_48, ?_⟩
  refine List.forall_mem_cons.mpr ⟨s_iload_n dX9_put_51 rfl, ?_⟩
  refine List.forall_mem_cons.mpr ⟨s_aaload dX9_put_52, ?_⟩
  refine List.forall_mem_cons.mpr ⟨s_iload_n dX9_put_53 rfl, ?_⟩
  refine List.forall_mem_cons.mpr ⟨s_iload_n dX9_put_54 rfl, ?_⟩
  refine List.forall_mem_cons.mpr ⟨s_iload dX9_put_55, ?_⟩
  refine List.forall_mem_cons.mpr ⟨s_callSI ca_X7_lowestBits ml_X9_245 st_X7_lowestBits ⟨(Nat.le_of_ble_eq_true rfl), (Nat.le_of_ble_eq_true rfl)⟩ dX9_put_57, ?_⟩
  refine List.forall_mem_cons.mpr ⟨s_iastore dX9_put_60, ?_⟩
  refine List.forall_mem_cons.mpr ⟨s_iconst dX9_put_61 (by decide), ?_⟩
  refine List.forall_mem_cons.mpr ⟨s_ireturn dX9_put_62 rfl, ?_⟩
  exact fun _ h => absurd h List.not_mem_nil
def cd_X9_get : sv_Cd := [(0, o_il 1 1),
  (1, o_sI m_X9_isSheet 1 4),
  (4, o_if (fun x => x = 0) 14 7),
  (7, o_il 2 8),
  (8, o_sI m_X9_isForm 1 11),
  (11, o_if (fun x => x = 0) 14 17),
  (14, o_ic (-2147483648) 16),
  (16, o_ir),
  (17, o_al 0 18),
  (18, o_gR 0 1 21),
  (21, o_il 1 22),
  (22, o_il 2 23),
  (23, o_il 3 24),
  (24, o_vI m_X7_findingOfItem 3 1 27),
  (27, o_is 4 29),
  (29, o_il 4 31),
  (31, o_if (fun x => x = 0) 47 34),
  (34, o_al 0 35),
  (35, o_gR 0 1 38),
  (38, o_il 4 40),
  (40, o_vI m_X7_found 1 1 43),
  (43, o_pop 44),
  (44, o_ic (-2147483648) 46),
  (46, o_ir),
  (47, o_al 0 48),
  (48, o_gR 0 1 51),
  (51, o_gR 1 2 54),
  (54, o_il 1 55),
  (55, o_aa 56),
  (56, o_il 3 57),
  (57, o_ia 58),
  (58, o_ir)]
set_option maxRecDepth 20000 in
theorem sn_X9_get : ∀ q ∈ cd_X9_get, sv_Snd m_X9_get q.1 q.2 := by
  unfold cd_X9_get
  refine List.forall_mem_cons.mpr ⟨s_iload_n dX9_get_0 rfl, ?_⟩
  refine List.forall_mem_cons.mpr ⟨s_callSI ca_X9_isSheet ml_X9_220 st_X9_isSheet ⟨(Nat.le_of_ble_eq_true rfl), (Nat.le_of_ble_eq_true rfl)⟩ dX9_get_1, ?_⟩
  refine List.forall_mem_cons.mpr ⟨s_if_eq dX9_get_4 (by decide), ?_⟩
  refine List.forall_mem_cons.mpr ⟨s_iload_n dX9_get_7 rfl, ?_⟩
  refine List.forall_mem_cons.mpr ⟨s_callSI ca_X9_isForm ml_X9_223 st_X9_isForm ⟨(Nat.le_of_ble_eq_true rfl), (Nat.le_of_ble_eq_true rfl)⟩ dX9_get_8, ?_⟩
  refine List.forall_mem_cons.mpr ⟨s_if_ne dX9_get_11 (by decide), ?_⟩
  refine List.forall_mem_cons.mpr ⟨s_ldc dX9_get_14 cs_X9_248, ?_⟩
  refine List.forall_mem_cons.mpr ⟨s_ireturn dX9_get_16 rfl, ?_⟩
  refine List.forall_mem_cons.mpr ⟨s_aload_n dX9_get_17 rfl, ?_⟩
  refine List.forall_mem_cons.mpr ⟨s_getR (j := 0) cf_X9 (Nat.le_of_ble_eq_true rfl) rfl fl_X9_10 dX9_get_18, ?_⟩
  refine List.forall_mem_cons.mpr ⟨s_iload_n dX9_get_21 rfl, ?_⟩
  refine List.forall_mem_cons.mpr ⟨s_iload_n dX9_get_22 rfl, ?_⟩
  refine List.forall_mem_cons.mpr ⟨s_iload_n dX9_get_23 rfl, ?_⟩
  refine List.forall_mem_cons.mpr ⟨s_callVI cf_X7 rfl ca_X7_findingOfItem ml_X9_238 im_X7_findingOfItem se_X7_findingOfItem ⟨(Nat.le_of_ble_eq_true rfl), (Nat.le_of_ble_eq_true rfl)⟩ dX9_get_24, ?_⟩
  refine List.forall_mem_cons.mpr ⟨s_istore dX9_get_27 (Nat.le_of_ble_eq_true rfl), ?_⟩
  refine List.forall_mem_cons.mpr ⟨s_iload dX9_get_29, ?_⟩
  refine List.forall_mem_cons.mpr ⟨s_if_eq dX9_get_31 (by decide), ?_⟩
  refine List.forall_mem_cons.mpr ⟨s_aload_n dX9_get_34 rfl, ?_⟩
  refine List.forall_mem_cons.mpr ⟨s_getR (j := 0) cf_X9 (Nat.le_of_ble_eq_true rfl) rfl fl_X9_10 dX9_get_35, ?_⟩
  refine List.forall_mem_cons.mpr ⟨s_iload dX9_get_38, ?_⟩
  refine List.forall_mem_cons.mpr ⟨s_callVI cf_X7 rfl ca_X7_found ml_X9_226 im_X7_found se_X7_found ⟨(Nat.le_of_ble_eq_true rfl), (Nat.le_of_ble_eq_true rfl)⟩ dX9_get_40, ?_⟩
  refine List.forall_mem_cons.mpr ⟨s_pop dX9_get_43, ?_⟩
  refine List.forall_mem_cons.mpr ⟨s_ldc dX9_get_44 cs_X9_248, ?_⟩
  refine List.forall_mem_cons.mpr ⟨s_ireturn dX9_get_46 rfl, ?_⟩
  refine List.forall_mem_cons.mpr ⟨s_aload_n dX9_get_47 rfl, ?_⟩
  refine List.forall_mem_cons.mpr ⟨s_getR (j := 0) cf_X9 (Nat.le_of_ble_eq_true rfl) rfl fl_X9_10 dX9_get_48, ?_⟩
  refine List.forall_mem_cons.mpr ⟨s_getRN (j := 0) cf_X7 (Nat.le_of_ble_eq_true rfl) rfl fl_X9_241 dX9_get_51, ?_⟩
  refine List.forall_mem_cons.mpr ⟨s_iload_n dX9_get_54 rfl, ?_⟩
  refine List.forall_mem_cons.mpr ⟨s_aaload dX9_get_55, ?_⟩
  refine List.forall_mem_cons.mpr ⟨s_iload_n dX9_get_56 rfl, ?_⟩
  refine List.forall_mem_cons.mpr ⟨s_iaload dX9_get_57, ?_⟩
  refine List.forall_mem_cons.mpr ⟨s_ireturn dX9_get_58 rfl, ?_⟩
  exact fun _ h => absurd h List.not_mem_nil
def cd_X9_copy : sv_Cd := [(0, o_il 1 1),
  (1, o_sI m_X9_isSheet 1 4),
  (4, o_if (fun x => x = 0) 14 7),
  (7, o_il 3 8),
  (8, o_sI m_X9_isSheet 1 11),
  (11, o_if (fun x => x = 0) 14 17),
  (14, o_ic (-2) 16),
  (16, o_ir),
  (17, o_al 0 18),
  (18, o_gR 0 1 21),
  (21, o_il 1 22),
  (22, o_il 3 23),
  (23, o_vI m_X7_findingOfSheets 2 1 26),
  (26, o_is 6 28),
  (28, o_il 6 30),
  (30, o_if (fun x => x = 0) 33 65),
  (33, o_al 0 34),
  (34, o_gR 0 1 37),
  (37, o_il 1 38),
  (38, o_il 2 39),
  (39, o_il 5 41),
  (41, o_vI m_X7_hasSpan 3 1 44),
  (44, o_if (fun x => x = 0) 62 47),
  (47, o_al 0 48),
  (48, o_gR 0 1 51),
  (51, o_il 3 52),
  (52, o_il 4 54),
  (54, o_il 5 56),
  (56, o_vI m_X7_hasSpan 3 1 59),
  (59, o_if (fun x => x = 0) 62 65),
  (62, o_ic 2 63),
  (63, o_is 6 65),
  (65, o_il 6 67),
  (67, o_if (fun x => x = 0) 80 70),
  (70, o_al 0 71),
  (71, o_gR 0 1 74),
  (74, o_il 6 76),
  (76, o_vI m_X7_found 1 1 79),
  (79, o_ir),
  (80, o_al 0 81),
  (81, o_gR 0 1 84),
  (84, o_gR 1 2 87),
  (87, o_il 1 88),
  (88, o_aa 89),
  (89, o_il 2 90),
  (90, o_al 0 91),
  (91, o_gR 0 1 94),
  (94, o_gR 1 2 97),
  (97, o_il 3 98),
  (98, o_aa 99),
  (99, o_il 4 101),
  (101, o_il 5 103),
  (103, o_cp 106),
  (106, o_ic 1 107),
  (107, o_ir)]
set_option maxRecDepth 20000 in
theorem sn_X9_copy : ∀ q ∈ cd_X9_copy, sv_Snd m_X9_copy q.1 q.2 := by
  unfold cd_X9_copy
  refine List.forall_mem_cons.mpr ⟨s_iload_n dX9_copy_0 rfl, ?_⟩
  refine List.forall_mem_cons.mpr ⟨s_callSI ca_X9_isSheet ml_X9_220 st_X9_isSheet ⟨(Nat.le_of_ble_eq_true rfl), (Nat.le_of_ble_eq_true rfl)⟩ dX9_copy_1, ?_⟩
  refine List.forall_mem_cons.mpr ⟨s_if_eq dX9_copy_4 (by decide), ?_⟩
  refine List.forall_mem_cons.mpr ⟨s_iload_n dX9_copy_7 rfl, ?_⟩
  refine List.forall_mem_cons.mpr ⟨s_callSI ca_X9_isSheet ml_X9_220 st_X9_isSheet ⟨(Nat.le_of_ble_eq_true rfl), (Nat.le_of_ble_eq_true rfl)⟩ dX9_copy_8, ?_⟩
  refine List.forall_mem_cons.mpr ⟨s_if_ne dX9_copy_11 (by decide), ?_⟩
  refine List.forall_mem_cons.mpr ⟨s_bipush dX9_copy_14 (by decide), ?_⟩
  refine List.forall_mem_cons.mpr ⟨s_ireturn dX9_copy_16 rfl, ?_⟩
  refine List.forall_mem_cons.mpr ⟨s_aload_n dX9_copy_17 rfl, ?_⟩
  refine List.forall_mem_cons.mpr ⟨s_getR (j := 0) cf_X9 (Nat.le_of_ble_eq_true rfl) rfl fl_X9_10 dX9_copy_18, ?_⟩
  refine List.forall_mem_cons.mpr ⟨s_iload_n dX9_copy_21 rfl, ?_⟩
  refine List.forall_mem_cons.mpr ⟨s_iload_n dX9_copy_22 rfl, ?_⟩
  refine List.forall_mem_cons.mpr ⟨s_callVI cf_X7 rfl ca_X7_findingOfSheets ml_X9_249 im_X7_findingOfSheets se_X7_findingOfSheets ⟨(Nat.le_of_ble_eq_true rfl), (Nat.le_of_ble_eq_true rfl)⟩ dX9_copy_23, ?_⟩
  refine List.forall_mem_cons.mpr ⟨s_istore dX9_copy_26 (Nat.le_of_ble_eq_true rfl), ?_⟩
  refine List.forall_mem_cons.mpr ⟨s_iload dX9_copy_28, ?_⟩
  refine List.forall_mem_cons.mpr ⟨s_if_ne dX9_copy_30 (by decide), ?_⟩
  refine List.forall_mem_cons.mpr ⟨s_aload_n dX9_copy_33 rfl, ?_⟩
  refine List.forall_mem_cons.mpr ⟨s_getR (j := 0) cf_X9 (Nat.le_of_ble_eq_true rfl) rfl fl_X9_10 dX9_copy_34, ?_⟩
  refine List.forall_mem_cons.mpr ⟨s_iload_n dX9_copy_37 rfl, ?_⟩
  refine List.forall_mem_cons.mpr ⟨s_iload_n dX9_copy_38 rfl, ?_⟩
  refine List.forall_mem_cons.mpr ⟨s_iload dX9_copy_39, ?_⟩
  refine List.forall_mem_cons.mpr ⟨s_callVI cf_X7 rfl ca_X7_hasSpan ml_X9_252 im_X7_hasSpan se_X7_hasSpan ⟨(Nat.le_of_ble_eq_true rfl), (Nat.le_of_ble_eq_true rfl)⟩ dX9_copy_41, ?_⟩
  refine List.forall_mem_cons.mpr ⟨s_if_eq dX9_copy_44 (by decide), ?_⟩
  refine List.forall_mem_cons.mpr ⟨s_aload_n dX9_copy_47 rfl, ?_⟩
  refine List.forall_mem_cons.mpr ⟨s_getR (j := 0) cf_X9 (Nat.le_of_ble_eq_true rfl) rfl fl_X9_10 dX9_copy_48, ?_⟩
  refine List.forall_mem_cons.mpr ⟨s_iload_n dX9_copy_51 rfl, ?_⟩
  refine List.forall_mem_cons.mpr ⟨s_iload dX9_copy_52, ?_⟩
  refine List.forall_mem_cons.mpr ⟨s_iload dX9_copy_54, ?_⟩
  refine List.forall_mem_cons.mpr ⟨s_callVI cf_X7 rfl ca_X7_hasSpan ml_X9_252 im_X7_hasSpan se_X7_hasSpan ⟨(Nat.le_of_ble_eq_true rfl), (Nat.le_of_ble_eq_true rfl)⟩ dX9_copy_56, ?_⟩
  refine List.forall_mem_cons.mpr ⟨s_if_ne dX9_copy_59 (by decide), ?_⟩
  refine List.forall_mem_cons.mpr ⟨s_iconst dX9_copy_62 (by decide), ?_⟩
  refine List.forall_mem_cons.mpr ⟨s_istore dX9_copy_63 (Nat.le_of_ble_eq_true rfl), ?_⟩
  refine List.forall_mem_cons.mpr ⟨s_iload dX9_copy_65, ?_⟩
  refine List.forall_mem_cons.mpr ⟨s_if_eq dX9_copy_67 (by decide), ?_⟩
  refine List.forall_mem_cons.mpr ⟨s_aload_n dX9_copy_70 rfl, ?_⟩
  refine List.forall_mem_cons.mpr ⟨s_getR (j := 0) cf_X9 (Nat.le_of_ble_eq_true rfl) rfl fl_X9_10 dX9_copy_71, ?_⟩
  refine List.forall_mem_cons.mpr ⟨s_iload dX9_copy_74, ?_⟩
  refine List.forall_mem_cons.mpr ⟨s_callVI cf_X7 rfl ca_X7_found ml_X9_226 im_X7_found se_X7_found ⟨(Nat.le_of_ble_eq_true rfl), (Nat.le_of_ble_eq_true rfl)⟩ dX9_copy_76, ?_⟩
  refine List.forall_mem_cons.mpr ⟨s_ireturn dX9_copy_79 rfl, ?_⟩
  refine List.forall_mem_cons.mpr ⟨s_aload_n dX9_copy_80 rfl, ?_⟩
  refine List.forall_mem_cons.mpr ⟨s_getR (j := 0) cf_X9 (Nat.le_of_ble_eq_true rfl) rfl fl_X9_10 dX9_copy_81, ?_⟩
  refine List.forall_mem_cons.mpr ⟨s_getRN (j := 0) cf_X7 (Nat.le_of_ble_eq_true rfl) rfl fl_X9_241 dX9_copy_84, ?_⟩
  refine List.forall_mem_cons.mpr ⟨s_iload_n dX9_copy_87 rfl, ?_⟩
  refine List.forall_mem_cons.mpr ⟨s_aaload dX9_copy_88, ?_⟩
  refine List.forall_mem_cons.mpr ⟨s_iload_n dX9_copy_89 rfl, ?_⟩
  refine List.forall_mem_cons.mpr ⟨s_aload_n dX9_copy_90 rfl, ?_⟩
  refine List.forall_mem_cons.mpr ⟨s_getR (j := 0) cf_X9 (Nat.le_of_ble_eq_true rfl) rfl fl_X9_10 dX9_copy_91, ?_⟩
  refine List.forall_mem_cons.mpr ⟨s_getRN (j := 0) cf_X7 (Nat.le_of_ble_eq_true rfl) rfl fl_X9_241 dX9_copy_94, ?_⟩
  refine List.forall_mem_cons.mpr ⟨s_iload_n dX9_copy_97 rfl, ?_⟩
  refine List.forall_mem_cons.mpr ⟨s_aaload dX9_copy_98, ?_⟩
  refine List.forall_mem_cons.mpr ⟨s_iload dX9_copy_99, ?_⟩
  refine List.forall_mem_cons.mpr ⟨s_iload dX9_copy_101, ?_⟩
  refine List.forall_mem_cons.mpr ⟨s_copy ml_X9_255 ac_n ac_s ac_i (Nat.le_of_ble_eq_true rfl) (Nat.le_of_ble_eq_true rfl) dX9_copy_103, ?_⟩
  refine List.forall_mem_cons.mpr ⟨s_iconst dX9_copy_106 (by decide), ?_⟩
  refine List.forall_mem_cons.mpr ⟨s_ireturn dX9_copy_107 rfl, ?_⟩
  exact fun _ h => absurd h List.not_mem_nil
def cd_X9_count : sv_Cd := [(0, o_il 1 1),
  (1, o_sw [(0, 44), (1, 52), (2, 60), (3, 68), (4, 76), (5, 84), (6, 92)] 100),
  (44, o_al 0 45),
  (45, o_gR 0 9 48),
  (48, o_gI 9 4 51),
  (51, o_ir),
  (52, o_al 0 53),
  (53, o_gR 0 9 56),
  (56, o_gI 9 5 59),
  (59, o_ir),
  (60, o_al 0 61),
  (61, o_gR 0 13 64),
  (64, o_gI 13 4 67),
  (67, o_ir),
  (68, o_al 0 69),
  (69, o_gR 0 13 72),
  (72, o_gI 13 5 75),
  (75, o_ir),
  (76, o_al 0 77),
  (77, o_gR 0 25 80),
  (80, o_gI 25 3 83),
  (83, o_ir),
  (84, o_al 0 85),
  (85, o_gR 0 35 88),
  (88, o_gI 35 3 91),
  (91, o_ir),
  (92, o_al 0 93),
  (93, o_gR 0 1 96),
  (96, o_gI 1 3 99),
  (99, o_ir),
  (100, o_ic (-2) 102),
  (102, o_ir)]
set_option maxRecDepth 20000 in
theorem sn_X9_count : ∀ q ∈ cd_X9_count, sv_Snd m_X9_count q.1 q.2 := by
  unfold cd_X9_count
  refine List.forall_mem_cons.mpr ⟨s_iload_n dX9_count_0 rfl, ?_⟩
  refine List.forall_mem_cons.mpr ⟨s_tab 7 dX9_count_1 rfl (by decide) (by decide) (by decide) rfl, ?_⟩
  refine List.forall_mem_cons.mpr ⟨s_aload_n dX9_count_44 rfl, ?_⟩
  refine List.forall_mem_cons.mpr ⟨s_getR (j := 1) cf_X9 (Nat.le_of_ble_eq_true rfl) rfl fl_X9_21 dX9_count_45, ?_⟩
  refine List.forall_mem_cons.mpr ⟨s_getIN cf_X6 (Nat.le_of_ble_eq_true rfl) rfl fl_X9_77 dX9_count_48, ?_⟩
  refine List.forall_mem_cons.mpr ⟨s_ireturn dX9_count_51 rfl, ?_⟩
  refine List.forall_mem_cons.mpr ⟨s_aload_n dX9_count_52 rfl, ?_⟩
  refine List.forall_mem_cons.mpr ⟨s_getR (j := 1) cf_X9 (Nat.le_of_ble_eq_true rfl) rfl fl_X9_21 dX9_count_53, ?_⟩
  refine List.forall_mem_cons.mpr ⟨s_getIN cf_X6 (Nat.le_of_ble_eq_true rfl) rfl fl_X9_85 dX9_count_56, ?_⟩
  refine List.forall_mem_cons.mpr ⟨s_ireturn dX9_count_59 rfl, ?_⟩
  refine List.forall_mem_cons.mpr ⟨s_aload_n dX9_count_60 rfl, ?_⟩
  refine List.forall_mem_cons.mpr ⟨s_getR (j := 2) cf_X9 (Nat.le_of_ble_eq_true rfl) rfl fl_X9_28 dX9_count_61, ?_⟩
  refine List.forall_mem_cons.mpr ⟨s_getIN cf_X0 (Nat.le_of_ble_eq_true rfl) rfl fl_X9_109 dX9_count_64, ?_⟩
  refine List.forall_mem_cons.mpr ⟨s_ireturn dX9_count_67 rfl, ?_⟩
  refine List.forall_mem_cons.mpr ⟨s_aload_n dX9_count_68 rfl, ?_⟩
  refine List.forall_mem_cons.mpr ⟨s_getR (j := 2) cf_X9 (Nat.le_of_ble_eq_true rfl) rfl fl_X9_28 dX9_count_69, ?_⟩
  refine List.forall_mem_cons.mpr ⟨s_getIN cf_X0 (Nat.le_of_ble_eq_true rfl) rfl fl_X9_142 dX9_count_72, ?_⟩
  refine List.forall_mem_cons.mpr ⟨s_ireturn dX9_count_75 rfl, ?_⟩
  refine List.forall_mem_cons.mpr ⟨s_aload_n dX9_count_76 rfl, ?_⟩
  refine List.forall_mem_cons.mpr ⟨s_getR (j := 6) cf_X9 (Nat.le_of_ble_eq_true rfl) rfl fl_X9_58 dX9_count_77, ?_⟩
  refine List.forall_mem_cons.mpr ⟨s_getIN cf_X8 (Nat.le_of_ble_eq_true rfl) rfl fl_X9_178 dX9_count_80, ?_⟩
  refine List.forall_mem_cons.mpr ⟨s_ireturn dX9_count_83 rfl, ?_⟩
  refine List.forall_mem_cons.mpr ⟨s_aload_n dX9_count_84 rfl, ?_⟩
  refine List.forall_mem_cons.mpr ⟨s_getR (j := 7) cf_X9 (Nat.le_of_ble_eq_true rfl) rfl fl_X9_65 dX9_count_85, ?_⟩
  refine List.forall_mem_cons.mpr ⟨s_getIN cf_X2 (Nat.le_of_ble_eq_true rfl) rfl fl_X9_202 dX9_count_88, ?_⟩
  refine List.forall_mem_cons.mpr ⟨s_ireturn dX9_count_91 rfl, ?_⟩
  refine List.forall_mem_cons.mpr ⟨s_aload_n dX9_count_92 rfl, ?_⟩
  refine List.forall_mem_cons.mpr ⟨s_getR (j := 0) cf_X9 (Nat.le_of_ble_eq_true rfl) rfl fl_X9_10 dX9_count_93, ?_⟩
  refine List.forall_mem_cons.mpr ⟨s_getIN cf_X7 (Nat.le_of_ble_eq_true rfl) rfl fl_X9_261 dX9_count_96, ?_⟩
  refine List.forall_mem_cons.mpr ⟨s_ireturn dX9_count_99 rfl, ?_⟩
  refine List.forall_mem_cons.mpr ⟨s_bipush dX9_count_100 (by decide), ?_⟩
  refine List.forall_mem_cons.mpr ⟨s_ireturn dX9_count_102 rfl, ?_⟩
  exact fun _ h => absurd h List.not_mem_nil
def cd_X9_digest : sv_Cd := [(0, o_lc 17 3),
  (3, o_ls 1 4),
  (4, o_ic 0 5),
  (5, o_is 3 6),
  (6, o_il 3 7),
  (7, o_ic 5 8),
  (8, o_ic2 (fun x y => y < x) 30 11),
  (11, o_lc 31 14),
  (14, o_ll 1 15),
  (15, o_lb (fun x y => x * y) 16),
  (16, o_al 0 17),
  (17, o_il 3 18),
  (18, o_vI m_X9_count 1 0 21),
  (21, o_i2l 22),
  (22, o_lb (fun x y => x + y) 23),
  (23, o_ls 1 24),
  (24, o_in 3 1 27),
  (27, o_go 6),
  (30, o_ic 0 31),
  (31, o_is 3 32),
  (32, o_il 3 33),
  (33, o_al 0 34),
  (34, o_gR 0 9 37),
  (37, o_gI 9 4 40),
  (40, o_ic2 (fun x y => y ≤ x) 66 43),
  (43, o_lc 31 46),
  (46, o_ll 1 47),
  (47, o_lb (fun x y => x * y) 48),
  (48, o_al 0 49),
  (49, o_gR 0 9 52),
  (52, o_gR 9 11 55),
  (55, o_il 3 56),
  (56, o_ia 57),
  (57, o_i2l 58),
  (58, o_lb (fun x y => x + y) 59),
  (59, o_ls 1 60),
  (60, o_in 3 1 63),
  (63, o_go 32),
  (66, o_ic 0 67),
  (67, o_is 3 68),
  (68, o_il 3 69),
  (69, o_al 0 70),
  (70, o_gR 0 9 73),
  (73, o_gI 9 4 76),
  (76, o_ic2 (fun x y => y ≤ x) 136 79),
  (79, o_ic 0 80),
  (80, o_is 4 82),
  (82, o_il 4 84),
  (84, o_ic 4 85),
  (85, o_ic2 (fun x y => y ≤ x) 130 88),
  (88, o_lc 31 91),
  (91, o_ll 1 92),
  (92, o_lb (fun x y => x * y) 93),
  (93, o_al 0 94),
  (94, o_gR 0 9 97),
  (97, o_il 3 98),
  (98, o_il 4 100),
  (100, o_vI m_X6_countingVotes 2 9 103),
  (103, o_i2l 104),
  (104, o_lb (fun x y => x + y) 105),
  (105, o_ls 1 106),
  (106, o_lc 31 109),
  (109, o_ll 1 110),
  (110, o_lb (fun x y => x * y) 111),
  (111, o_al 0 112),
  (112, o_gR 0 9 115),
  (115, o_il 3 116),
  (116, o_il 4 118),
  (118, o_vI m_X6_yesVotes 2 9 121),
  (121, o_i2l 122),
  (122, o_lb (fun x y => x + y) 123),
  (123, o_ls 1 124),
  (124, o_in 4 1 127),
  (127, o_go 82),
  (130, o_in 3 1 133),
  (133, o_go 68),
  (136, o_lc 31 139),
  (139, o_ll 1 140),
  (140, o_lb (fun x y => x * y) 141),
  (141, o_al 0 142),
  (142, o_vI m_X9_chosen 0 0 145),
  (145, o_i2l 146),
  (146, o_lb (fun x y => x + y) 147),
  (147, o_ls 1 148),
  (148, o_lc 31 151),
  (151, o_ll 1 152),
  (152, o_lb (fun x y => x * y) 153),
  (153, o_al 0 154),
  (154, o_vI m_X9_seat 0 0 157),
  (157, o_i2l 158),
  (158, o_lb (fun x y => x + y) 159),
  (159, o_lr)]
set_option maxRecDepth 20000 in
theorem sn_X9_digest : ∀ q ∈ cd_X9_digest, sv_Snd m_X9_digest q.1 q.2 := by
  unfold cd_X9_digest
  refine List.forall_mem_cons.mpr ⟨s_ldc2 dX9_digest_0 cs_X9_264, ?_⟩
  refine List.forall_mem_cons.mpr ⟨s_lstore_n dX9_digest_3 rfl (Nat.le_of_ble_eq_true rfl), ?_⟩
  refine List.forall_mem_cons.mpr ⟨s_iconst dX9_digest_4 (by decide), ?_⟩
  refine List.forall_mem_cons.mpr ⟨s_istore_n dX9_digest_5 rfl (Nat.le_of_ble_eq_true rfl), ?_⟩
  refine List.forall_mem_cons.mpr ⟨s_iload_n dX9_digest_6 rfl, ?_⟩
  refine List.forall_mem_cons.mpr ⟨s_iconst dX9_digest_7 (by decide), ?_⟩
  refine List.forall_mem_cons.mpr ⟨s_icmp_gt dX9_digest_8 (by decide), ?_⟩
  refine List.forall_mem_cons.mpr ⟨s_ldc2 dX9_digest_11 cs_X9_266, ?_⟩
  refine List.forall_mem_cons.mpr ⟨s_lload_n dX9_digest_14 rfl, ?_⟩
  refine List.forall_mem_cons.mpr ⟨s_lmul dX9_digest_15, ?_⟩
  refine List.forall_mem_cons.mpr ⟨s_aload_n dX9_digest_16 rfl, ?_⟩
  refine List.forall_mem_cons.mpr ⟨s_iload_n dX9_digest_17 rfl, ?_⟩
  refine List.forall_mem_cons.mpr ⟨s_callVI cf_X9 rfl ca_X9_count ml_X9_268 im_X9_count se_X9_count ⟨(Nat.le_of_ble_eq_true rfl), (Nat.le_of_ble_eq_true rfl)⟩ dX9_digest_18, ?_⟩
  refine List.forall_mem_cons.mpr ⟨s_i2l dX9_digest_21, ?_⟩
  refine List.forall_mem_cons.mpr ⟨s_ladd dX9_digest_22, ?_⟩
  refine List.forall_mem_cons.mpr ⟨s_lstore_n dX9_digest_23 rfl (Nat.le_of_ble_eq_true rfl), ?_⟩
  refine List.forall_mem_cons.mpr ⟨s_iinc dX9_digest_24 (by decide) (Nat.le_of_ble_eq_true rfl), ?_⟩
  refine List.forall_mem_cons.mpr ⟨s_goto dX9_digest_27 (by decide), ?_⟩
  refine List.forall_mem_cons.mpr ⟨s_iconst dX9_digest_30 (by decide), ?_⟩
  refine List.forall_mem_cons.mpr ⟨s_istore_n dX9_digest_31 rfl (Nat.le_of_ble_eq_true rfl), ?_⟩
  refine List.forall_mem_cons.mpr ⟨s_iload_n dX9_digest_32 rfl, ?_⟩
  refine List.forall_mem_cons.mpr ⟨s_aload_n dX9_digest_33 rfl, ?_⟩
  refine List.forall_mem_cons.mpr ⟨s_getR (j := 1) cf_X9 (Nat.le_of_ble_eq_true rfl) rfl fl_X9_21 dX9_digest_34, ?_⟩
  refine List.forall_mem_cons.mpr ⟨s_getIN cf_X6 (Nat.le_of_ble_eq_true rfl) rfl fl_X9_77 dX9_digest_37, ?_⟩
  refine List.forall_mem_cons.mpr ⟨s_icmp_ge dX9_digest_40 (by decide), ?_⟩
  refine List.forall_mem_cons.mpr ⟨s_ldc2 dX9_digest_43 cs_X9_266, ?_⟩
  refine List.forall_mem_cons.mpr ⟨s_lload_n dX9_digest_46 rfl, ?_⟩
  refine List.forall_mem_cons.mpr ⟨s_lmul dX9_digest_47, ?_⟩
  refine List.forall_mem_cons.mpr ⟨s_aload_n dX9_digest_48 rfl, ?_⟩
  refine List.forall_mem_cons.mpr ⟨s_getR (j := 1) cf_X9 (Nat.le_of_ble_eq_true rfl) rfl fl_X9_21 dX9_digest_49, ?_⟩
  refine List.forall_mem_cons.mpr ⟨s_getRN (j := 2) cf_X6 (Nat.le_of_ble_eq_true rfl) rfl fl_X9_92 dX9_digest_52, ?_⟩
  refine List.forall_mem_cons.mpr ⟨s_iload_n dX9_digest_55 rfl, ?_⟩
  refine List.forall_mem_cons.mpr ⟨s_iaload dX9_digest_56, ?_⟩
  refine List.forall_mem_cons.mpr ⟨s_i2l dX9_digest_57, ?_⟩
  refine List.forall_mem_cons.mpr ⟨s_ladd dX9_digest_58, ?_⟩
  refine List.forall_mem_cons.mpr ⟨s_lstore_n dX9_digest_59 rfl (Nat.le_of_ble_eq_true rfl), ?_⟩
  refine List.forall_mem_cons.mpr ⟨s_iinc dX9_digest_60 (by decide) (Nat.le_of_ble_eq_true rfl), ?_⟩
  refine List.forall_mem_cons.mpr ⟨s_goto dX9_digest_63 (by decide), ?_⟩
  refine List.forall_mem_cons.mpr ⟨s_iconst dX9_digest_66 (by decide), ?_⟩
  refine List.forall_mem_cons.mpr ⟨s_istore_n dX9_digest_67 rfl (Nat.le_of_ble_eq_true rfl), ?_⟩
  refine List.forall_mem_cons.mpr ⟨s_iload_n dX9_digest_68 rfl, ?_⟩
  refine List.forall_mem_cons.mpr ⟨s_aload_n dX9_digest_69 rfl, ?_⟩
  refine List.forall_mem_cons.mpr ⟨s_getR (j := 1) cf_X9 (Nat.le_of_ble_eq_true rfl) rfl fl_X9_21 dX9_digest_70, ?_⟩
  refine List.forall_mem_cons.mpr ⟨s_getIN cf_X6 (Nat.le_of_ble_eq_true rfl) rfl fl_X9_77 dX9_digest_73, ?_⟩
  refine List.forall_mem_cons.mpr ⟨s_icmp_ge dX9_digest_76 (by decide), ?_⟩
  refine List.forall_mem_cons.mpr ⟨s_iconst dX9_digest_79 (by decide), ?_⟩
  refine List.forall_mem_cons.mpr ⟨s_istore dX9_digest_80 (Nat.le_of_ble_eq_true rfl), ?_⟩
  refine List.forall_mem_cons.mpr ⟨s_iload dX9_digest_82, ?_⟩
  refine List.forall_mem_cons.mpr ⟨s_iconst dX9_digest_84 (by decide), ?_⟩
  refine List.forall_mem_cons.mpr ⟨s_icmp_ge dX9_digest_85 (by decide), ?_⟩
  refine List.forall_mem_cons.mpr ⟨s_ldc2 dX9_digest_88 cs_X9_266, ?_⟩
  refine List.forall_mem_cons.mpr ⟨s_lload_n dX9_digest_91 rfl, ?_⟩
  refine List.forall_mem_cons.mpr ⟨s_lmul dX9_digest_92, ?_⟩
  refine List.forall_mem_cons.mpr ⟨s_aload_n dX9_digest_93 rfl, ?_⟩
  refine List.forall_mem_cons.mpr ⟨s_getR (j := 1) cf_X9 (Nat.le_of_ble_eq_true rfl) rfl fl_X9_21 dX9_digest_94, ?_⟩
  refine List.forall_mem_cons.mpr ⟨s_iload_n dX9_digest_97 rfl, ?_⟩
  refine List.forall_mem_cons.mpr ⟨s_iload dX9_digest_98, ?_⟩
  refine List.forall_mem_cons.mpr ⟨s_callVI cf_X6 rfl ca_X6_countingVotes ml_X9_102 im_X6_countingVotes se_X6_countingVotes ⟨(Nat.le_of_ble_eq_true rfl), (Nat.le_of_ble_eq_true rfl)⟩ dX9_digest_100, ?_⟩
  refine List.forall_mem_cons.mpr ⟨s_i2l dX9_digest_103, ?_⟩
  refine List.forall_mem_cons.mpr ⟨s_ladd dX9_digest_104, ?_⟩
  refine List.forall_mem_cons.mpr ⟨s_lstore_n dX9_digest_105 rfl (Nat.le_of_ble_eq_true rfl), ?_⟩
  refine List.forall_mem_cons.mpr ⟨s_ldc2 dX9_digest_106 cs_X9_266, ?_⟩
  refine List.forall_mem_cons.mpr ⟨s_lload_n dX9_digest_109 rfl, ?_⟩
  refine List.forall_mem_cons.mpr ⟨s_lmul dX9_digest_110, ?_⟩
  refine List.forall_mem_cons.mpr ⟨s_aload_n dX9_digest_111 rfl, ?_⟩
  refine List.forall_mem_cons.mpr ⟨s_getR (j := 1) cf_X9 (Nat.le_of_ble_eq_true rfl) rfl fl_X9_21 dX9_digest_112, ?_⟩
  refine List.forall_mem_cons.mpr ⟨s_iload_n dX9_digest_115 rfl, ?_⟩
  refine List.forall_mem_cons.mpr ⟨s_iload dX9_digest_116, ?_⟩
  refine List.forall_mem_cons.mpr ⟨s_callVI cf_X6 rfl ca_X6_yesVotes ml_X9_106 im_X6_yesVotes se_X6_yesVotes ⟨(Nat.le_of_ble_eq_true rfl), (Nat.le_of_ble_eq_true rfl)⟩ dX9_digest_118, ?_⟩
  refine List.forall_mem_cons.mpr ⟨s_i2l dX9_digest_121, ?_⟩
  refine List.forall_mem_cons.mpr ⟨s_ladd dX9_digest_122, ?_⟩
  refine List.forall_mem_cons.mpr ⟨s_lstore_n dX9_digest_123 rfl (Nat.le_of_ble_eq_true rfl), ?_⟩
  refine List.forall_mem_cons.mpr ⟨s_iinc dX9_digest_124 (by decide) (Nat.le_of_ble_eq_true rfl), ?_⟩
  refine List.forall_mem_cons.mpr ⟨s_goto dX9_digest_127 (by decide), ?_⟩
  refine List.forall_mem_cons.mpr ⟨s_iinc dX9_digest_130 (by decide) (Nat.le_of_ble_eq_true rfl), ?_⟩
  refine List.forall_mem_cons.mpr ⟨s_goto dX9_digest_133 (by decide), ?_⟩
  refine List.forall_mem_cons.mpr ⟨s_ldc2 dX9_digest_136 cs_X9_266, ?_⟩
  refine List.forall_mem_cons.mpr ⟨s_lload_n dX9_digest_139 rfl, ?_⟩
  refine List.forall_mem_cons.mpr ⟨s_lmul dX9_digest_140, ?_⟩
  refine List.forall_mem_cons.mpr ⟨s_aload_n dX9_digest_141 rfl, ?_⟩
  refine List.forall_mem_cons.mpr ⟨s_callVI cf_X9 rfl ca_X9_chosen ml_X9_271 im_X9_chosen se_X9_chosen ⟨(Nat.le_of_ble_eq_true rfl), (Nat.le_of_ble_eq_true rfl)⟩ dX9_digest_142, ?_⟩
  refine List.forall_mem_cons.mpr ⟨s_i2l dX9_digest_145, ?_⟩
  refine List.forall_mem_cons.mpr ⟨s_ladd dX9_digest_146, ?_⟩
  refine List.forall_mem_cons.mpr ⟨s_lstore_n dX9_digest_147 rfl (Nat.le_of_ble_eq_true rfl), ?_⟩
  refine List.forall_mem_cons.mpr ⟨s_ldc2 dX9_digest_148 cs_X9_266, ?_⟩
  refine List.forall_mem_cons.mpr ⟨s_lload_n dX9_digest_151 rfl, ?_⟩
  refine List.forall_mem_cons.mpr ⟨s_lmul dX9_digest_152, ?_⟩
  refine List.forall_mem_cons.mpr ⟨s_aload_n dX9_digest_153 rfl, ?_⟩
  refine List.forall_mem_cons.mpr ⟨s_callVI cf_X9 rfl ca_X9_seat ml_X9_274 im_X9_seat se_X9_seat ⟨(Nat.le_of_ble_eq_true rfl), (Nat.le_of_ble_eq_true rfl)⟩ dX9_digest_154, ?_⟩
  refine List.forall_mem_cons.mpr ⟨s_i2l dX9_digest_157, ?_⟩
  refine List.forall_mem_cons.mpr ⟨s_ladd dX9_digest_158, ?_⟩
  refine List.forall_mem_cons.mpr ⟨s_lreturn dX9_digest_159 rfl, ?_⟩
  exact fun _ h => absurd h List.not_mem_nil
def cd_X9_within : sv_Cd := [(0, o_il 0 1),
  (1, o_il 1 2),
  (2, o_ic2 (fun x y => x < y) 14 5),
  (5, o_il 0 6),
  (6, o_il 2 7),
  (7, o_ic2 (fun x y => y < x) 14 10),
  (10, o_ic 1 11),
  (11, o_go 15),
  (14, o_ic 0 15),
  (15, o_zr)]
set_option maxRecDepth 20000 in
theorem sn_X9_within : ∀ q ∈ cd_X9_within, sv_Snd m_X9_within q.1 q.2 := by
  unfold cd_X9_within
  refine List.forall_mem_cons.mpr ⟨s_iload_n dX9_within_0 rfl, ?_⟩
  refine List.forall_mem_cons.mpr ⟨s_iload_n dX9_within_1 rfl, ?_⟩
  refine List.forall_mem_cons.mpr ⟨s_icmp_lt dX9_within_2 (by decide), ?_⟩
  refine List.forall_mem_cons.mpr ⟨s_iload_n dX9_within_5 rfl, ?_⟩
  refine List.forall_mem_cons.mpr ⟨s_iload_n dX9_within_6 rfl, ?_⟩
  refine List.forall_mem_cons.mpr ⟨s_icmp_gt dX9_within_7 (by decide), ?_⟩
  refine List.forall_mem_cons.mpr ⟨s_iconst dX9_within_10 (by decide), ?_⟩
  refine List.forall_mem_cons.mpr ⟨s_goto dX9_within_11 (by decide), ?_⟩
  refine List.forall_mem_cons.mpr ⟨s_iconst dX9_within_14 (by decide), ?_⟩
  refine List.forall_mem_cons.mpr ⟨s_zreturn dX9_within_15 rfl, ?_⟩
  exact fun _ h => absurd h List.not_mem_nil
def cd_X9_isRound : sv_Cd := [(0, o_il 0 1),
  (1, o_ic 0 2),
  (2, o_ic 3 3),
  (3, o_sI m_X9_within 3 6),
  (6, o_zr)]
set_option maxRecDepth 20000 in
theorem sn_X9_isRound : ∀ q ∈ cd_X9_isRound, sv_Snd m_X9_isRound q.1 q.2 := by
  unfold cd_X9_isRound
  refine List.forall_mem_cons.mpr ⟨s_iload_n dX9_isRound_0 rfl, ?_⟩
  refine List.forall_mem_cons.mpr ⟨s_iconst dX9_isRound_1 (by decide), ?_⟩
  refine List.forall_mem_cons.mpr ⟨s_iconst dX9_isRound_2 (by decide), ?_⟩
  refine List.forall_mem_cons.mpr ⟨s_callSI ca_X9_within ml_X9_73 st_X9_within ⟨(Nat.le_of_ble_eq_true rfl), (Nat.le_of_ble_eq_true rfl)⟩ dX9_isRound_3, ?_⟩
  refine List.forall_mem_cons.mpr ⟨s_zreturn dX9_isRound_6 rfl, ?_⟩
  exact fun _ h => absurd h List.not_mem_nil
def cd_X9_isSheet : sv_Cd := [(0, o_il 0 1),
  (1, o_ic 0 2),
  (2, o_ic 3 3),
  (3, o_sI m_X9_within 3 6),
  (6, o_zr)]
set_option maxRecDepth 20000 in
theorem sn_X9_isSheet : ∀ q ∈ cd_X9_isSheet, sv_Snd m_X9_isSheet q.1 q.2 := by
  unfold cd_X9_isSheet
  refine List.forall_mem_cons.mpr ⟨s_iload_n dX9_isSheet_0 rfl, ?_⟩
  refine List.forall_mem_cons.mpr ⟨s_iconst dX9_isSheet_1 (by decide), ?_⟩
  refine List.forall_mem_cons.mpr ⟨s_iconst dX9_isSheet_2 (by decide), ?_⟩
  refine List.forall_mem_cons.mpr ⟨s_callSI ca_X9_within ml_X9_73 st_X9_within ⟨(Nat.le_of_ble_eq_true rfl), (Nat.le_of_ble_eq_true rfl)⟩ dX9_isSheet_3, ?_⟩
  refine List.forall_mem_cons.mpr ⟨s_zreturn dX9_isSheet_6 rfl, ?_⟩
  exact fun _ h => absurd h List.not_mem_nil
def cd_X9_isForm : sv_Cd := [(0, o_il 0 1),
  (1, o_ic 0 2),
  (2, o_ic 2 3),
  (3, o_sI m_X9_within 3 6),
  (6, o_zr)]
set_option maxRecDepth 20000 in
theorem sn_X9_isForm : ∀ q ∈ cd_X9_isForm, sv_Snd m_X9_isForm q.1 q.2 := by
  unfold cd_X9_isForm
  refine List.forall_mem_cons.mpr ⟨s_iload_n dX9_isForm_0 rfl, ?_⟩
  refine List.forall_mem_cons.mpr ⟨s_iconst dX9_isForm_1 (by decide), ?_⟩
  refine List.forall_mem_cons.mpr ⟨s_iconst dX9_isForm_2 (by decide), ?_⟩
  refine List.forall_mem_cons.mpr ⟨s_callSI ca_X9_within ml_X9_73 st_X9_within ⟨(Nat.le_of_ble_eq_true rfl), (Nat.le_of_ble_eq_true rfl)⟩ dX9_isForm_3, ?_⟩
  refine List.forall_mem_cons.mpr ⟨s_zreturn dX9_isForm_6 rfl, ?_⟩
  exact fun _ h => absurd h List.not_mem_nil
def cd_X9_inTable : sv_Cd := [(0, o_il 0 1),
  (1, o_ic 0 2),
  (2, o_ic 15 4),
  (4, o_sI m_X9_within 3 7),
  (7, o_zr)]
set_option maxRecDepth 20000 in
theorem sn_X9_inTable : ∀ q ∈ cd_X9_inTable, sv_Snd m_X9_inTable q.1 q.2 := by
  unfold cd_X9_inTable
  refine List.forall_mem_cons.mpr ⟨s_iload_n dX9_inTable_0 rfl, ?_⟩
  refine List.forall_mem_cons.mpr ⟨s_iconst dX9_inTable_1 (by decide), ?_⟩
  refine List.forall_mem_cons.mpr ⟨s_bipush dX9_inTable_2 (by decide), ?_⟩
  refine List.forall_mem_cons.mpr ⟨s_callSI ca_X9_within ml_X9_73 st_X9_within ⟨(Nat.le_of_ble_eq_true rfl), (Nat.le_of_ble_eq_true rfl)⟩ dX9_inTable_4, ?_⟩
  refine List.forall_mem_cons.mpr ⟨s_zreturn dX9_inTable_7 rfl, ?_⟩
  exact fun _ h => absurd h List.not_mem_nil
def cd_X9_isNumber : sv_Cd := [(0, o_il 0 1),
  (1, o_ic 0 2),
  (2, o_ic 999999 5),
  (5, o_sI m_X9_within 3 8),
  (8, o_zr)]
set_option maxRecDepth 20000 in
theorem sn_X9_isNumber : ∀ q ∈ cd_X9_isNumber, sv_Snd m_X9_isNumber q.1 q.2 := by
  unfold cd_X9_isNumber
  refine List.forall_mem_cons.mpr ⟨s_iload_n dX9_isNumber_0 rfl, ?_⟩
  refine List.forall_mem_cons.mpr ⟨s_iconst dX9_isNumber_1 (by decide), ?_⟩
  refine List.forall_mem_cons.mpr ⟨s_ldcw dX9_isNumber_2 cs_X9_277, ?_⟩
  refine List.forall_mem_cons.mpr ⟨s_callSI ca_X9_within ml_X9_73 st_X9_within ⟨(Nat.le_of_ble_eq_true rfl), (Nat.le_of_ble_eq_true rfl)⟩ dX9_isNumber_5, ?_⟩
  refine List.forall_mem_cons.mpr ⟨s_zreturn dX9_isNumber_8 rfl, ?_⟩
  exact fun _ h => absurd h List.not_mem_nil
def cd_X9_isSkill : sv_Cd := [(0, o_il 1 1),
  (1, o_ic 0 2),
  (2, o_al 0 3),
  (3, o_gR 0 39 6),
  (6, o_len 7),
  (7, o_ic 1 8),
  (8, o_b (fun x y => x - y) 9),
  (9, o_sI m_X9_within 3 12),
  (12, o_zr)]
set_option maxRecDepth 20000 in
theorem sn_X9_isSkill : ∀ q ∈ cd_X9_isSkill, sv_Snd m_X9_isSkill q.1 q.2 := by
  unfold cd_X9_isSkill
  refine List.forall_mem_cons.mpr ⟨s_iload_n dX9_isSkill_0 rfl, ?_⟩
  refine List.forall_mem_cons.mpr ⟨s_iconst dX9_isSkill_1 (by decide), ?_⟩
  refine List.forall_mem_cons.mpr ⟨s_aload_n dX9_isSkill_2 rfl, ?_⟩
  refine List.forall_mem_cons.mpr ⟨s_getR (j := 8) cf_X9 (Nat.le_of_ble_eq_true rfl) rfl fl_X9_69 dX9_isSkill_3, ?_⟩
  refine List.forall_mem_cons.mpr ⟨s_arraylength dX9_isSkill_6, ?_⟩
  refine List.forall_mem_cons.mpr ⟨s_iconst dX9_isSkill_7 (by decide), ?_⟩
  refine List.forall_mem_cons.mpr ⟨s_isub dX9_isSkill_8, ?_⟩
  refine List.forall_mem_cons.mpr ⟨s_callSI ca_X9_within ml_X9_73 st_X9_within ⟨(Nat.le_of_ble_eq_true rfl), (Nat.le_of_ble_eq_true rfl)⟩ dX9_isSkill_9, ?_⟩
  refine List.forall_mem_cons.mpr ⟨s_zreturn dX9_isSkill_12 rfl, ?_⟩
  exact fun _ h => absurd h List.not_mem_nil
def cd_X9_isPlayer : sv_Cd := [(0, o_il 1 1),
  (1, o_ic 0 2),
  (2, o_al 0 3),
  (3, o_gR 0 9 6),
  (6, o_gI 9 4 9),
  (9, o_ic 1 10),
  (10, o_b (fun x y => x - y) 11),
  (11, o_sI m_X9_within 3 14),
  (14, o_zr)]
set_option maxRecDepth 20000 in
theorem sn_X9_isPlayer : ∀ q ∈ cd_X9_isPlayer, sv_Snd m_X9_isPlayer q.1 q.2 := by
  unfold cd_X9_isPlayer
  refine List.forall_mem_cons.mpr ⟨s_iload_n dX9_isPlayer_0 rfl, ?_⟩
  refine List.forall_mem_cons.mpr ⟨s_iconst dX9_isPlayer_1 (by decide), ?_⟩
  refine List.forall_mem_cons.mpr ⟨s_aload_n dX9_isPlayer_2 rfl, ?_⟩
  refine List.forall_mem_cons.mpr ⟨s_getR (j := 1) cf_X9 (Nat.le_of_ble_eq_true rfl) rfl fl_X9_21 dX9_isPlayer_3, ?_⟩
  refine List.forall_mem_cons.mpr ⟨s_getIN cf_X6 (Nat.le_of_ble_eq_true rfl) rfl fl_X9_77 dX9_isPlayer_6, ?_⟩
  refine List.forall_mem_cons.mpr ⟨s_iconst dX9_isPlayer_9 (by decide), ?_⟩
  refine List.forall_mem_cons.mpr ⟨s_isub dX9_isPlayer_10, ?_⟩
  refine List.forall_mem_cons.mpr ⟨s_callSI ca_X9_within ml_X9_73 st_X9_within ⟨(Nat.le_of_ble_eq_true rfl), (Nat.le_of_ble_eq_true rfl)⟩ dX9_isPlayer_11, ?_⟩
  refine List.forall_mem_cons.mpr ⟨s_zreturn dX9_isPlayer_14 rfl, ?_⟩
  exact fun _ h => absurd h List.not_mem_nil
def cd_X9_isPlace : sv_Cd := [(0, o_il 1 1),
  (1, o_ic 0 2),
  (2, o_al 0 3),
  (3, o_gR 0 25 6),
  (6, o_gI 25 3 9),
  (9, o_ic 1 10),
  (10, o_b (fun x y => x - y) 11),
  (11, o_sI m_X9_within 3 14),
  (14, o_zr)]
set_option maxRecDepth 20000 in
theorem sn_X9_isPlace : ∀ q ∈ cd_X9_isPlace, sv_Snd m_X9_isPlace q.1 q.2 := by
  unfold cd_X9_isPlace
  refine List.forall_mem_cons.mpr ⟨s_iload_n dX9_isPlace_0 rfl, ?_⟩
  refine List.forall_mem_cons.mpr ⟨s_iconst dX9_isPlace_1 (by decide), ?_⟩
  refine List.forall_mem_cons.mpr ⟨s_aload_n dX9_isPlace_2 rfl, ?_⟩
  refine List.forall_mem_cons.mpr ⟨s_getR (j := 6) cf_X9 (Nat.le_of_ble_eq_true rfl) rfl fl_X9_58 dX9_isPlace_3, ?_⟩
  refine List.forall_mem_cons.mpr ⟨s_getIN cf_X8 (Nat.le_of_ble_eq_true rfl) rfl fl_X9_178 dX9_isPlace_6, ?_⟩
  refine List.forall_mem_cons.mpr ⟨s_iconst dX9_isPlace_9 (by decide), ?_⟩
  refine List.forall_mem_cons.mpr ⟨s_isub dX9_isPlace_10, ?_⟩
  refine List.forall_mem_cons.mpr ⟨s_callSI ca_X9_within ml_X9_73 st_X9_within ⟨(Nat.le_of_ble_eq_true rfl), (Nat.le_of_ble_eq_true rfl)⟩ dX9_isPlace_11, ?_⟩
  refine List.forall_mem_cons.mpr ⟨s_zreturn dX9_isPlace_14 rfl, ?_⟩
  exact fun _ h => absurd h List.not_mem_nil
def cd_X9_refusalOfRound : sv_Cd := [(0, o_il 1 1),
  (1, o_sI m_X9_isRound 1 4),
  (4, o_if (fun x => x = 0) 7 10),
  (7, o_ic (-2) 9),
  (9, o_ir),
  (10, o_al 0 11),
  (11, o_gR 0 13 14),
  (14, o_gI 13 5 17),
  (17, o_if (fun x => x = 0) 20 23),
  (20, o_ic (-3) 22),
  (22, o_ir),
  (23, o_il 1 24),
  (24, o_al 0 25),
  (25, o_gR 0 13 28),
  (28, o_gI 13 5 31),
  (31, o_ic2 (fun x y => y ≤ x) 38 34),
  (34, o_ic 0 35),
  (35, o_go 40),
  (38, o_ic (-2) 40),
  (40, o_ir)]
set_option maxRecDepth 20000 in
theorem sn_X9_refusalOfRound : ∀ q ∈ cd_X9_refusalOfRound, sv_Snd m_X9_refusalOfRound q.1 q.2 := by
  unfold cd_X9_refusalOfRound
  refine List.forall_mem_cons.mpr ⟨s_iload_n dX9_refusalOfRound_0 rfl, ?_⟩
  refine List.forall_mem_cons.mpr ⟨s_callSI ca_X9_isRound ml_X9_99 st_X9_isRound ⟨(Nat.le_of_ble_eq_true rfl), (Nat.le_of_ble_eq_true rfl)⟩ dX9_refusalOfRound_1, ?_⟩
  refine List.forall_mem_cons.mpr ⟨s_if_ne dX9_refusalOfRound_4 (by decide), ?_⟩
  refine List.forall_mem_cons.mpr ⟨s_bipush dX9_refusalOfRound_7 (by decide), ?_⟩
  refine List.forall_mem_cons.mpr ⟨s_ireturn dX9_refusalOfRound_9 rfl, ?_⟩
  refine List.forall_mem_cons.mpr ⟨s_aload_n dX9_refusalOfRound_10 rfl, ?_⟩
  refine List.forall_mem_cons.mpr ⟨s_getR (j := 2) cf_X9 (Nat.le_of_ble_eq_true rfl) rfl fl_X9_28 dX9_refusalOfRound_11, ?_⟩
  refine List.forall_mem_cons.mpr ⟨s_getIN cf_X0 (Nat.le_of_ble_eq_true rfl) rfl fl_X9_142 dX9_refusalOfRound_14, ?_⟩
  refine List.forall_mem_cons.mpr ⟨s_if_ne dX9_refusalOfRound_17 (by decide), ?_⟩
  refine List.forall_mem_cons.mpr ⟨s_bipush dX9_refusalOfRound_20 (by decide), ?_⟩
  refine List.forall_mem_cons.mpr ⟨s_ireturn dX9_refusalOfRound_22 rfl, ?_⟩
  refine List.forall_mem_cons.mpr ⟨s_iload_n dX9_refusalOfRound_23 rfl, ?_⟩
  refine List.forall_mem_cons.mpr ⟨s_aload_n dX9_refusalOfRound_24 rfl, ?_⟩
  refine List.forall_mem_cons.mpr ⟨s_getR (j := 2) cf_X9 (Nat.le_of_ble_eq_true rfl) rfl fl_X9_28 dX9_refusalOfRound_25, ?_⟩
  refine List.forall_mem_cons.mpr ⟨s_getIN cf_X0 (Nat.le_of_ble_eq_true rfl) rfl fl_X9_142 dX9_refusalOfRound_28, ?_⟩
  refine List.forall_mem_cons.mpr ⟨s_icmp_ge dX9_refusalOfRound_31 (by decide), ?_⟩
  refine List.forall_mem_cons.mpr ⟨s_iconst dX9_refusalOfRound_34 (by decide), ?_⟩
  refine List.forall_mem_cons.mpr ⟨s_goto dX9_refusalOfRound_35 (by decide), ?_⟩
  refine List.forall_mem_cons.mpr ⟨s_bipush dX9_refusalOfRound_38 (by decide), ?_⟩
  refine List.forall_mem_cons.mpr ⟨s_ireturn dX9_refusalOfRound_40 rfl, ?_⟩
  exact fun _ h => absurd h List.not_mem_nil

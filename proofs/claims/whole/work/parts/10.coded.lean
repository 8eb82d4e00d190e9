/-! ===== code tables ===== -/
def cd_X10_in : sv_Cd := [(0, o_il 0 1),
  (1, o_il 1 2),
  (2, o_ic2 (fun x y => x < y) 14 5),
  (5, o_il 0 6),
  (6, o_il 2 7),
  (7, o_ic2 (fun x y => y < x) 14 10),
  (10, o_ic 1 11),
  (11, o_go 15),
  (14, o_ic 0 15),
  (15, o_zr)]
set_option maxRecDepth 20000 in
theorem sn_X10_in : ∀ q ∈ cd_X10_in, sv_Snd m_X10_in q.1 q.2 := by
  unfold cd_X10_in
  refine List.forall_mem_cons.mpr ⟨s_iload_n dX10_in_0 rfl, ?_⟩
  refine List.forall_mem_cons.mpr ⟨s_iload_n dX10_in_1 rfl, ?_⟩
  refine List.forall_mem_cons.mpr ⟨s_icmp_lt dX10_in_2 (by decide), ?_⟩
  refine List.forall_mem_cons.mpr ⟨s_iload_n dX10_in_5 rfl, ?_⟩
  refine List.forall_mem_cons.mpr ⟨s_iload_n dX10_in_6 rfl, ?_⟩
  refine List.forall_mem_cons.mpr ⟨s_icmp_gt dX10_in_7 (by decide), ?_⟩
  refine List.forall_mem_cons.mpr ⟨s_iconst dX10_in_10 (by decide), ?_⟩
  refine List.forall_mem_cons.mpr ⟨s_goto dX10_in_11 (by decide), ?_⟩
  refine List.forall_mem_cons.mpr ⟨s_iconst dX10_in_14 (by decide), ?_⟩
  refine List.forall_mem_cons.mpr ⟨s_zreturn dX10_in_15 rfl, ?_⟩
  exact fun _ h => absurd h List.not_mem_nil
def cd_X10_isPlayer : sv_Cd := [(0, o_il 1 1),
  (1, o_ic 0 2),
  (2, o_al 0 3),
  (3, o_gI 40 0 6),
  (6, o_ic 1 7),
  (7, o_b (fun x y => x - y) 8),
  (8, o_sI m_X10_in 3 11),
  (11, o_zr)]
set_option maxRecDepth 20000 in
theorem sn_X10_isPlayer : ∀ q ∈ cd_X10_isPlayer, sv_Snd m_X10_isPlayer q.1 q.2 := by
  unfold cd_X10_isPlayer
  refine List.forall_mem_cons.mpr ⟨s_iload_n dX10_isPlayer_0 rfl, ?_⟩
  refine List.forall_mem_cons.mpr ⟨s_iconst dX10_isPlayer_1 (by decide), ?_⟩
  refine List.forall_mem_cons.mpr ⟨s_aload_n dX10_isPlayer_2 rfl, ?_⟩
  refine List.forall_mem_cons.mpr ⟨s_getI cf_X10 (Nat.le_of_ble_eq_true rfl) rfl fl_X10_72 dX10_isPlayer_3, ?_⟩
  refine List.forall_mem_cons.mpr ⟨s_iconst dX10_isPlayer_6 (by decide), ?_⟩
  refine List.forall_mem_cons.mpr ⟨s_isub dX10_isPlayer_7, ?_⟩
  refine List.forall_mem_cons.mpr ⟨s_callSI ca_X10_in ml_X10_75 st_X10_in ⟨(Nat.le_of_ble_eq_true rfl), (Nat.le_of_ble_eq_true rfl)⟩ dX10_isPlayer_8, ?_⟩
  refine List.forall_mem_cons.mpr ⟨s_zreturn dX10_isPlayer_11 rfl, ?_⟩
  exact fun _ h => absurd h List.not_mem_nil
def cd_X10_player : sv_Cd := [(0, o_il 1 1),
  (1, o_ic 0 2),
  (2, o_ic 511 5),
  (5, o_sI m_X10_in 3 8),
  (8, o_if (fun x => x = 0) 11 14),
  (11, o_ic (-2) 13),
  (13, o_ir),
  (14, o_al 0 15),
  (15, o_gI 40 0 18),
  (18, o_ic 24 20),
  (20, o_ic2 (fun x y => x = y) 23 26),
  (23, o_ic (-4) 25),
  (25, o_ir),
  (26, o_al 0 27),
  (27, o_gR 40 41 30),
  (30, o_al 0 31),
  (31, o_gI 40 0 34),
  (34, o_il 1 35),
  (35, o_is3 36),
  (36, o_al 0 37),
  (37, o_gR 40 42 40),
  (40, o_al 0 41),
  (41, o_gI 40 0 44),
  (44, o_al 0 45),
  (45, o_gI 40 0 48),
  (48, o_is3 49),
  (49, o_al 0 50),
  (50, o_dup 51),
  (51, o_gI 40 0 54),
  (54, o_ic 1 55),
  (55, o_b (fun x y => x + y) 56),
  (56, o_pI 40 0 59),
  (59, o_al 0 60),
  (60, o_gI 40 0 63),
  (63, o_ic 1 64),
  (64, o_b (fun x y => x - y) 65),
  (65, o_ir)]
set_option maxRecDepth 20000 in
theorem sn_X10_player : ∀ q ∈ cd_X10_player, sv_Snd m_X10_player q.1 q.2 := by
  unfold cd_X10_player
  refine List.forall_mem_cons.mpr ⟨s_iload_n dX10_player_0 rfl, ?_⟩
  refine List.forall_mem_cons.mpr ⟨s_iconst dX10_player_1 (by decide), ?_⟩
  refine List.forall_mem_cons.mpr ⟨s_sipush dX10_player_2 (by decide), ?_⟩
  refine List.forall_mem_cons.mpr ⟨s_callSI ca_X10_in ml_X10_75 st_X10_in ⟨(Nat.le_of_ble_eq_true rfl), (Nat.le_of_ble_eq_true rfl)⟩ dX10_player_5, ?_⟩
  refine List.forall_mem_cons.mpr ⟨s_if_ne dX10_player_8 (by decide), ?_⟩
  refine List.forall_mem_cons.mpr ⟨s_bipush dX10_player_11 (by decide), ?_⟩
  refine List.forall_mem_cons.mpr ⟨s_ireturn dX10_player_13 rfl, ?_⟩
  refine List.forall_mem_cons.mpr ⟨s_aload_n dX10_player_14 rfl, ?_⟩
  refine List.forall_mem_cons.mpr ⟨s_getI cf_X10 (Nat.le_of_ble_eq_true rfl) rfl fl_X10_72 dX10_player_15, ?_⟩
  refine List.forall_mem_cons.mpr ⟨s_bipush dX10_player_18 (by decide), ?_⟩
  refine List.forall_mem_cons.mpr ⟨s_icmp_ne dX10_player_20 (by decide), ?_⟩
  refine List.forall_mem_cons.mpr ⟨s_bipush dX10_player_23 (by decide), ?_⟩
  refine List.forall_mem_cons.mpr ⟨s_ireturn dX10_player_25 rfl, ?_⟩
  refine List.forall_mem_cons.mpr ⟨s_aload_n dX10_player_26 rfl, ?_⟩
  refine List.forall_mem_cons.mpr ⟨s_getR (j := 1) cf_X10 (Nat.le_of_ble_eq_true rfl) rfl fl_X10_7 dX10_player_27, ?_⟩
  refine List.forall_mem_cons.mpr ⟨s_aload_n dX10_player_30 rfl, ?_⟩
  refine List.forall_mem_cons.mpr ⟨s_getI cf_X10 (Nat.le_of_ble_eq_true rfl) rfl fl_X10_72 dX10_player_31, ?_⟩
  refine List.forall_mem_cons.mpr ⟨s_iload_n dX10_player_34 rfl, ?_⟩
  refine List.forall_mem_cons.mpr ⟨s_iastore dX10_player_35, ?_⟩
  refine List.forall_mem_cons.mpr ⟨s_aload_n dX10_player_36 rfl, ?_⟩
  refine List.forall_mem_cons.mpr ⟨s_getR (j := 2) cf_X10 (Nat.le_of_ble_eq_true rfl) rfl fl_X10_13 dX10_player_37, ?_⟩
  refine List.forall_mem_cons.mpr ⟨s_aload_n dX10_player_40 rfl, ?_⟩
  refine List.forall_mem_cons.mpr ⟨s_getI cf_X10 (Nat.le_of_ble_eq_true rfl) rfl fl_X10_72 dX10_player_41, ?_⟩
  refine List.forall_mem_cons.mpr ⟨s_aload_n dX10_player_44 rfl, ?_⟩
  refine List.forall_mem_cons.mpr ⟨s_getI cf_X10 (Nat.le_of_ble_eq_true rfl) rfl fl_X10_72 dX10_player_45, ?_⟩
  refine List.forall_mem_cons.mpr ⟨s_iastore dX10_player_48, ?_⟩
  refine List.forall_mem_cons.mpr ⟨s_aload_n dX10_player_49 rfl, ?_⟩
  refine List.forall_mem_cons.mpr ⟨s_dup dX10_player_50, ?_⟩
  refine List.forall_mem_cons.mpr ⟨s_getI cf_X10 (Nat.le_of_ble_eq_true rfl) rfl fl_X10_72 dX10_player_51, ?_⟩
  refine List.forall_mem_cons.mpr ⟨s_iconst dX10_player_54 (by decide), ?_⟩
  refine List.forall_mem_cons.mpr ⟨s_iadd dX10_player_55, ?_⟩
  refine List.forall_mem_cons.mpr ⟨s_put cf_X10 (Nat.le_of_ble_eq_true rfl) rfl fl_X10_72 rfl (tyX10_ok 0 (Nat.le_of_ble_eq_true rfl)) dX10_player_56, ?_⟩
  refine List.forall_mem_cons.mpr ⟨s_aload_n dX10_player_59 rfl, ?_⟩
  refine List.forall_mem_cons.mpr ⟨s_getI cf_X10 (Nat.le_of_ble_eq_true rfl) rfl fl_X10_72 dX10_player_60, ?_⟩
  refine List.forall_mem_cons.mpr ⟨s_iconst dX10_player_63 (by decide), ?_⟩
  refine List.forall_mem_cons.mpr ⟨s_isub dX10_player_64, ?_⟩
  refine List.forall_mem_cons.mpr ⟨s_ireturn dX10_player_65 rfl, ?_⟩
  exact fun _ h => absurd h List.not_mem_nil
def cd_X10_jurors : sv_Cd := [(0, o_il 1 1),
  (1, o_ic 1 2),
  (2, o_ic 9 4),
  (4, o_sI m_X10_in 3 7),
  (7, o_if (fun x => x = 0) 10 13),
  (10, o_ic (-2) 12),
  (12, o_ir),
  (13, o_al 0 14),
  (14, o_gI 40 3 17),
  (17, o_is 2 18),
  (18, o_al 0 19),
  (19, o_il 1 20),
  (20, o_pI 40 3 23),
  (23, o_il 2 24),
  (24, o_ir)]
set_option maxRecDepth 20000 in
theorem sn_X10_jurors : ∀ q ∈ cd_X10_jurors, sv_Snd m_X10_jurors q.1 q.2 := by
  unfold cd_X10_jurors
  refine List.forall_mem_cons.mpr ⟨s_iload_n dX10_jurors_0 rfl, ?_⟩
  refine List.forall_mem_cons.mpr ⟨s_iconst dX10_jurors_1 (by decide), ?_⟩
  refine List.forall_mem_cons.mpr ⟨s_bipush dX10_jurors_2 (by decide), ?_⟩
  refine List.forall_mem_cons.mpr ⟨s_callSI ca_X10_in ml_X10_75 st_X10_in ⟨(Nat.le_of_ble_eq_true rfl), (Nat.le_of_ble_eq_true rfl)⟩ dX10_jurors_4, ?_⟩
  refine List.forall_mem_cons.mpr ⟨s_if_ne dX10_jurors_7 (by decide), ?_⟩
  refine List.forall_mem_cons.mpr ⟨s_bipush dX10_jurors_10 (by decide), ?_⟩
  refine List.forall_mem_cons.mpr ⟨s_ireturn dX10_jurors_12 rfl, ?_⟩
  refine List.forall_mem_cons.mpr ⟨s_aload_n dX10_jurors_13 rfl, ?_⟩
  refine List.forall_mem_cons.mpr ⟨s_getI cf_X10 (Nat.le_of_ble_eq_true rfl) rfl fl_X10_16 dX10_jurors_14, ?_⟩
  refine List.forall_mem_cons.mpr ⟨s_istore_n dX10_jurors_17 rfl (Nat.le_of_ble_eq_true rfl), ?_⟩
  refine List.forall_mem_cons.mpr ⟨s_aload_n dX10_jurors_18 rfl, ?_⟩
  refine List.forall_mem_cons.mpr ⟨s_iload_n dX10_jurors_19 rfl, ?_⟩
  refine List.forall_mem_cons.mpr ⟨s_put cf_X10 (Nat.le_of_ble_eq_true rfl) rfl fl_X10_16 rfl (tyX10_ok 3 (Nat.le_of_ble_eq_true rfl)) dX10_jurors_20, ?_⟩
  refine List.forall_mem_cons.mpr ⟨s_iload_n dX10_jurors_23 rfl, ?_⟩
  refine List.forall_mem_cons.mpr ⟨s_ireturn dX10_jurors_24 rfl, ?_⟩
  exact fun _ h => absurd h List.not_mem_nil
def cd_X10_draw : sv_Cd := [(0, o_ic 0 1),
  (1, o_is 2 2),
  (2, o_il 2 3),
  (3, o_al 0 4),
  (4, o_gI 40 0 7),
  (7, o_ic2 (fun x y => y ≤ x) 23 10),
  (10, o_al 0 11),
  (11, o_gR 40 42 14),
  (14, o_il 2 15),
  (15, o_il 2 16),
  (16, o_is3 17),
  (17, o_in 2 1 20),
  (20, o_go 2),
  (23, o_il 1 24),
  (24, o_is 2 25),
  (25, o_al 0 26),
  (26, o_gI 40 0 29),
  (29, o_ic 1 30),
  (30, o_b (fun x y => x - y) 31),
  (31, o_is 3 32),
  (32, o_il 3 33),
  (33, o_if (fun x => x ≤ 0) 91 36),
  (36, o_ic 1103515245 38),
  (38, o_il 2 39),
  (39, o_b (fun x y => x * y) 40),
  (40, o_ic 12345 43),
  (43, o_b (fun x y => x + y) 44),
  (44, o_is 2 45),
  (45, o_il 2 46),
  (46, o_ic 16 48),
  (48, o_b (fun x y => (x.toUInt32 >>> (y.toUInt32 &&& Int32.toUInt32 31)).toInt32) 49),
  (49, o_il 3 50),
  (50, o_ic 1 51),
  (51, o_b (fun x y => x + y) 52),
  (52, o_bd (fun x y => x - x / y * y) 53),
  (53, o_is 4 55),
  (55, o_al 0 56),
  (56, o_gR 40 42 59),
  (59, o_il 3 60),
  (60, o_ia 61),
  (61, o_is 5 63),
  (63, o_al 0 64),
  (64, o_gR 40 42 67),
  (67, o_il 3 68),
  (68, o_al 0 69),
  (69, o_gR 40 42 72),
  (72, o_il 4 74),
  (74, o_ia 75),
  (75, o_is3 76),
  (76, o_al 0 77),
  (77, o_gR 40 42 80),
  (80, o_il 4 82),
  (82, o_il 5 84),
  (84, o_is3 85),
  (85, o_in 3 (-1) 88),
  (88, o_go 32),
  (91, o_al 0 92),
  (92, o_gI 40 0 95),
  (95, o_if (fun x => x = 0) 98 102),
  (98, o_ic (-1) 99),
  (99, o_go 108),
  (102, o_al 0 103),
  (103, o_gR 40 42 106),
  (106, o_ic 0 107),
  (107, o_ia 108),
  (108, o_ir)]
set_option maxRecDepth 20000 in
theorem sn_X10_draw : ∀ q ∈ cd_X10_draw, sv_Snd m_X10_draw q.1 q.2 := by
  unfold cd_X10_draw
  refine List.forall_mem_cons.mpr ⟨s_iconst dX10_draw_0 (by decide), ?_⟩
  refine List.forall_mem_cons.mpr ⟨s_istore_n dX10_draw_1 rfl (Nat.le_of_ble_eq_true rfl), ?_⟩
  refine List.forall_mem_cons.mpr ⟨s_iload_n dX10_draw_2 rfl, ?_⟩
  refine List.forall_mem_cons.mpr ⟨s_aload_n dX10_draw_3 rfl, ?_⟩
  refine List.forall_mem_cons.mpr ⟨s_getI cf_X10 (Nat.le_of_ble_eq_true rfl) rfl fl_X10_72 dX10_draw_4, ?_⟩
  refine List.forall_mem_cons.mpr ⟨s_icmp_ge dX10_draw_7 (by decide), ?_⟩
  refine List.forall_mem_cons.mpr ⟨s_aload_n dX10_draw_10 rfl, ?_⟩
  refine List.forall_mem_cons.mpr ⟨s_getR (j := 2) cf_X10 (Nat.le_of_ble_eq_true rfl) rfl fl_X10_13 dX10_draw_11, ?_⟩
  refine List.forall_mem_cons.mpr ⟨s_iload_n dX10_draw_14 rfl, ?_⟩
  refine List.forall_mem_cons.mpr ⟨s_iload_n dX10_draw_15 rfl, ?_⟩
  refine List.forall_mem_cons.mpr ⟨s_iastore dX10_draw_16, ?_⟩
  refine List.forall_mem_cons.mpr ⟨s_iinc dX10_draw_17 (by decide) (Nat.le_of_ble_eq_true rfl), ?_⟩
  refine List.forall_mem_cons.mpr ⟨s_goto dX10_draw_20 (by decide), ?_⟩
  refine List.forall_mem_cons.mpr ⟨s_iload_n dX10_draw_23 rfl, ?_⟩
  refine List.forall_mem_cons.mpr ⟨s_istore_n dX10_draw_24 rfl (Nat.le_of_ble_eq_true rfl), ?_⟩
  refine List.forall_mem_cons.mpr ⟨s_aload_n dX10_draw_25 rfl, ?_⟩
  refine List.forall_mem_cons.mpr ⟨s_getI cf_X10 (Nat.le_of_ble_eq_true rfl) rfl fl_X10_72 dX10_draw_26, ?_⟩
  refine List.forall_mem_cons.mpr ⟨s_iconst dX10_draw_29 (by decide), ?_⟩
  refine List.forall_mem_cons.mpr ⟨s_isub dX10_draw_30, ?_⟩
  refine List.forall_mem_cons.mpr ⟨s_istore_n dX10_draw_31 rfl (Nat.le_of_ble_eq_true rfl), ?_⟩
  refine List.forall_mem_cons.mpr ⟨s_iload_n dX10_draw_32 rfl, ?_⟩
  refine List.forall_mem_cons.mpr ⟨s_if_le dX10_draw_33 (by decide), ?_⟩
  refine List.forall_mem_cons.mpr ⟨s_ldc dX10_draw_36 cs_X10_79, ?_⟩
  refine List.forall_mem_cons.mpr ⟨s_iload_n dX10_draw_38 rfl, ?_⟩
  refine List.forall_mem_cons.mpr ⟨s_imul dX10_draw_39, ?_⟩
  refine List.forall_mem_cons.mpr ⟨s_sipush dX10_draw_40 (by decide), ?_⟩
  refine List.forall_mem_cons.mpr ⟨s_iadd dX10_draw_43, ?_⟩
  refine List.forall_mem_cons.mpr ⟨s_istore_n dX10_draw_44 rfl (Nat.le_of_ble_eq_true rfl), ?_⟩
  refine List.forall_mem_cons.mpr ⟨s_iload_n dX10_draw_45 rfl, ?_⟩
  refine List.forall_mem_cons.mpr ⟨s_bipush dX10_draw_46 (by decide), ?_⟩
  refine List.forall_mem_cons.mpr ⟨s_iushr dX10_draw_48, ?_⟩
  refine List.forall_mem_cons.mpr ⟨s_iload_n dX10_draw_49 rfl, ?_⟩
  refine List.forall_mem_cons.mpr ⟨s_iconst dX10_draw_50 (by decide), ?_⟩
  refine List.forall_mem_cons.mpr ⟨s_iadd dX10_draw_51, ?_⟩
  refine List.forall_mem_cons.mpr ⟨s_irem dX10_draw_52, ?_⟩
  refine List.forall_mem_cons.mpr ⟨s_istore dX10_draw_53 (Nat.le_of_ble_eq_true rfl), ?_⟩
  refine List.forall_mem_cons.mpr ⟨s_aload_n dX10_draw_55 rfl, ?_⟩
  refine List.forall_mem_cons.mpr ⟨s_getR (j := 2) cf_X10 (Nat.le_of_ble_eq_true rfl) rfl fl_X10_13 dX10_draw_56, ?_⟩
  refine List.forall_mem_cons.mpr ⟨s_iload_n dX10_draw_59 rfl, ?_⟩
  refine List.forall_mem_cons.mpr ⟨s_iaload dX10_draw_60, ?_⟩
  refine List.forall_mem_cons.mpr ⟨s_istore dX10_draw_61 (Nat.le_of_ble_eq_true rfl), ?_⟩
  refine List.forall_mem_cons.mpr ⟨s_aload_n dX10_draw_63 rfl, ?_⟩
  refine List.forall_mem_cons.mpr ⟨s_getR (j := 2) cf_X10 (Nat.le_of_ble_eq_true rfl) rfl fl_X10_13 dX10_draw_64, ?_⟩
  refine List.forall_mem_cons.mpr ⟨s_iload_n dX10_draw_67 rfl, ?_⟩
  refine List.forall_mem_cons.mpr ⟨s_aload_n dX10_draw_68 rfl, ?_⟩
  refine List.forall_mem_cons.mpr ⟨s_getR (j := 2) cf_X10 (Nat.le_of_ble_eq_true rfl) rfl fl_X10_13 dX10_draw_69, ?_⟩
  refine List.forall_mem_cons.mpr ⟨s_iload dX10_draw_72, ?_⟩
  refine List.forall_mem_cons.mpr ⟨s_iaload dX10_draw_74, ?_⟩
  refine List.forall_mem_cons.mpr ⟨s_iastore dX10_draw_75, ?_⟩
  refine List.forall_mem_cons.mpr ⟨s_aload_n dX10_draw_76 rfl, ?_⟩
  refine List.forall_mem_cons.mpr ⟨s_getR (j := 2) cf_X10 (Nat.le_of_ble_eq_true rfl) rfl fl_X10_13 dX10_draw_77, ?_⟩
  refine List.forall_mem_cons.mpr ⟨s_iload dX10_draw_80, ?_⟩
  refine List.forall_mem_cons.mpr ⟨s_iload dX10_draw_82, ?_⟩
  refine List.forall_mem_cons.mpr ⟨s_iastore dX10_draw_84, ?_⟩
  refine List.forall_mem_cons.mpr ⟨s_iinc dX10_draw_85 (by decide) (Nat.le_of_ble_eq_true rfl), ?_⟩
  refine List.forall_mem_cons.mpr ⟨s_goto dX10_draw_88 (by decide), ?_⟩
  refine List.forall_mem_cons.mpr ⟨s_aload_n dX10_draw_91 rfl, ?_⟩
  refine List.forall_mem_cons.mpr ⟨s_getI cf_X10 (Nat.le_of_ble_eq_true rfl) rfl fl_X10_72 dX10_draw_92, ?_⟩
  refine List.forall_mem_cons.mpr ⟨s_if_ne dX10_draw_95 (by decide), ?_⟩
  refine List.forall_mem_cons.mpr ⟨s_iconst dX10_draw_98 (by decide), ?_⟩
  refine List.forall_mem_cons.mpr ⟨s_goto dX10_draw_99 (by decide), ?_⟩
  refine List.forall_mem_cons.mpr ⟨s_aload_n dX10_draw_102 rfl, ?_⟩
  refine List.forall_mem_cons.mpr ⟨s_getR (j := 2) cf_X10 (Nat.le_of_ble_eq_true rfl) rfl fl_X10_13 dX10_draw_103, ?_⟩
  refine List.forall_mem_cons.mpr ⟨s_iconst dX10_draw_106 (by decide), ?_⟩
  refine List.forall_mem_cons.mpr ⟨s_iaload dX10_draw_107, ?_⟩
  refine List.forall_mem_cons.mpr ⟨s_ireturn dX10_draw_108 rfl, ?_⟩
  exact fun _ h => absurd h List.not_mem_nil
def cd_X10_order : sv_Cd := [(0, o_il 1 1),
  (1, o_ic 0 2),
  (2, o_al 0 3),
  (3, o_gI 40 0 6),
  (6, o_ic 1 7),
  (7, o_b (fun x y => x - y) 8),
  (8, o_sI m_X10_in 3 11),
  (11, o_if (fun x => x = 0) 23 14),
  (14, o_al 0 15),
  (15, o_gR 40 42 18),
  (18, o_il 1 19),
  (19, o_ia 20),
  (20, o_go 25),
  (23, o_ic (-2) 25),
  (25, o_ir)]
set_option maxRecDepth 20000 in
theorem sn_X10_order : ∀ q ∈ cd_X10_order, sv_Snd m_X10_order q.1 q.2 := by
  unfold cd_X10_order
  refine List.forall_mem_cons.mpr ⟨s_iload_n dX10_order_0 rfl, ?_⟩
  refine List.forall_mem_cons.mpr ⟨s_iconst dX10_order_1 (by decide), ?_⟩
  refine List.forall_mem_cons.mpr ⟨s_aload_n dX10_order_2 rfl, ?_⟩
  refine List.forall_mem_cons.mpr ⟨s_getI cf_X10 (Nat.le_of_ble_eq_true rfl) rfl fl_X10_72 dX10_order_3, ?_⟩
  refine List.forall_mem_cons.mpr ⟨s_iconst dX10_order_6 (by decide), ?_⟩
  refine List.forall_mem_cons.mpr ⟨s_isub dX10_order_7, ?_⟩
  refine List.forall_mem_cons.mpr ⟨s_callSI ca_X10_in ml_X10_75 st_X10_in ⟨(Nat.le_of_ble_eq_true rfl), (Nat.le_of_ble_eq_true rfl)⟩ dX10_order_8, ?_⟩
  refine List.forall_mem_cons.mpr ⟨s_if_eq dX10_order_11 (by decide), ?_⟩
  refine List.forall_mem_cons.mpr ⟨s_aload_n dX10_order_14 rfl, ?_⟩
  refine List.forall_mem_cons.mpr ⟨s_getR (j := 2) cf_X10 (Nat.le_of_ble_eq_true rfl) rfl fl_X10_13 dX10_order_15, ?_⟩
  refine List.forall_mem_cons.mpr ⟨s_iload_n dX10_order_18 rfl, ?_⟩
  refine List.forall_mem_cons.mpr ⟨s_iaload dX10_order_19, ?_⟩
  refine List.forall_mem_cons.mpr ⟨s_goto dX10_order_20 (by decide), ?_⟩
  refine List.forall_mem_cons.mpr ⟨s_bipush dX10_order_23 (by decide), ?_⟩
  refine List.forall_mem_cons.mpr ⟨s_ireturn dX10_order_25 rfl, ?_⟩
  exact fun _ h => absurd h List.not_mem_nil
def cd_X10_vote : sv_Cd := [(0, o_ic 9 2),
  (2, o_il 1 3),
  (3, o_b (fun x y => x * y) 4),
  (4, o_il 3 5),
  (5, o_b (fun x y => x + y) 6),
  (6, o_is 4 8),
  (8, o_il 3 9),
  (9, o_al 0 10),
  (10, o_gI 40 3 13),
  (13, o_ic2 (fun x y => y ≤ x) 53 16),
  (16, o_al 0 17),
  (17, o_gR 40 41 20),
  (20, o_il 1 21),
  (21, o_ia 22),
  (22, o_il 3 23),
  (23, o_b (fun x y => x >>> (y &&& 31)) 24),
  (24, o_ic 1 25),
  (25, o_b (fun x y => x &&& y) 26),
  (26, o_if (fun x => x = 0) 29 53),
  (29, o_al 0 30),
  (30, o_gR 40 55 33),
  (33, o_il 2 34),
  (34, o_za 35),
  (35, o_if (fun x => x = 0) 53 38),
  (38, o_il 4 40),
  (40, o_al 0 41),
  (41, o_gR 40 57 44),
  (44, o_il 2 45),
  (45, o_ia 46),
  (46, o_ic2 (fun x y => y ≤ x) 53 49),
  (49, o_ic 1 50),
  (50, o_go 54),
  (53, o_ic 0 54),
  (54, o_is 5 56),
  (56, o_il 5 58),
  (58, o_if (fun x => x = 0) 77 61),
  (61, o_al 0 62),
  (62, o_gR 40 58 65),
  (65, o_ic 240 68),
  (68, o_il 2 69),
  (69, o_b (fun x y => x * y) 70),
  (70, o_il 4 72),
  (72, o_b (fun x y => x + y) 73),
  (73, o_ia 74),
  (74, o_go 78),
  (77, o_ic (-1) 78),
  (78, o_is 6 80),
  (80, o_il 6 82),
  (82, o_if (fun x => x ≤ 0) 89 85),
  (85, o_ic 1 86),
  (86, o_go 99),
  (89, o_il 6 91),
  (91, o_if (fun x => x = 0) 94 98),
  (94, o_ic 0 95),
  (95, o_go 99),
  (98, o_ic (-1) 99),
  (99, o_ir)]
set_option maxRecDepth 20000 in
theorem sn_X10_vote : ∀ q ∈ cd_X10_vote, sv_Snd m_X10_vote q.1 q.2 := by
  unfold cd_X10_vote
  refine List.forall_mem_cons.mpr ⟨s_bipush dX10_vote_0 (by decide), ?_⟩
  refine List.forall_mem_cons.mpr ⟨s_iload_n dX10_vote_2 rfl, ?_⟩
  refine List.forall_mem_cons.mpr ⟨s_imul dX10_vote_3, ?_⟩
  refine List.forall_mem_cons.mpr ⟨s_iload_n dX10_vote_4 rfl, ?_⟩
  refine List.forall_mem_cons.mpr ⟨s_iadd dX10_vote_5, ?_⟩
  refine List.forall_mem_cons.mpr ⟨s_istore dX10_vote_6 (Nat.le_of_ble_eq_true rfl), ?_⟩
  refine List.forall_mem_cons.mpr ⟨s_iload_n dX10_vote_8 rfl, ?_⟩
  refine List.forall_mem_cons.mpr ⟨s_aload_n dX10_vote_9 rfl, ?_⟩
  refine List.forall_mem_cons.mpr ⟨s_getI cf_X10 (Nat.le_of_ble_eq_true rfl) rfl fl_X10_16 dX10_vote_10, ?_⟩
  refine List.forall_mem_cons.mpr ⟨s_icmp_ge dX10_vote_13 (by decide), ?_⟩
  refine List.forall_mem_cons.mpr ⟨s_aload_n dX10_vote_16 rfl, ?_⟩
  refine List.forall_mem_cons.mpr ⟨s_getR (j := 1) cf_X10 (Nat.le_of_ble_eq_true rfl) rfl fl_X10_7 dX10_vote_17, ?_⟩
  refine List.forall_mem_cons.mpr ⟨s_iload_n dX10_vote_20 rfl, ?_⟩
  refine List.forall_mem_cons.mpr ⟨s_iaload dX10_vote_21, ?_⟩
  refine List.forall_mem_cons.mpr ⟨s_iload_n dX10_vote_22 rfl, ?_⟩
  refine List.forall_mem_cons.mpr ⟨s_ishr dX10_vote_23, ?_⟩
  refine List.forall_mem_cons.mpr ⟨s_iconst dX10_vote_24 (by decide), ?_⟩
  refine List.forall_mem_cons.mpr ⟨s_iand dX10_vote_25, ?_⟩
  refine List.forall_mem_cons.mpr ⟨s_if_ne dX10_vote_26 (by decide), ?_⟩
  refine List.forall_mem_cons.mpr ⟨s_aload_n dX10_vote_29 rfl, ?_⟩
  refine List.forall_mem_cons.mpr ⟨s_getR (j := 22) cf_X10 (Nat.le_of_ble_eq_true rfl) rfl fl_X10_56 dX10_vote_30, ?_⟩
  refine List.forall_mem_cons.mpr ⟨s_iload_n dX10_vote_33 rfl, ?_⟩
  refine List.forall_mem_cons.mpr ⟨s_baload dX10_vote_34, ?_⟩
  refine List.forall_mem_cons.mpr ⟨s_if_eq dX10_vote_35 (by decide), ?_⟩
  refine List.forall_mem_cons.mpr ⟨s_iload dX10_vote_38, ?_⟩
  refine List.forall_mem_cons.mpr ⟨s_aload_n dX10_vote_40 rfl, ?_⟩
  refine List.forall_mem_cons.mpr ⟨s_getR (j := 24) cf_X10 (Nat.le_of_ble_eq_true rfl) rfl fl_X10_63 dX10_vote_41, ?_⟩
  refine List.forall_mem_cons.mpr ⟨s_iload_n dX10_vote_44 rfl, ?_⟩
  refine List.forall_mem_cons.mpr ⟨s_iaload dX10_vote_45, ?_⟩
  refine List.forall_mem_cons.mpr ⟨s_icmp_ge dX10_vote_46 (by decide), ?_⟩
  refine List.forall_mem_cons.mpr ⟨s_iconst dX10_vote_49 (by decide), ?_⟩
  refine List.forall_mem_cons.mpr ⟨s_goto dX10_vote_50 (by decide), ?_⟩
  refine List.forall_mem_cons.mpr ⟨s_iconst dX10_vote_53 (by decide), ?_⟩
  refine List.forall_mem_cons.mpr ⟨s_istore dX10_vote_54 (Nat.le_of_ble_eq_true rfl), ?_⟩
  refine List.forall_mem_cons.mpr ⟨s_iload dX10_vote_56, ?_⟩
  refine List.forall_mem_cons.mpr ⟨s_if_eq dX10_vote_58 (by decide), ?_⟩
  refine List.forall_mem_cons.mpr ⟨s_aload_n dX10_vote_61 rfl, ?_⟩
  refine List.forall_mem_cons.mpr ⟨s_getR (j := 25) cf_X10 (Nat.le_of_ble_eq_true rfl) rfl fl_X10_66 dX10_vote_62, ?_⟩
  refine List.forall_mem_cons.mpr ⟨s_sipush dX10_vote_65 (by decide), ?_⟩
  refine List.forall_mem_cons.mpr ⟨s_iload_n dX10_vote_68 rfl, ?_⟩
  refine List.forall_mem_cons.mpr ⟨s_imul dX10_vote_69, ?_⟩
  refine List.forall_mem_cons.mpr ⟨s_iload dX10_vote_70, ?_⟩
  refine List.forall_mem_cons.mpr ⟨s_iadd dX10_vote_72, ?_⟩
  refine List.forall_mem_cons.mpr ⟨s_iaload dX10_vote_73, ?_⟩
  refine List.forall_mem_cons.mpr ⟨s_goto dX10_vote_74 (by decide), ?_⟩
  refine List.forall_mem_cons.mpr ⟨s_iconst dX10_vote_77 (by decide), ?_⟩
  refine List.forall_mem_cons.mpr ⟨s_istore dX10_vote_78 (Nat.le_of_ble_eq_true rfl), ?_⟩
  refine List.forall_mem_cons.mpr ⟨s_iload dX10_vote_80, ?_⟩
  refine List.forall_mem_cons.mpr ⟨s_if_le dX10_vote_82 (by decide), ?_⟩
  refine List.forall_mem_cons.mpr ⟨s_iconst dX10_vote_85 (by decide), ?_⟩
  refine List.forall_mem_cons.mpr ⟨s_goto dX10_vote_86 (by decide), ?_⟩
  refine List.forall_mem_cons.mpr ⟨s_iload dX10_vote_89, ?_⟩
  refine List.forall_mem_cons.mpr ⟨s_if_ne dX10_vote_91 (by decide), ?_⟩
  refine List.forall_mem_cons.mpr ⟨s_iconst dX10_vote_94 (by decide), ?_⟩
  refine List.forall_mem_cons.mpr ⟨s_goto dX10_vote_95 (by decide), ?_⟩
  refine List.forall_mem_cons.mpr ⟨s_iconst dX10_vote_98 (by decide), ?_⟩
  refine List.forall_mem_cons.mpr ⟨s_ireturn dX10_vote_99 rfl, ?_⟩
  exact fun _ h => absurd h List.not_mem_nil
def cd_X10_counted : sv_Cd := [(0, o_ic 0 1),
  (1, o_is 3 2),
  (2, o_ic 0 3),
  (3, o_is 4 5),
  (5, o_il 4 7),
  (7, o_ic 9 9),
  (9, o_ic2 (fun x y => y ≤ x) 38 12),
  (12, o_il 3 13),
  (13, o_al 0 14),
  (14, o_il 1 15),
  (15, o_il 2 16),
  (16, o_il 4 18),
  (18, o_vI m_X10_vote 3 40 21),
  (21, o_ic (-1) 22),
  (22, o_ic2 (fun x y => x = y) 25 29),
  (25, o_ic 0 26),
  (26, o_go 30),
  (29, o_ic 1 30),
  (30, o_b (fun x y => x + y) 31),
  (31, o_is 3 32),
  (32, o_in 4 1 35),
  (35, o_go 5),
  (38, o_il 3 39),
  (39, o_ir)]
set_option maxRecDepth 20000 in
theorem sn_X10_counted : ∀ q ∈ cd_X10_counted, sv_Snd m_X10_counted q.1 q.2 := by
  unfold cd_X10_counted
  refine List.forall_mem_cons.mpr ⟨s_iconst dX10_counted_0 (by decide), ?_⟩
  refine List.forall_mem_cons.mpr ⟨s_istore_n dX10_counted_1 rfl (Nat.le_of_ble_eq_true rfl), ?_⟩
  refine List.forall_mem_cons.mpr ⟨s_iconst dX10_counted_2 (by decide), ?_⟩
  refine List.forall_mem_cons.mpr ⟨s_istore dX10_counted_3 (Nat.le_of_ble_eq_true rfl), ?_⟩
  refine List.forall_mem_cons.mpr ⟨s_iload dX10_counted_5, ?_⟩
  refine List.forall_mem_cons.mpr ⟨s_bipush dX10_counted_7 (by decide), ?_⟩
  refine List.forall_mem_cons.mpr ⟨s_icmp_ge dX10_counted_9 (by decide), ?_⟩
  refine List.forall_mem_cons.mpr ⟨s_iload_n dX10_counted_12 rfl, ?_⟩
  refine List.forall_mem_cons.mpr ⟨s_aload_n dX10_counted_13 rfl, ?_⟩
  refine List.forall_mem_cons.mpr ⟨s_iload_n dX10_counted_14 rfl, ?_⟩
  refine List.forall_mem_cons.mpr ⟨s_iload_n dX10_counted_15 rfl, ?_⟩
  refine List.forall_mem_cons.mpr ⟨s_iload dX10_counted_16, ?_⟩
  refine List.forall_mem_cons.mpr ⟨s_callVI cf_X10 rfl ca_X10_vote ml_X10_80 im_X10_vote se_X10_vote ⟨(Nat.le_of_ble_eq_true rfl), (Nat.le_of_ble_eq_true rfl)⟩ dX10_counted_18, ?_⟩
  refine List.forall_mem_cons.mpr ⟨s_iconst dX10_counted_21 (by decide), ?_⟩
  refine List.forall_mem_cons.mpr ⟨s_icmp_ne dX10_counted_22 (by decide), ?_⟩
  refine List.forall_mem_cons.mpr ⟨s_iconst dX10_counted_25 (by decide), ?_⟩
  refine List.forall_mem_cons.mpr ⟨s_goto dX10_counted_26 (by decide), ?_⟩
  refine List.forall_mem_cons.mpr ⟨s_iconst dX10_counted_29 (by decide), ?_⟩
  refine List.forall_mem_cons.mpr ⟨s_iadd dX10_counted_30, ?_⟩
  refine List.forall_mem_cons.mpr ⟨s_istore_n dX10_counted_31 rfl (Nat.le_of_ble_eq_true rfl), ?_⟩
  refine List.forall_mem_cons.mpr ⟨s_iinc dX10_counted_32 (by decide) (Nat.le_of_ble_eq_true rfl), ?_⟩
  refine List.forall_mem_cons.mpr ⟨s_goto dX10_counted_35 (by decide), ?_⟩
  refine List.forall_mem_cons.mpr ⟨s_iload_n dX10_counted_38 rfl, ?_⟩
  refine List.forall_mem_cons.mpr ⟨s_ireturn dX10_counted_39 rfl, ?_⟩
  exact fun _ h => absurd h List.not_mem_nil
def cd_X10_yes : sv_Cd := [(0, o_ic 0 1),
  (1, o_is 3 2),
  (2, o_ic 0 3),
  (3, o_is 4 5),
  (5, o_il 4 7),
  (7, o_ic 9 9),
  (9, o_ic2 (fun x y => y ≤ x) 38 12),
  (12, o_il 3 13),
  (13, o_al 0 14),
  (14, o_il 1 15),
  (15, o_il 2 16),
  (16, o_il 4 18),
  (18, o_vI m_X10_vote 3 40 21),
  (21, o_ic 1 22),
  (22, o_ic2 (fun x y => x = y) 25 29),
  (25, o_ic 1 26),
  (26, o_go 30),
  (29, o_ic 0 30),
  (30, o_b (fun x y => x + y) 31),
  (31, o_is 3 32),
  (32, o_in 4 1 35),
  (35, o_go 5),
  (38, o_il 3 39),
  (39, o_ir)]
set_option maxRecDepth 20000 in
theorem sn_X10_yes : ∀ q ∈ cd_X10_yes, sv_Snd m_X10_yes q.1 q.2 := by
  unfold cd_X10_yes
  refine List.forall_mem_cons.mpr ⟨s_iconst dX10_yes_0 (by decide), ?_⟩
  refine List.forall_mem_cons.mpr ⟨s_istore_n dX10_yes_1 rfl (Nat.le_of_ble_eq_true rfl), ?_⟩
  refine List.forall_mem_cons.mpr ⟨s_iconst dX10_yes_2 (by decide), ?_⟩
  refine List.forall_mem_cons.mpr ⟨s_istore dX10_yes_3 (Nat.le_of_ble_eq_true rfl), ?_⟩
  refine List.forall_mem_cons.mpr ⟨s_iload dX10_yes_5, ?_⟩
  refine List.forall_mem_cons.mpr ⟨s_bipush dX10_yes_7 (by decide), ?_⟩
  refine List.forall_mem_cons.mpr ⟨s_icmp_ge dX10_yes_9 (by decide), ?_⟩
  refine List.forall_mem_cons.mpr ⟨s_iload_n dX10_yes_12 rfl, ?_⟩
  refine List.forall_mem_cons.mpr ⟨s_aload_n dX10_yes_13 rfl, ?_⟩
  refine List.forall_mem_cons.mpr ⟨s_iload_n dX10_yes_14 rfl, ?_⟩
  refine List.forall_mem_cons.mpr ⟨s_iload_n dX10_yes_15 rfl, ?_⟩
  refine List.forall_mem_cons.mpr ⟨s_iload dX10_yes_16, ?_⟩
  refine List.forall_mem_cons.mpr ⟨s_callVI cf_X10 rfl ca_X10_vote ml_X10_80 im_X10_vote se_X10_vote ⟨(Nat.le_of_ble_eq_true rfl), (Nat.le_of_ble_eq_true rfl)⟩ dX10_yes_18, ?_⟩
  refine List.forall_mem_cons.mpr ⟨s_iconst dX10_yes_21 (by decide), ?_⟩
  refine List.forall_mem_cons.mpr ⟨s_icmp_ne dX10_yes_22 (by decide), ?_⟩
  refine List.forall_mem_cons.mpr ⟨s_iconst dX10_yes_25 (by decide), ?_⟩
  refine List.forall_mem_cons.mpr ⟨s_goto dX10_yes_26 (by decide), ?_⟩
  refine List.forall_mem_cons.mpr ⟨s_iconst dX10_yes_29 (by decide), ?_⟩
  refine List.forall_mem_cons.mpr ⟨s_iadd dX10_yes_30, ?_⟩
  refine List.forall_mem_cons.mpr ⟨s_istore_n dX10_yes_31 rfl (Nat.le_of_ble_eq_true rfl), ?_⟩
  refine List.forall_mem_cons.mpr ⟨s_iinc dX10_yes_32 (by decide) (Nat.le_of_ble_eq_true rfl), ?_⟩
  refine List.forall_mem_cons.mpr ⟨s_goto dX10_yes_35 (by decide), ?_⟩
  refine List.forall_mem_cons.mpr ⟨s_iload_n dX10_yes_38 rfl, ?_⟩
  refine List.forall_mem_cons.mpr ⟨s_ireturn dX10_yes_39 rfl, ?_⟩
  exact fun _ h => absurd h List.not_mem_nil
def cd_X10_votes : sv_Cd := [(0, o_al 0 1),
  (1, o_il 1 2),
  (2, o_vI m_X10_isPlayer 1 40 5),
  (5, o_if (fun x => x = 0) 26 8),
  (8, o_il 2 9),
  (9, o_ic 0 10),
  (10, o_ic 3 11),
  (11, o_sI m_X10_in 3 14),
  (14, o_if (fun x => x = 0) 26 17),
  (17, o_il 3 18),
  (18, o_ic 0 19),
  (19, o_ic 1 20),
  (20, o_sI m_X10_in 3 23),
  (23, o_if (fun x => x = 0) 26 29),
  (26, o_ic (-2) 28),
  (28, o_ir),
  (29, o_il 3 30),
  (30, o_if (fun x => x = 0) 33 42),
  (33, o_al 0 34),
  (34, o_il 1 35),
  (35, o_il 2 36),
  (36, o_vI m_X10_counted 2 40 39),
  (39, o_go 48),
  (42, o_al 0 43),
  (43, o_il 1 44),
  (44, o_il 2 45),
  (45, o_vI m_X10_yes 2 40 48),
  (48, o_ir)]
set_option maxRecDepth 20000 in
theorem sn_X10_votes : ∀ q ∈ cd_X10_votes, sv_Snd m_X10_votes q.1 q.2 := by
  unfold cd_X10_votes
  refine List.forall_mem_cons.mpr ⟨s_aload_n dX10_votes_0 rfl, ?_⟩
  refine List.forall_mem_cons.mpr ⟨s_iload_n dX10_votes_1 rfl, ?_⟩
  refine List.forall_mem_cons.mpr ⟨s_callVI cf_X10 rfl ca_X10_isPlayer ml_X10_84 im_X10_isPlayer se_X10_isPlayer ⟨(Nat.le_of_ble_eq_true rfl), (Nat.le_of_ble_eq_true rfl)⟩ dX10_votes_2, ?_⟩
  refine List.forall_mem_cons.mpr ⟨s_if_eq dX10_votes_5 (by decide), ?_⟩
  refine List.forall_mem_cons.mpr ⟨s_iload_n dX10_votes_8 rfl, ?_⟩
  refine List.forall_mem_cons.mpr ⟨s_iconst dX10_votes_9 (by decide), ?_⟩
  refine List.forall_mem_cons.mpr ⟨s_iconst dX10_votes_10 (by decide), ?_⟩
  refine List.forall_mem_cons.mpr ⟨s_callSI ca_X10_in ml_X10_75 st_X10_in ⟨(Nat.le_of_ble_eq_true rfl), (Nat.le_of_ble_eq_true rfl)⟩ dX10_votes_11, ?_⟩
  refine List.forall_mem_cons.mpr ⟨s_if_eq dX10_votes_14 (by decide), ?_⟩
  refine List.forall_mem_cons.mpr ⟨s_iload_n dX10_votes_17 rfl, ?_⟩
  refine List.forall_mem_cons.mpr ⟨s_iconst dX10_votes_18 (by decide), ?_⟩
  refine List.forall_mem_cons.mpr ⟨s_iconst dX10_votes_19 (by decide), ?_⟩
  refine List.forall_mem_cons.mpr ⟨s_callSI ca_X10_in ml_X10_75 st_X10_in ⟨(Nat.le_of_ble_eq_true rfl), (Nat.le_of_ble_eq_true rfl)⟩ dX10_votes_20, ?_⟩
  refine List.forall_mem_cons.mpr ⟨s_if_ne dX10_votes_23 (by decide), ?_⟩
  refine List.forall_mem_cons.mpr ⟨s_bipush dX10_votes_26 (by decide), ?_⟩
  refine List.forall_mem_cons.mpr ⟨s_ireturn dX10_votes_28 rfl, ?_⟩
  refine List.forall_mem_cons.mpr ⟨s_iload_n dX10_votes_29 rfl, ?_⟩
  refine List.forall_mem_cons.mpr ⟨s_if_ne dX10_votes_30 (by decide), ?_⟩
  refine List.forall_mem_cons.mpr ⟨s_aload_n dX10_votes_33 rfl, ?_⟩
  refine List.forall_mem_cons.mpr ⟨s_iload_n dX10_votes_34 rfl, ?_⟩
  refine List.forall_mem_cons.mpr ⟨s_iload_n dX10_votes_35 rfl, ?_⟩
  refine List.forall_mem_cons.mpr ⟨s_callVI cf_X10 rfl ca_X10_counted ml_X10_88 im_X10_counted se_X10_counted ⟨(Nat.le_of_ble_eq_true rfl), (Nat.le_of_ble_eq_true rfl)⟩ dX10_votes_36, ?_⟩
  refine List.forall_mem_cons.mpr ⟨s_goto dX10_votes_39 (by decide), ?_⟩
  refine List.forall_mem_cons.mpr ⟨s_aload_n dX10_votes_42 rfl, ?_⟩
  refine List.forall_mem_cons.mpr ⟨s_iload_n dX10_votes_43 rfl, ?_⟩
  refine List.forall_mem_cons.mpr ⟨s_iload_n dX10_votes_44 rfl, ?_⟩
  refine List.forall_mem_cons.mpr ⟨s_callVI cf_X10 rfl ca_X10_yes ml_X10_92 im_X10_yes se_X10_yes ⟨(Nat.le_of_ble_eq_true rfl), (Nat.le_of_ble_eq_true rfl)⟩ dX10_votes_45, ?_⟩
  refine List.forall_mem_cons.mpr ⟨s_ireturn dX10_votes_48 rfl, ?_⟩
  exact fun _ h => absurd h List.not_mem_nil
def cd_X10_type : sv_Cd := [(0, o_il 1 1),
  (1, o_ic 0 2),
  (2, o_ic 255 5),
  (5, o_sI m_X10_in 3 8),
  (8, o_if (fun x => x = 0) 11 14),
  (11, o_ic (-2) 13),
  (13, o_ir),
  (14, o_al 0 15),
  (15, o_gI 40 4 18),
  (18, o_ic 60 20),
  (20, o_ic2 (fun x y => x = y) 23 26),
  (23, o_ic (-4) 25),
  (25, o_ir),
  (26, o_al 0 27),
  (27, o_gR 40 43 30),
  (30, o_al 0 31),
  (31, o_gI 40 4 34),
  (34, o_il 1 35),
  (35, o_is3 36),
  (36, o_al 0 37),
  (37, o_dup 38),
  (38, o_gI 40 4 41),
  (41, o_ic 1 42),
  (42, o_b (fun x y => x + y) 43),
  (43, o_pI 40 4 46),
  (46, o_al 0 47),
  (47, o_gI 40 4 50),
  (50, o_ir)]
set_option maxRecDepth 20000 in
theorem sn_X10_type : ∀ q ∈ cd_X10_type, sv_Snd m_X10_type q.1 q.2 := by
  unfold cd_X10_type
  refine List.forall_mem_cons.mpr ⟨s_iload_n dX10_type_0 rfl, ?_⟩
  refine List.forall_mem_cons.mpr ⟨s_iconst dX10_type_1 (by decide), ?_⟩
  refine List.forall_mem_cons.mpr ⟨s_sipush dX10_type_2 (by decide), ?_⟩
  refine List.forall_mem_cons.mpr ⟨s_callSI ca_X10_in ml_X10_75 st_X10_in ⟨(Nat.le_of_ble_eq_true rfl), (Nat.le_of_ble_eq_true rfl)⟩ dX10_type_5, ?_⟩
  refine List.forall_mem_cons.mpr ⟨s_if_ne dX10_type_8 (by decide), ?_⟩
  refine List.forall_mem_cons.mpr ⟨s_bipush dX10_type_11 (by decide), ?_⟩
  refine List.forall_mem_cons.mpr ⟨s_ireturn dX10_type_13 rfl, ?_⟩
  refine List.forall_mem_cons.mpr ⟨s_aload_n dX10_type_14 rfl, ?_⟩
  refine List.forall_mem_cons.mpr ⟨s_getI cf_X10 (Nat.le_of_ble_eq_true rfl) rfl fl_X10_95 dX10_type_15, ?_⟩
  refine List.forall_mem_cons.mpr ⟨s_bipush dX10_type_18 (by decide), ?_⟩
  refine List.forall_mem_cons.mpr ⟨s_icmp_ne dX10_type_20 (by decide), ?_⟩
  refine List.forall_mem_cons.mpr ⟨s_bipush dX10_type_23 (by decide), ?_⟩
  refine List.forall_mem_cons.mpr ⟨s_ireturn dX10_type_25 rfl, ?_⟩
  refine List.forall_mem_cons.mpr ⟨s_aload_n dX10_type_26 rfl, ?_⟩
  refine List.forall_mem_cons.mpr ⟨s_getR (j := 5) cf_X10 (Nat.le_of_ble_eq_true rfl) rfl fl_X10_20 dX10_type_27, ?_⟩
  refine List.forall_mem_cons.mpr ⟨s_aload_n dX10_type_30 rfl, ?_⟩
  refine List.forall_mem_cons.mpr ⟨s_getI cf_X10 (Nat.le_of_ble_eq_true rfl) rfl fl_X10_95 dX10_type_31, ?_⟩
  refine List.forall_mem_cons.mpr ⟨s_iload_n dX10_type_34 rfl, ?_⟩
  refine List.forall_mem_cons.mpr ⟨s_iastore dX10_type_35, ?_⟩
  refine List.forall_mem_cons.mpr ⟨s_aload_n dX10_type_36 rfl, ?_⟩
  refine List.forall_mem_cons.mpr ⟨s_dup dX10_type_37, ?_⟩
  refine List.forall_mem_cons.mpr ⟨s_getI cf_X10 (Nat.le_of_ble_eq_true rfl) rfl fl_X10_95 dX10_type_38, ?_⟩
  refine List.forall_mem_cons.mpr ⟨s_iconst dX10_type_41 (by decide), ?_⟩
  refine List.forall_mem_cons.mpr ⟨s_iadd dX10_type_42, ?_⟩
  refine List.forall_mem_cons.mpr ⟨s_put cf_X10 (Nat.le_of_ble_eq_true rfl) rfl fl_X10_95 rfl (tyX10_ok 4 (Nat.le_of_ble_eq_true rfl)) dX10_type_43, ?_⟩
  refine List.forall_mem_cons.mpr ⟨s_aload_n dX10_type_46 rfl, ?_⟩
  refine List.forall_mem_cons.mpr ⟨s_getI cf_X10 (Nat.le_of_ble_eq_true rfl) rfl fl_X10_95 dX10_type_47, ?_⟩
  refine List.forall_mem_cons.mpr ⟨s_ireturn dX10_type_50 rfl, ?_⟩
  exact fun _ h => absurd h List.not_mem_nil
def cd_X10_repeal : sv_Cd := [(0, o_al 0 1),
  (1, o_gI 40 4 4),
  (4, o_is 1 5),
  (5, o_al 0 6),
  (6, o_ic 0 7),
  (7, o_pI 40 4 10),
  (10, o_il 1 11),
  (11, o_ir)]
set_option maxRecDepth 20000 in
theorem sn_X10_repeal : ∀ q ∈ cd_X10_repeal, sv_Snd m_X10_repeal q.1 q.2 := by
  unfold cd_X10_repeal
  refine List.forall_mem_cons.mpr ⟨s_aload_n dX10_repeal_0 rfl, ?_⟩
  refine List.forall_mem_cons.mpr ⟨s_getI cf_X10 (Nat.le_of_ble_eq_true rfl) rfl fl_X10_95 dX10_repeal_1, ?_⟩
  refine List.forall_mem_cons.mpr ⟨s_istore_n dX10_repeal_4 rfl (Nat.le_of_ble_eq_true rfl), ?_⟩
  refine List.forall_mem_cons.mpr ⟨s_aload_n dX10_repeal_5 rfl, ?_⟩
  refine List.forall_mem_cons.mpr ⟨s_iconst dX10_repeal_6 (by decide), ?_⟩
  refine List.forall_mem_cons.mpr ⟨s_put cf_X10 (Nat.le_of_ble_eq_true rfl) rfl fl_X10_95 rfl (tyX10_ok 4 (Nat.le_of_ble_eq_true rfl)) dX10_repeal_7, ?_⟩
  refine List.forall_mem_cons.mpr ⟨s_iload_n dX10_repeal_10 rfl, ?_⟩
  refine List.forall_mem_cons.mpr ⟨s_ireturn dX10_repeal_11 rfl, ?_⟩
  exact fun _ h => absurd h List.not_mem_nil
def cd_X10_byteAt : sv_Cd := [(0, o_il 1 1),
  (1, o_al 0 2),
  (2, o_gI 40 4 5),
  (5, o_ic2 (fun x y => y ≤ x) 17 8),
  (8, o_al 0 9),
  (9, o_gR 40 43 12),
  (12, o_il 1 13),
  (13, o_ia 14),
  (14, o_go 18),
  (17, o_ic (-1) 18),
  (18, o_ir)]
set_option maxRecDepth 20000 in
theorem sn_X10_byteAt : ∀ q ∈ cd_X10_byteAt, sv_Snd m_X10_byteAt q.1 q.2 := by
  unfold cd_X10_byteAt
  refine List.forall_mem_cons.mpr ⟨s_iload_n dX10_byteAt_0 rfl, ?_⟩
  refine List.forall_mem_cons.mpr ⟨s_aload_n dX10_byteAt_1 rfl, ?_⟩
  refine List.forall_mem_cons.mpr ⟨s_getI cf_X10 (Nat.le_of_ble_eq_true rfl) rfl fl_X10_95 dX10_byteAt_2, ?_⟩
  refine List.forall_mem_cons.mpr ⟨s_icmp_ge dX10_byteAt_5 (by decide), ?_⟩
  refine List.forall_mem_cons.mpr ⟨s_aload_n dX10_byteAt_8 rfl, ?_⟩
  refine List.forall_mem_cons.mpr ⟨s_getR (j := 5) cf_X10 (Nat.le_of_ble_eq_true rfl) rfl fl_X10_20 dX10_byteAt_9, ?_⟩
  refine List.forall_mem_cons.mpr ⟨s_iload_n dX10_byteAt_12 rfl, ?_⟩
  refine List.forall_mem_cons.mpr ⟨s_iaload dX10_byteAt_13, ?_⟩
  refine List.forall_mem_cons.mpr ⟨s_goto dX10_byteAt_14 (by decide), ?_⟩
  refine List.forall_mem_cons.mpr ⟨s_iconst dX10_byteAt_17 (by decide), ?_⟩
  refine List.forall_mem_cons.mpr ⟨s_ireturn dX10_byteAt_18 rfl, ?_⟩
  exact fun _ h => absurd h List.not_mem_nil
def cd_X10_expect : sv_Cd := [(0, o_al 0 1),
  (1, o_gI 40 11 4),
  (4, o_ic (-1) 5),
  (5, o_ic2 (fun x y => x = y) 8 28),
  (8, o_al 0 9),
  (9, o_al 0 10),
  (10, o_gI 40 10 13),
  (13, o_vI m_X10_byteAt 1 40 16),
  (16, o_il 1 17),
  (17, o_ic2 (fun x y => x = y) 28 20),
  (20, o_al 0 21),
  (21, o_al 0 22),
  (22, o_gI 40 10 25),
  (25, o_pI 40 11 28),
  (28, o_al 0 29),
  (29, o_dup 30),
  (30, o_gI 40 10 33),
  (33, o_ic 1 34),
  (34, o_b (fun x y => x + y) 35),
  (35, o_pI 40 10 38),
  (38, o_vr)]
set_option maxRecDepth 20000 in
theorem sn_X10_expect : ∀ q ∈ cd_X10_expect, sv_Snd m_X10_expect q.1 q.2 := by
  unfold cd_X10_expect
  refine List.forall_mem_cons.mpr ⟨s_aload_n dX10_expect_0 rfl, ?_⟩
  refine List.forall_mem_cons.mpr ⟨s_getI cf_X10 (Nat.le_of_ble_eq_true rfl) rfl fl_X10_98 dX10_expect_1, ?_⟩
  refine List.forall_mem_cons.mpr ⟨s_iconst dX10_expect_4 (by decide), ?_⟩
  refine List.forall_mem_cons.mpr ⟨s_icmp_ne dX10_expect_5 (by decide), ?_⟩
  refine List.forall_mem_cons.mpr ⟨s_aload_n dX10_expect_8 rfl, ?_⟩
  refine List.forall_mem_cons.mpr ⟨s_aload_n dX10_expect_9 rfl, ?_⟩
  refine List.forall_mem_cons.mpr ⟨s_getI cf_X10 (Nat.le_of_ble_eq_true rfl) rfl fl_X10_101 dX10_expect_10, ?_⟩
  refine List.forall_mem_cons.mpr ⟨s_callVI cf_X10 rfl ca_X10_byteAt ml_X10_104 im_X10_byteAt se_X10_byteAt ⟨(Nat.le_of_ble_eq_true rfl), (Nat.le_of_ble_eq_true rfl)⟩ dX10_expect_13, ?_⟩
  refine List.forall_mem_cons.mpr ⟨s_iload_n dX10_expect_16 rfl, ?_⟩
  refine List.forall_mem_cons.mpr ⟨s_icmp_eq dX10_expect_17 (by decide), ?_⟩
  refine List.forall_mem_cons.mpr ⟨s_aload_n dX10_expect_20 rfl, ?_⟩
  refine List.forall_mem_cons.mpr ⟨s_aload_n dX10_expect_21 rfl, ?_⟩
  refine List.forall_mem_cons.mpr ⟨s_getI cf_X10 (Nat.le_of_ble_eq_true rfl) rfl fl_X10_101 dX10_expect_22, ?_⟩
  refine List.forall_mem_cons.mpr ⟨s_put cf_X10 (Nat.le_of_ble_eq_true rfl) rfl fl_X10_98 rfl (tyX10_ok 11 (Nat.le_of_ble_eq_true rfl)) dX10_expect_25, ?_⟩
  refine List.forall_mem_cons.mpr ⟨s_aload_n dX10_expect_28 rfl, ?_⟩
  refine List.forall_mem_cons.mpr ⟨s_dup dX10_expect_29, ?_⟩
  refine List.forall_mem_cons.mpr ⟨s_getI cf_X10 (Nat.le_of_ble_eq_true rfl) rfl fl_X10_101 dX10_expect_30, ?_⟩
  refine List.forall_mem_cons.mpr ⟨s_iconst dX10_expect_33 (by decide), ?_⟩
  refine List.forall_mem_cons.mpr ⟨s_iadd dX10_expect_34, ?_⟩
  refine List.forall_mem_cons.mpr ⟨s_put cf_X10 (Nat.le_of_ble_eq_true rfl) rfl fl_X10_101 rfl (tyX10_ok 10 (Nat.le_of_ble_eq_true rfl)) dX10_expect_35, ?_⟩
  refine List.forall_mem_cons.mpr ⟨s_vreturn dX10_expect_38 rfl, ?_⟩
  exact fun _ h => absurd h List.not_mem_nil
def cd_X10_number : sv_Cd := [(0, o_al 0 1),
  (1, o_gI 40 10 4),
  (4, o_is 2 5),
  (5, o_ic 0 6),
  (6, o_is 3 7),
  (7, o_al 0 8),
  (8, o_gI 40 10 11),
  (11, o_il 2 12),
  (12, o_ic 3 13),
  (13, o_b (fun x y => x + y) 14),
  (14, o_ic2 (fun x y => y ≤ x) 73 17),
  (17, o_al 0 18),
  (18, o_al 0 19),
  (19, o_gI 40 10 22),
  (22, o_vI m_X10_byteAt 1 40 25),
  (25, o_ic 48 27),
  (27, o_ic2 (fun x y => x < y) 73 30),
  (30, o_al 0 31),
  (31, o_al 0 32),
  (32, o_gI 40 10 35),
  (35, o_vI m_X10_byteAt 1 40 38),
  (38, o_ic 57 40),
  (40, o_ic2 (fun x y => y < x) 73 43),
  (43, o_ic 10 45),
  (45, o_il 3 46),
  (46, o_b (fun x y => x * y) 47),
  (47, o_al 0 48),
  (48, o_al 0 49),
  (49, o_gI 40 10 52),
  (52, o_vI m_X10_byteAt 1 40 55),
  (55, o_b (fun x y => x + y) 56),
  (56, o_ic 48 58),
  (58, o_b (fun x y => x - y) 59),
  (59, o_is 3 60),
  (60, o_al 0 61),
  (61, o_dup 62),
  (62, o_gI 40 10 65),
  (65, o_ic 1 66),
  (66, o_b (fun x y => x + y) 67),
  (67, o_pI 40 10 70),
  (70, o_go 7),
  (73, o_al 0 74),
  (74, o_gI 40 11 77),
  (77, o_ic (-1) 78),
  (78, o_ic2 (fun x y => x = y) 81 103),
  (81, o_al 0 82),
  (82, o_gI 40 10 85),
  (85, o_il 2 86),
  (86, o_ic2 (fun x y => x = y) 98 89),
  (89, o_il 3 90),
  (90, o_ic 1 91),
  (91, o_il 1 92),
  (92, o_sI m_X10_in 3 95),
  (95, o_if (fun x => x = 0) 98 103),
  (98, o_al 0 99),
  (99, o_il 2 100),
  (100, o_pI 40 11 103),
  (103, o_il 3 104),
  (104, o_ir)]
set_option maxRecDepth 20000 in
theorem sn_X10_number : ∀ q ∈ cd_X10_number, sv_Snd m_X10_number q.1 q.2 := by
  unfold cd_X10_number
  refine List.forall_mem_cons.mpr ⟨s_aload_n dX10_number_0 rfl, ?_⟩
  refine List.forall_mem_cons.mpr ⟨s_getI cf_X10 (Nat.le_of_ble_eq_true rfl) rfl fl_X10_101 dX10_number_1, ?_⟩
  refine List.forall_mem_cons.mpr ⟨s_istore_n dX10_number_4 rfl (Nat.le_of_ble_eq_true rfl), ?_⟩
  refine List.forall_mem_cons.mpr ⟨s_iconst dX10_number_5 (by decide), ?_⟩
  refine List.forall_mem_cons.mpr ⟨s_istore_n dX10_number_6 rfl (Nat.le_of_ble_eq_true rfl), ?_⟩
  refine List.forall_mem_cons.mpr ⟨s_aload_n dX10_number_7 rfl, ?_⟩
  refine List.forall_mem_cons.mpr ⟨s_getI cf_X10 (Nat.le_of_ble_eq_true rfl) rfl fl_X10_101 dX10_number_8, ?_⟩
  refine List.forall_mem_cons.mpr ⟨s_iload_n dX10_number_11 rfl, ?_⟩
  refine List.forall_mem_cons.mpr ⟨s_iconst dX10_number_12 (by decide), ?_⟩
  refine List.forall_mem_cons.mpr ⟨s_iadd dX10_number_13, ?_⟩
  refine List.forall_mem_cons.mpr ⟨s_icmp_ge dX10_number_14 (by decide), ?_⟩
  refine List.forall_mem_cons.mpr ⟨s_aload_n dX10_number_17 rfl, ?_⟩
  refine List.forall_mem_cons.mpr ⟨s_aload_n dX10_number_18 rfl, ?_⟩
  refine List.forall_mem_cons.mpr ⟨s_getI cf_X10 (Nat.le_of_ble_eq_true rfl) rfl fl_X10_101 dX10_number_19, ?_⟩
  refine List.forall_mem_cons.mpr ⟨s_callVI cf_X10 rfl ca_X10_byteAt ml_X10_104 im_X10_byteAt se_X10_byteAt ⟨(Nat.le_of_ble_eq_true rfl), (Nat.le_of_ble_eq_true rfl)⟩ dX10_number_22, ?_⟩
  refine List.forall_mem_cons.mpr ⟨s_bipush dX10_number_25 (by decide), ?_⟩
  refine List.forall_mem_cons.mpr ⟨s_icmp_lt dX10_number_27 (by decide), ?_⟩
  refine List.forall_mem_cons.mpr ⟨s_aload_n dX10_number_30 rfl, ?_⟩
  refine List.forall_mem_cons.mpr ⟨s_aload_n dX10_number_31 rfl, ?_⟩
  refine List.forall_mem_cons.mpr ⟨s_getI cf_X10 (Nat.le_of_ble_eq_true rfl) rfl fl_X10_101 dX10_number_32, ?_⟩
  refine List.forall_mem_cons.mpr ⟨s_callVI cf_X10 rfl ca_X10_byteAt ml_X10_104 im_X10_byteAt se_X10_byteAt ⟨(Nat.le_of_ble_eq_true rfl), (Nat.le_of_ble_eq_true rfl)⟩ dX10_number_35, ?_⟩
  refine List.forall_mem_cons.mpr ⟨s_bipush dX10_number_38 (by decide), ?_⟩
  refine List.forall_mem_cons.mpr ⟨s_icmp_gt dX10_number_40 (by decide), ?_⟩
  refine List.forall_mem_cons.mpr ⟨s_bipush dX10_number_43 (by decide), ?_⟩
  refine List.forall_mem_cons.mpr ⟨s_iload_n dX10_number_45 rfl, ?_⟩
  refine List.forall_mem_cons.mpr ⟨s_imul dX10_number_46, ?_⟩
  refine List.forall_mem_cons.mpr ⟨s_aload_n dX10_number_47 rfl, ?_⟩
  refine List.forall_mem_cons.mpr ⟨s_aload_n dX10_number_48 rfl, ?_⟩
  refine List.forall_mem_cons.mpr ⟨s_getI cf_X10 (Nat.le_of_ble_eq_true rfl) rfl fl_X10_101 dX10_number_49, ?_⟩
  refine List.forall_mem_cons.mpr ⟨s_callVI cf_X10 rfl ca_X10_byteAt ml_X10_104 im_X10_byteAt se_X10_byteAt ⟨(Nat.le_of_ble_eq_true rfl), (Nat.le_of_ble_eq_true rfl)⟩ dX10_number_52, ?_⟩
  refine List.forall_mem_cons.mpr ⟨s_iadd dX10_number_55, ?_⟩
  refine List.forall_mem_cons.mpr ⟨s_bipush dX10_number_56 (by decide), ?_⟩
  refine List.forall_mem_cons.mpr ⟨s_isub dX10_number_58, ?_⟩
  refine List.forall_mem_cons.mpr ⟨s_istore_n dX10_number_59 rfl (Nat.le_of_ble_eq_true rfl), ?_⟩
  refine List.forall_mem_cons.mpr ⟨s_aload_n dX10_number_60 rfl, ?_⟩
  refine List.forall_mem_cons.mpr ⟨s_dup dX10_number_61, ?_⟩
  refine List.forall_mem_cons.mpr ⟨s_getI cf_X10 (Nat.le_of_ble_eq_true rfl) rfl fl_X10_101 dX10_number_62, ?_⟩
  refine List.forall_mem_cons.mpr ⟨s_iconst dX10_number_65 (by decide), ?_⟩
  refine List.forall_mem_cons.mpr ⟨s_iadd dX10_number_66, ?_⟩
  refine List.forall_mem_cons.mpr ⟨s_put cf_X10 (Nat.le_of_ble_eq_true rfl) rfl fl_X10_101 rfl (tyX10_ok 10 (Nat.le_of_ble_eq_true rfl)) dX10_number_67, ?_⟩
  refine List.forall_mem_cons.mpr ⟨s_goto dX10_number_70 (by decide), ?_⟩
  refine List.forall_mem_cons.mpr ⟨s_aload_n dX10_number_73 rfl, ?_⟩
  refine List.forall_mem_cons.mpr ⟨s_getI cf_X10 (Nat.le_of_ble_eq_true rfl) rfl fl_X10_98 dX10_number_74, ?_⟩
  refine List.forall_mem_cons.mpr ⟨s_iconst dX10_number_77 (by decide), ?_⟩
  refine List.forall_mem_cons.mpr ⟨s_icmp_ne dX10_number_78 (by decide), ?_⟩
  refine List.forall_mem_cons.mpr ⟨s_aload_n dX10_number_81 rfl, ?_⟩
  refine List.forall_mem_cons.mpr ⟨s_getI cf_X10 (Nat.le_of_ble_eq_true rfl) rfl fl_X10_101 dX10_number_82, ?_⟩
  refine List.forall_mem_cons.mpr ⟨s_iload_n dX10_number_85 rfl, ?_⟩
  refine List.forall_mem_cons.mpr ⟨s_icmp_eq dX10_number_86 (by decide), ?_⟩
  refine List.forall_mem_cons.mpr ⟨s_iload_n dX10_number_89 rfl, ?_⟩
  refine List.forall_mem_cons.mpr ⟨s_iconst dX10_number_90 (by decide), ?_⟩
  refine List.forall_mem_cons.mpr ⟨s_iload_n dX10_number_91 rfl, ?_⟩
  refine List.forall_mem_cons.mpr ⟨s_callSI ca_X10_in ml_X10_75 st_X10_in ⟨(Nat.le_of_ble_eq_true rfl), (Nat.le_of_ble_eq_true rfl)⟩ dX10_number_92, ?_⟩
  refine List.forall_mem_cons.mpr ⟨s_if_ne dX10_number_95 (by decide), ?_⟩
  refine List.forall_mem_cons.mpr ⟨s_aload_n dX10_number_98 rfl, ?_⟩
  refine List.forall_mem_cons.mpr ⟨s_iload_n dX10_number_99 rfl, ?_⟩
  refine List.forall_mem_cons.mpr ⟨s_put cf_X10 (Nat.le_of_ble_eq_true rfl) rfl fl_X10_98 rfl (tyX10_ok 11 (Nat.le_of_ble_eq_true rfl)) dX10_number_100, ?_⟩
  refine List.forall_mem_cons.mpr ⟨s_iload_n dX10_number_103 rfl, ?_⟩
  refine List.forall_mem_cons.mpr ⟨s_ireturn dX10_number_104 rfl, ?_⟩
  exact fun _ h => absurd h List.not_mem_nil
def cd_X10_read : sv_Cd := [(0, o_al 0 1),
  (1, o_ic 0 2),
  (2, o_pI 40 10 5),
  (5, o_al 0 6),
  (6, o_ic (-1) 7),
  (7, o_pI 40 11 10),
  (10, o_al 0 11),
  (11, o_ic 0 12),
  (12, o_pI 40 6 15),
  (15, o_ic 1 16),
  (16, o_is 1 17),
  (17, o_il 1 18),
  (18, o_if (fun x => x = 0) 209 21),
  (21, o_al 0 22),
  (22, o_gI 40 11 25),
  (25, o_ic (-1) 26),
  (26, o_ic2 (fun x y => x = y) 29 209),
  (29, o_al 0 30),
  (30, o_gI 40 6 33),
  (33, o_ic 4 34),
  (34, o_ic2 (fun x y => x = y) 37 50),
  (37, o_al 0 38),
  (38, o_al 0 39),
  (39, o_gI 40 10 42),
  (42, o_ic 1 43),
  (43, o_b (fun x y => x - y) 44),
  (44, o_pI 40 11 47),
  (47, o_go 17),
  (50, o_al 0 51),
  (51, o_ic 118 53),
  (53, o_vV m_X10_expect 1 40 56),
  (56, o_al 0 57),
  (57, o_gR 40 44 60),
  (60, o_al 0 61),
  (61, o_gI 40 6 64),
  (64, o_al 0 65),
  (65, o_ic 100 67),
  (67, o_vI m_X10_number 1 40 70),
  (70, o_is3 71),
  (71, o_al 0 72),
  (72, o_ic 97 74),
  (74, o_vV m_X10_expect 1 40 77),
  (77, o_al 0 78),
  (78, o_gR 40 45 81),
  (81, o_al 0 82),
  (82, o_gI 40 6 85),
  (85, o_al 0 86),
  (86, o_ic 24 88),
  (88, o_vI m_X10_number 1 40 91),
  (91, o_is3 92),
  (92, o_al 0 93),
  (93, o_al 0 94),
  (94, o_gI 40 10 97),
  (97, o_vI m_X10_byteAt 1 40 100),
  (100, o_is 2 101),
  (101, o_al 0 102),
  (102, o_gI 40 11 105),
  (105, o_ic (-1) 106),
  (106, o_ic2 (fun x y => x = y) 109 141),
  (109, o_il 2 110),
  (110, o_ic 97 112),
  (112, o_ic2 (fun x y => x = y) 141 115),
  (115, o_il 2 116),
  (116, o_ic 110 118),
  (118, o_ic2 (fun x y => x = y) 141 121),
  (121, o_il 2 122),
  (122, o_ic 100 124),
  (124, o_ic2 (fun x y => x = y) 141 127),
  (127, o_il 2 128),
  (128, o_ic 115 130),
  (130, o_ic2 (fun x y => x = y) 141 133),
  (133, o_al 0 134),
  (134, o_al 0 135),
  (135, o_gI 40 10 138),
  (138, o_pI 40 11 141),
  (141, o_al 0 142),
  (142, o_gR 40 46 145),
  (145, o_al 0 146),
  (146, o_gI 40 6 149),
  (149, o_il 2 150),
  (150, o_is3 151),
  (151, o_al 0 152),
  (152, o_dup 153),
  (153, o_gI 40 10 156),
  (156, o_ic 1 157),
  (157, o_b (fun x y => x + y) 158),
  (158, o_pI 40 10 161),
  (161, o_al 0 162),
  (162, o_dup 163),
  (163, o_gI 40 6 166),
  (166, o_ic 1 167),
  (167, o_b (fun x y => x + y) 168),
  (168, o_pI 40 6 171),
  (171, o_al 0 172),
  (172, o_gI 40 11 175),
  (175, o_ic (-1) 176),
  (176, o_ic2 (fun x y => x = y) 179 194),
  (179, o_al 0 180),
  (180, o_gI 40 10 183),
  (183, o_al 0 184),
  (184, o_gI 40 4 187),
  (187, o_ic2 (fun x y => y ≤ x) 194 190),
  (190, o_ic 1 191),
  (191, o_go 195),
  (194, o_ic 0 195),
  (195, o_is 1 196),
  (196, o_il 1 197),
  (197, o_if (fun x => x = 0) 206 200),
  (200, o_al 0 201),
  (201, o_ic 59 203),
  (203, o_vV m_X10_expect 1 40 206),
  (206, o_go 17),
  (209, o_vr)]
set_option maxRecDepth 20000 in
theorem sn_X10_read : ∀ q ∈ cd_X10_read, sv_Snd m_X10_read q.1 q.2 := by
  unfold cd_X10_read
  refine List.forall_mem_cons.mpr ⟨s_aload_n dX10_read_0 rfl, ?_⟩
  refine List.forall_mem_cons.mpr ⟨s_iconst dX10_read_1 (by decide), ?_⟩
  refine List.forall_mem_cons.mpr ⟨s_put cf_X10 (Nat.le_of_ble_eq_true rfl) rfl fl_X10_101 rfl (tyX10_ok 10 (Nat.le_of_ble_eq_true rfl)) dX10_read_2, ?_⟩
  refine List.forall_mem_cons.mpr ⟨s_aload_n dX10_read_5 rfl, ?_⟩
  refine List.forall_mem_cons.mpr ⟨s_iconst dX10_read_6 (by decide), ?_⟩
  refine List.forall_mem_cons.mpr ⟨s_put cf_X10 (Nat.le_of_ble_eq_true rfl) rfl fl_X10_98 rfl (tyX10_ok 11 (Nat.le_of_ble_eq_true rfl)) dX10_read_7, ?_⟩
  refine List.forall_mem_cons.mpr ⟨s_aload_n dX10_read_10 rfl, ?_⟩
  refine List.forall_mem_cons.mpr ⟨s_iconst dX10_read_11 (by decide), ?_⟩
  refine List.forall_mem_cons.mpr ⟨s_put cf_X10 (Nat.le_of_ble_eq_true rfl) rfl fl_X10_108 rfl (tyX10_ok 6 (Nat.le_of_ble_eq_true rfl)) dX10_read_12, ?_⟩
  refine List.forall_mem_cons.mpr ⟨s_iconst dX10_read_15 (by decide), ?_⟩
  refine List.forall_mem_cons.mpr ⟨s_istore_n dX10_read_16 rfl (Nat.le_of_ble_eq_true rfl), ?_⟩
  refine List.forall_mem_cons.mpr ⟨s_iload_n dX10_read_17 rfl, ?_⟩
  refine List.forall_mem_cons.mpr ⟨s_if_eq dX10_read_18 (by decide), ?_⟩
  refine List.forall_mem_cons.mpr ⟨s_aload_n dX10_read_21 rfl, ?_⟩
  refine List.forall_mem_cons.mpr ⟨s_getI cf_X10 (Nat.le_of_ble_eq_true rfl) rfl fl_X10_98 dX10_read_22, ?_⟩
  refine List.forall_mem_cons.mpr ⟨s_iconst dX10_read_25 (by decide), ?_⟩
  refine List.forall_mem_cons.mpr ⟨s_icmp_ne dX10_read_26 (by decide), ?_⟩
  refine List.forall_mem_cons.mpr ⟨s_aload_n dX10_read_29 rfl, ?_⟩
  refine List.forall_mem_cons.mpr ⟨s_getI cf_X10 (Nat.le_of_ble_eq_true rfl) rfl fl_X10_108 dX10_read_30, ?_⟩
  refine List.forall_mem_cons.mpr ⟨s_iconst dX10_read_33 (by decide), ?_⟩
  refine List.forall_mem_cons.mpr ⟨s_icmp_ne dX10_read_34 (by decide), ?_⟩
  refine List.forall_mem_cons.mpr ⟨s_aload_n dX10_read_37 rfl, ?_⟩
  refine List.forall_mem_cons.mpr ⟨s_aload_n dX10_read_38 rfl, ?_⟩
  refine List.forall_mem_cons.mpr ⟨s_getI cf_X10 (Nat.le_of_ble_eq_true rfl) rfl fl_X10_101 dX10_read_39, ?_⟩
  refine List.forall_mem_cons.mpr ⟨s_iconst dX10_read_42 (by decide), ?_⟩
  refine List.forall_mem_cons.mpr ⟨s_isub dX10_read_43, ?_⟩
  refine List.forall_mem_cons.mpr ⟨s_put cf_X10 (Nat.le_of_ble_eq_true rfl) rfl fl_X10_98 rfl (tyX10_ok 11 (Nat.le_of_ble_eq_true rfl)) dX10_read_44, ?_⟩
  refine List.forall_mem_cons.mpr ⟨s_goto dX10_read_47 (by decide), ?_⟩
  refine List.forall_mem_cons.mpr ⟨s_aload_n dX10_read_50 rfl, ?_⟩
  refine List.forall_mem_cons.mpr ⟨s_bipush dX10_read_51 (by decide), ?_⟩
  refine List.forall_mem_cons.mpr ⟨s_callVV cf_X10 rfl ca_X10_expect ml_X10_111 im_X10_expect se_X10_expect ⟨(Nat.le_of_ble_eq_true rfl), (Nat.le_of_ble_eq_true rfl)⟩ dX10_read_53, ?_⟩
  refine List.forall_mem_cons.mpr ⟨s_aload_n dX10_read_56 rfl, ?_⟩
  refine List.forall_mem_cons.mpr ⟨s_getR (j := 7) cf_X10 (Nat.le_of_ble_eq_true rfl) rfl fl_X10_23 dX10_read_57, ?_⟩
  refine List.forall_mem_cons.mpr ⟨s_aload_n dX10_read_60 rfl, ?_⟩
  refine List.forall_mem_cons.mpr ⟨s_getI cf_X10 (Nat.le_of_ble_eq_true rfl) rfl fl_X10_108 dX10_read_61, ?_⟩
  refine List.forall_mem_cons.mpr ⟨s_aload_n dX10_read_64 rfl, ?_⟩
  refine List.forall_mem_cons.mpr ⟨s_bipush dX10_read_65 (by decide), ?_⟩
  refine List.forall_mem_cons.mpr ⟨s_callVI cf_X10 rfl ca_X10_number ml_X10_115 im_X10_number se_X10_number ⟨(Nat.le_of_ble_eq_true rfl), (Nat.le_of_ble_eq_true rfl)⟩ dX10_read_67, ?_⟩
  refine List.forall_mem_cons.mpr ⟨s_iastore dX10_read_70, ?_⟩
  refine List.forall_mem_cons.mpr ⟨s_aload_n dX10_read_71 rfl, ?_⟩
  refine List.forall_mem_cons.mpr ⟨s_bipush dX10_read_72 (by decide), ?_⟩
  refine List.forall_mem_cons.mpr ⟨s_callVV cf_X10 rfl ca_X10_expect ml_X10_111 im_X10_expect se_X10_expect ⟨(Nat.le_of_ble_eq_true rfl), (Nat.le_of_ble_eq_true rfl)⟩ dX10_read_74, ?_⟩
  refine List.forall_mem_cons.mpr ⟨s_aload_n dX10_read_77 rfl, ?_⟩
  refine List.forall_mem_cons.mpr ⟨s_getR (j := 8) cf_X10 (Nat.le_of_ble_eq_true rfl) rfl fl_X10_26 dX10_read_78, ?_⟩
  refine List.forall_mem_cons.mpr ⟨s_aload_n dX10_read_81 rfl, ?_⟩
  refine List.forall_mem_cons.mpr ⟨s_getI cf_X10 (Nat.le_of_ble_eq_true rfl) rfl fl_X10_108 dX10_read_82, ?_⟩
  refine List.forall_mem_cons.mpr ⟨s_aload_n dX10_read_85 rfl, ?_⟩
  refine List.forall_mem_cons.mpr ⟨s_bipush dX10_read_86 (by decide), ?_⟩
  refine List.forall_mem_cons.mpr ⟨s_callVI cf_X10 rfl ca_X10_number ml_X10_115 im_X10_number se_X10_number ⟨(Nat.le_of_ble_eq_true rfl), (Nat.le_of_ble_eq_true rfl)⟩ dX10_read_88, ?_⟩
  refine List.forall_mem_cons.mpr ⟨s_iastore dX10_read_91, ?_⟩
  refine List.forall_mem_cons.mpr ⟨s_aload_n dX10_read_92 rfl, ?_⟩
  refine List.forall_mem_cons.mpr ⟨s_aload_n dX10_read_93 rfl, ?_⟩
  refine List.forall_mem_cons.mpr ⟨s_getI cf_X10 (Nat.le_of_ble_eq_true rfl) rfl fl_X10_101 dX10_read_94, ?_⟩
  refine List.forall_mem_cons.mpr ⟨s_callVI cf_X10 rfl ca_X10_byteAt ml_X10_104 im_X10_byteAt se_X10_byteAt ⟨(Nat.le_of_ble_eq_true rfl), (Nat.le_of_ble_eq_true rfl)⟩ dX10_read_97, ?_⟩
  refine List.forall_mem_cons.mpr ⟨s_istore_n dX10_read_100 rfl (Nat.le_of_ble_eq_true rfl), ?_⟩
  refine List.forall_mem_cons.mpr ⟨s_aload_n dX10_read_101 rfl, ?_⟩
  refine List.forall_mem_cons.mpr ⟨s_getI cf_X10 (Nat.le_of_ble_eq_true rfl) rfl fl_X10_98 dX10_read_102, ?_⟩
  refine List.forall_mem_cons.mpr ⟨s_iconst dX10_read_105 (by decide), ?_⟩
  refine List.forall_mem_cons.mpr ⟨s_icmp_ne dX10_read_106 (by decide), ?_⟩
  refine List.forall_mem_cons.mpr ⟨s_iload_n dX10_read_109 rfl, ?_⟩
  refine List.forall_mem_cons.mpr ⟨s_bipush dX10_read_110 (by decide), ?_⟩
  refine List.forall_mem_cons.mpr ⟨s_icmp_eq dX10_read_112 (by decide), ?_⟩
  refine List.forall_mem_cons.mpr ⟨s_iload_n dX10_read_115 rfl, ?_⟩
  refine List.forall_mem_cons.mpr ⟨s_bipush dX10_read_116 (by decide), ?_⟩
  refine List.forall_mem_cons.mpr ⟨s_icmp_eq dX10_read_118 (by decide), ?_⟩
  refine List.forall_mem_cons.mpr ⟨s_iload_n dX10_read_121 rfl, ?_⟩
  refine List.forall_mem_cons.mpr ⟨s_bipush dX10_read_122 (by decide), ?_⟩
  refine List.forall_mem_cons.mpr ⟨s_icmp_eq dX10_read_124 (by decide), ?_⟩
  refine List.forall_mem_cons.mpr ⟨s_iload_n dX10_read_127 rfl, ?_⟩
  refine List.forall_mem_cons.mpr ⟨s_bipush dX10_read_128 (by decide), ?_⟩
  refine List.forall_mem_cons.mpr ⟨s_icmp_eq dX10_read_130 (by decide), ?_⟩
  refine List.forall_mem_cons.mpr ⟨s_aload_n dX10_read_133 rfl, ?_⟩
  refine List.forall_mem_cons.mpr ⟨s_aload_n dX10_read_134 rfl, ?_⟩
  refine List.forall_mem_cons.mpr ⟨s_getI cf_X10 (Nat.le_of_ble_eq_true rfl) rfl fl_X10_101 dX10_read_135, ?_⟩
  refine List.forall_mem_cons.mpr ⟨s_put cf_X10 (Nat.le_of_ble_eq_true rfl) rfl fl_X10_98 rfl (tyX10_ok 11 (Nat.le_of_ble_eq_true rfl)) dX10_read_138, ?_⟩
  refine List.forall_mem_cons.mpr ⟨s_aload_n dX10_read_141 rfl, ?_⟩
  refine List.forall_mem_cons.mpr ⟨s_getR (j := 9) cf_X10 (Nat.le_of_ble_eq_true rfl) rfl fl_X10_29 dX10_read_142, ?_⟩
  refine List.forall_mem_cons.mpr ⟨s_aload_n dX10_read_145 rfl, ?_⟩
  refine List.forall_mem_cons.mpr ⟨s_getI cf_X10 (Nat.le_of_ble_eq_true rfl) rfl fl_X10_108 dX10_read_146, ?_⟩
  refine List.forall_mem_cons.mpr ⟨s_iload_n dX10_read_149 rfl, ?_⟩
  refine List.forall_mem_cons.mpr ⟨s_iastore dX10_read_150, ?_⟩
  refine List.forall_mem_cons.mpr ⟨s_aload_n dX10_read_151 rfl, ?_⟩
  refine List.forall_mem_cons.mpr ⟨s_dup dX10_read_152, ?_⟩
  refine List.forall_mem_cons.mpr ⟨s_getI cf_X10 (Nat.le_of_ble_eq_true rfl) rfl fl_X10_101 dX10_read_153, ?_⟩
  refine List.forall_mem_cons.mpr ⟨s_iconst dX10_read_156 (by decide), ?_⟩
  refine List.forall_mem_cons.mpr ⟨s_iadd dX10_read_157, ?_⟩
  refine List.forall_mem_cons.mpr ⟨s_put cf_X10 (Nat.le_of_ble_eq_true rfl) rfl fl_X10_101 rfl (tyX10_ok 10 (Nat.le_of_ble_eq_true rfl)) dX10_read_158, ?_⟩
  refine List.forall_mem_cons.mpr ⟨s_aload_n dX10_read_161 rfl, ?_⟩
  refine List.forall_mem_cons.mpr ⟨s_dup dX10_read_162, ?_⟩
  refine List.forall_mem_cons.mpr ⟨s_getI cf_X10 (Nat.le_of_ble_eq_true rfl) rfl fl_X10_108 dX10_read_163, ?_⟩
  refine List.forall_mem_cons.mpr ⟨s_iconst dX10_read_166 (by decide), ?_⟩
  refine List.forall_mem_cons.mpr ⟨s_iadd dX10_read_167, ?_⟩
  refine List.forall_mem_cons.mpr ⟨s_put cf_X10 (Nat.le_of_ble_eq_true rfl) rfl fl_X10_108 rfl (tyX10_ok 6 (Nat.le_of_ble_eq_true rfl)) dX10_read_168, ?_⟩
  refine List.forall_mem_cons.mpr ⟨s_aload_n dX10_read_171 rfl, ?_⟩
  refine List.forall_mem_cons.mpr ⟨s_getI cf_X10 (Nat.le_of_ble_eq_true rfl) rfl fl_X10_98 dX10_read_172, ?_⟩
  refine List.forall_mem_cons.mpr ⟨s_iconst dX10_read_175 (by decide), ?_⟩
  refine List.forall_mem_cons.mpr ⟨s_icmp_ne dX10_read_176 (by decide), ?_⟩
  refine List.forall_mem_cons.mpr ⟨s_aload_n dX10_read_179 rfl, ?_⟩
  refine List.forall_mem_cons.mpr ⟨s_getI cf_X10 (Nat.le_of_ble_eq_true rfl) rfl fl_X10_101 dX10_read_180, ?_⟩
  refine List.forall_mem_cons.mpr ⟨s_aload_n dX10_read_183 rfl, ?_⟩
  refine List.forall_mem_cons.mpr ⟨s_getI cf_X10 (Nat.le_of_ble_eq_true rfl) rfl fl_X10_95 dX10_read_184, ?_⟩
  refine List.forall_mem_cons.mpr ⟨s_icmp_ge dX10_read_187 (by decide), ?_⟩
  refine List.forall_mem_cons.mpr ⟨s_iconst dX10_read_190 (by decide), ?_⟩
  refine List.forall_mem_cons.mpr ⟨s_goto dX10_read_191 (by decide), ?_⟩
  refine List.forall_mem_cons.mpr ⟨s_iconst dX10_read_194 (by decide), ?_⟩
  refine List.forall_mem_cons.mpr ⟨s_istore_n dX10_read_195 rfl (Nat.le_of_ble_eq_true rfl), ?_⟩
  refine List.forall_mem_cons.mpr ⟨s_iload_n dX10_read_196 rfl, ?_⟩
  refine List.forall_mem_cons.mpr ⟨s_if_eq dX10_read_197 (by decide), ?_⟩
  refine List.forall_mem_cons.mpr ⟨s_aload_n dX10_read_200 rfl, ?_⟩
  refine List.forall_mem_cons.mpr ⟨s_bipush dX10_read_201 (by decide), ?_⟩
  refine List.forall_mem_cons.mpr ⟨s_callVV cf_X10 rfl ca_X10_expect ml_X10_111 im_X10_expect se_X10_expect ⟨(Nat.le_of_ble_eq_true rfl), (Nat.le_of_ble_eq_true rfl)⟩ dX10_read_203, ?_⟩
  refine List.forall_mem_cons.mpr ⟨s_goto dX10_read_206 (by decide), ?_⟩
  refine List.forall_mem_cons.mpr ⟨s_vreturn dX10_read_209 rfl, ?_⟩
  exact fun _ h => absurd h List.not_mem_nil
def cd_X10_fault : sv_Cd := [(0, o_al 0 1),
  (1, o_vV m_X10_read 0 40 4),
  (4, o_al 0 5),
  (5, o_gI 40 11 8),
  (8, o_ir)]
set_option maxRecDepth 20000 in
theorem sn_X10_fault : ∀ q ∈ cd_X10_fault, sv_Snd m_X10_fault q.1 q.2 := by
  unfold cd_X10_fault
  refine List.forall_mem_cons.mpr ⟨s_aload_n dX10_fault_0 rfl, ?_⟩
  refine List.forall_mem_cons.mpr ⟨s_callVV cf_X10 rfl ca_X10_read ml_X10_118 im_X10_read se_X10_read ⟨(Nat.le_of_ble_eq_true rfl), (Nat.le_of_ble_eq_true rfl)⟩ dX10_fault_1, ?_⟩
  refine List.forall_mem_cons.mpr ⟨s_aload_n dX10_fault_4 rfl, ?_⟩
  refine List.forall_mem_cons.mpr ⟨s_getI cf_X10 (Nat.le_of_ble_eq_true rfl) rfl fl_X10_98 dX10_fault_5, ?_⟩
  refine List.forall_mem_cons.mpr ⟨s_ireturn dX10_fault_8 rfl, ?_⟩
  exact fun _ h => absurd h List.not_mem_nil
def cd_X10_refuses : sv_Cd := [(0, o_il 1 1),
  (1, o_ic 0 2),
  (2, o_ic 3 3),
  (3, o_sI m_X10_in 3 6),
  (6, o_if (fun x => x = 0) 9 12),
  (9, o_ic (-2) 11),
  (11, o_ir),
  (12, o_al 0 13),
  (13, o_vV m_X10_read 0 40 16),
  (16, o_al 0 17),
  (17, o_gI 40 11 20),
  (20, o_ic (-1) 21),
  (21, o_ic2 (fun x y => x = y) 29 24),
  (24, o_ic (-3) 26),
  (26, o_go 43),
  (29, o_il 1 30),
  (30, o_al 0 31),
  (31, o_gI 40 6 34),
  (34, o_ic2 (fun x y => x < y) 42 37),
  (37, o_ic (-2) 39),
  (39, o_go 43),
  (42, o_ic 0 43),
  (43, o_ir)]
set_option maxRecDepth 20000 in
theorem sn_X10_refuses : ∀ q ∈ cd_X10_refuses, sv_Snd m_X10_refuses q.1 q.2 := by
  unfold cd_X10_refuses
  refine List.forall_mem_cons.mpr ⟨s_iload_n dX10_refuses_0 rfl, ?_⟩
  refine List.forall_mem_cons.mpr ⟨s_iconst dX10_refuses_1 (by decide), ?_⟩
  refine List.forall_mem_cons.mpr ⟨s_iconst dX10_refuses_2 (by decide), ?_⟩
  refine List.forall_mem_cons.mpr ⟨s_callSI ca_X10_in ml_X10_75 st_X10_in ⟨(Nat.le_of_ble_eq_true rfl), (Nat.le_of_ble_eq_true rfl)⟩ dX10_refuses_3, ?_⟩
  refine List.forall_mem_cons.mpr ⟨s_if_ne dX10_refuses_6 (by decide), ?_⟩
  refine List.forall_mem_cons.mpr ⟨s_bipush dX10_refuses_9 (by decide), ?_⟩
  refine List.forall_mem_cons.mpr ⟨s_ireturn dX10_refuses_11 rfl, ?_⟩
  refine List.forall_mem_cons.mpr ⟨s_aload_n dX10_refuses_12 rfl, ?_⟩
  refine List.forall_mem_cons.mpr ⟨s_callVV cf_X10 rfl ca_X10_read ml_X10_118 im_X10_read se_X10_read ⟨(Nat.le_of_ble_eq_true rfl), (Nat.le_of_ble_eq_true rfl)⟩ dX10_refuses_13, ?_⟩
  refine List.forall_mem_cons.mpr ⟨s_aload_n dX10_refuses_16 rfl, ?_⟩
  refine List.forall_mem_cons.mpr ⟨s_getI cf_X10 (Nat.le_of_ble_eq_true rfl) rfl fl_X10_98 dX10_refuses_17, ?_⟩
  refine List.forall_mem_cons.mpr ⟨s_iconst dX10_refuses_20 (by decide), ?_⟩
  refine List.forall_mem_cons.mpr ⟨s_icmp_eq dX10_refuses_21 (by decide), ?_⟩
  refine List.forall_mem_cons.mpr ⟨s_bipush dX10_refuses_24 (by decide), ?_⟩
  refine List.forall_mem_cons.mpr ⟨s_goto dX10_refuses_26 (by decide), ?_⟩
  refine List.forall_mem_cons.mpr ⟨s_iload_n dX10_refuses_29 rfl, ?_⟩
  refine List.forall_mem_cons.mpr ⟨s_aload_n dX10_refuses_30 rfl, ?_⟩
  refine List.forall_mem_cons.mpr ⟨s_getI cf_X10 (Nat.le_of_ble_eq_true rfl) rfl fl_X10_108 dX10_refuses_31, ?_⟩
  refine List.forall_mem_cons.mpr ⟨s_icmp_lt dX10_refuses_34 (by decide), ?_⟩
  refine List.forall_mem_cons.mpr ⟨s_bipush dX10_refuses_37 (by decide), ?_⟩
  refine List.forall_mem_cons.mpr ⟨s_goto dX10_refuses_39 (by decide), ?_⟩
  refine List.forall_mem_cons.mpr ⟨s_iconst dX10_refuses_42 (by decide), ?_⟩
  refine List.forall_mem_cons.mpr ⟨s_ireturn dX10_refuses_43 rfl, ?_⟩
  exact fun _ h => absurd h List.not_mem_nil
def cd_X10_law : sv_Cd := [(0, o_il 2 1),
  (1, o_ic 0 2),
  (2, o_ic 2 3),
  (3, o_sI m_X10_in 3 6),
  (6, o_if (fun x => x = 0) 9 12),
  (9, o_ic (-2) 11),
  (11, o_ir),
  (12, o_al 0 13),
  (13, o_il 1 14),
  (14, o_vI m_X10_refuses 1 40 17),
  (17, o_is 3 18),
  (18, o_il 3 19),
  (19, o_if (fun x => x = 0) 26 22),
  (22, o_il 3 23),
  (23, o_go 59),
  (26, o_il 2 27),
  (27, o_if (fun x => x = 0) 30 39),
  (30, o_al 0 31),
  (31, o_gR 40 44 34),
  (34, o_il 1 35),
  (35, o_ia 36),
  (36, o_go 59),
  (39, o_il 2 40),
  (40, o_ic 1 41),
  (41, o_ic2 (fun x y => x = y) 44 53),
  (44, o_al 0 45),
  (45, o_gR 40 45 48),
  (48, o_il 1 49),
  (49, o_ia 50),
  (50, o_go 59),
  (53, o_al 0 54),
  (54, o_gR 40 46 57),
  (57, o_il 1 58),
  (58, o_ia 59),
  (59, o_ir)]
set_option maxRecDepth 20000 in
theorem sn_X10_law : ∀ q ∈ cd_X10_law, sv_Snd m_X10_law q.1 q.2 := by
  unfold cd_X10_law
  refine List.forall_mem_cons.mpr ⟨s_iload_n dX10_law_0 rfl, ?_⟩
  refine List.forall_mem_cons.mpr ⟨s_iconst dX10_law_1 (by decide), ?_⟩
  refine List.forall_mem_cons.mpr ⟨s_iconst dX10_law_2 (by decide), ?_⟩
  refine List.forall_mem_cons.mpr ⟨s_callSI ca_X10_in ml_X10_75 st_X10_in ⟨(Nat.le_of_ble_eq_true rfl), (Nat.le_of_ble_eq_true rfl)⟩ dX10_law_3, ?_⟩
  refine List.forall_mem_cons.mpr ⟨s_if_ne dX10_law_6 (by decide), ?_⟩
  refine List.forall_mem_cons.mpr ⟨s_bipush dX10_law_9 (by decide), ?_⟩
  refine List.forall_mem_cons.mpr ⟨s_ireturn dX10_law_11 rfl, ?_⟩
  refine List.forall_mem_cons.mpr ⟨s_aload_n dX10_law_12 rfl, ?_⟩
  refine List.forall_mem_cons.mpr ⟨s_iload_n dX10_law_13 rfl, ?_⟩
  refine List.forall_mem_cons.mpr ⟨s_callVI cf_X10 rfl ca_X10_refuses ml_X10_121 im_X10_refuses se_X10_refuses ⟨(Nat.le_of_ble_eq_true rfl), (Nat.le_of_ble_eq_true rfl)⟩ dX10_law_14, ?_⟩
  refine List.forall_mem_cons.mpr ⟨s_istore_n dX10_law_17 rfl (Nat.le_of_ble_eq_true rfl), ?_⟩
  refine List.forall_mem_cons.mpr ⟨s_iload_n dX10_law_18 rfl, ?_⟩
  refine List.forall_mem_cons.mpr ⟨s_if_eq dX10_law_19 (by decide), ?_⟩
  refine List.forall_mem_cons.mpr ⟨s_iload_n dX10_law_22 rfl, ?_⟩
  refine List.forall_mem_cons.mpr ⟨s_goto dX10_law_23 (by decide), ?_⟩
  refine List.forall_mem_cons.mpr ⟨s_iload_n dX10_law_26 rfl, ?_⟩
  refine List.forall_mem_cons.mpr ⟨s_if_ne dX10_law_27 (by decide), ?_⟩
  refine List.forall_mem_cons.mpr ⟨s_aload_n dX10_law_30 rfl, ?_⟩
  refine List.forall_mem_cons.mpr ⟨s_getR (j := 7) cf_X10 (Nat.le_of_ble_eq_true rfl) rfl fl_X10_23 dX10_law_31, ?_⟩
  refine List.forall_mem_cons.mpr ⟨s_iload_n dX10_law_34 rfl, ?_⟩
  refine List.forall_mem_cons.mpr ⟨s_iaload dX10_law_35, ?_⟩
  refine List.forall_mem_cons.mpr ⟨s_goto dX10_law_36 (by decide), ?_⟩
  refine List.forall_mem_cons.mpr ⟨s_iload_n dX10_law_39 rfl, ?_⟩
  refine List.forall_mem_cons.mpr ⟨s_iconst dX10_law_40 (by decide), ?_⟩
  refine List.forall_mem_cons.mpr ⟨s_icmp_ne dX10_law_41 (by decide), ?_⟩
  refine List.forall_mem_cons.mpr ⟨s_aload_n dX10_law_44 rfl, ?_⟩
  refine List.forall_mem_cons.mpr ⟨s_getR (j := 8) cf_X10 (Nat.le_of_ble_eq_true rfl) rfl fl_X10_26 dX10_law_45, ?_⟩
  refine List.forall_mem_cons.mpr ⟨s_iload_n dX10_law_48 rfl, ?_⟩
  refine List.forall_mem_cons.mpr ⟨s_iaload dX10_law_49, ?_⟩
  refine List.forall_mem_cons.mpr ⟨s_goto dX10_law_50 (by decide), ?_⟩
  refine List.forall_mem_cons.mpr ⟨s_aload_n dX10_law_53 rfl, ?_⟩
  refine List.forall_mem_cons.mpr ⟨s_getR (j := 9) cf_X10 (Nat.le_of_ble_eq_true rfl) rfl fl_X10_29 dX10_law_54, ?_⟩
  refine List.forall_mem_cons.mpr ⟨s_iload_n dX10_law_57 rfl, ?_⟩
  refine List.forall_mem_cons.mpr ⟨s_iaload dX10_law_58, ?_⟩
  refine List.forall_mem_cons.mpr ⟨s_ireturn dX10_law_59 rfl, ?_⟩
  exact fun _ h => absurd h List.not_mem_nil
def cd_X10_dearer : sv_Cd := [(0, o_al 0 1),
  (1, o_il 1 2),
  (2, o_il 3 3),
  (3, o_vI m_X10_yes 2 40 6),
  (6, o_al 0 7),
  (7, o_il 2 8),
  (8, o_il 3 9),
  (9, o_vI m_X10_counted 2 40 12),
  (12, o_b (fun x y => x * y) 13),
  (13, o_al 0 14),
  (14, o_il 2 15),
  (15, o_il 3 16),
  (16, o_vI m_X10_yes 2 40 19),
  (19, o_al 0 20),
  (20, o_il 1 21),
  (21, o_il 3 22),
  (22, o_vI m_X10_counted 2 40 25),
  (25, o_b (fun x y => x * y) 26),
  (26, o_b (fun x y => x - y) 27),
  (27, o_ir)]
set_option maxRecDepth 20000 in
theorem sn_X10_dearer : ∀ q ∈ cd_X10_dearer, sv_Snd m_X10_dearer q.1 q.2 := by
  unfold cd_X10_dearer
  refine List.forall_mem_cons.mpr ⟨s_aload_n dX10_dearer_0 rfl, ?_⟩
  refine List.forall_mem_cons.mpr ⟨s_iload_n dX10_dearer_1 rfl, ?_⟩
  refine List.forall_mem_cons.mpr ⟨s_iload_n dX10_dearer_2 rfl, ?_⟩
  refine List.forall_mem_cons.mpr ⟨s_callVI cf_X10 rfl ca_X10_yes ml_X10_92 im_X10_yes se_X10_yes ⟨(Nat.le_of_ble_eq_true rfl), (Nat.le_of_ble_eq_true rfl)⟩ dX10_dearer_3, ?_⟩
  refine List.forall_mem_cons.mpr ⟨s_aload_n dX10_dearer_6 rfl, ?_⟩
  refine List.forall_mem_cons.mpr ⟨s_iload_n dX10_dearer_7 rfl, ?_⟩
  refine List.forall_mem_cons.mpr ⟨s_iload_n dX10_dearer_8 rfl, ?_⟩
  refine List.forall_mem_cons.mpr ⟨s_callVI cf_X10 rfl ca_X10_counted ml_X10_88 im_X10_counted se_X10_counted ⟨(Nat.le_of_ble_eq_true rfl), (Nat.le_of_ble_eq_true rfl)⟩ dX10_dearer_9, ?_⟩
  refine List.forall_mem_cons.mpr ⟨s_imul dX10_dearer_12, ?_⟩
  refine List.forall_mem_cons.mpr ⟨s_aload_n dX10_dearer_13 rfl, ?_⟩
  refine List.forall_mem_cons.mpr ⟨s_iload_n dX10_dearer_14 rfl, ?_⟩
  refine List.forall_mem_cons.mpr ⟨s_iload_n dX10_dearer_15 rfl, ?_⟩
  refine List.forall_mem_cons.mpr ⟨s_callVI cf_X10 rfl ca_X10_yes ml_X10_92 im_X10_yes se_X10_yes ⟨(Nat.le_of_ble_eq_true rfl), (Nat.le_of_ble_eq_true rfl)⟩ dX10_dearer_16, ?_⟩
  refine List.forall_mem_cons.mpr ⟨s_aload_n dX10_dearer_19 rfl, ?_⟩
  refine List.forall_mem_cons.mpr ⟨s_iload_n dX10_dearer_20 rfl, ?_⟩
  refine List.forall_mem_cons.mpr ⟨s_iload_n dX10_dearer_21 rfl, ?_⟩
  refine List.forall_mem_cons.mpr ⟨s_callVI cf_X10 rfl ca_X10_counted ml_X10_88 im_X10_counted se_X10_counted ⟨(Nat.le_of_ble_eq_true rfl), (Nat.le_of_ble_eq_true rfl)⟩ dX10_dearer_22, ?_⟩
  refine List.forall_mem_cons.mpr ⟨s_imul dX10_dearer_25, ?_⟩
  refine List.forall_mem_cons.mpr ⟨s_isub dX10_dearer_26, ?_⟩
  refine List.forall_mem_cons.mpr ⟨s_ireturn dX10_dearer_27 rfl, ?_⟩
  exact fun _ h => absurd h List.not_mem_nil
def cd_X10_yesSoFar : sv_Cd := [(0, o_ic 0 1),
  (1, o_is 3 2),
  (2, o_ic 0 3),
  (3, o_is 4 5),
  (5, o_il 4 7),
  (7, o_il 2 8),
  (8, o_ic2 (fun x y => y < x) 27 11),
  (11, o_il 3 12),
  (12, o_al 0 13),
  (13, o_il 1 14),
  (14, o_il 4 16),
  (16, o_vI m_X10_yes 2 40 19),
  (19, o_b (fun x y => x + y) 20),
  (20, o_is 3 21),
  (21, o_in 4 1 24),
  (24, o_go 5),
  (27, o_il 3 28),
  (28, o_ir)]
set_option maxRecDepth 20000 in
theorem sn_X10_yesSoFar : ∀ q ∈ cd_X10_yesSoFar, sv_Snd m_X10_yesSoFar q.1 q.2 := by
  unfold cd_X10_yesSoFar
  refine List.forall_mem_cons.mpr ⟨s_iconst dX10_yesSoFar_0 (by decide), ?_⟩
  refine List.forall_mem_cons.mpr ⟨s_istore_n dX10_yesSoFar_1 rfl (Nat.le_of_ble_eq_true rfl), ?_⟩
  refine List.forall_mem_cons.mpr ⟨s_iconst dX10_yesSoFar_2 (by decide), ?_⟩
  refine List.forall_mem_cons.mpr ⟨s_istore dX10_yesSoFar_3 (Nat.le_of_ble_eq_true rfl), ?_⟩
  refine List.forall_mem_cons.mpr ⟨s_iload dX10_yesSoFar_5, ?_⟩
  refine List.forall_mem_cons.mpr ⟨s_iload_n dX10_yesSoFar_7 rfl, ?_⟩
  refine List.forall_mem_cons.mpr ⟨s_icmp_gt dX10_yesSoFar_8 (by decide), ?_⟩
  refine List.forall_mem_cons.mpr ⟨s_iload_n dX10_yesSoFar_11 rfl, ?_⟩
  refine List.forall_mem_cons.mpr ⟨s_aload_n dX10_yesSoFar_12 rfl, ?_⟩
  refine List.forall_mem_cons.mpr ⟨s_iload_n dX10_yesSoFar_13 rfl, ?_⟩
  refine List.forall_mem_cons.mpr ⟨s_iload dX10_yesSoFar_14, ?_⟩
  refine List.forall_mem_cons.mpr ⟨s_callVI cf_X10 rfl ca_X10_yes ml_X10_92 im_X10_yes se_X10_yes ⟨(Nat.le_of_ble_eq_true rfl), (Nat.le_of_ble_eq_true rfl)⟩ dX10_yesSoFar_16, ?_⟩
  refine List.forall_mem_cons.mpr ⟨s_iadd dX10_yesSoFar_19, ?_⟩
  refine List.forall_mem_cons.mpr ⟨s_istore_n dX10_yesSoFar_20 rfl (Nat.le_of_ble_eq_true rfl), ?_⟩
  refine List.forall_mem_cons.mpr ⟨s_iinc dX10_yesSoFar_21 (by decide) (Nat.le_of_ble_eq_true rfl), ?_⟩
  refine List.forall_mem_cons.mpr ⟨s_goto dX10_yesSoFar_24 (by decide), ?_⟩
  refine List.forall_mem_cons.mpr ⟨s_iload_n dX10_yesSoFar_27 rfl, ?_⟩
  refine List.forall_mem_cons.mpr ⟨s_ireturn dX10_yesSoFar_28 rfl, ?_⟩
  exact fun _ h => absurd h List.not_mem_nil
def cd_X10_placeOf : sv_Cd := [(0, o_ic 0 1),
  (1, o_is 2 2),
  (2, o_al 0 3),
  (3, o_gR 40 42 6),
  (6, o_il 2 7),
  (7, o_ia 8),
  (8, o_il 1 9),
  (9, o_ic2 (fun x y => x = y) 18 12),
  (12, o_in 2 1 15),
  (15, o_go 2),
  (18, o_il 2 19),
  (19, o_ir)]
set_option maxRecDepth 20000 in
theorem sn_X10_placeOf : ∀ q ∈ cd_X10_placeOf, sv_Snd m_X10_placeOf q.1 q.2 := by
  unfold cd_X10_placeOf
  refine List.forall_mem_cons.mpr ⟨s_iconst dX10_placeOf_0 (by decide), ?_⟩
  refine List.forall_mem_cons.mpr ⟨s_istore_n dX10_placeOf_1 rfl (Nat.le_of_ble_eq_true rfl), ?_⟩
  refine List.forall_mem_cons.mpr ⟨s_aload_n dX10_placeOf_2 rfl, ?_⟩
  refine List.forall_mem_cons.mpr ⟨s_getR (j := 2) cf_X10 (Nat.le_of_ble_eq_true rfl) rfl fl_X10_13 dX10_placeOf_3, ?_⟩
  refine List.forall_mem_cons.mpr ⟨s_iload_n dX10_placeOf_6 rfl, ?_⟩
  refine List.forall_mem_cons.mpr ⟨s_iaload dX10_placeOf_7, ?_⟩
  refine List.forall_mem_cons.mpr ⟨s_iload_n dX10_placeOf_8 rfl, ?_⟩
  refine List.forall_mem_cons.mpr ⟨s_icmp_eq dX10_placeOf_9 (by decide), ?_⟩
  refine List.forall_mem_cons.mpr ⟨s_iinc dX10_placeOf_12 (by decide) (Nat.le_of_ble_eq_true rfl), ?_⟩
  refine List.forall_mem_cons.mpr ⟨s_goto dX10_placeOf_15 (by decide), ?_⟩
  refine List.forall_mem_cons.mpr ⟨s_iload_n dX10_placeOf_18 rfl, ?_⟩
  refine List.forall_mem_cons.mpr ⟨s_ireturn dX10_placeOf_19 rfl, ?_⟩
  exact fun _ h => absurd h List.not_mem_nil
def cd_X10_isAhead : sv_Cd := [(0, o_al 0 1),
  (1, o_gR 40 46 4),
  (4, o_il 3 5),
  (5, o_ia 6),
  (6, o_ic 115 8),
  (8, o_ic2 (fun x y => x = y) 11 27),
  (11, o_al 0 12),
  (12, o_il 1 13),
  (13, o_il 3 14),
  (14, o_vI m_X10_yesSoFar 2 40 17),
  (17, o_al 0 18),
  (18, o_il 2 19),
  (19, o_il 3 20),
  (20, o_vI m_X10_yesSoFar 2 40 23),
  (23, o_b (fun x y => x - y) 24),
  (24, o_go 28),
  (27, o_ic 0 28),
  (28, o_is 4 30),
  (30, o_il 4 32),
  (32, o_if (fun x => x = 0) 48 35),
  (35, o_il 4 37),
  (37, o_if (fun x => x ≤ 0) 44 40),
  (40, o_ic 1 41),
  (41, o_go 66),
  (44, o_ic 0 45),
  (45, o_go 66),
  (48, o_al 0 49),
  (49, o_il 1 50),
  (50, o_vI m_X10_placeOf 1 40 53),
  (53, o_al 0 54),
  (54, o_il 2 55),
  (55, o_vI m_X10_placeOf 1 40 58),
  (58, o_ic2 (fun x y => y ≤ x) 65 61),
  (61, o_ic 1 62),
  (62, o_go 66),
  (65, o_ic 0 66),
  (66, o_zr)]
set_option maxRecDepth 20000 in
theorem sn_X10_isAhead : ∀ q ∈ cd_X10_isAhead, sv_Snd m_X10_isAhead q.1 q.2 := by
  unfold cd_X10_isAhead
  refine List.forall_mem_cons.mpr ⟨s_aload_n dX10_isAhead_0 rfl, ?_⟩
  refine List.forall_mem_cons.mpr ⟨s_getR (j := 9) cf_X10 (Nat.le_of_ble_eq_true rfl) rfl fl_X10_29 dX10_isAhead_1, ?_⟩
  refine List.forall_mem_cons.mpr ⟨s_iload_n dX10_isAhead_4 rfl, ?_⟩
  refine List.forall_mem_cons.mpr ⟨s_iaload dX10_isAhead_5, ?_⟩
  refine List.forall_mem_cons.mpr ⟨s_bipush dX10_isAhead_6 (by decide), ?_⟩
  refine List.forall_mem_cons.mpr ⟨s_icmp_ne dX10_isAhead_8 (by decide), ?_⟩
  refine List.forall_mem_cons.mpr ⟨s_aload_n dX10_isAhead_11 rfl, ?_⟩
  refine List.forall_mem_cons.mpr ⟨s_iload_n dX10_isAhead_12 rfl, ?_⟩
  refine List.forall_mem_cons.mpr ⟨s_iload_n dX10_isAhead_13 rfl, ?_⟩
  refine List.forall_mem_cons.mpr ⟨s_callVI cf_X10 rfl ca_X10_yesSoFar ml_X10_124 im_X10_yesSoFar se_X10_yesSoFar ⟨(Nat.le_of_ble_eq_true rfl), (Nat.le_of_ble_eq_true rfl)⟩ dX10_isAhead_14, ?_⟩
  refine List.forall_mem_cons.mpr ⟨s_aload_n dX10_isAhead_17 rfl, ?_⟩
  refine List.forall_mem_cons.mpr ⟨s_iload_n dX10_isAhead_18 rfl, ?_⟩
  refine List.forall_mem_cons.mpr ⟨s_iload_n dX10_isAhead_19 rfl, ?_⟩
  refine List.forall_mem_cons.mpr ⟨s_callVI cf_X10 rfl ca_X10_yesSoFar ml_X10_124 im_X10_yesSoFar se_X10_yesSoFar ⟨(Nat.le_of_ble_eq_true rfl), (Nat.le_of_ble_eq_true rfl)⟩ dX10_isAhead_20, ?_⟩
  refine List.forall_mem_cons.mpr ⟨s_isub dX10_isAhead_23, ?_⟩
  refine List.forall_mem_cons.mpr ⟨s_goto dX10_isAhead_24 (by decide), ?_⟩
  refine List.forall_mem_cons.mpr ⟨s_iconst dX10_isAhead_27 (by decide), ?_⟩
  refine List.forall_mem_cons.mpr ⟨s_istore dX10_isAhead_28 (Nat.le_of_ble_eq_true rfl), ?_⟩
  refine List.forall_mem_cons.mpr ⟨s_iload dX10_isAhead_30, ?_⟩
  refine List.forall_mem_cons.mpr ⟨s_if_eq dX10_isAhead_32 (by decide), ?_⟩
  refine List.forall_mem_cons.mpr ⟨s_iload dX10_isAhead_35, ?_⟩
  refine List.forall_mem_cons.mpr ⟨s_if_le dX10_isAhead_37 (by decide), ?_⟩
  refine List.forall_mem_cons.mpr ⟨s_iconst dX10_isAhead_40 (by decide), ?_⟩
  refine List.forall_mem_cons.mpr ⟨s_goto dX10_isAhead_41 (by decide), ?_⟩
  refine List.forall_mem_cons.mpr ⟨s_iconst dX10_isAhead_44 (by decide), ?_⟩
  refine List.forall_mem_cons.mpr ⟨s_goto dX10_isAhead_45 (by decide), ?_⟩
  refine List.forall_mem_cons.mpr ⟨s_aload_n dX10_isAhead_48 rfl, ?_⟩
  refine List.forall_mem_cons.mpr ⟨s_iload_n dX10_isAhead_49 rfl, ?_⟩
  refine List.forall_mem_cons.mpr ⟨s_callVI cf_X10 rfl ca_X10_placeOf ml_X10_127 im_X10_placeOf se_X10_placeOf ⟨(Nat.le_of_ble_eq_true rfl), (Nat.le_of_ble_eq_true rfl)⟩ dX10_isAhead_50, ?_⟩
  refine List.forall_mem_cons.mpr ⟨s_aload_n dX10_isAhead_53 rfl, ?_⟩
  refine List.forall_mem_cons.mpr ⟨s_iload_n dX10_isAhead_54 rfl, ?_⟩
  refine List.forall_mem_cons.mpr ⟨s_callVI cf_X10 rfl ca_X10_placeOf ml_X10_127 im_X10_placeOf se_X10_placeOf ⟨(Nat.le_of_ble_eq_true rfl), (Nat.le_of_ble_eq_true rfl)⟩ dX10_isAhead_55, ?_⟩
  refine List.forall_mem_cons.mpr ⟨s_icmp_ge dX10_isAhead_58 (by decide), ?_⟩
  refine List.forall_mem_cons.mpr ⟨s_iconst dX10_isAhead_61 (by decide), ?_⟩
  refine List.forall_mem_cons.mpr ⟨s_goto dX10_isAhead_62 (by decide), ?_⟩
  refine List.forall_mem_cons.mpr ⟨s_iconst dX10_isAhead_65 (by decide), ?_⟩
  refine List.forall_mem_cons.mpr ⟨s_zreturn dX10_isAhead_66 rfl, ?_⟩
  exact fun _ h => absurd h List.not_mem_nil
def cd_X10_passesIn : sv_Cd := [(0, o_al 0 1),
  (1, o_il 1 2),
  (2, o_il 2 3),
  (3, o_vI m_X10_counted 2 40 6),
  (6, o_is 3 7),
  (7, o_il 3 8),
  (8, o_if (fun x => x ≤ 0) 35 11),
  (11, o_ic 100 13),
  (13, o_al 0 14),
  (14, o_il 1 15),
  (15, o_il 2 16),
  (16, o_vI m_X10_yes 2 40 19),
  (19, o_b (fun x y => x * y) 20),
  (20, o_al 0 21),
  (21, o_gR 40 44 24),
  (24, o_il 2 25),
  (25, o_ia 26),
  (26, o_il 3 27),
  (27, o_b (fun x y => x * y) 28),
  (28, o_ic2 (fun x y => x < y) 35 31),
  (31, o_ic 1 32),
  (32, o_go 36),
  (35, o_ic 0 36),
  (36, o_zr)]
set_option maxRecDepth 20000 in
theorem sn_X10_passesIn : ∀ q ∈ cd_X10_passesIn, sv_Snd m_X10_passesIn q.1 q.2 := by
  unfold cd_X10_passesIn
  refine List.forall_mem_cons.mpr ⟨s_aload_n dX10_passesIn_0 rfl, ?_⟩
  refine List.forall_mem_cons.mpr ⟨s_iload_n dX10_passesIn_1 rfl, ?_⟩
  refine List.forall_mem_cons.mpr ⟨s_iload_n dX10_passesIn_2 rfl, ?_⟩
  refine List.forall_mem_cons.mpr ⟨s_callVI cf_X10 rfl ca_X10_counted ml_X10_88 im_X10_counted se_X10_counted ⟨(Nat.le_of_ble_eq_true rfl), (Nat.le_of_ble_eq_true rfl)⟩ dX10_passesIn_3, ?_⟩
  refine List.forall_mem_cons.mpr ⟨s_istore_n dX10_passesIn_6 rfl (Nat.le_of_ble_eq_true rfl), ?_⟩
  refine List.forall_mem_cons.mpr ⟨s_iload_n dX10_passesIn_7 rfl, ?_⟩
  refine List.forall_mem_cons.mpr ⟨s_if_le dX10_passesIn_8 (by decide), ?_⟩
  refine List.forall_mem_cons.mpr ⟨s_bipush dX10_passesIn_11 (by decide), ?_⟩
  refine List.forall_mem_cons.mpr ⟨s_aload_n dX10_passesIn_13 rfl, ?_⟩
  refine List.forall_mem_cons.mpr ⟨s_iload_n dX10_passesIn_14 rfl, ?_⟩
  refine List.forall_mem_cons.mpr ⟨s_iload_n dX10_passesIn_15 rfl, ?_⟩
  refine List.forall_mem_cons.mpr ⟨s_callVI cf_X10 rfl ca_X10_yes ml_X10_92 im_X10_yes se_X10_yes ⟨(Nat.le_of_ble_eq_true rfl), (Nat.le_of_ble_eq_true rfl)⟩ dX10_passesIn_16, ?_⟩
  refine List.forall_mem_cons.mpr ⟨s_imul dX10_passesIn_19, ?_⟩
  refine List.forall_mem_cons.mpr ⟨s_aload_n dX10_passesIn_20 rfl, ?_⟩
  refine List.forall_mem_cons.mpr ⟨s_getR (j := 7) cf_X10 (Nat.le_of_ble_eq_true rfl) rfl fl_X10_23 dX10_passesIn_21, ?_⟩
  refine List.forall_mem_cons.mpr ⟨s_iload_n dX10_passesIn_24 rfl, ?_⟩
  refine List.forall_mem_cons.mpr ⟨s_iaload dX10_passesIn_25, ?_⟩
  refine List.forall_mem_cons.mpr ⟨s_iload_n dX10_passesIn_26 rfl, ?_⟩
  refine List.forall_mem_cons.mpr ⟨s_imul dX10_passesIn_27, ?_⟩
  refine List.forall_mem_cons.mpr ⟨s_icmp_lt dX10_passesIn_28 (by decide), ?_⟩
  refine List.forall_mem_cons.mpr ⟨s_iconst dX10_passesIn_31 (by decide), ?_⟩
  refine List.forall_mem_cons.mpr ⟨s_goto dX10_passesIn_32 (by decide), ?_⟩
  refine List.forall_mem_cons.mpr ⟨s_iconst dX10_passesIn_35 (by decide), ?_⟩
  refine List.forall_mem_cons.mpr ⟨s_zreturn dX10_passesIn_36 rfl, ?_⟩
  exact fun _ h => absurd h List.not_mem_nil
def cd_X10_advances : sv_Cd := [(0, o_ic 0 1),
  (1, o_is 3 2),
  (2, o_ic 0 3),
  (3, o_is 4 5),
  (5, o_il 4 7),
  (7, o_al 0 8),
  (8, o_gI 40 0 11),
  (11, o_ic2 (fun x y => y ≤ x) 51 14),
  (14, o_il 3 15),
  (15, o_il 1 16),
  (16, o_il 4 18),
  (18, o_b (fun x y => x >>> (y &&& 31)) 19),
  (19, o_ic 1 20),
  (20, o_b (fun x y => x &&& y) 21),
  (21, o_ic 1 22),
  (22, o_ic2 (fun x y => x = y) 25 42),
  (25, o_al 0 26),
  (26, o_il 4 28),
  (28, o_il 2 29),
  (29, o_vI m_X10_passesIn 2 40 32),
  (32, o_if (fun x => x = 0) 42 35),
  (35, o_ic 1 36),
  (36, o_il 4 38),
  (38, o_b (fun x y => x <<< (y &&& 31)) 39),
  (39, o_go 43),
  (42, o_ic 0 43),
  (43, o_b (fun x y => x ||| y) 44),
  (44, o_is 3 45),
  (45, o_in 4 1 48),
  (48, o_go 5),
  (51, o_ic 0 52),
  (52, o_is 4 54),
  (54, o_ic 0 55),
  (55, o_is 5 57),
  (57, o_il 5 59),
  (59, o_al 0 60),
  (60, o_gI 40 0 63),
  (63, o_ic2 (fun x y => y ≤ x) 304 66),
  (66, o_il 3 67),
  (67, o_il 5 69),
  (69, o_b (fun x y => x >>> (y &&& 31)) 70),
  (70, o_ic 1 71),
  (71, o_b (fun x y => x &&& y) 72),
  (72, o_ic 1 73),
  (73, o_ic2 (fun x y => x = y) 76 298),
  (76, o_ic 0 77),
  (77, o_is 6 79),
  (79, o_ic 0 80),
  (80, o_is 7 82),
  (82, o_ic 0 83),
  (83, o_is 8 85),
  (85, o_ic 0 86),
  (86, o_is 9 88),
  (88, o_il 9 90),
  (90, o_al 0 91),
  (91, o_gI 40 0 94),
  (94, o_ic2 (fun x y => y ≤ x) 188 97),
  (97, o_il 3 98),
  (98, o_il 9 100),
  (100, o_b (fun x y => x >>> (y &&& 31)) 101),
  (101, o_ic 1 102),
  (102, o_b (fun x y => x &&& y) 103),
  (103, o_ic 1 104),
  (104, o_ic2 (fun x y => x = y) 107 182),
  (107, o_al 0 108),
  (108, o_il 9 110),
  (110, o_il 5 112),
  (112, o_il 2 113),
  (113, o_vI m_X10_dearer 3 40 116),
  (116, o_is 10 118),
  (118, o_il 6 120),
  (120, o_il 10 122),
  (122, o_if (fun x => x ≤ 0) 129 125),
  (125, o_ic 1 126),
  (126, o_go 130),
  (129, o_ic 0 130),
  (130, o_b (fun x y => x + y) 131),
  (131, o_is 6 133),
  (133, o_il 7 135),
  (135, o_il 10 137),
  (137, o_if (fun x => x = 0) 140 144),
  (140, o_ic 1 141),
  (141, o_go 145),
  (144, o_ic 0 145),
  (145, o_b (fun x y => x + y) 146),
  (146, o_is 7 148),
  (148, o_il 8 150),
  (150, o_il 10 152),
  (152, o_if (fun x => x = 0) 155 178),
  (155, o_il 9 157),
  (157, o_il 5 159),
  (159, o_ic2 (fun x y => x = y) 178 162),
  (162, o_al 0 163),
  (163, o_il 9 165),
  (165, o_il 5 167),
  (167, o_il 2 168),
  (168, o_vI m_X10_isAhead 3 40 171),
  (171, o_if (fun x => x = 0) 178 174),
  (174, o_ic 1 175),
  (175, o_go 179),
  (178, o_ic 0 179),
  (179, o_b (fun x y => x + y) 180),
  (180, o_is 8 182),
  (182, o_in 9 1 185),
  (185, o_go 88),
  (188, o_il 6 190),
  (190, o_il 7 192),
  (192, o_b (fun x y => x + y) 193),
  (193, o_al 0 194),
  (194, o_gR 40 45 197),
  (197, o_il 2 198),
  (198, o_ia 199),
  (199, o_ic2 (fun x y => y < x) 206 202),
  (202, o_ic 1 203),
  (203, o_go 207),
  (206, o_ic 0 207),
  (207, o_is 9 209),
  (209, o_il 6 211),
  (211, o_al 0 212),
  (212, o_gR 40 45 215),
  (215, o_il 2 216),
  (216, o_ia 217),
  (217, o_ic2 (fun x y => y ≤ x) 224 220),
  (220, o_ic 1 221),
  (221, o_go 225),
  (224, o_ic 0 225),
  (225, o_is 10 227),
  (227, o_al 0 228),
  (228, o_gR 40 46 231),
  (231, o_il 2 232),
  (232, o_ia 233),
  (233, o_is 11 235),
  (235, o_il 9 237),
  (237, o_if (fun x => x = 0) 240 273),
  (240, o_il 10 242),
  (242, o_if (fun x => x = 0) 277 245),
  (245, o_il 11 247),
  (247, o_ic 97 249),
  (249, o_ic2 (fun x y => x = y) 273 252),
  (252, o_il 11 254),
  (254, o_ic 110 256),
  (256, o_ic2 (fun x y => x = y) 277 259),
  (259, o_il 6 261),
  (261, o_il 8 263),
  (263, o_b (fun x y => x + y) 264),
  (264, o_al 0 265),
  (265, o_gR 40 45 268),
  (268, o_il 2 269),
  (269, o_ia 270),
  (270, o_ic2 (fun x y => y ≤ x) 277 273),
  (273, o_ic 1 274),
  (274, o_go 278),
  (277, o_ic 0 278),
  (278, o_is 12 280),
  (280, o_il 4 282),
  (282, o_il 12 284),
  (284, o_if (fun x => x = 0) 294 287),
  (287, o_ic 1 288),
  (288, o_il 5 290),
  (290, o_b (fun x y => x <<< (y &&& 31)) 291),
  (291, o_go 295),
  (294, o_ic 0 295),
  (295, o_b (fun x y => x ||| y) 296),
  (296, o_is 4 298),
  (298, o_in 5 1 301),
  (301, o_go 57),
  (304, o_il 4 306),
  (306, o_ir)]
set_option maxRecDepth 20000 in
theorem sn_X10_advances : ∀ q ∈ cd_X10_advances, sv_Snd m_X10_advances q.1 q.2 := by
  unfold cd_X10_advances
  refine List.forall_mem_cons.mpr ⟨s_iconst dX10_advances_0 (by decide), ?_⟩
  refine List.forall_mem_cons.mpr ⟨s_istore_n dX10_advances_1 rfl (Nat.le_of_ble_eq_true rfl), ?_⟩
  refine List.forall_mem_cons.mpr ⟨s_iconst dX10_advances_2 (by decide), ?_⟩
  refine List.forall_mem_cons.mpr ⟨s_istore dX10_advances_3 (Nat.le_of_ble_eq_true rfl), ?_⟩
  refine List.forall_mem_cons.mpr ⟨s_iload dX10_advances_5, ?_⟩
  refine List.forall_mem_cons.mpr ⟨s_aload_n dX10_advances_7 rfl, ?_⟩
  refine List.forall_mem_cons.mpr ⟨s_getI cf_X10 (Nat.le_of_ble_eq_true rfl) rfl fl_X10_72 dX10_advances_8, ?_⟩
  refine List.forall_mem_cons.mpr ⟨s_icmp_ge dX10_advances_11 (by decide), ?_⟩
  refine List.forall_mem_cons.mpr ⟨s_iload_n dX10_advances_14 rfl, ?_⟩
  refine List.forall_mem_cons.mpr ⟨s_iload_n dX10_advances_15 rfl, ?_⟩
  refine List.forall_mem_cons.mpr ⟨s_iload dX10_advances_16, ?_⟩
  refine List.forall_mem_cons.mpr ⟨s_ishr dX10_advances_18, ?_⟩
  refine List.forall_mem_cons.mpr ⟨s_iconst dX10_advances_19 (by decide), ?_⟩
  refine List.forall_mem_cons.mpr ⟨s_iand dX10_advances_20, ?_⟩
  refine List.forall_mem_cons.mpr ⟨s_iconst dX10_advances_21 (by decide), ?_⟩
  refine List.forall_mem_cons.mpr ⟨s_icmp_ne dX10_advances_22 (by decide), ?_⟩
  refine List.forall_mem_cons.mpr ⟨s_aload_n dX10_advances_25 rfl, ?_⟩
  refine List.forall_mem_cons.mpr ⟨s_iload dX10_advances_26, ?_⟩
  refine List.forall_mem_cons.mpr ⟨s_iload_n dX10_advances_28 rfl, ?_⟩
  refine List.forall_mem_cons.mpr ⟨s_callVI cf_X10 rfl ca_X10_passesIn ml_X10_130 im_X10_passesIn se_X10_passesIn ⟨(Nat.le_of_ble_eq_true rfl), (Nat.le_of_ble_eq_true rfl)⟩ dX10_advances_29, ?_⟩
  refine List.forall_mem_cons.mpr ⟨s_if_eq dX10_advances_32 (by decide), ?_⟩
  refine List.forall_mem_cons.mpr ⟨s_iconst dX10_advances_35 (by decide), ?_⟩
  refine List.forall_mem_cons.mpr ⟨s_iload dX10_advances_36, ?_⟩
  refine List.forall_mem_cons.mpr ⟨s_ishl dX10_advances_38, ?_⟩
  refine List.forall_mem_cons.mpr ⟨s_goto dX10_advances_39 (by decide), ?_⟩
  refine List.forall_mem_cons.mpr ⟨s_iconst dX10_advances_42 (by decide), ?_⟩
  refine List.forall_mem_cons.mpr ⟨s_ior dX10_advances_43, ?_⟩
  refine List.forall_mem_cons.mpr ⟨s_istore_n dX10_advances_44 rfl (Nat.le_of_ble_eq_true rfl), ?_⟩
  refine List.forall_mem_cons.mpr ⟨s_iinc dX10_advances_45 (by decide) (Nat.le_of_ble_eq_true rfl), ?_⟩
  refine List.forall_mem_cons.mpr ⟨s_goto dX10_advances_48 (by decide), ?_⟩
  refine List.forall_mem_cons.mpr ⟨s_iconst dX10_advances_51 (by decide), ?_⟩
  refine List.forall_mem_cons.mpr ⟨s_istore dX10_advances_52 (Nat.le_of_ble_eq_true rfl), ?_⟩
  refine List.forall_mem_cons.mpr ⟨s_iconst dX10_advances_54 (by decide), ?_⟩
  refine List.forall_mem_cons.mpr ⟨s_istore dX10_advances_55 (Nat.le_of_ble_eq_true rfl), ?_⟩
  refine List.forall_mem_cons.mpr ⟨s_iload dX10_advances_57, ?_⟩
  refine List.forall_mem_cons.mpr ⟨s_aload_n dX10_advances_59 rfl, ?_⟩
  refine List.forall_mem_cons.mpr ⟨s_getI cf_X10 (Nat.le_of_ble_eq_true rfl) rfl fl_X10_72 dX10_advances_60, ?_⟩
  refine List.forall_mem_cons.mpr ⟨s_icmp_ge dX10_advances_63 (by decide), ?_⟩
  refine List.forall_mem_cons.mpr ⟨s_iload_n dX10_advances_66 rfl, ?_⟩
  refine List.forall_mem_cons.mpr ⟨s_iload dX10_advances_67, ?_⟩
  refine List.forall_mem_cons.mpr ⟨s_ishr dX10_advances_69, ?_⟩
  refine List.forall_mem_cons.mpr ⟨s_iconst dX10_advances_70 (by decide), ?_⟩
  refine List.forall_mem_cons.mpr ⟨s_iand dX10_advances_71, ?_⟩
  refine List.forall_mem_cons.mpr ⟨s_iconst dX10_advances_72 (by decide), ?_⟩
  refine List.forall_mem_cons.mpr ⟨s_icmp_ne dX10_advances_73 (by decide), ?_⟩
  refine List.forall_mem_cons.mpr ⟨s_iconst dX10_advances_76 (by decide), ?_⟩
  refine List.forall_mem_cons.mpr ⟨s_istore dX10_advances_77 (Nat.le_of_ble_eq_true rfl), ?_⟩
  refine List.forall_mem_cons.mpr ⟨s_iconst dX10_advances_79 (by decide), ?_⟩
  refine List.forall_mem_cons.mpr ⟨s_istore dX10_advances_80 (Nat.le_of_ble_eq_true rfl), ?_⟩
  refine List.forall_mem_cons.mpr ⟨s_iconst dX10_advances_82 (by decide), ?_⟩
  refine List.forall_mem_cons.mpr ⟨s_istore dX10_advances_83 (Nat.le_of_ble_eq_true rfl), ?_⟩
  refine List.forall_mem_cons.mpr ⟨s_iconst dX10_advances_85 (by decide), ?_⟩
  refine List.forall_mem_cons.mpr ⟨s_istore dX10_advances_86 (Nat.le_of_ble_eq_true rfl), ?_⟩
  refine List.forall_mem_cons.mpr ⟨s_iload dX10_advances_88, ?_⟩
  refine List.forall_mem_cons.mpr ⟨s_aload_n dX10_advances_90 rfl, ?_⟩
  refine List.forall_mem_cons.mpr ⟨s_getI cf_X10 (Nat.le_of_ble_eq_true rfl) rfl fl_X10_72 dX10_advances_91, ?_⟩
  refine List.forall_mem_cons.mpr ⟨s_icmp_ge dX10_advances_94 (by decide), ?_⟩
  refine List.forall_mem_cons.mpr ⟨s_iload_n dX10_advances_97 rfl, ?_⟩
  refine List.forall_mem_cons.mpr ⟨s_iload dX10_advances_98, ?_⟩
  refine List.forall_mem_cons.mpr ⟨s_ishr dX10_advances_100, ?_⟩
  refine List.forall_mem_cons.mpr ⟨s_iconst dX10_advances_101 (by decide), ?_⟩
  refine List.forall_mem_cons.mpr ⟨s_iand dX10_advances_102, ?_⟩
  refine List.forall_mem_cons.mpr ⟨s_iconst dX10_advances_103 (by decide), ?_⟩
  refine List.forall_mem_cons.mpr ⟨s_icmp_ne dX10_advances_104 (by decide), ?_⟩
  refine List.forall_mem_cons.mpr ⟨s_aload_n dX10_advances_107 rfl, ?_⟩
  refine List.forall_mem_cons.mpr ⟨s_iload dX10_advances_108, ?_⟩
  refine List.forall_mem_cons.mpr ⟨s_iload dX10_advances_110, ?_⟩
  refine List.forall_mem_cons.mpr ⟨s_iload_n dX10_advances_112 rfl, ?_⟩
  refine List.forall_mem_cons.mpr ⟨s_callVI cf_X10 rfl ca_X10_dearer ml_X10_134 im_X10_dearer se_X10_dearer ⟨(Nat.le_of_ble_eq_true rfl), (Nat.le_of_ble_eq_true rfl)⟩ dX10_advances_113, ?_⟩
  refine List.forall_mem_cons.mpr ⟨s_istore dX10_advances_116 (Nat.le_of_ble_eq_true rfl), ?_⟩
  refine List.forall_mem_cons.mpr ⟨s_iload dX10_advances_118, ?_⟩
  refine List.forall_mem_cons.mpr ⟨s_iload dX10_advances_120, ?_⟩
  refine List.forall_mem_cons.mpr ⟨s_if_le dX10_advances_122 (by decide), ?_⟩
  refine List.forall_mem_cons.mpr ⟨s_iconst dX10_advances_125 (by decide), ?_⟩
  refine List.forall_mem_cons.mpr ⟨s_goto dX10_advances_126 (by decide), ?_⟩
  refine List.forall_mem_cons.mpr ⟨s_iconst dX10_advances_129 (by decide), ?_⟩
  refine List.forall_mem_cons.mpr ⟨s_iadd dX10_advances_130, ?_⟩
  refine List.forall_mem_cons.mpr ⟨s_istore dX10_advances_131 (Nat.le_of_ble_eq_true rfl), ?_⟩
  refine List.forall_mem_cons.mpr ⟨s_iload dX10_advances_133, ?_⟩
  refine List.forall_mem_cons.mpr ⟨s_iload dX10_advances_135, ?_⟩
  refine List.forall_mem_cons.mpr ⟨s_if_ne dX10_advances_137 (by decide), ?_⟩
  refine List.forall_mem_cons.mpr ⟨s_iconst dX10_advances_140 (by decide), ?_⟩
  refine List.forall_mem_cons.mpr ⟨s_goto dX10_advances_141 (by decide), ?_⟩
  refine List.forall_mem_cons.mpr ⟨s_iconst dX10_advances_144 (by decide), ?_⟩
  refine List.forall_mem_cons.mpr ⟨s_iadd dX10_advances_145, ?_⟩
  refine List.forall_mem_cons.mpr ⟨s_istore dX10_advances_146 (Nat.le_of_ble_eq_true rfl), ?_⟩
  refine List.forall_mem_cons.mpr ⟨s_iload dX10_advances_148, ?_⟩
  refine List.forall_mem_cons.mpr ⟨s_iload dX10_advances_150, ?_⟩
  refine List.forall_mem_cons.mpr ⟨s_if_ne dX10_advances_152 (by decide), ?_⟩
  refine List.forall_mem_cons.mpr ⟨s_iload dX10_advances_155, ?_⟩
  refine List.forall_mem_cons.mpr ⟨s_iload dX10_advances_157, ?_⟩
  refine List.forall_mem_cons.mpr ⟨s_icmp_eq dX10_advances_159 (by decide), ?_⟩
  refine List.forall_mem_cons.mpr ⟨s_aload_n dX10_advances_162 rfl, ?_⟩
  refine List.forall_mem_cons.mpr ⟨s_iload dX10_advances_163, ?_⟩
  refine List.forall_mem_cons.mpr ⟨s_iload dX10_advances_165, ?_⟩
  refine List.forall_mem_cons.mpr ⟨s_iload_n dX10_advances_167 rfl, ?_⟩
  refine List.forall_mem_cons.mpr ⟨s_callVI cf_X10 rfl ca_X10_isAhead ml_X10_137 im_X10_isAhead se_X10_isAhead ⟨(Nat.le_of_ble_eq_true rfl), (Nat.le_of_ble_eq_true rfl)⟩ dX10_advances_168, ?_⟩
  refine List.forall_mem_cons.mpr ⟨s_if_eq dX10_advances_171 (by decide), ?_⟩
  refine List.forall_mem_cons.mpr ⟨s_iconst dX10_advances_174 (by decide), ?_⟩
  refine List.forall_mem_cons.mpr ⟨s_goto dX10_advances_175 (by decide), ?_⟩
  refine List.forall_mem_cons.mpr ⟨s_iconst dX10_advances_178 (by decide), ?_⟩
  refine List.forall_mem_cons.mpr ⟨s_iadd dX10_advances_179, ?_⟩
  refine List.forall_mem_cons.mpr ⟨s_istore dX10_advances_180 (Nat.le_of_ble_eq_true rfl), ?_⟩
  refine List.forall_mem_cons.mpr ⟨s_iinc dX10_advances_182 (by decide) (Nat.le_of_ble_eq_true rfl), ?_⟩
  refine List.forall_mem_cons.mpr ⟨s_goto dX10_advances_185 (by decide), ?_⟩
  refine List.forall_mem_cons.mpr ⟨s_iload dX10_advances_188, ?_⟩
  refine List.forall_mem_cons.mpr ⟨s_iload dX10_advances_190, ?_⟩
  refine List.forall_mem_cons.mpr ⟨s_iadd dX10_advances_192, ?_⟩
  refine List.forall_mem_cons.mpr ⟨s_aload_n dX10_advances_193 rfl, ?_⟩
  refine List.forall_mem_cons.mpr ⟨s_getR (j := 8) cf_X10 (Nat.le_of_ble_eq_true rfl) rfl fl_X10_26 dX10_advances_194, ?_⟩
  refine List.forall_mem_cons.mpr ⟨s_iload_n dX10_advances_197 rfl, ?_⟩
  refine List.forall_mem_cons.mpr ⟨s_iaload dX10_advances_198, ?_⟩
  refine List.forall_mem_cons.mpr ⟨s_icmp_gt dX10_advances_199 (by decide), ?_⟩
  refine List.forall_mem_cons.mpr ⟨s_iconst dX10_advances_202 (by decide), ?_⟩
  refine List.forall_mem_cons.mpr ⟨s_goto dX10_advances_203 (by decide), ?_⟩
  refine List.forall_mem_cons.mpr ⟨s_iconst dX10_advances_206 (by decide), ?_⟩
  refine List.forall_mem_cons.mpr ⟨s_istore dX10_advances_207 (Nat.le_of_ble_eq_true rfl), ?_⟩
  refine List.forall_mem_cons.mpr ⟨s_iload dX10_advances_209, ?_⟩
  refine List.forall_mem_cons.mpr ⟨s_aload_n dX10_advances_211 rfl, ?_⟩
  refine List.forall_mem_cons.mpr ⟨s_getR (j := 8) cf_X10 (Nat.le_of_ble_eq_true rfl) rfl fl_X10_26 dX10_advances_212, ?_⟩
  refine List.forall_mem_cons.mpr ⟨s_iload_n dX10_advances_215 rfl, ?_⟩
  refine List.forall_mem_cons.mpr ⟨s_iaload dX10_advances_216, ?_⟩
  refine List.forall_mem_cons.mpr ⟨s_icmp_ge dX10_advances_217 (by decide), ?_⟩
  refine List.forall_mem_cons.mpr ⟨s_iconst dX10_advances_220 (by decide), ?_⟩
  refine List.forall_mem_cons.mpr ⟨s_goto dX10_advances_221 (by decide), ?_⟩
  refine List.forall_mem_cons.mpr ⟨s_iconst dX10_advances_224 (by decide), ?_⟩
  refine List.forall_mem_cons.mpr ⟨s_istore dX10_advances_225 (Nat.le_of_ble_eq_true rfl), ?_⟩
  refine List.forall_mem_cons.mpr ⟨s_aload_n dX10_advances_227 rfl, ?_⟩
  refine List.forall_mem_cons.mpr ⟨s_getR (j := 9) cf_X10 (Nat.le_of_ble_eq_true rfl) rfl fl_X10_29 dX10_advances_228, ?_⟩
  refine List.forall_mem_cons.mpr ⟨s_iload_n dX10_advances_231 rfl, ?_⟩
  refine List.forall_mem_cons.mpr ⟨s_iaload dX10_advances_232, ?_⟩
  refine List.forall_mem_cons.mpr ⟨s_istore dX10_advances_233 (Nat.le_of_ble_eq_true rfl), ?_⟩
  refine List.forall_mem_cons.mpr ⟨s_iload dX10_advances_235, ?_⟩
  refine List.forall_mem_cons.mpr ⟨s_if_ne dX10_advances_237 (by decide), ?_⟩
  refine List.forall_mem_cons.mpr ⟨s_iload dX10_advances_240, ?_⟩
  refine List.forall_mem_cons.mpr ⟨s_if_eq dX10_advances_242 (by decide), ?_⟩
  refine List.forall_mem_cons.mpr ⟨s_iload dX10_advances_245, ?_⟩
  refine List.forall_mem_cons.mpr ⟨s_bipush dX10_advances_247 (by decide), ?_⟩
  refine List.forall_mem_cons.mpr ⟨s_icmp_eq dX10_advances_249 (by decide), ?_⟩
  refine List.forall_mem_cons.mpr ⟨s_iload dX10_advances_252, ?_⟩
  refine List.forall_mem_cons.mpr ⟨s_bipush dX10_advances_254 (by decide), ?_⟩
  refine List.forall_mem_cons.mpr ⟨s_icmp_eq dX10_advances_256 (by decide), ?_⟩
  refine List.forall_mem_cons.mpr ⟨s_iload dX10_advances_259, ?_⟩
  refine List.forall_mem_cons.mpr ⟨s_iload dX10_advances_261, ?_⟩
  refine List.forall_mem_cons.mpr ⟨s_iadd dX10_advances_263, ?_⟩
  refine List.forall_mem_cons.mpr ⟨s_aload_n dX10_advances_264 rfl, ?_⟩
  refine List.forall_mem_cons.mpr ⟨s_getR (j := 8) cf_X10 (Nat.le_of_ble_eq_true rfl) rfl fl_X10_26 dX10_advances_265, ?_⟩
  refine List.forall_mem_cons.mpr ⟨s_iload_n dX10_advances_268 rfl, ?_⟩
  refine List.forall_mem_cons.mpr ⟨s_iaload dX10_advances_269, ?_⟩
  refine List.forall_mem_cons.mpr ⟨s_icmp_ge dX10_advances_270 (by decide), ?_⟩
  refine List.forall_mem_cons.mpr ⟨s_iconst dX10_advances_273 (by decide), ?_⟩
  refine List.forall_mem_cons.mpr ⟨s_goto dX10_advances_274 (by decide), ?_⟩
  refine List.forall_mem_cons.mpr ⟨s_iconst dX10_advances_277 (by decide), ?_⟩
  refine List.forall_mem_cons.mpr ⟨s_istore dX10_advances_278 (Nat.le_of_ble_eq_true rfl), ?_⟩
  refine List.forall_mem_cons.mpr ⟨s_iload dX10_advances_280, ?_⟩
  refine List.forall_mem_cons.mpr ⟨s_iload dX10_advances_282, ?_⟩
  refine List.forall_mem_cons.mpr ⟨s_if_eq dX10_advances_284 (by decide), ?_⟩
  refine List.forall_mem_cons.mpr ⟨s_iconst dX10_advances_287 (by decide), ?_⟩
  refine List.forall_mem_cons.mpr ⟨s_iload dX10_advances_288, ?_⟩
  refine List.forall_mem_cons.mpr ⟨s_ishl dX10_advances_290, ?_⟩
  refine List.forall_mem_cons.mpr ⟨s_goto dX10_advances_291 (by decide), ?_⟩
  refine List.forall_mem_cons.mpr ⟨s_iconst dX10_advances_294 (by decide), ?_⟩
  refine List.forall_mem_cons.mpr ⟨s_ior dX10_advances_295, ?_⟩
  refine List.forall_mem_cons.mpr ⟨s_istore dX10_advances_296 (Nat.le_of_ble_eq_true rfl), ?_⟩
  refine List.forall_mem_cons.mpr ⟨s_iinc dX10_advances_298 (by decide) (Nat.le_of_ble_eq_true rfl), ?_⟩
  refine List.forall_mem_cons.mpr ⟨s_goto dX10_advances_301 (by decide), ?_⟩
  refine List.forall_mem_cons.mpr ⟨s_iload dX10_advances_304, ?_⟩
  refine List.forall_mem_cons.mpr ⟨s_ireturn dX10_advances_306 rfl, ?_⟩
  exact fun _ h => absurd h List.not_mem_nil
def cd_X10_out : sv_Cd := [(0, o_al 0 1),
  (1, o_gI 40 0 4),
  (4, o_if (fun x => x = 0) 7 11),
  (7, o_ic 0 8),
  (8, o_go 19),
  (11, o_ic 1 12),
  (12, o_al 0 13),
  (13, o_gI 40 0 16),
  (16, o_b (fun x y => x <<< (y &&& 31)) 17),
  (17, o_ic 1 18),
  (18, o_b (fun x y => x - y) 19),
  (19, o_is 2 20),
  (20, o_ic 0 21),
  (21, o_is 3 22),
  (22, o_il 3 23),
  (23, o_il 1 24),
  (24, o_ic2 (fun x y => y < x) 40 27),
  (27, o_al 0 28),
  (28, o_il 2 29),
  (29, o_il 3 30),
  (30, o_vI m_X10_advances 2 40 33),
  (33, o_is 2 34),
  (34, o_in 3 1 37),
  (37, o_go 22),
  (40, o_il 2 41),
  (41, o_ir)]
set_option maxRecDepth 20000 in
theorem sn_X10_out : ∀ q ∈ cd_X10_out, sv_Snd m_X10_out q.1 q.2 := by
  unfold cd_X10_out
  refine List.forall_mem_cons.mpr ⟨s_aload_n dX10_out_0 rfl, ?_⟩
  refine List.forall_mem_cons.mpr ⟨s_getI cf_X10 (Nat.le_of_ble_eq_true rfl) rfl fl_X10_72 dX10_out_1, ?_⟩
  refine List.forall_mem_cons.mpr ⟨s_if_ne dX10_out_4 (by decide), ?_⟩
  refine List.forall_mem_cons.mpr ⟨s_iconst dX10_out_7 (by decide), ?_⟩
  refine List.forall_mem_cons.mpr ⟨s_goto dX10_out_8 (by decide), ?_⟩
  refine List.forall_mem_cons.mpr ⟨s_iconst dX10_out_11 (by decide), ?_⟩
  refine List.forall_mem_cons.mpr ⟨s_aload_n dX10_out_12 rfl, ?_⟩
  refine List.forall_mem_cons.mpr ⟨s_getI cf_X10 (Nat.le_of_ble_eq_true rfl) rfl fl_X10_72 dX10_out_13, ?_⟩
  refine List.forall_mem_cons.mpr ⟨s_ishl dX10_out_16, ?_⟩
  refine List.forall_mem_cons.mpr ⟨s_iconst dX10_out_17 (by decide), ?_⟩
  refine List.forall_mem_cons.mpr ⟨s_isub dX10_out_18, ?_⟩
  refine List.forall_mem_cons.mpr ⟨s_istore_n dX10_out_19 rfl (Nat.le_of_ble_eq_true rfl), ?_⟩
  refine List.forall_mem_cons.mpr ⟨s_iconst dX10_out_20 (by decide), ?_⟩
  refine List.forall_mem_cons.mpr ⟨s_istore_n dX10_out_21 rfl (Nat.le_of_ble_eq_true rfl), ?_⟩
  refine List.forall_mem_cons.mpr ⟨s_iload_n dX10_out_22 rfl, ?_⟩
  refine List.forall_mem_cons.mpr ⟨s_iload_n dX10_out_23 rfl, ?_⟩
  refine List.forall_mem_cons.mpr ⟨s_icmp_gt dX10_out_24 (by decide), ?_⟩
  refine List.forall_mem_cons.mpr ⟨s_aload_n dX10_out_27 rfl, ?_⟩
  refine List.forall_mem_cons.mpr ⟨s_iload_n dX10_out_28 rfl, ?_⟩
  refine List.forall_mem_cons.mpr ⟨s_iload_n dX10_out_29 rfl, ?_⟩
  refine List.forall_mem_cons.mpr ⟨s_callVI cf_X10 rfl ca_X10_advances ml_X10_140 im_X10_advances se_X10_advances ⟨(Nat.le_of_ble_eq_true rfl), (Nat.le_of_ble_eq_true rfl)⟩ dX10_out_30, ?_⟩
  refine List.forall_mem_cons.mpr ⟨s_istore_n dX10_out_33 rfl (Nat.le_of_ble_eq_true rfl), ?_⟩
  refine List.forall_mem_cons.mpr ⟨s_iinc dX10_out_34 (by decide) (Nat.le_of_ble_eq_true rfl), ?_⟩
  refine List.forall_mem_cons.mpr ⟨s_goto dX10_out_37 (by decide), ?_⟩
  refine List.forall_mem_cons.mpr ⟨s_iload_n dX10_out_40 rfl, ?_⟩
  refine List.forall_mem_cons.mpr ⟨s_ireturn dX10_out_41 rfl, ?_⟩
  exact fun _ h => absurd h List.not_mem_nil
def cd_X10_ones : sv_Cd := [(0, o_ic 0 1),
  (1, o_is 1 2),
  (2, o_ic 0 3),
  (3, o_is 2 4),
  (4, o_il 2 5),
  (5, o_ic 24 7),
  (7, o_ic2 (fun x y => y ≤ x) 24 10),
  (10, o_il 1 11),
  (11, o_il 0 12),
  (12, o_il 2 13),
  (13, o_b (fun x y => x >>> (y &&& 31)) 14),
  (14, o_ic 1 15),
  (15, o_b (fun x y => x &&& y) 16),
  (16, o_b (fun x y => x + y) 17),
  (17, o_is 1 18),
  (18, o_in 2 1 21),
  (21, o_go 4),
  (24, o_il 1 25),
  (25, o_ir)]
set_option maxRecDepth 20000 in
theorem sn_X10_ones : ∀ q ∈ cd_X10_ones, sv_Snd m_X10_ones q.1 q.2 := by
  unfold cd_X10_ones
  refine List.forall_mem_cons.mpr ⟨s_iconst dX10_ones_0 (by decide), ?_⟩
  refine List.forall_mem_cons.mpr ⟨s_istore_n dX10_ones_1 rfl (Nat.le_of_ble_eq_true rfl), ?_⟩
  refine List.forall_mem_cons.mpr ⟨s_iconst dX10_ones_2 (by decide), ?_⟩
  refine List.forall_mem_cons.mpr ⟨s_istore_n dX10_ones_3 rfl (Nat.le_of_ble_eq_true rfl), ?_⟩
  refine List.forall_mem_cons.mpr ⟨s_iload_n dX10_ones_4 rfl, ?_⟩
  refine List.forall_mem_cons.mpr ⟨s_bipush dX10_ones_5 (by decide), ?_⟩
  refine List.forall_mem_cons.mpr ⟨s_icmp_ge dX10_ones_7 (by decide), ?_⟩
  refine List.forall_mem_cons.mpr ⟨s_iload_n dX10_ones_10 rfl, ?_⟩
  refine List.forall_mem_cons.mpr ⟨s_iload_n dX10_ones_11 rfl, ?_⟩
  refine List.forall_mem_cons.mpr ⟨s_iload_n dX10_ones_12 rfl, ?_⟩
  refine List.forall_mem_cons.mpr ⟨s_ishr dX10_ones_13, ?_⟩
  refine List.forall_mem_cons.mpr ⟨s_iconst dX10_ones_14 (by decide), ?_⟩
  refine List.forall_mem_cons.mpr ⟨s_iand dX10_ones_15, ?_⟩
  refine List.forall_mem_cons.mpr ⟨s_iadd dX10_ones_16, ?_⟩
  refine List.forall_mem_cons.mpr ⟨s_istore_n dX10_ones_17 rfl (Nat.le_of_ble_eq_true rfl), ?_⟩
  refine List.forall_mem_cons.mpr ⟨s_iinc dX10_ones_18 (by decide) (Nat.le_of_ble_eq_true rfl), ?_⟩
  refine List.forall_mem_cons.mpr ⟨s_goto dX10_ones_21 (by decide), ?_⟩
  refine List.forall_mem_cons.mpr ⟨s_iload_n dX10_ones_24 rfl, ?_⟩
  refine List.forall_mem_cons.mpr ⟨s_ireturn dX10_ones_25 rfl, ?_⟩
  exact fun _ h => absurd h List.not_mem_nil
def cd_X10_advance : sv_Cd := [(0, o_al 0 1),
  (1, o_il 1 2),
  (2, o_vI m_X10_refuses 1 40 5),
  (5, o_is 2 6),
  (6, o_il 2 7),
  (7, o_if (fun x => x = 0) 14 10),
  (10, o_il 2 11),
  (11, o_go 22),
  (14, o_al 0 15),
  (15, o_il 1 16),
  (16, o_vI m_X10_out 1 40 19),
  (19, o_sI m_X10_ones 1 22),
  (22, o_ir)]
set_option maxRecDepth 20000 in
theorem sn_X10_advance : ∀ q ∈ cd_X10_advance, sv_Snd m_X10_advance q.1 q.2 := by
  unfold cd_X10_advance
  refine List.forall_mem_cons.mpr ⟨s_aload_n dX10_advance_0 rfl, ?_⟩
  refine List.forall_mem_cons.mpr ⟨s_iload_n dX10_advance_1 rfl, ?_⟩
  refine List.forall_mem_cons.mpr ⟨s_callVI cf_X10 rfl ca_X10_refuses ml_X10_121 im_X10_refuses se_X10_refuses ⟨(Nat.le_of_ble_eq_true rfl), (Nat.le_of_ble_eq_true rfl)⟩ dX10_advance_2, ?_⟩
  refine List.forall_mem_cons.mpr ⟨s_istore_n dX10_advance_5 rfl (Nat.le_of_ble_eq_true rfl), ?_⟩
  refine List.forall_mem_cons.mpr ⟨s_iload_n dX10_advance_6 rfl, ?_⟩
  refine List.forall_mem_cons.mpr ⟨s_if_eq dX10_advance_7 (by decide), ?_⟩
  refine List.forall_mem_cons.mpr ⟨s_iload_n dX10_advance_10 rfl, ?_⟩
  refine List.forall_mem_cons.mpr ⟨s_goto dX10_advance_11 (by decide), ?_⟩
  refine List.forall_mem_cons.mpr ⟨s_aload_n dX10_advance_14 rfl, ?_⟩
  refine List.forall_mem_cons.mpr ⟨s_iload_n dX10_advance_15 rfl, ?_⟩
  refine List.forall_mem_cons.mpr ⟨s_callVI cf_X10 rfl ca_X10_out ml_X10_143 im_X10_out se_X10_out ⟨(Nat.le_of_ble_eq_true rfl), (Nat.le_of_ble_eq_true rfl)⟩ dX10_advance_16, ?_⟩
  refine List.forall_mem_cons.mpr ⟨s_callSI ca_X10_ones ml_X10_146 st_X10_ones ⟨(Nat.le_of_ble_eq_true rfl), (Nat.le_of_ble_eq_true rfl)⟩ dX10_advance_19, ?_⟩
  refine List.forall_mem_cons.mpr ⟨s_ireturn dX10_advance_22 rfl, ?_⟩
  exact fun _ h => absurd h List.not_mem_nil
def cd_X10_through : sv_Cd := [(0, o_al 0 1),
  (1, o_il 1 2),
  (2, o_vI m_X10_refuses 1 40 5),
  (5, o_is 2 6),
  (6, o_il 2 7),
  (7, o_if (fun x => x = 0) 14 10),
  (10, o_il 2 11),
  (11, o_go 19),
  (14, o_al 0 15),
  (15, o_il 1 16),
  (16, o_vI m_X10_out 1 40 19),
  (19, o_ir)]
set_option maxRecDepth 20000 in
theorem sn_X10_through : ∀ q ∈ cd_X10_through, sv_Snd m_X10_through q.1 q.2 := by
  unfold cd_X10_through
  refine List.forall_mem_cons.mpr ⟨s_aload_n dX10_through_0 rfl, ?_⟩
  refine List.forall_mem_cons.mpr ⟨s_iload_n dX10_through_1 rfl, ?_⟩
  refine List.forall_mem_cons.mpr ⟨s_callVI cf_X10 rfl ca_X10_refuses ml_X10_121 im_X10_refuses se_X10_refuses ⟨(Nat.le_of_ble_eq_true rfl), (Nat.le_of_ble_eq_true rfl)⟩ dX10_through_2, ?_⟩
  refine List.forall_mem_cons.mpr ⟨s_istore_n dX10_through_5 rfl (Nat.le_of_ble_eq_true rfl), ?_⟩
  refine List.forall_mem_cons.mpr ⟨s_iload_n dX10_through_6 rfl, ?_⟩
  refine List.forall_mem_cons.mpr ⟨s_if_eq dX10_through_7 (by decide), ?_⟩
  refine List.forall_mem_cons.mpr ⟨s_iload_n dX10_through_10 rfl, ?_⟩
  refine List.forall_mem_cons.mpr ⟨s_goto dX10_through_11 (by decide), ?_⟩
  refine List.forall_mem_cons.mpr ⟨s_aload_n dX10_through_14 rfl, ?_⟩
  refine List.forall_mem_cons.mpr ⟨s_iload_n dX10_through_15 rfl, ?_⟩
  refine List.forall_mem_cons.mpr ⟨s_callVI cf_X10 rfl ca_X10_out ml_X10_143 im_X10_out se_X10_out ⟨(Nat.le_of_ble_eq_true rfl), (Nat.le_of_ble_eq_true rfl)⟩ dX10_through_16, ?_⟩
  refine List.forall_mem_cons.mpr ⟨s_ireturn dX10_through_19 rfl, ?_⟩
  exact fun _ h => absurd h List.not_mem_nil
def cd_X10_chosenOne : sv_Cd := [(0, o_al 0 1),
  (1, o_al 0 2),
  (2, o_gI 40 6 5),
  (5, o_ic 1 6),
  (6, o_b (fun x y => x - y) 7),
  (7, o_vI m_X10_out 1 40 10),
  (10, o_is 1 11),
  (11, o_il 1 12),
  (12, o_sI m_X10_ones 1 15),
  (15, o_ic 1 16),
  (16, o_ic2 (fun x y => x = y) 21 19),
  (19, o_ic (-1) 20),
  (20, o_ir),
  (21, o_ic 0 22),
  (22, o_is 2 23),
  (23, o_il 1 24),
  (24, o_il 2 25),
  (25, o_b (fun x y => x >>> (y &&& 31)) 26),
  (26, o_ic 1 27),
  (27, o_b (fun x y => x &&& y) 28),
  (28, o_if (fun x => x = 0) 31 37),
  (31, o_in 2 1 34),
  (34, o_go 23),
  (37, o_il 2 38),
  (38, o_ir)]
set_option maxRecDepth 20000 in
theorem sn_X10_chosenOne : ∀ q ∈ cd_X10_chosenOne, sv_Snd m_X10_chosenOne q.1 q.2 := by
  unfold cd_X10_chosenOne
  refine List.forall_mem_cons.mpr ⟨s_aload_n dX10_chosenOne_0 rfl, ?_⟩
  refine List.forall_mem_cons.mpr ⟨s_aload_n dX10_chosenOne_1 rfl, ?_⟩
  refine List.forall_mem_cons.mpr ⟨s_getI cf_X10 (Nat.le_of_ble_eq_true rfl) rfl fl_X10_108 dX10_chosenOne_2, ?_⟩
  refine List.forall_mem_cons.mpr ⟨s_iconst dX10_chosenOne_5 (by decide), ?_⟩
  refine List.forall_mem_cons.mpr ⟨s_isub dX10_chosenOne_6, ?_⟩
  refine List.forall_mem_cons.mpr ⟨s_callVI cf_X10 rfl ca_X10_out ml_X10_143 im_X10_out se_X10_out ⟨(Nat.le_of_ble_eq_true rfl), (Nat.le_of_ble_eq_true rfl)⟩ dX10_chosenOne_7, ?_⟩
  refine List.forall_mem_cons.mpr ⟨s_istore_n dX10_chosenOne_10 rfl (Nat.le_of_ble_eq_true rfl), ?_⟩
  refine List.forall_mem_cons.mpr ⟨s_iload_n dX10_chosenOne_11 rfl, ?_⟩
  refine List.forall_mem_cons.mpr ⟨s_callSI ca_X10_ones ml_X10_146 st_X10_ones ⟨(Nat.le_of_ble_eq_true rfl), (Nat.le_of_ble_eq_true rfl)⟩ dX10_chosenOne_12, ?_⟩
  refine List.forall_mem_cons.mpr ⟨s_iconst dX10_chosenOne_15 (by decide), ?_⟩
  refine List.forall_mem_cons.mpr ⟨s_icmp_eq dX10_chosenOne_16 (by decide), ?_⟩
  refine List.forall_mem_cons.mpr ⟨s_iconst dX10_chosenOne_19 (by decide), ?_⟩
  refine List.forall_mem_cons.mpr ⟨s_ireturn dX10_chosenOne_20 rfl, ?_⟩
  refine List.forall_mem_cons.mpr ⟨s_iconst dX10_chosenOne_21 (by decide), ?_⟩
  refine List.forall_mem_cons.mpr ⟨s_istore_n dX10_chosenOne_22 rfl (Nat.le_of_ble_eq_true rfl), ?_⟩
  refine List.forall_mem_cons.mpr ⟨s_iload_n dX10_chosenOne_23 rfl, ?_⟩
  refine List.forall_mem_cons.mpr ⟨s_iload_n dX10_chosenOne_24 rfl, ?_⟩
  refine List.forall_mem_cons.mpr ⟨s_ishr dX10_chosenOne_25, ?_⟩
  refine List.forall_mem_cons.mpr ⟨s_iconst dX10_chosenOne_26 (by decide), ?_⟩
  refine List.forall_mem_cons.mpr ⟨s_iand dX10_chosenOne_27, ?_⟩
  refine List.forall_mem_cons.mpr ⟨s_if_ne dX10_chosenOne_28 (by decide), ?_⟩
  refine List.forall_mem_cons.mpr ⟨s_iinc dX10_chosenOne_31 (by decide) (Nat.le_of_ble_eq_true rfl), ?_⟩
  refine List.forall_mem_cons.mpr ⟨s_goto dX10_chosenOne_34 (by decide), ?_⟩
  refine List.forall_mem_cons.mpr ⟨s_iload_n dX10_chosenOne_37 rfl, ?_⟩
  refine List.forall_mem_cons.mpr ⟨s_ireturn dX10_chosenOne_38 rfl, ?_⟩
  exact fun _ h => absurd h List.not_mem_nil
def cd_X10_chosen : sv_Cd := [(0, o_al 0 1),
  (1, o_vV m_X10_read 0 40 4),
  (4, o_al 0 5),
  (5, o_gI 40 11 8),
  (8, o_ic (-1) 9),
  (9, o_ic2 (fun x y => x = y) 17 12),
  (12, o_ic (-3) 14),
  (14, o_go 21),
  (17, o_al 0 18),
  (18, o_vI m_X10_chosenOne 0 40 21),
  (21, o_ir)]
set_option maxRecDepth 20000 in
theorem sn_X10_chosen : ∀ q ∈ cd_X10_chosen, sv_Snd m_X10_chosen q.1 q.2 := by
  unfold cd_X10_chosen
  refine List.forall_mem_cons.mpr ⟨s_aload_n dX10_chosen_0 rfl, ?_⟩
  refine List.forall_mem_cons.mpr ⟨s_callVV cf_X10 rfl ca_X10_read ml_X10_118 im_X10_read se_X10_read ⟨(Nat.le_of_ble_eq_true rfl), (Nat.le_of_ble_eq_true rfl)⟩ dX10_chosen_1, ?_⟩
  refine List.forall_mem_cons.mpr ⟨s_aload_n dX10_chosen_4 rfl, ?_⟩
  refine List.forall_mem_cons.mpr ⟨s_getI cf_X10 (Nat.le_of_ble_eq_true rfl) rfl fl_X10_98 dX10_chosen_5, ?_⟩
  refine List.forall_mem_cons.mpr ⟨s_iconst dX10_chosen_8 (by decide), ?_⟩
  refine List.forall_mem_cons.mpr ⟨s_icmp_eq dX10_chosen_9 (by decide), ?_⟩
  refine List.forall_mem_cons.mpr ⟨s_bipush dX10_chosen_12 (by decide), ?_⟩
  refine List.forall_mem_cons.mpr ⟨s_goto dX10_chosen_14 (by decide), ?_⟩
  refine List.forall_mem_cons.mpr ⟨s_aload_n dX10_chosen_17 rfl, ?_⟩
  refine List.forall_mem_cons.mpr ⟨s_callVI cf_X10 rfl ca_X10_chosenOne ml_X10_149 im_X10_chosenOne se_X10_chosenOne ⟨(Nat.le_of_ble_eq_true rfl), (Nat.le_of_ble_eq_true rfl)⟩ dX10_chosen_18, ?_⟩
  refine List.forall_mem_cons.mpr ⟨s_ireturn dX10_chosen_21 rfl, ?_⟩
  exact fun _ h => absurd h List.not_mem_nil
def cd_X10_allVotes : sv_Cd := [(0, o_ic 0 1),
  (1, o_is 3 2),
  (2, o_ic 0 3),
  (3, o_is 4 5),
  (5, o_il 4 7),
  (7, o_al 0 8),
  (8, o_gI 40 6 11),
  (11, o_ic2 (fun x y => y ≤ x) 44 14),
  (14, o_il 3 15),
  (15, o_il 2 16),
  (16, o_if (fun x => x = 0) 29 19),
  (19, o_al 0 20),
  (20, o_il 1 21),
  (21, o_il 4 23),
  (23, o_vI m_X10_yes 2 40 26),
  (26, o_go 36),
  (29, o_al 0 30),
  (30, o_il 1 31),
  (31, o_il 4 33),
  (33, o_vI m_X10_counted 2 40 36),
  (36, o_b (fun x y => x + y) 37),
  (37, o_is 3 38),
  (38, o_in 4 1 41),
  (41, o_go 5),
  (44, o_il 3 45),
  (45, o_ir)]
set_option maxRecDepth 20000 in
theorem sn_X10_allVotes : ∀ q ∈ cd_X10_allVotes, sv_Snd m_X10_allVotes q.1 q.2 := by
  unfold cd_X10_allVotes
  refine List.forall_mem_cons.mpr ⟨s_iconst dX10_allVotes_0 (by decide), ?_⟩
  refine List.forall_mem_cons.mpr ⟨s_istore_n dX10_allVotes_1 rfl (Nat.le_of_ble_eq_true rfl), ?_⟩
  refine List.forall_mem_cons.mpr ⟨s_iconst dX10_allVotes_2 (by decide), ?_⟩
  refine List.forall_mem_cons.mpr ⟨s_istore dX10_allVotes_3 (Nat.le_of_ble_eq_true rfl), ?_⟩
  refine List.forall_mem_cons.mpr ⟨s_iload dX10_allVotes_5, ?_⟩
  refine List.forall_mem_cons.mpr ⟨s_aload_n dX10_allVotes_7 rfl, ?_⟩
  refine List.forall_mem_cons.mpr ⟨s_getI cf_X10 (Nat.le_of_ble_eq_true rfl) rfl fl_X10_108 dX10_allVotes_8, ?_⟩
  refine List.forall_mem_cons.mpr ⟨s_icmp_ge dX10_allVotes_11 (by decide), ?_⟩
  refine List.forall_mem_cons.mpr ⟨s_iload_n dX10_allVotes_14 rfl, ?_⟩
  refine List.forall_mem_cons.mpr ⟨s_iload_n dX10_allVotes_15 rfl, ?_⟩
  refine List.forall_mem_cons.mpr ⟨s_if_eq dX10_allVotes_16 (by decide), ?_⟩
  refine List.forall_mem_cons.mpr ⟨s_aload_n dX10_allVotes_19 rfl, ?_⟩
  refine List.forall_mem_cons.mpr ⟨s_iload_n dX10_allVotes_20 rfl, ?_⟩
  refine List.forall_mem_cons.mpr ⟨s_iload dX10_allVotes_21, ?_⟩
  refine List.forall_mem_cons.mpr ⟨s_callVI cf_X10 rfl ca_X10_yes ml_X10_92 im_X10_yes se_X10_yes ⟨(Nat.le_of_ble_eq_true rfl), (Nat.le_of_ble_eq_true rfl)⟩ dX10_allVotes_23, ?_⟩
  refine List.forall_mem_cons.mpr ⟨s_goto dX10_allVotes_26 (by decide), ?_⟩
  refine List.forall_mem_cons.mpr ⟨s_aload_n dX10_allVotes_29 rfl, ?_⟩
  refine List.forall_mem_cons.mpr ⟨s_iload_n dX10_allVotes_30 rfl, ?_⟩
  refine List.forall_mem_cons.mpr ⟨s_iload dX10_allVotes_31, ?_⟩
  refine List.forall_mem_cons.mpr ⟨s_callVI cf_X10 rfl ca_X10_counted ml_X10_88 im_X10_counted se_X10_counted ⟨(Nat.le_of_ble_eq_true rfl), (Nat.le_of_ble_eq_true rfl)⟩ dX10_allVotes_33, ?_⟩
  refine List.forall_mem_cons.mpr ⟨s_iadd dX10_allVotes_36, ?_⟩
  refine List.forall_mem_cons.mpr ⟨s_istore_n dX10_allVotes_37 rfl (Nat.le_of_ble_eq_true rfl), ?_⟩
  refine List.forall_mem_cons.mpr ⟨s_iinc dX10_allVotes_38 (by decide) (Nat.le_of_ble_eq_true rfl), ?_⟩
  refine List.forall_mem_cons.mpr ⟨s_goto dX10_allVotes_41 (by decide), ?_⟩
  refine List.forall_mem_cons.mpr ⟨s_iload_n dX10_allVotes_44 rfl, ?_⟩
  refine List.forall_mem_cons.mpr ⟨s_ireturn dX10_allVotes_45 rfl, ?_⟩
  exact fun _ h => absurd h List.not_mem_nil
def cd_X10_parts : sv_Cd := [(0, o_ic 0 1),
  (1, o_is 3 2),
  (2, o_ic 0 3),
  (3, o_is 4 5),
  (5, o_il 4 7),
  (7, o_ic 9 9),
  (9, o_ic2 (fun x y => y ≤ x) 49 12),
  (12, o_il 3 13),
  (13, o_al 0 14),
  (14, o_il 1 15),
  (15, o_ic 0 16),
  (16, o_il 4 18),
  (18, o_vI m_X10_vote 3 40 21),
  (21, o_ic 1 22),
  (22, o_ic2 (fun x y => x = y) 25 40),
  (25, o_al 0 26),
  (26, o_il 2 27),
  (27, o_ic 0 28),
  (28, o_il 4 30),
  (30, o_vI m_X10_vote 3 40 33),
  (33, o_if (fun x => x = 0) 36 40),
  (36, o_ic 1 37),
  (37, o_go 41),
  (40, o_ic 0 41),
  (41, o_b (fun x y => x + y) 42),
  (42, o_is 3 43),
  (43, o_in 4 1 46),
  (46, o_go 5),
  (49, o_il 3 50),
  (50, o_ir)]
set_option maxRecDepth 20000 in
theorem sn_X10_parts : ∀ q ∈ cd_X10_parts, sv_Snd m_X10_parts q.1 q.2 := by
  unfold cd_X10_parts
  refine List.forall_mem_cons.mpr ⟨s_iconst dX10_parts_0 (by decide), ?_⟩
  refine List.forall_mem_cons.mpr ⟨s_istore_n dX10_parts_1 rfl (Nat.le_of_ble_eq_true rfl), ?_⟩
  refine List.forall_mem_cons.mpr ⟨s_iconst dX10_parts_2 (by decide), ?_⟩
  refine List.forall_mem_cons.mpr ⟨s_istore dX10_parts_3 (Nat.le_of_ble_eq_true rfl), ?_⟩
  refine List.forall_mem_cons.mpr ⟨s_iload dX10_parts_5, ?_⟩
  refine List.forall_mem_cons.mpr ⟨s_bipush dX10_parts_7 (by decide), ?_⟩
  refine List.forall_mem_cons.mpr ⟨s_icmp_ge dX10_parts_9 (by decide), ?_⟩
  refine List.forall_mem_cons.mpr ⟨s_iload_n dX10_parts_12 rfl, ?_⟩
  refine List.forall_mem_cons.mpr ⟨s_aload_n dX10_parts_13 rfl, ?_⟩
  refine List.forall_mem_cons.mpr ⟨s_iload_n dX10_parts_14 rfl, ?_⟩
  refine List.forall_mem_cons.mpr ⟨s_iconst dX10_parts_15 (by decide), ?_⟩
  refine List.forall_mem_cons.mpr ⟨s_iload dX10_parts_16, ?_⟩
  refine List.forall_mem_cons.mpr ⟨s_callVI cf_X10 rfl ca_X10_vote ml_X10_80 im_X10_vote se_X10_vote ⟨(Nat.le_of_ble_eq_true rfl), (Nat.le_of_ble_eq_true rfl)⟩ dX10_parts_18, ?_⟩
  refine List.forall_mem_cons.mpr ⟨s_iconst dX10_parts_21 (by decide), ?_⟩
  refine List.forall_mem_cons.mpr ⟨s_icmp_ne dX10_parts_22 (by decide), ?_⟩
  refine List.forall_mem_cons.mpr ⟨s_aload_n dX10_parts_25 rfl, ?_⟩
  refine List.forall_mem_cons.mpr ⟨s_iload_n dX10_parts_26 rfl, ?_⟩
  refine List.forall_mem_cons.mpr ⟨s_iconst dX10_parts_27 (by decide), ?_⟩
  refine List.forall_mem_cons.mpr ⟨s_iload dX10_parts_28, ?_⟩
  refine List.forall_mem_cons.mpr ⟨s_callVI cf_X10 rfl ca_X10_vote ml_X10_80 im_X10_vote se_X10_vote ⟨(Nat.le_of_ble_eq_true rfl), (Nat.le_of_ble_eq_true rfl)⟩ dX10_parts_30, ?_⟩
  refine List.forall_mem_cons.mpr ⟨s_if_ne dX10_parts_33 (by decide), ?_⟩
  refine List.forall_mem_cons.mpr ⟨s_iconst dX10_parts_36 (by decide), ?_⟩
  refine List.forall_mem_cons.mpr ⟨s_goto dX10_parts_37 (by decide), ?_⟩
  refine List.forall_mem_cons.mpr ⟨s_iconst dX10_parts_40 (by decide), ?_⟩
  refine List.forall_mem_cons.mpr ⟨s_iadd dX10_parts_41, ?_⟩
  refine List.forall_mem_cons.mpr ⟨s_istore_n dX10_parts_42 rfl (Nat.le_of_ble_eq_true rfl), ?_⟩
  refine List.forall_mem_cons.mpr ⟨s_iinc dX10_parts_43 (by decide) (Nat.le_of_ble_eq_true rfl), ?_⟩
  refine List.forall_mem_cons.mpr ⟨s_goto dX10_parts_46 (by decide), ?_⟩
  refine List.forall_mem_cons.mpr ⟨s_iload_n dX10_parts_49 rfl, ?_⟩
  refine List.forall_mem_cons.mpr ⟨s_ireturn dX10_parts_50 rfl, ?_⟩
  exact fun _ h => absurd h List.not_mem_nil
def cd_X10_beatsAll : sv_Cd := [(0, o_ic 0 1),
  (1, o_is 2 2),
  (2, o_il 2 3),
  (3, o_al 0 4),
  (4, o_gI 40 0 7),
  (7, o_ic2 (fun x y => y ≤ x) 38 10),
  (10, o_il 2 11),
  (11, o_il 1 12),
  (12, o_ic2 (fun x y => x = y) 32 15),
  (15, o_al 0 16),
  (16, o_il 1 17),
  (17, o_il 2 18),
  (18, o_vI m_X10_parts 2 40 21),
  (21, o_al 0 22),
  (22, o_il 2 23),
  (23, o_il 1 24),
  (24, o_vI m_X10_parts 2 40 27),
  (27, o_ic2 (fun x y => y < x) 32 30),
  (30, o_ic 0 31),
  (31, o_zr),
  (32, o_in 2 1 35),
  (35, o_go 2),
  (38, o_ic 1 39),
  (39, o_zr)]
set_option maxRecDepth 20000 in
theorem sn_X10_beatsAll : ∀ q ∈ cd_X10_beatsAll, sv_Snd m_X10_beatsAll q.1 q.2 := by
  unfold cd_X10_beatsAll
  refine List.forall_mem_cons.mpr ⟨s_iconst dX10_beatsAll_0 (by decide), ?_⟩
  refine List.forall_mem_cons.mpr ⟨s_istore_n dX10_beatsAll_1 rfl (Nat.le_of_ble_eq_true rfl), ?_⟩
  refine List.forall_mem_cons.mpr ⟨s_iload_n dX10_beatsAll_2 rfl, ?_⟩
  refine List.forall_mem_cons.mpr ⟨s_aload_n dX10_beatsAll_3 rfl, ?_⟩
  refine List.forall_mem_cons.mpr ⟨s_getI cf_X10 (Nat.le_of_ble_eq_true rfl) rfl fl_X10_72 dX10_beatsAll_4, ?_⟩
  refine List.forall_mem_cons.mpr ⟨s_icmp_ge dX10_beatsAll_7 (by decide), ?_⟩
  refine List.forall_mem_cons.mpr ⟨s_iload_n dX10_beatsAll_10 rfl, ?_⟩
  refine List.forall_mem_cons.mpr ⟨s_iload_n dX10_beatsAll_11 rfl, ?_⟩
  refine List.forall_mem_cons.mpr ⟨s_icmp_eq dX10_beatsAll_12 (by decide), ?_⟩
  refine List.forall_mem_cons.mpr ⟨s_aload_n dX10_beatsAll_15 rfl, ?_⟩
  refine List.forall_mem_cons.mpr ⟨s_iload_n dX10_beatsAll_16 rfl, ?_⟩
  refine List.forall_mem_cons.mpr ⟨s_iload_n dX10_beatsAll_17 rfl, ?_⟩
  refine List.forall_mem_cons.mpr ⟨s_callVI cf_X10 rfl ca_X10_parts ml_X10_153 im_X10_parts se_X10_parts ⟨(Nat.le_of_ble_eq_true rfl), (Nat.le_of_ble_eq_true rfl)⟩ dX10_beatsAll_18, ?_⟩
  refine List.forall_mem_cons.mpr ⟨s_aload_n dX10_beatsAll_21 rfl, ?_⟩
  refine List.forall_mem_cons.mpr ⟨s_iload_n dX10_beatsAll_22 rfl, ?_⟩
  refine List.forall_mem_cons.mpr ⟨s_iload_n dX10_beatsAll_23 rfl, ?_⟩
  refine List.forall_mem_cons.mpr ⟨s_callVI cf_X10 rfl ca_X10_parts ml_X10_153 im_X10_parts se_X10_parts ⟨(Nat.le_of_ble_eq_true rfl), (Nat.le_of_ble_eq_true rfl)⟩ dX10_beatsAll_24, ?_⟩
  refine List.forall_mem_cons.mpr ⟨s_icmp_gt dX10_beatsAll_27 (by decide), ?_⟩
  refine List.forall_mem_cons.mpr ⟨s_iconst dX10_beatsAll_30 (by decide), ?_⟩
  refine List.forall_mem_cons.mpr ⟨s_zreturn dX10_beatsAll_31 rfl, ?_⟩
  refine List.forall_mem_cons.mpr ⟨s_iinc dX10_beatsAll_32 (by decide) (Nat.le_of_ble_eq_true rfl), ?_⟩
  refine List.forall_mem_cons.mpr ⟨s_goto dX10_beatsAll_35 (by decide), ?_⟩
  refine List.forall_mem_cons.mpr ⟨s_iconst dX10_beatsAll_38 (by decide), ?_⟩
  refine List.forall_mem_cons.mpr ⟨s_zreturn dX10_beatsAll_39 rfl, ?_⟩
  exact fun _ h => absurd h List.not_mem_nil
def cd_X10_other : sv_Cd := [(0, o_il 1 1),
  (1, o_ic 1 2),
  (2, o_ic 3 3),
  (3, o_sI m_X10_in 3 6),
  (6, o_if (fun x => x = 0) 9 12),
  (9, o_ic (-2) 11),
  (11, o_ir),
  (12, o_al 0 13),
  (13, o_vV m_X10_read 0 40 16),
  (16, o_il 1 17),
  (17, o_ic 3 18),
  (18, o_ic2 (fun x y => y ≤ x) 32 21),
  (21, o_al 0 22),
  (22, o_gI 40 11 25),
  (25, o_ic (-1) 26),
  (26, o_ic2 (fun x y => x = y) 32 29),
  (29, o_ic (-3) 31),
  (31, o_ir),
  (32, o_ic (-1) 33),
  (33, o_is 2 34),
  (34, o_ic 0 35),
  (35, o_is 3 36),
  (36, o_il 3 37),
  (37, o_al 0 38),
  (38, o_gI 40 0 41),
  (41, o_ic2 (fun x y => y ≤ x) 183 44),
  (44, o_al 0 45),
  (45, o_gR 40 42 48),
  (48, o_il 3 49),
  (49, o_ia 50),
  (50, o_is 4 52),
  (52, o_il 1 53),
  (53, o_ic 3 54),
  (54, o_ic2 (fun x y => x = y) 57 76),
  (57, o_al 0 58),
  (58, o_il 4 60),
  (60, o_vI m_X10_beatsAll 1 40 63),
  (63, o_if (fun x => x = 0) 71 66),
  (66, o_il 4 68),
  (68, o_go 72),
  (71, o_il 2 72),
  (72, o_is 2 73),
  (73, o_go 177),
  (76, o_il 1 77),
  (77, o_ic 1 78),
  (78, o_ic2 (fun x y => x = y) 81 112),
  (81, o_il 2 82),
  (82, o_ic (-1) 83),
  (83, o_ic2 (fun x y => x = y) 102 86),
  (86, o_al 0 87),
  (87, o_il 4 89),
  (89, o_ic 1 90),
  (90, o_vI m_X10_allVotes 2 40 93),
  (93, o_al 0 94),
  (94, o_il 2 95),
  (95, o_ic 1 96),
  (96, o_vI m_X10_allVotes 2 40 99),
  (99, o_ic2 (fun x y => x ≤ y) 107 102),
  (102, o_il 4 104),
  (104, o_go 108),
  (107, o_il 2 108),
  (108, o_is 2 109),
  (109, o_go 177),
  (112, o_al 0 113),
  (113, o_il 4 115),
  (115, o_ic 0 116),
  (116, o_vI m_X10_allVotes 2 40 119),
  (119, o_if (fun x => x ≤ 0) 177 122),
  (122, o_il 2 123),
  (123, o_ic (-1) 124),
  (124, o_ic2 (fun x y => x = y) 158 127),
  (127, o_al 0 128),
  (128, o_il 4 130),
  (130, o_ic 1 131),
  (131, o_vI m_X10_allVotes 2 40 134),
  (134, o_al 0 135),
  (135, o_il 2 136),
  (136, o_ic 0 137),
  (137, o_vI m_X10_allVotes 2 40 140),
  (140, o_b (fun x y => x * y) 141),
  (141, o_al 0 142),
  (142, o_il 2 143),
  (143, o_ic 1 144),
  (144, o_vI m_X10_allVotes 2 40 147),
  (147, o_al 0 148),
  (148, o_il 4 150),
  (150, o_ic 0 151),
  (151, o_vI m_X10_allVotes 2 40 154),
  (154, o_b (fun x y => x * y) 155),
  (155, o_ic2 (fun x y => x ≤ y) 162 158),
  (158, o_ic 1 159),
  (159, o_go 163),
  (162, o_ic 0 163),
  (163, o_is 5 165),
  (165, o_il 5 167),
  (167, o_if (fun x => x = 0) 175 170),
  (170, o_il 4 172),
  (172, o_go 176),
  (175, o_il 2 176),
  (176, o_is 2 177),
  (177, o_in 3 1 180),
  (180, o_go 36),
  (183, o_il 2 184),
  (184, o_ir)]
set_option maxRecDepth 20000 in
theorem sn_X10_other : ∀ q ∈ cd_X10_other, sv_Snd m_X10_other q.1 q.2 := by
  unfold cd_X10_other
  refine List.forall_mem_cons.mpr ⟨s_iload_n dX10_other_0 rfl, ?_⟩
  refine List.forall_mem_cons.mpr ⟨s_iconst dX10_other_1 (by decide), ?_⟩
  refine List.forall_mem_cons.mpr ⟨s_iconst dX10_other_2 (by decide), ?_⟩
  refine List.forall_mem_cons.mpr ⟨s_callSI ca_X10_in ml_X10_75 st_X10_in ⟨(Nat.le_of_ble_eq_true rfl), (Nat.le_of_ble_eq_true rfl)⟩ dX10_other_3, ?_⟩
  refine List.forall_mem_cons.mpr ⟨s_if_ne dX10_other_6 (by decide), ?_⟩
  refine List.forall_mem_cons.mpr ⟨s_bipush dX10_other_9 (by decide), ?_⟩
  refine List.forall_mem_cons.mpr ⟨s_ireturn dX10_other_11 rfl, ?_⟩
  refine List.forall_mem_cons.mpr ⟨s_aload_n dX10_other_12 rfl, ?_⟩
  refine List.forall_mem_cons.mpr ⟨s_callVV cf_X10 rfl ca_X10_read ml_X10_118 im_X10_read se_X10_read ⟨(Nat.le_of_ble_eq_true rfl), (Nat.le_of_ble_eq_true rfl)⟩ dX10_other_13, ?_⟩
  refine List.forall_mem_cons.mpr ⟨s_iload_n dX10_other_16 rfl, ?_⟩
  refine List.forall_mem_cons.mpr ⟨s_iconst dX10_other_17 (by decide), ?_⟩
  refine List.forall_mem_cons.mpr ⟨s_icmp_ge dX10_other_18 (by decide), ?_⟩
  refine List.forall_mem_cons.mpr ⟨s_aload_n dX10_other_21 rfl, ?_⟩
  refine List.forall_mem_cons.mpr ⟨s_getI cf_X10 (Nat.le_of_ble_eq_true rfl) rfl fl_X10_98 dX10_other_22, ?_⟩
  refine List.forall_mem_cons.mpr ⟨s_iconst dX10_other_25 (by decide), ?_⟩
  refine List.forall_mem_cons.mpr ⟨s_icmp_eq dX10_other_26 (by decide), ?_⟩
  refine List.forall_mem_cons.mpr ⟨s_bipush dX10_other_29 (by decide), ?_⟩
  refine List.forall_mem_cons.mpr ⟨s_ireturn dX10_other_31 rfl, ?_⟩
  refine List.forall_mem_cons.mpr ⟨s_iconst dX10_other_32 (by decide), ?_⟩
  refine List.forall_mem_cons.mpr ⟨s_istore_n dX10_other_33 rfl (Nat.le_of_ble_eq_true rfl), ?_⟩
  refine List.forall_mem_cons.mpr ⟨s_iconst dX10_other_34 (by decide), ?_⟩
  refine List.forall_mem_cons.mpr ⟨s_istore_n dX10_other_35 rfl (Nat.le_of_ble_eq_true rfl), ?_⟩
  refine List.forall_mem_cons.mpr ⟨s_iload_n dX10_other_36 rfl, ?_⟩
  refine List.forall_mem_cons.mpr ⟨s_aload_n dX10_other_37 rfl, ?_⟩
  refine List.forall_mem_cons.mpr ⟨s_getI cf_X10 (Nat.le_of_ble_eq_true rfl) rfl fl_X10_72 dX10_other_38, ?_⟩
  refine List.forall_mem_cons.mpr ⟨s_icmp_ge dX10_other_41 (by decide), ?_⟩
  refine List.forall_mem_cons.mpr ⟨s_aload_n dX10_other_44 rfl, ?_⟩
  refine List.forall_mem_cons.mpr ⟨s_getR (j := 2) cf_X10 (Nat.le_of_ble_eq_true rfl) rfl fl_X10_13 dX10_other_45, ?_⟩
  refine List.forall_mem_cons.mpr ⟨s_iload_n dX10_other_48 rfl, ?_⟩
  refine List.forall_mem_cons.mpr ⟨s_iaload dX10_other_49, ?_⟩
  refine List.forall_mem_cons.mpr ⟨s_istore dX10_other_50 (Nat.le_of_ble_eq_true rfl), ?_⟩
  refine List.forall_mem_cons.mpr ⟨s_iload_n dX10_other_52 rfl, ?_⟩
  refine List.forall_mem_cons.mpr ⟨s_iconst dX10_other_53 (by decide), ?_⟩
  refine List.forall_mem_cons.mpr ⟨s_icmp_ne dX10_other_54 (by decide), ?_⟩
  refine List.forall_mem_cons.mpr ⟨s_aload_n dX10_other_57 rfl, ?_⟩
  refine List.forall_mem_cons.mpr ⟨s_iload dX10_other_58, ?_⟩
  refine List.forall_mem_cons.mpr ⟨s_callVI cf_X10 rfl ca_X10_beatsAll ml_X10_156 im_X10_beatsAll se_X10_beatsAll ⟨(Nat.le_of_ble_eq_true rfl), (Nat.le_of_ble_eq_true rfl)⟩ dX10_other_60, ?_⟩
  refine List.forall_mem_cons.mpr ⟨s_if_eq dX10_other_63 (by decide), ?_⟩
  refine List.forall_mem_cons.mpr ⟨s_iload dX10_other_66, ?_⟩
  refine List.forall_mem_cons.mpr ⟨s_goto dX10_other_68 (by decide), ?_⟩
  refine List.forall_mem_cons.mpr ⟨s_iload_n dX10_other_71 rfl, ?_⟩
  refine List.forall_mem_cons.mpr ⟨s_istore_n dX10_other_72 rfl (Nat.le_of_ble_eq_true rfl), ?_⟩
  refine List.forall_mem_cons.mpr ⟨s_goto dX10_other_73 (by decide), ?_⟩
  refine List.forall_mem_cons.mpr ⟨s_iload_n dX10_other_76 rfl, ?_⟩
  refine List.forall_mem_cons.mpr ⟨s_iconst dX10_other_77 (by decide), ?_⟩
  refine List.forall_mem_cons.mpr ⟨s_icmp_ne dX10_other_78 (by decide), ?_⟩
  refine List.forall_mem_cons.mpr ⟨s_iload_n dX10_other_81 rfl, ?_⟩
  refine List.forall_mem_cons.mpr ⟨s_iconst dX10_other_82 (by decide), ?_⟩
  refine List.forall_mem_cons.mpr ⟨s_icmp_eq dX10_other_83 (by decide), ?_⟩
  refine List.forall_mem_cons.mpr ⟨s_aload_n dX10_other_86 rfl, ?_⟩
  refine List.forall_mem_cons.mpr ⟨s_iload dX10_other_87, ?_⟩
  refine List.forall_mem_cons.mpr ⟨s_iconst dX10_other_89 (by decide), ?_⟩
  refine List.forall_mem_cons.mpr ⟨s_callVI cf_X10 rfl ca_X10_allVotes ml_X10_159 im_X10_allVotes se_X10_allVotes ⟨(Nat.le_of_ble_eq_true rfl), (Nat.le_of_ble_eq_true rfl)⟩ dX10_other_90, ?_⟩
  refine List.forall_mem_cons.mpr ⟨s_aload_n dX10_other_93 rfl, ?_⟩
  refine List.forall_mem_cons.mpr ⟨s_iload_n dX10_other_94 rfl, ?_⟩
  refine List.forall_mem_cons.mpr ⟨s_iconst dX10_other_95 (by decide), ?_⟩
  refine List.forall_mem_cons.mpr ⟨s_callVI cf_X10 rfl ca_X10_allVotes ml_X10_159 im_X10_allVotes se_X10_allVotes ⟨(Nat.le_of_ble_eq_true rfl), (Nat.le_of_ble_eq_true rfl)⟩ dX10_other_96, ?_⟩
  refine List.forall_mem_cons.mpr ⟨s_icmp_le dX10_other_99 (by decide), ?_⟩
  refine List.forall_mem_cons.mpr ⟨s_iload dX10_other_102, ?_⟩
  refine List.forall_mem_cons.mpr ⟨s_goto dX10_other_104 (by decide), ?_⟩
  refine List.forall_mem_cons.mpr ⟨s_iload_n dX10_other_107 rfl, ?_⟩
  refine List.forall_mem_cons.mpr ⟨s_istore_n dX10_other_108 rfl (Nat.le_of_ble_eq_true rfl), ?_⟩
  refine List.forall_mem_cons.mpr ⟨s_goto dX10_other_109 (by decide), ?_⟩
  refine List.forall_mem_cons.mpr ⟨s_aload_n dX10_other_112 rfl, ?_⟩
  refine List.forall_mem_cons.mpr ⟨s_iload dX10_other_113, ?_⟩
  refine List.forall_mem_cons.mpr ⟨s_iconst dX10_other_115 (by decide), ?_⟩
  refine List.forall_mem_cons.mpr ⟨s_callVI cf_X10 rfl ca_X10_allVotes ml_X10_159 im_X10_allVotes se_X10_allVotes ⟨(Nat.le_of_ble_eq_true rfl), (Nat.le_of_ble_eq_true rfl)⟩ dX10_other_116, ?_⟩
  refine List.forall_mem_cons.mpr ⟨s_if_le dX10_other_119 (by decide), ?_⟩
  refine List.forall_mem_cons.mpr ⟨s_iload_n dX10_other_122 rfl, ?_⟩
  refine List.forall_mem_cons.mpr ⟨s_iconst dX10_other_123 (by decide), ?_⟩
  refine List.forall_mem_cons.mpr ⟨s_icmp_eq dX10_other_124 (by decide), ?_⟩
  refine List.forall_mem_cons.mpr ⟨s_aload_n dX10_other_127 rfl, ?_⟩
  refine List.forall_mem_cons.mpr ⟨s_iload dX10_other_128, ?_⟩
  refine List.forall_mem_cons.mpr ⟨s_iconst dX10_other_130 (by decide), ?_⟩
  refine List.forall_mem_cons.mpr ⟨s_callVI cf_X10 rfl ca_X10_allVotes ml_X10_159 im_X10_allVotes se_X10_allVotes ⟨(Nat.le_of_ble_eq_true rfl), (Nat.le_of_ble_eq_true rfl)⟩ dX10_other_131, ?_⟩
  refine List.forall_mem_cons.mpr ⟨s_aload_n dX10_other_134 rfl, ?_⟩
  refine List.forall_mem_cons.mpr ⟨s_iload_n dX10_other_135 rfl, ?_⟩
  refine List.forall_mem_cons.mpr ⟨s_iconst dX10_other_136 (by decide), ?_⟩
  refine List.forall_mem_cons.mpr ⟨s_callVI cf_X10 rfl ca_X10_allVotes ml_X10_159 im_X10_allVotes se_X10_allVotes ⟨(Nat.le_of_ble_eq_true rfl), (Nat.le_of_ble_eq_true rfl)⟩ dX10_other_137, ?_⟩
  refine List.forall_mem_cons.mpr ⟨s_imul dX10_other_140, ?_⟩
  refine List.forall_mem_cons.mpr ⟨s_aload_n dX10_other_141 rfl, ?_⟩
  refine List.forall_mem_cons.mpr ⟨s_iload_n dX10_other_142 rfl, ?_⟩
  refine List.forall_mem_cons.mpr ⟨s_iconst dX10_other_143 (by decide), ?_⟩
  refine List.forall_mem_cons.mpr ⟨s_callVI cf_X10 rfl ca_X10_allVotes ml_X10_159 im_X10_allVotes se_X10_allVotes ⟨(Nat.le_of_ble_eq_true rfl), (Nat.le_of_ble_eq_true rfl)⟩ dX10_other_144, ?_⟩
  refine List.forall_mem_cons.mpr ⟨s_aload_n dX10_other_147 rfl, ?_⟩
  refine List.forall_mem_cons.mpr ⟨s_iload dX10_other_148, ?_⟩
  refine List.forall_mem_cons.mpr ⟨s_iconst dX10_other_150 (by decide), ?_⟩
  refine List.forall_mem_cons.mpr ⟨s_callVI cf_X10 rfl ca_X10_allVotes ml_X10_159 im_X10_allVotes se_X10_allVotes ⟨(Nat.le_of_ble_eq_true rfl), (Nat.le_of_ble_eq_true rfl)⟩ dX10_other_151, ?_⟩
  refine List.forall_mem_cons.mpr ⟨s_imul dX10_other_154, ?_⟩
  refine List.forall_mem_cons.mpr ⟨s_icmp_le dX10_other_155 (by decide), ?_⟩
  refine List.forall_mem_cons.mpr ⟨s_iconst dX10_other_158 (by decide), ?_⟩
  refine List.forall_mem_cons.mpr ⟨s_goto dX10_other_159 (by decide), ?_⟩
  refine List.forall_mem_cons.mpr ⟨s_iconst dX10_other_162 (by decide), ?_⟩
  refine List.forall_mem_cons.mpr ⟨s_istore dX10_other_163 (Nat.le_of_ble_eq_true rfl), ?_⟩
  refine List.forall_mem_cons.mpr ⟨s_iload dX10_other_165, ?_⟩
  refine List.forall_mem_cons.mpr ⟨s_if_eq dX10_other_167 (by decide), ?_⟩
  refine List.forall_mem_cons.mpr ⟨s_iload dX10_other_170, ?_⟩
  refine List.forall_mem_cons.mpr ⟨s_goto dX10_other_172 (by decide), ?_⟩
  refine List.forall_mem_cons.mpr ⟨s_iload_n dX10_other_175 rfl, ?_⟩
  refine List.forall_mem_cons.mpr ⟨s_istore_n dX10_other_176 rfl (Nat.le_of_ble_eq_true rfl), ?_⟩
  refine List.forall_mem_cons.mpr ⟨s_iinc dX10_other_177 (by decide) (Nat.le_of_ble_eq_true rfl), ?_⟩
  refine List.forall_mem_cons.mpr ⟨s_goto dX10_other_180 (by decide), ?_⟩
  refine List.forall_mem_cons.mpr ⟨s_iload_n dX10_other_183 rfl, ?_⟩
  refine List.forall_mem_cons.mpr ⟨s_ireturn dX10_other_184 rfl, ?_⟩
  exact fun _ h => absurd h List.not_mem_nil
def cd_X10_chance : sv_Cd := [(0, o_il 1 1),
  (1, o_ic 0 2),
  (2, o_ic 4 3),
  (3, o_sI m_X10_in 3 6),
  (6, o_if (fun x => x = 0) 19 9),
  (9, o_il 2 10),
  (10, o_ic 0 11),
  (11, o_ic 100 13),
  (13, o_sI m_X10_in 3 16),
  (16, o_if (fun x => x = 0) 19 22),
  (19, o_ic (-2) 21),
  (21, o_ir),
  (22, o_al 0 23),
  (23, o_gR 40 47 26),
  (26, o_il 1 27),
  (27, o_ia 28),
  (28, o_is 3 29),
  (29, o_al 0 30),
  (30, o_gR 40 47 33),
  (33, o_il 1 34),
  (34, o_il 2 35),
  (35, o_is3 36),
  (36, o_il 3 37),
  (37, o_ir)]
set_option maxRecDepth 20000 in
theorem sn_X10_chance : ∀ q ∈ cd_X10_chance, sv_Snd m_X10_chance q.1 q.2 := by
  unfold cd_X10_chance
  refine List.forall_mem_cons.mpr ⟨s_iload_n dX10_chance_0 rfl, ?_⟩
  refine List.forall_mem_cons.mpr ⟨s_iconst dX10_chance_1 (by decide), ?_⟩
  refine List.forall_mem_cons.mpr ⟨s_iconst dX10_chance_2 (by decide), ?_⟩
  refine List.forall_mem_cons.mpr ⟨s_callSI ca_X10_in ml_X10_75 st_X10_in ⟨(Nat.le_of_ble_eq_true rfl), (Nat.le_of_ble_eq_true rfl)⟩ dX10_chance_3, ?_⟩
  refine List.forall_mem_cons.mpr ⟨s_if_eq dX10_chance_6 (by decide), ?_⟩
  refine List.forall_mem_cons.mpr ⟨s_iload_n dX10_chance_9 rfl, ?_⟩
  refine List.forall_mem_cons.mpr ⟨s_iconst dX10_chance_10 (by decide), ?_⟩
  refine List.forall_mem_cons.mpr ⟨s_bipush dX10_chance_11 (by decide), ?_⟩
  refine List.forall_mem_cons.mpr ⟨s_callSI ca_X10_in ml_X10_75 st_X10_in ⟨(Nat.le_of_ble_eq_true rfl), (Nat.le_of_ble_eq_true rfl)⟩ dX10_chance_13, ?_⟩
  refine List.forall_mem_cons.mpr ⟨s_if_ne dX10_chance_16 (by decide), ?_⟩
  refine List.forall_mem_cons.mpr ⟨s_bipush dX10_chance_19 (by decide), ?_⟩
  refine List.forall_mem_cons.mpr ⟨s_ireturn dX10_chance_21 rfl, ?_⟩
  refine List.forall_mem_cons.mpr ⟨s_aload_n dX10_chance_22 rfl, ?_⟩
  refine List.forall_mem_cons.mpr ⟨s_getR (j := 12) cf_X10 (Nat.le_of_ble_eq_true rfl) rfl fl_X10_32 dX10_chance_23, ?_⟩
  refine List.forall_mem_cons.mpr ⟨s_iload_n dX10_chance_26 rfl, ?_⟩
  refine List.forall_mem_cons.mpr ⟨s_iaload dX10_chance_27, ?_⟩
  refine List.forall_mem_cons.mpr ⟨s_istore_n dX10_chance_28 rfl (Nat.le_of_ble_eq_true rfl), ?_⟩
  refine List.forall_mem_cons.mpr ⟨s_aload_n dX10_chance_29 rfl, ?_⟩
  refine List.forall_mem_cons.mpr ⟨s_getR (j := 12) cf_X10 (Nat.le_of_ble_eq_true rfl) rfl fl_X10_32 dX10_chance_30, ?_⟩
  refine List.forall_mem_cons.mpr ⟨s_iload_n dX10_chance_33 rfl, ?_⟩
  refine List.forall_mem_cons.mpr ⟨s_iload_n dX10_chance_34 rfl, ?_⟩
  refine List.forall_mem_cons.mpr ⟨s_iastore dX10_chance_35, ?_⟩
  refine List.forall_mem_cons.mpr ⟨s_iload_n dX10_chance_36 rfl, ?_⟩
  refine List.forall_mem_cons.mpr ⟨s_ireturn dX10_chance_37 rfl, ?_⟩
  exact fun _ h => absurd h List.not_mem_nil
def cd_X10_choose : sv_Cd := [(0, o_lc 1 1),
  (1, o_ls 2 2),
  (2, o_ic 1 3),
  (3, o_is 4 5),
  (5, o_il 4 7),
  (7, o_il 1 8),
  (8, o_ic2 (fun x y => y < x) 31 11),
  (11, o_ll 2 12),
  (12, o_il 0 13),
  (13, o_il 1 14),
  (14, o_b (fun x y => x - y) 15),
  (15, o_il 4 17),
  (17, o_b (fun x y => x + y) 18),
  (18, o_i2l 19),
  (19, o_lb (fun x y => x * y) 20),
  (20, o_il 4 22),
  (22, o_i2l 23),
  (23, o_ld (fun x y => x / y) 24),
  (24, o_ls 2 25),
  (25, o_in 4 1 28),
  (28, o_go 5),
  (31, o_ll 2 32),
  (32, o_lr)]
set_option maxRecDepth 20000 in
theorem sn_X10_choose : ∀ q ∈ cd_X10_choose, sv_Snd m_X10_choose q.1 q.2 := by
  unfold cd_X10_choose
  refine List.forall_mem_cons.mpr ⟨s_lconst dX10_choose_0 (by decide), ?_⟩
  refine List.forall_mem_cons.mpr ⟨s_lstore_n dX10_choose_1 rfl (Nat.le_of_ble_eq_true rfl), ?_⟩
  refine List.forall_mem_cons.mpr ⟨s_iconst dX10_choose_2 (by decide), ?_⟩
  refine List.forall_mem_cons.mpr ⟨s_istore dX10_choose_3 (Nat.le_of_ble_eq_true rfl), ?_⟩
  refine List.forall_mem_cons.mpr ⟨s_iload dX10_choose_5, ?_⟩
  refine List.forall_mem_cons.mpr ⟨s_iload_n dX10_choose_7 rfl, ?_⟩
  refine List.forall_mem_cons.mpr ⟨s_icmp_gt dX10_choose_8 (by decide), ?_⟩
  refine List.forall_mem_cons.mpr ⟨s_lload_n dX10_choose_11 rfl, ?_⟩
  refine List.forall_mem_cons.mpr ⟨s_iload_n dX10_choose_12 rfl, ?_⟩
  refine List.forall_mem_cons.mpr ⟨s_iload_n dX10_choose_13 rfl, ?_⟩
  refine List.forall_mem_cons.mpr ⟨s_isub dX10_choose_14, ?_⟩
  refine List.forall_mem_cons.mpr ⟨s_iload dX10_choose_15, ?_⟩
  refine List.forall_mem_cons.mpr ⟨s_iadd dX10_choose_17, ?_⟩
  refine List.forall_mem_cons.mpr ⟨s_i2l dX10_choose_18, ?_⟩
  refine List.forall_mem_cons.mpr ⟨s_lmul dX10_choose_19, ?_⟩
  refine List.forall_mem_cons.mpr ⟨s_iload dX10_choose_20, ?_⟩
  refine List.forall_mem_cons.mpr ⟨s_i2l dX10_choose_22, ?_⟩
  refine List.forall_mem_cons.mpr ⟨s_ldiv dX10_choose_23, ?_⟩
  refine List.forall_mem_cons.mpr ⟨s_lstore_n dX10_choose_24 rfl (Nat.le_of_ble_eq_true rfl), ?_⟩
  refine List.forall_mem_cons.mpr ⟨s_iinc dX10_choose_25 (by decide) (Nat.le_of_ble_eq_true rfl), ?_⟩
  refine List.forall_mem_cons.mpr ⟨s_goto dX10_choose_28 (by decide), ?_⟩
  refine List.forall_mem_cons.mpr ⟨s_lload_n dX10_choose_31 rfl, ?_⟩
  refine List.forall_mem_cons.mpr ⟨s_lreturn dX10_choose_32 rfl, ?_⟩
  exact fun _ h => absurd h List.not_mem_nil
def cd_X10_toThe : sv_Cd := [(0, o_lc 1 1),
  (1, o_ls 3 2),
  (2, o_ic 0 3),
  (3, o_is 5 5),
  (5, o_il 5 7),
  (7, o_il 2 8),
  (8, o_ic2 (fun x y => y ≤ x) 21 11),
  (11, o_ll 3 12),
  (12, o_ll 0 13),
  (13, o_lb (fun x y => x * y) 14),
  (14, o_ls 3 15),
  (15, o_in 5 1 18),
  (18, o_go 5),
  (21, o_ll 3 22),
  (22, o_lr)]
set_option maxRecDepth 20000 in
theorem sn_X10_toThe : ∀ q ∈ cd_X10_toThe, sv_Snd m_X10_toThe q.1 q.2 := by
  unfold cd_X10_toThe
  refine List.forall_mem_cons.mpr ⟨s_lconst dX10_toThe_0 (by decide), ?_⟩
  refine List.forall_mem_cons.mpr ⟨s_lstore_n dX10_toThe_1 rfl (Nat.le_of_ble_eq_true rfl), ?_⟩
  refine List.forall_mem_cons.mpr ⟨s_iconst dX10_toThe_2 (by decide), ?_⟩
  refine List.forall_mem_cons.mpr ⟨s_istore dX10_toThe_3 (Nat.le_of_ble_eq_true rfl), ?_⟩
  refine List.forall_mem_cons.mpr ⟨s_iload dX10_toThe_5, ?_⟩
  refine List.forall_mem_cons.mpr ⟨s_iload_n dX10_toThe_7 rfl, ?_⟩
  refine List.forall_mem_cons.mpr ⟨s_icmp_ge dX10_toThe_8 (by decide), ?_⟩
  refine List.forall_mem_cons.mpr ⟨s_lload_n dX10_toThe_11 rfl, ?_⟩
  refine List.forall_mem_cons.mpr ⟨s_lload_n dX10_toThe_12 rfl, ?_⟩
  refine List.forall_mem_cons.mpr ⟨s_lmul dX10_toThe_13, ?_⟩
  refine List.forall_mem_cons.mpr ⟨s_lstore_n dX10_toThe_14 rfl (Nat.le_of_ble_eq_true rfl), ?_⟩
  refine List.forall_mem_cons.mpr ⟨s_iinc dX10_toThe_15 (by decide) (Nat.le_of_ble_eq_true rfl), ?_⟩
  refine List.forall_mem_cons.mpr ⟨s_goto dX10_toThe_18 (by decide), ?_⟩
  refine List.forall_mem_cons.mpr ⟨s_lload_n dX10_toThe_21 rfl, ?_⟩
  refine List.forall_mem_cons.mpr ⟨s_lreturn dX10_toThe_22 rfl, ?_⟩
  exact fun _ h => absurd h List.not_mem_nil
def cd_X10_comes : sv_Cd := [(0, o_lc 0 1),
  (1, o_ls 3 2),
  (2, o_ic 0 3),
  (3, o_is 5 5),
  (5, o_il 5 7),
  (7, o_al 0 8),
  (8, o_gI 40 3 11),
  (11, o_ic2 (fun x y => y < x) 80 14),
  (14, o_ic 100 16),
  (16, o_il 5 18),
  (18, o_b (fun x y => x * y) 19),
  (19, o_il 2 20),
  (20, o_al 0 21),
  (21, o_gI 40 3 24),
  (24, o_b (fun x y => x * y) 25),
  (25, o_ic2 (fun x y => x < y) 74 28),
  (28, o_ll 3 29),
  (29, o_al 0 30),
  (30, o_gI 40 3 33),
  (33, o_il 5 35),
  (35, o_sL m_X10_choose 2 38),
  (38, o_al 0 39),
  (39, o_gR 40 47 42),
  (42, o_il 1 43),
  (43, o_ia 44),
  (44, o_i2l 45),
  (45, o_il 5 47),
  (47, o_sL m_X10_toThe 2 50),
  (50, o_lb (fun x y => x * y) 51),
  (51, o_ic 100 53),
  (53, o_al 0 54),
  (54, o_gR 40 47 57),
  (57, o_il 1 58),
  (58, o_ia 59),
  (59, o_b (fun x y => x - y) 60),
  (60, o_i2l 61),
  (61, o_al 0 62),
  (62, o_gI 40 3 65),
  (65, o_il 5 67),
  (67, o_b (fun x y => x - y) 68),
  (68, o_sL m_X10_toThe 2 71),
  (71, o_lb (fun x y => x * y) 72),
  (72, o_lb (fun x y => x + y) 73),
  (73, o_ls 3 74),
  (74, o_in 5 1 77),
  (77, o_go 5),
  (80, o_al 0 81),
  (81, o_gI 40 3 84),
  (84, o_ic 3 85),
  (85, o_ic2 (fun x y => y ≤ x) 105 88),
  (88, o_ll 3 89),
  (89, o_lc 100 92),
  (92, o_ic 3 93),
  (93, o_al 0 94),
  (94, o_gI 40 3 97),
  (97, o_b (fun x y => x - y) 98),
  (98, o_sL m_X10_toThe 2 101),
  (101, o_lb (fun x y => x * y) 102),
  (102, o_go 119),
  (105, o_ll 3 106),
  (106, o_lc 100 109),
  (109, o_al 0 110),
  (110, o_gI 40 3 113),
  (113, o_ic 3 114),
  (114, o_b (fun x y => x - y) 115),
  (115, o_sL m_X10_toThe 2 118),
  (118, o_ld (fun x y => x / y) 119),
  (119, o_l2i 120),
  (120, o_ir)]
set_option maxRecDepth 20000 in
theorem sn_X10_comes : ∀ q ∈ cd_X10_comes, sv_Snd m_X10_comes q.1 q.2 := by
  unfold cd_X10_comes
  refine List.forall_mem_cons.mpr ⟨s_lconst dX10_comes_0 (by decide), ?_⟩
  refine List.forall_mem_cons.mpr ⟨s_lstore_n dX10_comes_1 rfl (Nat.le_of_ble_eq_true rfl), ?_⟩
  refine List.forall_mem_cons.mpr ⟨s_iconst dX10_comes_2 (by decide), ?_⟩
  refine List.forall_mem_cons.mpr ⟨s_istore dX10_comes_3 (Nat.le_of_ble_eq_true rfl), ?_⟩
  refine List.forall_mem_cons.mpr ⟨s_iload dX10_comes_5, ?_⟩
  refine List.forall_mem_cons.mpr ⟨s_aload_n dX10_comes_7 rfl, ?_⟩
  refine List.forall_mem_cons.mpr ⟨s_getI cf_X10 (Nat.le_of_ble_eq_true rfl) rfl fl_X10_16 dX10_comes_8, ?_⟩
  refine List.forall_mem_cons.mpr ⟨s_icmp_gt dX10_comes_11 (by decide), ?_⟩
  refine List.forall_mem_cons.mpr ⟨s_bipush dX10_comes_14 (by decide), ?_⟩
  refine List.forall_mem_cons.mpr ⟨s_iload dX10_comes_16, ?_⟩
  refine List.forall_mem_cons.mpr ⟨s_imul dX10_comes_18, ?_⟩
  refine List.forall_mem_cons.mpr ⟨s_iload_n dX10_comes_19 rfl, ?_⟩
  refine List.forall_mem_cons.mpr ⟨s_aload_n dX10_comes_20 rfl, ?_⟩
  refine List.forall_mem_cons.mpr ⟨s_getI cf_X10 (Nat.le_of_ble_eq_true rfl) rfl fl_X10_16 dX10_comes_21, ?_⟩
  refine List.forall_mem_cons.mpr ⟨s_imul dX10_comes_24, ?_⟩
  refine List.forall_mem_cons.mpr ⟨s_icmp_lt dX10_comes_25 (by decide), ?_⟩
  refine List.forall_mem_cons.mpr ⟨s_lload_n dX10_comes_28 rfl, ?_⟩
  refine List.forall_mem_cons.mpr ⟨s_aload_n dX10_comes_29 rfl, ?_⟩
  refine List.forall_mem_cons.mpr ⟨s_getI cf_X10 (Nat.le_of_ble_eq_true rfl) rfl fl_X10_16 dX10_comes_30, ?_⟩
  refine List.forall_mem_cons.mpr ⟨s_iload dX10_comes_33, ?_⟩
  refine List.forall_mem_cons.mpr ⟨s_callSL ca_X10_choose ml_X10_163 st_X10_choose ⟨(Nat.le_of_ble_eq_true rfl), (Nat.le_of_ble_eq_true rfl)⟩ dX10_comes_35, ?_⟩
  refine List.forall_mem_cons.mpr ⟨s_aload_n dX10_comes_38 rfl, ?_⟩
  refine List.forall_mem_cons.mpr ⟨s_getR (j := 12) cf_X10 (Nat.le_of_ble_eq_true rfl) rfl fl_X10_32 dX10_comes_39, ?_⟩
  refine List.forall_mem_cons.mpr ⟨s_iload_n dX10_comes_42 rfl, ?_⟩
  refine List.forall_mem_cons.mpr ⟨s_iaload dX10_comes_43, ?_⟩
  refine List.forall_mem_cons.mpr ⟨s_i2l dX10_comes_44, ?_⟩
  refine List.forall_mem_cons.mpr ⟨s_iload dX10_comes_45, ?_⟩
  refine List.forall_mem_cons.mpr ⟨s_callSL ca_X10_toThe ml_X10_167 st_X10_toThe ⟨(Nat.le_of_ble_eq_true rfl), (Nat.le_of_ble_eq_true rfl)⟩ dX10_comes_47, ?_⟩
  refine List.forall_mem_cons.mpr ⟨s_lmul dX10_comes_50, ?_⟩
  refine List.forall_mem_cons.mpr ⟨s_bipush dX10_comes_51 (by decide), ?_⟩
  refine List.forall_mem_cons.mpr ⟨s_aload_n dX10_comes_53 rfl, ?_⟩
  refine List.forall_mem_cons.mpr ⟨s_getR (j := 12) cf_X10 (Nat.le_of_ble_eq_true rfl) rfl fl_X10_32 dX10_comes_54, ?_⟩
  refine List.forall_mem_cons.mpr ⟨s_iload_n dX10_comes_57 rfl, ?_⟩
  refine List.forall_mem_cons.mpr ⟨s_iaload dX10_comes_58, ?_⟩
  refine List.forall_mem_cons.mpr ⟨s_isub dX10_comes_59, ?_⟩
  refine List.forall_mem_cons.mpr ⟨s_i2l dX10_comes_60, ?_⟩
  refine List.forall_mem_cons.mpr ⟨s_aload_n dX10_comes_61 rfl, ?_⟩
  refine List.forall_mem_cons.mpr ⟨s_getI cf_X10 (Nat.le_of_ble_eq_true rfl) rfl fl_X10_16 dX10_comes_62, ?_⟩
  refine List.forall_mem_cons.mpr ⟨s_iload dX10_comes_65, ?_⟩
  refine List.forall_mem_cons.mpr ⟨s_isub dX10_comes_67, ?_⟩
  refine List.forall_mem_cons.mpr ⟨s_callSL ca_X10_toThe ml_X10_167 st_X10_toThe ⟨(Nat.le_of_ble_eq_true rfl), (Nat.le_of_ble_eq_true rfl)⟩ dX10_comes_68, ?_⟩
  refine List.forall_mem_cons.mpr ⟨s_lmul dX10_comes_71, ?_⟩
  refine List.forall_mem_cons.mpr ⟨s_ladd dX10_comes_72, ?_⟩
  refine List.forall_mem_cons.mpr ⟨s_lstore_n dX10_comes_73 rfl (Nat.le_of_ble_eq_true rfl), ?_⟩
  refine List.forall_mem_cons.mpr ⟨s_iinc dX10_comes_74 (by decide) (Nat.le_of_ble_eq_true rfl), ?_⟩
  refine List.forall_mem_cons.mpr ⟨s_goto dX10_comes_77 (by decide), ?_⟩
  refine List.forall_mem_cons.mpr ⟨s_aload_n dX10_comes_80 rfl, ?_⟩
  refine List.forall_mem_cons.mpr ⟨s_getI cf_X10 (Nat.le_of_ble_eq_true rfl) rfl fl_X10_16 dX10_comes_81, ?_⟩
  refine List.forall_mem_cons.mpr ⟨s_iconst dX10_comes_84 (by decide), ?_⟩
  refine List.forall_mem_cons.mpr ⟨s_icmp_ge dX10_comes_85 (by decide), ?_⟩
  refine List.forall_mem_cons.mpr ⟨s_lload_n dX10_comes_88 rfl, ?_⟩
  refine List.forall_mem_cons.mpr ⟨s_ldc2 dX10_comes_89 cs_X10_171, ?_⟩
  refine List.forall_mem_cons.mpr ⟨s_iconst dX10_comes_92 (by decide), ?_⟩
  refine List.forall_mem_cons.mpr ⟨s_aload_n dX10_comes_93 rfl, ?_⟩
  refine List.forall_mem_cons.mpr ⟨s_getI cf_X10 (Nat.le_of_ble_eq_true rfl) rfl fl_X10_16 dX10_comes_94, ?_⟩
  refine List.forall_mem_cons.mpr ⟨s_isub dX10_comes_97, ?_⟩
  refine List.forall_mem_cons.mpr ⟨s_callSL ca_X10_toThe ml_X10_167 st_X10_toThe ⟨(Nat.le_of_ble_eq_true rfl), (Nat.le_of_ble_eq_true rfl)⟩ dX10_comes_98, ?_⟩
  refine List.forall_mem_cons.mpr ⟨s_lmul dX10_comes_101, ?_⟩
  refine List.forall_mem_cons.mpr ⟨s_goto dX10_comes_102 (by decide), ?_⟩
  refine List.forall_mem_cons.mpr ⟨s_lload_n dX10_comes_105 rfl, ?_⟩
  refine List.forall_mem_cons.mpr ⟨s_ldc2 dX10_comes_106 cs_X10_171, ?_⟩
  refine List.forall_mem_cons.mpr ⟨s_aload_n dX10_comes_109 rfl, ?_⟩
  refine List.forall_mem_cons.mpr ⟨s_getI cf_X10 (Nat.le_of_ble_eq_true rfl) rfl fl_X10_16 dX10_comes_110, ?_⟩
  refine List.forall_mem_cons.mpr ⟨s_iconst dX10_comes_113 (by decide), ?_⟩
  refine List.forall_mem_cons.mpr ⟨s_isub dX10_comes_114, ?_⟩
  refine List.forall_mem_cons.mpr ⟨s_callSL ca_X10_toThe ml_X10_167 st_X10_toThe ⟨(Nat.le_of_ble_eq_true rfl), (Nat.le_of_ble_eq_true rfl)⟩ dX10_comes_115, ?_⟩
  refine List.forall_mem_cons.mpr ⟨s_ldiv dX10_comes_118, ?_⟩
  refine List.forall_mem_cons.mpr ⟨s_l2i dX10_comes_119, ?_⟩
  refine List.forall_mem_cons.mpr ⟨s_ireturn dX10_comes_120 rfl, ?_⟩
  exact fun _ h => absurd h List.not_mem_nil
def cd_X10_passes : sv_Cd := [(0, o_il 1 1),
  (1, o_ic 0 2),
  (2, o_ic 4 3),
  (3, o_sI m_X10_in 3 6),
  (6, o_if (fun x => x = 0) 28 9),
  (9, o_il 2 10),
  (10, o_ic 1 11),
  (11, o_ic 100 13),
  (13, o_sI m_X10_in 3 16),
  (16, o_if (fun x => x = 0) 28 19),
  (19, o_al 0 20),
  (20, o_il 1 21),
  (21, o_il 2 22),
  (22, o_vI m_X10_comes 2 40 25),
  (25, o_go 30),
  (28, o_ic (-2) 30),
  (30, o_ir)]
set_option maxRecDepth 20000 in
theorem sn_X10_passes : ∀ q ∈ cd_X10_passes, sv_Snd m_X10_passes q.1 q.2 := by
  unfold cd_X10_passes
  refine List.forall_mem_cons.mpr ⟨s_iload_n dX10_passes_0 rfl, ?_⟩
  refine List.forall_mem_cons.mpr ⟨s_iconst dX10_passes_1 (by decide), ?_⟩
  refine List.forall_mem_cons.mpr ⟨s_iconst dX10_passes_2 (by decide), ?_⟩
  refine List.forall_mem_cons.mpr ⟨s_callSI ca_X10_in ml_X10_75 st_X10_in ⟨(Nat.le_of_ble_eq_true rfl), (Nat.le_of_ble_eq_true rfl)⟩ dX10_passes_3, ?_⟩
  refine List.forall_mem_cons.mpr ⟨s_if_eq dX10_passes_6 (by decide), ?_⟩
  refine List.forall_mem_cons.mpr ⟨s_iload_n dX10_passes_9 rfl, ?_⟩
  refine List.forall_mem_cons.mpr ⟨s_iconst dX10_passes_10 (by decide), ?_⟩
  refine List.forall_mem_cons.mpr ⟨s_bipush dX10_passes_11 (by decide), ?_⟩
  refine List.forall_mem_cons.mpr ⟨s_callSI ca_X10_in ml_X10_75 st_X10_in ⟨(Nat.le_of_ble_eq_true rfl), (Nat.le_of_ble_eq_true rfl)⟩ dX10_passes_13, ?_⟩
  refine List.forall_mem_cons.mpr ⟨s_if_eq dX10_passes_16 (by decide), ?_⟩
  refine List.forall_mem_cons.mpr ⟨s_aload_n dX10_passes_19 rfl, ?_⟩
  refine List.forall_mem_cons.mpr ⟨s_iload_n dX10_passes_20 rfl, ?_⟩
  refine List.forall_mem_cons.mpr ⟨s_iload_n dX10_passes_21 rfl, ?_⟩
  refine List.forall_mem_cons.mpr ⟨s_callVI cf_X10 rfl ca_X10_comes ml_X10_173 im_X10_comes se_X10_comes ⟨(Nat.le_of_ble_eq_true rfl), (Nat.le_of_ble_eq_true rfl)⟩ dX10_passes_22, ?_⟩
  refine List.forall_mem_cons.mpr ⟨s_goto dX10_passes_25 (by decide), ?_⟩
  refine List.forall_mem_cons.mpr ⟨s_bipush dX10_passes_28 (by decide), ?_⟩
  refine List.forall_mem_cons.mpr ⟨s_ireturn dX10_passes_30 rfl, ?_⟩
  exact fun _ h => absurd h List.not_mem_nil
def cd_X10_all : sv_Cd := [(0, o_il 1 1),
  (1, o_ic 0 2),
  (2, o_ic 4 3),
  (3, o_sI m_X10_in 3 6),
  (6, o_if (fun x => x = 0) 9 12),
  (9, o_ic (-2) 11),
  (11, o_ir),
  (12, o_al 0 13),
  (13, o_vV m_X10_read 0 40 16),
  (16, o_al 0 17),
  (17, o_gI 40 11 20),
  (20, o_ic (-1) 21),
  (21, o_ic2 (fun x y => x = y) 27 24),
  (24, o_ic (-3) 26),
  (26, o_ir),
  (27, o_lc 1000000 30),
  (30, o_ls 2 31),
  (31, o_ic 0 32),
  (32, o_is 4 34),
  (34, o_il 4 36),
  (36, o_al 0 37),
  (37, o_gI 40 6 40),
  (40, o_ic2 (fun x y => y ≤ x) 69 43),
  (43, o_ll 2 44),
  (44, o_al 0 45),
  (45, o_il 1 46),
  (46, o_al 0 47),
  (47, o_gR 40 44 50),
  (50, o_il 4 52),
  (52, o_ia 53),
  (53, o_vI m_X10_comes 2 40 56),
  (56, o_i2l 57),
  (57, o_lb (fun x y => x * y) 58),
  (58, o_lc 1000000 61),
  (61, o_ld (fun x y => x / y) 62),
  (62, o_ls 2 63),
  (63, o_in 4 1 66),
  (66, o_go 34),
  (69, o_ll 2 70),
  (70, o_l2i 71),
  (71, o_ir)]
set_option maxRecDepth 20000 in
theorem sn_X10_all : ∀ q ∈ cd_X10_all, sv_Snd m_X10_all q.1 q.2 := by
  unfold cd_X10_all
  refine List.forall_mem_cons.mpr ⟨s_iload_n dX10_all_0 rfl, ?_⟩
  refine List.forall_mem_cons.mpr ⟨s_iconst dX10_all_1 (by decide), ?_⟩
  refine List.forall_mem_cons.mpr ⟨s_iconst dX10_all_2 (by decide), ?_⟩
  refine List.forall_mem_cons.mpr ⟨s_callSI ca_X10_in ml_X10_75 st_X10_in ⟨(Nat.le_of_ble_eq_true rfl), (Nat.le_of_ble_eq_true rfl)⟩ dX10_all_3, ?_⟩
  refine List.forall_mem_cons.mpr ⟨s_if_ne dX10_all_6 (by decide), ?_⟩
  refine List.forall_mem_cons.mpr ⟨s_bipush dX10_all_9 (by decide), ?_⟩
  refine List.forall_mem_cons.mpr ⟨s_ireturn dX10_all_11 rfl, ?_⟩
  refine List.forall_mem_cons.mpr ⟨s_aload_n dX10_all_12 rfl, ?_⟩
  refine List.forall_mem_cons.mpr ⟨s_callVV cf_X10 rfl ca_X10_read ml_X10_118 im_X10_read se_X10_read ⟨(Nat.le_of_ble_eq_true rfl), (Nat.le_of_ble_eq_true rfl)⟩ dX10_all_13, ?_⟩
  refine List.forall_mem_cons.mpr ⟨s_aload_n dX10_all_16 rfl, ?_⟩
  refine List.forall_mem_cons.mpr ⟨s_getI cf_X10 (Nat.le_of_ble_eq_true rfl) rfl fl_X10_98 dX10_all_17, ?_⟩
  refine List.forall_mem_cons.mpr ⟨s_iconst dX10_all_20 (by decide), ?_⟩
  refine List.forall_mem_cons.mpr ⟨s_icmp_eq dX10_all_21 (by decide), ?_⟩
  refine List.forall_mem_cons.mpr ⟨s_bipush dX10_all_24 (by decide), ?_⟩
  refine List.forall_mem_cons.mpr ⟨s_ireturn dX10_all_26 rfl, ?_⟩
  refine List.forall_mem_cons.mpr ⟨s_ldc2 dX10_all_27 cs_X10_176, ?_⟩
  refine List.forall_mem_cons.mpr ⟨s_lstore_n dX10_all_30 rfl (Nat.le_of_ble_eq_true rfl), ?_⟩
  refine List.forall_mem_cons.mpr ⟨s_iconst dX10_all_31 (by decide), ?_⟩
  refine List.forall_mem_cons.mpr ⟨s_istore dX10_all_32 (Nat.le_of_ble_eq_true rfl), ?_⟩
  refine List.forall_mem_cons.mpr ⟨s_iload dX10_all_34, ?_⟩
  refine List.forall_mem_cons.mpr ⟨s_aload_n dX10_all_36 rfl, ?_⟩
  refine List.forall_mem_cons.mpr ⟨s_getI cf_X10 (Nat.le_of_ble_eq_true rfl) rfl fl_X10_108 dX10_all_37, ?_⟩
  refine List.forall_mem_cons.mpr ⟨s_icmp_ge dX10_all_40 (by decide), ?_⟩
  refine List.forall_mem_cons.mpr ⟨s_lload_n dX10_all_43 rfl, ?_⟩
  refine List.forall_mem_cons.mpr ⟨s_aload_n dX10_all_44 rfl, ?_⟩
  refine List.forall_mem_cons.mpr ⟨s_iload_n dX10_all_45 rfl, ?_⟩
  refine List.forall_mem_cons.mpr ⟨s_aload_n dX10_all_46 rfl, ?_⟩
  refine List.forall_mem_cons.mpr ⟨s_getR (j := 7) cf_X10 (Nat.le_of_ble_eq_true rfl) rfl fl_X10_23 dX10_all_47, ?_⟩
  refine List.forall_mem_cons.mpr ⟨s_iload dX10_all_50, ?_⟩
  refine List.forall_mem_cons.mpr ⟨s_iaload dX10_all_52, ?_⟩
  refine List.forall_mem_cons.mpr ⟨s_callVI cf_X10 rfl ca_X10_comes ml_X10_173 im_X10_comes se_X10_comes ⟨(Nat.le_of_ble_eq_true rfl), (Nat.le_of_ble_eq_true rfl)⟩ dX10_all_53, ?_⟩
  refine List.forall_mem_cons.mpr ⟨s_i2l dX10_all_56, ?_⟩
  refine List.forall_mem_cons.mpr ⟨s_lmul dX10_all_57, ?_⟩
  refine List.forall_mem_cons.mpr ⟨s_ldc2 dX10_all_58 cs_X10_176, ?_⟩
  refine List.forall_mem_cons.mpr ⟨s_ldiv dX10_all_61, ?_⟩
  refine List.forall_mem_cons.mpr ⟨s_lstore_n dX10_all_62 rfl (Nat.le_of_ble_eq_true rfl), ?_⟩
  refine List.forall_mem_cons.mpr ⟨s_iinc dX10_all_63 (by decide) (Nat.le_of_ble_eq_true rfl), ?_⟩
  refine List.forall_mem_cons.mpr ⟨s_goto dX10_all_66 (by decide), ?_⟩
  refine List.forall_mem_cons.mpr ⟨s_lload_n dX10_all_69 rfl, ?_⟩
  refine List.forall_mem_cons.mpr ⟨s_l2i dX10_all_70, ?_⟩
  refine List.forall_mem_cons.mpr ⟨s_ireturn dX10_all_71 rfl, ?_⟩
  exact fun _ h => absurd h List.not_mem_nil
def cd_X10_falseShare : sv_Cd := [(0, o_il 0 1),
  (1, o_il 1 2),
  (2, o_b (fun x y => x + y) 3),
  (3, o_is 4 5),
  (5, o_il 2 6),
  (6, o_il 3 7),
  (7, o_b (fun x y => x + y) 8),
  (8, o_is 5 10),
  (10, o_il 0 11),
  (11, o_il 2 12),
  (12, o_b (fun x y => x + y) 13),
  (13, o_is 6 15),
  (15, o_il 4 17),
  (17, o_il 5 19),
  (19, o_b (fun x y => x + y) 20),
  (20, o_is 7 22),
  (22, o_il 4 24),
  (24, o_if (fun x => x = 0) 27 41),
  (27, o_il 5 29),
  (29, o_if (fun x => x = 0) 32 36),
  (32, o_ic 0 33),
  (33, o_go 59),
  (36, o_il 2 37),
  (37, o_u (fun x => -x) 38),
  (38, o_go 59),
  (41, o_il 5 43),
  (43, o_if (fun x => x = 0) 46 50),
  (46, o_il 0 47),
  (47, o_go 59),
  (50, o_il 0 51),
  (51, o_il 5 53),
  (53, o_b (fun x y => x * y) 54),
  (54, o_il 2 55),
  (55, o_il 4 57),
  (57, o_b (fun x y => x * y) 58),
  (58, o_b (fun x y => x - y) 59),
  (59, o_is 8 61),
  (61, o_lc 0 62),
  (62, o_ls 9 64),
  (64, o_ic 0 65),
  (65, o_is 11 67),
  (67, o_il 11 69),
  (69, o_il 4 71),
  (71, o_ic2 (fun x y => y < x) 167 74),
  (74, o_il 8 76),
  (76, o_if (fun x => x < 0) 93 79),
  (79, o_il 11 81),
  (81, o_il 0 82),
  (82, o_ic2 (fun x y => x < y) 89 85),
  (85, o_ic 1 86),
  (86, o_go 104),
  (89, o_ic 0 90),
  (90, o_go 104),
  (93, o_il 11 95),
  (95, o_il 0 96),
  (96, o_ic2 (fun x y => y < x) 103 99),
  (99, o_ic 1 100),
  (100, o_go 104),
  (103, o_ic 0 104),
  (104, o_is 12 106),
  (106, o_ll 9 108),
  (108, o_il 12 110),
  (110, o_if (fun x => x = 0) 157 113),
  (113, o_il 11 115),
  (115, o_il 6 117),
  (117, o_ic2 (fun x y => y < x) 157 120),
  (120, o_il 4 122),
  (122, o_il 11 124),
  (124, o_b (fun x y => x - y) 125),
  (125, o_il 7 127),
  (127, o_il 6 129),
  (129, o_b (fun x y => x - y) 130),
  (130, o_ic2 (fun x y => y < x) 157 133),
  (133, o_il 6 135),
  (135, o_il 11 137),
  (137, o_sL m_X10_choose 2 140),
  (140, o_il 7 142),
  (142, o_il 6 144),
  (144, o_b (fun x y => x - y) 145),
  (145, o_il 4 147),
  (147, o_il 11 149),
  (149, o_b (fun x y => x - y) 150),
  (150, o_sL m_X10_choose 2 153),
  (153, o_lb (fun x y => x * y) 154),
  (154, o_go 158),
  (157, o_lc 0 158),
  (158, o_lb (fun x y => x + y) 159),
  (159, o_ls 9 161),
  (161, o_in 11 1 164),
  (164, o_go 67),
  (167, o_il 7 169),
  (169, o_il 4 171),
  (171, o_sL m_X10_choose 2 174),
  (174, o_ls 11 176),
  (176, o_ic 0 177),
  (177, o_is 13 179),
  (179, o_ic 0 180),
  (180, o_is 14 182),
  (182, o_il 14 184),
  (184, o_ic 6 186),
  (186, o_ic2 (fun x y => y ≤ x) 224 189),
  (189, o_ll 9 191),
  (191, o_lc 10 194),
  (194, o_lb (fun x y => x * y) 195),
  (195, o_ls 9 197),
  (197, o_ic 10 199),
  (199, o_il 13 201),
  (201, o_b (fun x y => x * y) 202),
  (202, o_ll 9 204),
  (204, o_ll 11 206),
  (206, o_ld (fun x y => x / y) 207),
  (207, o_l2i 208),
  (208, o_b (fun x y => x + y) 209),
  (209, o_is 13 211),
  (211, o_ll 9 213),
  (213, o_ll 11 215),
  (215, o_ld (fun x y => x - x / y * y) 216),
  (216, o_ls 9 218),
  (218, o_in 14 1 221),
  (221, o_go 182),
  (224, o_il 13 226),
  (226, o_ir)]
set_option maxRecDepth 20000 in
theorem sn_X10_falseShare : ∀ q ∈ cd_X10_falseShare, sv_Snd m_X10_falseShare q.1 q.2 := by
  unfold cd_X10_falseShare
  refine List.forall_mem_cons.mpr ⟨s_iload_n dX10_falseShare_0 rfl, ?_⟩
  refine List.forall_mem_cons.mpr ⟨s_iload_n dX10_falseShare_1 rfl, ?_⟩
  refine List.forall_mem_cons.mpr ⟨s_iadd dX10_falseShare_2, ?_⟩
  refine List.forall_mem_cons.mpr ⟨s_istore dX10_falseShare_3 (Nat.le_of_ble_eq_true rfl), ?_⟩
  refine List.forall_mem_cons.mpr ⟨s_iload_n dX10_falseShare_5 rfl, ?_⟩
  refine List.forall_mem_cons.mpr ⟨s_iload_n dX10_falseShare_6 rfl, ?_⟩
  refine List.forall_mem_cons.mpr ⟨s_iadd dX10_falseShare_7, ?_⟩
  refine List.forall_mem_cons.mpr ⟨s_istore dX10_falseShare_8 (Nat.le_of_ble_eq_true rfl), ?_⟩
  refine List.forall_mem_cons.mpr ⟨s_iload_n dX10_falseShare_10 rfl, ?_⟩
  refine List.forall_mem_cons.mpr ⟨s_iload_n dX10_falseShare_11 rfl, ?_⟩
  refine List.forall_mem_cons.mpr ⟨s_iadd dX10_falseShare_12, ?_⟩
  refine List.forall_mem_cons.mpr ⟨s_istore dX10_falseShare_13 (Nat.le_of_ble_eq_true rfl), ?_⟩
  refine List.forall_mem_cons.mpr ⟨s_iload dX10_falseShare_15, ?_⟩
  refine List.forall_mem_cons.mpr ⟨s_iload dX10_falseShare_17, ?_⟩
  refine List.forall_mem_cons.mpr ⟨s_iadd dX10_falseShare_19, ?_⟩
  refine List.forall_mem_cons.mpr ⟨s_istore dX10_falseShare_20 (Nat.le_of_ble_eq_true rfl), ?_⟩
  refine List.forall_mem_cons.mpr ⟨s_iload dX10_falseShare_22, ?_⟩
  refine List.forall_mem_cons.mpr ⟨s_if_ne dX10_falseShare_24 (by decide), ?_⟩
  refine List.forall_mem_cons.mpr ⟨s_iload dX10_falseShare_27, ?_⟩
  refine List.forall_mem_cons.mpr ⟨s_if_ne dX10_falseShare_29 (by decide), ?_⟩
  refine List.forall_mem_cons.mpr ⟨s_iconst dX10_falseShare_32 (by decide), ?_⟩
  refine List.forall_mem_cons.mpr ⟨s_goto dX10_falseShare_33 (by decide), ?_⟩
  refine List.forall_mem_cons.mpr ⟨s_iload_n dX10_falseShare_36 rfl, ?_⟩
  refine List.forall_mem_cons.mpr ⟨s_ineg dX10_falseShare_37, ?_⟩
  refine List.forall_mem_cons.mpr ⟨s_goto dX10_falseShare_38 (by decide), ?_⟩
  refine List.forall_mem_cons.mpr ⟨s_iload dX10_falseShare_41, ?_⟩
  refine List.forall_mem_cons.mpr ⟨s_if_ne dX10_falseShare_43 (by decide), ?_⟩
  refine List.forall_mem_cons.mpr ⟨s_iload_n dX10_falseShare_46 rfl, ?_⟩
  refine List.forall_mem_cons.mpr ⟨s_goto dX10_falseShare_47 (by decide), ?_⟩
  refine List.forall_mem_cons.mpr ⟨s_iload_n dX10_falseShare_50 rfl, ?_⟩
  refine List.forall_mem_cons.mpr ⟨s_iload dX10_falseShare_51, ?_⟩
  refine List.forall_mem_cons.mpr ⟨s_imul dX10_falseShare_53, ?_⟩
  refine List.forall_mem_cons.mpr ⟨s_iload_n dX10_falseShare_54 rfl, ?_⟩
  refine List.forall_mem_cons.mpr ⟨s_iload dX10_falseShare_55, ?_⟩
  refine List.forall_mem_cons.mpr ⟨s_imul dX10_falseShare_57, ?_⟩
  refine List.forall_mem_cons.mpr ⟨s_isub dX10_falseShare_58, ?_⟩
  refine List.forall_mem_cons.mpr ⟨s_istore dX10_falseShare_59 (Nat.le_of_ble_eq_true rfl), ?_⟩
  refine List.forall_mem_cons.mpr ⟨s_lconst dX10_falseShare_61 (by decide), ?_⟩
  refine List.forall_mem_cons.mpr ⟨s_lstore dX10_falseShare_62 (Nat.le_of_ble_eq_true rfl), ?_⟩
  refine List.forall_mem_cons.mpr ⟨s_iconst dX10_falseShare_64 (by decide), ?_⟩
  refine List.forall_mem_cons.mpr ⟨s_istore dX10_falseShare_65 (Nat.le_of_ble_eq_true rfl), ?_⟩
  refine List.forall_mem_cons.mpr ⟨s_iload dX10_falseShare_67, ?_⟩
  refine List.forall_mem_cons.mpr ⟨s_iload dX10_falseShare_69, ?_⟩
  refine List.forall_mem_cons.mpr ⟨s_icmp_gt dX10_falseShare_71 (by decide), ?_⟩
  refine List.forall_mem_cons.mpr ⟨s_iload dX10_falseShare_74, ?_⟩
  refine List.forall_mem_cons.mpr ⟨s_if_lt dX10_falseShare_76 (by decide), ?_⟩
  refine List.forall_mem_cons.mpr ⟨s_iload dX10_falseShare_79, ?_⟩
  refine List.forall_mem_cons.mpr ⟨s_iload_n dX10_falseShare_81 rfl, ?_⟩
  refine List.forall_mem_cons.mpr ⟨s_icmp_lt dX10_falseShare_82 (by decide), ?_⟩
  refine List.forall_mem_cons.mpr ⟨s_iconst dX10_falseShare_85 (by decide), ?_⟩
  refine List.forall_mem_cons.mpr ⟨s_goto dX10_falseShare_86 (by decide), ?_⟩
  refine List.forall_mem_cons.mpr ⟨s_iconst dX10_falseShare_89 (by decide), ?_⟩
  refine List.forall_mem_cons.mpr ⟨s_goto dX10_falseShare_90 (by decide), ?_⟩
  refine List.forall_mem_cons.mpr ⟨s_iload dX10_falseShare_93, ?_⟩
  refine List.forall_mem_cons.mpr ⟨s_iload_n dX10_falseShare_95 rfl, ?_⟩
  refine List.forall_mem_cons.mpr ⟨s_icmp_gt dX10_falseShare_96 (by decide), ?_⟩
  refine List.forall_mem_cons.mpr ⟨s_iconst dX10_falseShare_99 (by decide), ?_⟩
  refine List.forall_mem_cons.mpr ⟨s_goto dX10_falseShare_100 (by decide), ?_⟩
  refine List.forall_mem_cons.mpr ⟨s_iconst dX10_falseShare_103 (by decide), ?_⟩
  refine List.forall_mem_cons.mpr ⟨s_istore dX10_falseShare_104 (Nat.le_of_ble_eq_true rfl), ?_⟩
  refine List.forall_mem_cons.mpr ⟨s_lload dX10_falseShare_106, ?_⟩
  refine List.forall_mem_cons.mpr ⟨s_iload dX10_falseShare_108, ?_⟩
  refine List.forall_mem_cons.mpr ⟨s_if_eq dX10_falseShare_110 (by decide), ?_⟩
  refine List.forall_mem_cons.mpr ⟨s_iload dX10_falseShare_113, ?_⟩
  refine List.forall_mem_cons.mpr ⟨s_iload dX10_falseShare_115, ?_⟩
  refine List.forall_mem_cons.mpr ⟨s_icmp_gt dX10_falseShare_117 (by decide), ?_⟩
  refine List.forall_mem_cons.mpr ⟨s_iload dX10_falseShare_120, ?_⟩
  refine List.forall_mem_cons.mpr ⟨s_iload dX10_falseShare_122, ?_⟩
  refine List.forall_mem_cons.mpr ⟨s_isub dX10_falseShare_124, ?_⟩
  refine List.forall_mem_cons.mpr ⟨s_iload dX10_falseShare_125, ?_⟩
  refine List.forall_mem_cons.mpr ⟨s_iload dX10_falseShare_127, ?_⟩
  refine List.forall_mem_cons.mpr ⟨s_isub dX10_falseShare_129, ?_⟩
  refine List.forall_mem_cons.mpr ⟨s_icmp_gt dX10_falseShare_130 (by decide), ?_⟩
  refine List.forall_mem_cons.mpr ⟨s_iload dX10_falseShare_133, ?_⟩
  refine List.forall_mem_cons.mpr ⟨s_iload dX10_falseShare_135, ?_⟩
  refine List.forall_mem_cons.mpr ⟨s_callSL ca_X10_choose ml_X10_163 st_X10_choose ⟨(Nat.le_of_ble_eq_true rfl), (Nat.le_of_ble_eq_true rfl)⟩ dX10_falseShare_137, ?_⟩
  refine List.forall_mem_cons.mpr ⟨s_iload dX10_falseShare_140, ?_⟩
  refine List.forall_mem_cons.mpr ⟨s_iload dX10_falseShare_142, ?_⟩
  refine List.forall_mem_cons.mpr ⟨s_isub dX10_falseShare_144, ?_⟩
  refine List.forall_mem_cons.mpr ⟨s_iload dX10_falseShare_145, ?_⟩
  refine List.forall_mem_cons.mpr ⟨s_iload dX10_falseShare_147, ?_⟩
  refine List.forall_mem_cons.mpr ⟨s_isub dX10_falseShare_149, ?_⟩
  refine List.forall_mem_cons.mpr ⟨s_callSL ca_X10_choose ml_X10_163 st_X10_choose ⟨(Nat.le_of_ble_eq_true rfl), (Nat.le_of_ble_eq_true rfl)⟩ dX10_falseShare_150, ?_⟩
  refine List.forall_mem_cons.mpr ⟨s_lmul dX10_falseShare_153, ?_⟩
  refine List.forall_mem_cons.mpr ⟨s_goto dX10_falseShare_154 (by decide), ?_⟩
  refine List.forall_mem_cons.mpr ⟨s_lconst dX10_falseShare_157 (by decide), ?_⟩
  refine List.forall_mem_cons.mpr ⟨s_ladd dX10_falseShare_158, ?_⟩
  refine List.forall_mem_cons.mpr ⟨s_lstore dX10_falseShare_159 (Nat.le_of_ble_eq_true rfl), ?_⟩
  refine List.forall_mem_cons.mpr ⟨s_iinc dX10_falseShare_161 (by decide) (Nat.le_of_ble_eq_true rfl), ?_⟩
  refine List.forall_mem_cons.mpr ⟨s_goto dX10_falseShare_164 (by decide), ?_⟩
  refine List.forall_mem_cons.mpr ⟨s_iload dX10_falseShare_167, ?_⟩
  refine List.forall_mem_cons.mpr ⟨s_iload dX10_falseShare_169, ?_⟩
  refine List.forall_mem_cons.mpr ⟨s_callSL ca_X10_choose ml_X10_163 st_X10_choose ⟨(Nat.le_of_ble_eq_true rfl), (Nat.le_of_ble_eq_true rfl)⟩ dX10_falseShare_171, ?_⟩
  refine List.forall_mem_cons.mpr ⟨s_lstore dX10_falseShare_174 (Nat.le_of_ble_eq_true rfl), ?_⟩
  refine List.forall_mem_cons.mpr ⟨s_iconst dX10_falseShare_176 (by decide), ?_⟩
  refine List.forall_mem_cons.mpr ⟨s_istore dX10_falseShare_177 (Nat.le_of_ble_eq_true rfl), ?_⟩
  refine List.forall_mem_cons.mpr ⟨s_iconst dX10_falseShare_179 (by decide), ?_⟩
  refine List.forall_mem_cons.mpr ⟨s_istore dX10_falseShare_180 (Nat.le_of_ble_eq_true rfl), ?_⟩
  refine List.forall_mem_cons.mpr ⟨s_iload dX10_falseShare_182, ?_⟩
  refine List.forall_mem_cons.mpr ⟨s_bipush dX10_falseShare_184 (by decide), ?_⟩
  refine List.forall_mem_cons.mpr ⟨s_icmp_ge dX10_falseShare_186 (by decide), ?_⟩
  refine List.forall_mem_cons.mpr ⟨s_lload dX10_falseShare_189, ?_⟩
  refine List.forall_mem_cons.mpr ⟨s_ldc2 dX10_falseShare_191 cs_X10_178, ?_⟩
  refine List.forall_mem_cons.mpr ⟨s_lmul dX10_falseShare_194, ?_⟩
  refine List.forall_mem_cons.mpr ⟨s_lstore dX10_falseShare_195 (Nat.le_of_ble_eq_true rfl), ?_⟩
  refine List.forall_mem_cons.mpr ⟨s_bipush dX10_falseShare_197 (by decide), ?_⟩
  refine List.forall_mem_cons.mpr ⟨s_iload dX10_falseShare_199, ?_⟩
  refine List.forall_mem_cons.mpr ⟨s_imul dX10_falseShare_201, ?_⟩
  refine List.forall_mem_cons.mpr ⟨s_lload dX10_falseShare_202, ?_⟩
  refine List.forall_mem_cons.mpr ⟨s_lload dX10_falseShare_204, ?_⟩
  refine List.forall_mem_cons.mpr ⟨s_ldiv dX10_falseShare_206, ?_⟩
  refine List.forall_mem_cons.mpr ⟨s_l2i dX10_falseShare_207, ?_⟩
  refine List.forall_mem_cons.mpr ⟨s_iadd dX10_falseShare_208, ?_⟩
  refine List.forall_mem_cons.mpr ⟨s_istore dX10_falseShare_209 (Nat.le_of_ble_eq_true rfl), ?_⟩
  refine List.forall_mem_cons.mpr ⟨s_lload dX10_falseShare_211, ?_⟩
  refine List.forall_mem_cons.mpr ⟨s_lload dX10_falseShare_213, ?_⟩
  refine List.forall_mem_cons.mpr ⟨s_lrem dX10_falseShare_215, ?_⟩
  refine List.forall_mem_cons.mpr ⟨s_lstore dX10_falseShare_216 (Nat.le_of_ble_eq_true rfl), ?_⟩
  refine List.forall_mem_cons.mpr ⟨s_iinc dX10_falseShare_218 (by decide) (Nat.le_of_ble_eq_true rfl), ?_⟩
  refine List.forall_mem_cons.mpr ⟨s_goto dX10_falseShare_221 (by decide), ?_⟩
  refine List.forall_mem_cons.mpr ⟨s_iload dX10_falseShare_224, ?_⟩
  refine List.forall_mem_cons.mpr ⟨s_ireturn dX10_falseShare_226 rfl, ?_⟩
  exact fun _ h => absurd h List.not_mem_nil
def cd_X10_doubt : sv_Cd := [(0, o_il 1 1),
  (1, o_ic 0 2),
  (2, o_ic 15 4),
  (4, o_sI m_X10_in 3 7),
  (7, o_if (fun x => x = 0) 52 10),
  (10, o_il 2 11),
  (11, o_ic 0 12),
  (12, o_ic 15 14),
  (14, o_sI m_X10_in 3 17),
  (17, o_if (fun x => x = 0) 52 20),
  (20, o_il 3 21),
  (21, o_ic 0 22),
  (22, o_ic 15 24),
  (24, o_sI m_X10_in 3 27),
  (27, o_if (fun x => x = 0) 52 30),
  (30, o_il 4 32),
  (32, o_ic 0 33),
  (33, o_ic 15 35),
  (35, o_sI m_X10_in 3 38),
  (38, o_if (fun x => x = 0) 52 41),
  (41, o_il 1 42),
  (42, o_il 2 43),
  (43, o_il 3 44),
  (44, o_il 4 46),
  (46, o_sI m_X10_falseShare 4 49),
  (49, o_go 54),
  (52, o_ic (-2) 54),
  (54, o_ir)]
set_option maxRecDepth 20000 in
theorem sn_X10_doubt : ∀ q ∈ cd_X10_doubt, sv_Snd m_X10_doubt q.1 q.2 := by
  unfold cd_X10_doubt
  refine List.forall_mem_cons.mpr ⟨s_iload_n dX10_doubt_0 rfl, ?_⟩
  refine List.forall_mem_cons.mpr ⟨s_iconst dX10_doubt_1 (by decide), ?_⟩
  refine List.forall_mem_cons.mpr ⟨s_bipush dX10_doubt_2 (by decide), ?_⟩
  refine List.forall_mem_cons.mpr ⟨s_callSI ca_X10_in ml_X10_75 st_X10_in ⟨(Nat.le_of_ble_eq_true rfl), (Nat.le_of_ble_eq_true rfl)⟩ dX10_doubt_4, ?_⟩
  refine List.forall_mem_cons.mpr ⟨s_if_eq dX10_doubt_7 (by decide), ?_⟩
  refine List.forall_mem_cons.mpr ⟨s_iload_n dX10_doubt_10 rfl, ?_⟩
  refine List.forall_mem_cons.mpr ⟨s_iconst dX10_doubt_11 (by decide), ?_⟩
  refine List.forall_mem_cons.mpr ⟨s_bipush dX10_doubt_12 (by decide), ?_⟩
  refine List.forall_mem_cons.mpr ⟨s_callSI ca_X10_in ml_X10_75 st_X10_in ⟨(Nat.le_of_ble_eq_true rfl), (Nat.le_of_ble_eq_true rfl)⟩ dX10_doubt_14, ?_⟩
  refine List.forall_mem_cons.mpr ⟨s_if_eq dX10_doubt_17 (by decide), ?_⟩
  refine List.forall_mem_cons.mpr ⟨s_iload_n dX10_doubt_20 rfl, ?_⟩
  refine List.forall_mem_cons.mpr ⟨s_iconst dX10_doubt_21 (by decide), ?_⟩
  refine List.forall_mem_cons.mpr ⟨s_bipush dX10_doubt_22 (by decide), ?_⟩
  refine List.forall_mem_cons.mpr ⟨s_callSI ca_X10_in ml_X10_75 st_X10_in ⟨(Nat.le_of_ble_eq_true rfl), (Nat.le_of_ble_eq_true rfl)⟩ dX10_doubt_24, ?_⟩
  refine List.forall_mem_cons.mpr ⟨s_if_eq dX10_doubt_27 (by decide), ?_⟩
  refine List.forall_mem_cons.mpr ⟨s_iload dX10_doubt_30, ?_⟩
  refine List.forall_mem_cons.mpr ⟨s_iconst dX10_doubt_32 (by decide), ?_⟩
  refine List.forall_mem_cons.mpr ⟨s_bipush dX10_doubt_33 (by decide), ?_⟩
  refine List.forall_mem_cons.mpr ⟨s_callSI ca_X10_in ml_X10_75 st_X10_in ⟨(Nat.le_of_ble_eq_true rfl), (Nat.le_of_ble_eq_true rfl)⟩ dX10_doubt_35, ?_⟩
  refine List.forall_mem_cons.mpr ⟨s_if_eq dX10_doubt_38 (by decide), ?_⟩
  refine List.forall_mem_cons.mpr ⟨s_iload_n dX10_doubt_41 rfl, ?_⟩
  refine List.forall_mem_cons.mpr ⟨s_iload_n dX10_doubt_42 rfl, ?_⟩
  refine List.forall_mem_cons.mpr ⟨s_iload_n dX10_doubt_43 rfl, ?_⟩
  refine List.forall_mem_cons.mpr ⟨s_iload dX10_doubt_44, ?_⟩
  refine List.forall_mem_cons.mpr ⟨s_callSI ca_X10_falseShare ml_X10_180 st_X10_falseShare ⟨(Nat.le_of_ble_eq_true rfl), (Nat.le_of_ble_eq_true rfl)⟩ dX10_doubt_46, ?_⟩
  refine List.forall_mem_cons.mpr ⟨s_goto dX10_doubt_49 (by decide), ?_⟩
  refine List.forall_mem_cons.mpr ⟨s_bipush dX10_doubt_52 (by decide), ?_⟩
  refine List.forall_mem_cons.mpr ⟨s_ireturn dX10_doubt_54 rfl, ?_⟩
  exact fun _ h => absurd h List.not_mem_nil
def cd_X10_morning : sv_Cd := [(0, o_il 2 1),
  (1, o_ic 0 2),
  (2, o_ic 4 3),
  (3, o_sI m_X10_in 3 6),
  (6, o_if (fun x => x = 0) 9 12),
  (9, o_ic (-2) 11),
  (11, o_ir),
  (12, o_al 0 13),
  (13, o_il 1 14),
  (14, o_vI m_X10_refuses 1 40 17),
  (17, o_is 3 18),
  (18, o_il 3 19),
  (19, o_if (fun x => x = 0) 24 22),
  (22, o_il 3 23),
  (23, o_ir),
  (24, o_ic 0 25),
  (25, o_is 4 27),
  (27, o_il 4 29),
  (29, o_ic 4 30),
  (30, o_ic2 (fun x y => y ≤ x) 47 33),
  (33, o_al 0 34),
  (34, o_gR 40 48 37),
  (37, o_il 4 39),
  (39, o_ic 0 40),
  (40, o_is3 41),
  (41, o_in 4 1 44),
  (44, o_go 27),
  (47, o_ic 0 48),
  (48, o_is 4 50),
  (50, o_il 4 52),
  (52, o_al 0 53),
  (53, o_gI 40 0 56),
  (56, o_ic2 (fun x y => y ≤ x) 125 59),
  (59, o_al 0 60),
  (60, o_gR 40 42 63),
  (63, o_il 4 65),
  (65, o_ia 66),
  (66, o_is 5 68),
  (68, o_al 0 69),
  (69, o_il 5 71),
  (71, o_il 1 72),
  (72, o_vI m_X10_counted 2 40 75),
  (75, o_if (fun x => x ≤ 0) 119 78),
  (78, o_al 0 79),
  (79, o_gR 40 48 82),
  (82, o_il 4 84),
  (84, o_al 0 85),
  (85, o_gI 40 0 88),
  (88, o_ic 2 89),
  (89, o_bd (fun x y => x / y) 90),
  (90, o_ic2 (fun x y => y ≤ x) 97 93),
  (93, o_ic 0 94),
  (94, o_go 98),
  (97, o_ic 2 98),
  (98, o_al 0 99),
  (99, o_il 5 101),
  (101, o_il 1 102),
  (102, o_vI m_X10_passesIn 2 40 105),
  (105, o_if (fun x => x = 0) 112 108),
  (108, o_ic 0 109),
  (109, o_go 113),
  (112, o_ic 1 113),
  (113, o_b (fun x y => x + y) 114),
  (114, o_dup2 115),
  (115, o_ia 116),
  (116, o_ic 1 117),
  (117, o_b (fun x y => x + y) 118),
  (118, o_is3 119),
  (119, o_in 4 1 122),
  (122, o_go 50),
  (125, o_il 2 126),
  (126, o_ic 4 127),
  (127, o_ic2 (fun x y => x = y) 130 160),
  (130, o_al 0 131),
  (131, o_gR 40 48 134),
  (134, o_ic 0 135),
  (135, o_ia 136),
  (136, o_al 0 137),
  (137, o_gR 40 48 140),
  (140, o_ic 1 141),
  (141, o_ia 142),
  (142, o_al 0 143),
  (143, o_gR 40 48 146),
  (146, o_ic 2 147),
  (147, o_ia 148),
  (148, o_al 0 149),
  (149, o_gR 40 48 152),
  (152, o_ic 3 153),
  (153, o_ia 154),
  (154, o_sI m_X10_falseShare 4 157),
  (157, o_go 166),
  (160, o_al 0 161),
  (161, o_gR 40 48 164),
  (164, o_il 2 165),
  (165, o_ia 166),
  (166, o_ir)]
set_option maxRecDepth 20000 in
theorem sn_X10_morning : ∀ q ∈ cd_X10_morning, sv_Snd m_X10_morning q.1 q.2 := by
  unfold cd_X10_morning
  refine List.forall_mem_cons.mpr ⟨s_iload_n dX10_morning_0 rfl, ?_⟩
  refine List.forall_mem_cons.mpr ⟨s_iconst dX10_morning_1 (by decide), ?_⟩
  refine List.forall_mem_cons.mpr ⟨s_iconst dX10_morning_2 (by decide), ?_⟩
  refine List.forall_mem_cons.mpr ⟨s_callSI ca_X10_in ml_X10_75 st_X10_in ⟨(Nat.le_of_ble_eq_true rfl), (Nat.le_of_ble_eq_true rfl)⟩ dX10_morning_3, ?_⟩
  refine List.forall_mem_cons.mpr ⟨s_if_ne dX10_morning_6 (by decide), ?_⟩
  refine List.forall_mem_cons.mpr ⟨s_bipush dX10_morning_9 (by decide), ?_⟩
  refine List.forall_mem_cons.mpr ⟨s_ireturn dX10_morning_11 rfl, ?_⟩
  refine List.forall_mem_cons.mpr ⟨s_aload_n dX10_morning_12 rfl, ?_⟩
  refine List.forall_mem_cons.mpr ⟨s_iload_n dX10_morning_13 rfl, ?_⟩
  refine List.forall_mem_cons.mpr ⟨s_callVI cf_X10 rfl ca_X10_refuses ml_X10_121 im_X10_refuses se_X10_refuses ⟨(Nat.le_of_ble_eq_true rfl), (Nat.le_of_ble_eq_true rfl)⟩ dX10_morning_14, ?_⟩
  refine List.forall_mem_cons.mpr ⟨s_istore_n dX10_morning_17 rfl (Nat.le_of_ble_eq_true rfl), ?_⟩
  refine List.forall_mem_cons.mpr ⟨s_iload_n dX10_morning_18 rfl, ?_⟩
  refine List.forall_mem_cons.mpr ⟨s_if_eq dX10_morning_19 (by decide), ?_⟩
  refine List.forall_mem_cons.mpr ⟨s_iload_n dX10_morning_22 rfl, ?_⟩
  refine List.forall_mem_cons.mpr ⟨s_ireturn dX10_morning_23 rfl, ?_⟩
  refine List.forall_mem_cons.mpr ⟨s_iconst dX10_morning_24 (by decide), ?_⟩
  refine List.forall_mem_cons.mpr ⟨s_istore dX10_morning_25 (Nat.le_of_ble_eq_true rfl), ?_⟩
  refine List.forall_mem_cons.mpr ⟨s_iload dX10_morning_27, ?_⟩
  refine List.forall_mem_cons.mpr ⟨s_iconst dX10_morning_29 (by decide), ?_⟩
  refine List.forall_mem_cons.mpr ⟨s_icmp_ge dX10_morning_30 (by decide), ?_⟩
  refine List.forall_mem_cons.mpr ⟨s_aload_n dX10_morning_33 rfl, ?_⟩
  refine List.forall_mem_cons.mpr ⟨s_getR (j := 13) cf_X10 (Nat.le_of_ble_eq_true rfl) rfl fl_X10_35 dX10_morning_34, ?_⟩
  refine List.forall_mem_cons.mpr ⟨s_iload dX10_morning_37, ?_⟩
  refine List.forall_mem_cons.mpr ⟨s_iconst dX10_morning_39 (by decide), ?_⟩
  refine List.forall_mem_cons.mpr ⟨s_iastore dX10_morning_40, ?_⟩
  refine List.forall_mem_cons.mpr ⟨s_iinc dX10_morning_41 (by decide) (Nat.le_of_ble_eq_true rfl), ?_⟩
  refine List.forall_mem_cons.mpr ⟨s_goto dX10_morning_44 (by decide), ?_⟩
  refine List.forall_mem_cons.mpr ⟨s_iconst dX10_morning_47 (by decide), ?_⟩
  refine List.forall_mem_cons.mpr ⟨s_istore dX10_morning_48 (Nat.le_of_ble_eq_true rfl), ?_⟩
  refine List.forall_mem_cons.mpr ⟨s_iload dX10_morning_50, ?_⟩
  refine List.forall_mem_cons.mpr ⟨s_aload_n dX10_morning_52 rfl, ?_⟩
  refine List.forall_mem_cons.mpr ⟨s_getI cf_X10 (Nat.le_of_ble_eq_true rfl) rfl fl_X10_72 dX10_morning_53, ?_⟩
  refine List.forall_mem_cons.mpr ⟨s_icmp_ge dX10_morning_56 (by decide), ?_⟩
  refine List.forall_mem_cons.mpr ⟨s_aload_n dX10_morning_59 rfl, ?_⟩
  refine List.forall_mem_cons.mpr ⟨s_getR (j := 2) cf_X10 (Nat.le_of_ble_eq_true rfl) rfl fl_X10_13 dX10_morning_60, ?_⟩
  refine List.forall_mem_cons.mpr ⟨s_iload dX10_morning_63, ?_⟩
  refine List.forall_mem_cons.mpr ⟨s_iaload dX10_morning_65, ?_⟩
  refine List.forall_mem_cons.mpr ⟨s_istore dX10_morning_66 (Nat.le_of_ble_eq_true rfl), ?_⟩
  refine List.forall_mem_cons.mpr ⟨s_aload_n dX10_morning_68 rfl, ?_⟩
  refine List.forall_mem_cons.mpr ⟨s_iload dX10_morning_69, ?_⟩
  refine List.forall_mem_cons.mpr ⟨s_iload_n dX10_morning_71 rfl, ?_⟩
  refine List.forall_mem_cons.mpr ⟨s_callVI cf_X10 rfl ca_X10_counted ml_X10_88 im_X10_counted se_X10_counted ⟨(Nat.le_of_ble_eq_true rfl), (Nat.le_of_ble_eq_true rfl)⟩ dX10_morning_72, ?_⟩
  refine List.forall_mem_cons.mpr ⟨s_if_le dX10_morning_75 (by decide), ?_⟩
  refine List.forall_mem_cons.mpr ⟨s_aload_n dX10_morning_78 rfl, ?_⟩
  refine List.forall_mem_cons.mpr ⟨s_getR (j := 13) cf_X10 (Nat.le_of_ble_eq_true rfl) rfl fl_X10_35 dX10_morning_79, ?_⟩
  refine List.forall_mem_cons.mpr ⟨s_iload dX10_morning_82, ?_⟩
  refine List.forall_mem_cons.mpr ⟨s_aload_n dX10_morning_84 rfl, ?_⟩
  refine List.forall_mem_cons.mpr ⟨s_getI cf_X10 (Nat.le_of_ble_eq_true rfl) rfl fl_X10_72 dX10_morning_85, ?_⟩
  refine List.forall_mem_cons.mpr ⟨s_iconst dX10_morning_88 (by decide), ?_⟩
  refine List.forall_mem_cons.mpr ⟨s_idiv dX10_morning_89, ?_⟩
  refine List.forall_mem_cons.mpr ⟨s_icmp_ge dX10_morning_90 (by decide), ?_⟩
  refine List.forall_mem_cons.mpr ⟨s_iconst dX10_morning_93 (by decide), ?_⟩
  refine List.forall_mem_cons.mpr ⟨s_goto dX10_morning_94 (by decide), ?_⟩
  refine List.forall_mem_cons.mpr ⟨s_iconst dX10_morning_97 (by decide), ?_⟩
  refine List.forall_mem_cons.mpr ⟨s_aload_n dX10_morning_98 rfl, ?_⟩
  refine List.forall_mem_cons.mpr ⟨s_iload dX10_morning_99, ?_⟩
  refine List.forall_mem_cons.mpr ⟨s_iload_n dX10_morning_101 rfl, ?_⟩
  refine List.forall_mem_cons.mpr ⟨s_callVI cf_X10 rfl ca_X10_passesIn ml_X10_130 im_X10_passesIn se_X10_passesIn ⟨(Nat.le_of_ble_eq_true rfl), (Nat.le_of_ble_eq_true rfl)⟩ dX10_morning_102, ?_⟩
  refine List.forall_mem_cons.mpr ⟨s_if_eq dX10_morning_105 (by decide), ?_⟩
  refine List.forall_mem_cons.mpr ⟨s_iconst dX10_morning_108 (by decide), ?_⟩
  refine List.forall_mem_cons.mpr ⟨s_goto dX10_morning_109 (by decide), ?_⟩
  refine List.forall_mem_cons.mpr ⟨s_iconst dX10_morning_112 (by decide), ?_⟩
  refine List.forall_mem_cons.mpr ⟨s_iadd dX10_morning_113, ?_⟩
  refine List.forall_mem_cons.mpr ⟨s_dup2 dX10_morning_114, ?_⟩
  refine List.forall_mem_cons.mpr ⟨s_iaload dX10_morning_115, ?_⟩
  refine List.forall_mem_cons.mpr ⟨s_iconst dX10_morning_116 (by decide), ?_⟩
  refine List.forall_mem_cons.mpr ⟨s_iadd dX10_morning_117, ?_⟩
  refine List.forall_mem_cons.mpr ⟨s_iastore dX10_morning_118, ?_⟩
  refine List.forall_mem_cons.mpr ⟨s_iinc dX10_morning_119 (by decide) (Nat.le_of_ble_eq_true rfl), ?_⟩
  refine List.forall_mem_cons.mpr ⟨s_goto dX10_morning_122 (by decide), ?_⟩
  refine List.forall_mem_cons.mpr ⟨s_iload_n dX10_morning_125 rfl, ?_⟩
  refine List.forall_mem_cons.mpr ⟨s_iconst dX10_morning_126 (by decide), ?_⟩
  refine List.forall_mem_cons.mpr ⟨s_icmp_ne dX10_morning_127 (by decide), ?_⟩
  refine List.forall_mem_cons.mpr ⟨s_aload_n dX10_morning_130 rfl, ?_⟩
  refine List.forall_mem_cons.mpr ⟨s_getR (j := 13) cf_X10 (Nat.le_of_ble_eq_true rfl) rfl fl_X10_35 dX10_morning_131, ?_⟩
  refine List.forall_mem_cons.mpr ⟨s_iconst dX10_morning_134 (by decide), ?_⟩
  refine List.forall_mem_cons.mpr ⟨s_iaload dX10_morning_135, ?_⟩
  refine List.forall_mem_cons.mpr ⟨s_aload_n dX10_morning_136 rfl, ?_⟩
  refine List.forall_mem_cons.mpr ⟨s_getR (j := 13) cf_X10 (Nat.le_of_ble_eq_true rfl) rfl fl_X10_35 dX10_morning_137, ?_⟩
  refine List.forall_mem_cons.mpr ⟨s_iconst dX10_morning_140 (by decide), ?_⟩
  refine List.forall_mem_cons.mpr ⟨s_iaload dX10_morning_141, ?_⟩
  refine List.forall_mem_cons.mpr ⟨s_aload_n dX10_morning_142 rfl, ?_⟩
  refine List.forall_mem_cons.mpr ⟨s_getR (j := 13) cf_X10 (Nat.le_of_ble_eq_true rfl) rfl fl_X10_35 dX10_morning_143, ?_⟩
  refine List.forall_mem_cons.mpr ⟨s_iconst dX10_morning_146 (by decide), ?_⟩
  refine List.forall_mem_cons.mpr ⟨s_iaload dX10_morning_147, ?_⟩
  refine List.forall_mem_cons.mpr ⟨s_aload_n dX10_morning_148 rfl, ?_⟩
  refine List.forall_mem_cons.mpr ⟨s_getR (j := 13) cf_X10 (Nat.le_of_ble_eq_true rfl) rfl fl_X10_35 dX10_morning_149, ?_⟩
  refine List.forall_mem_cons.mpr ⟨s_iconst dX10_morning_152 (by decide), ?_⟩
  refine List.forall_mem_cons.mpr ⟨s_iaload dX10_morning_153, ?_⟩
  refine List.forall_mem_cons.mpr ⟨s_callSI ca_X10_falseShare ml_X10_180 st_X10_falseShare ⟨(Nat.le_of_ble_eq_true rfl), (Nat.le_of_ble_eq_true rfl)⟩ dX10_morning_154, ?_⟩
  refine List.forall_mem_cons.mpr ⟨s_goto dX10_morning_157 (by decide), ?_⟩
  refine List.forall_mem_cons.mpr ⟨s_aload_n dX10_morning_160 rfl, ?_⟩
  refine List.forall_mem_cons.mpr ⟨s_getR (j := 13) cf_X10 (Nat.le_of_ble_eq_true rfl) rfl fl_X10_35 dX10_morning_161, ?_⟩
  refine List.forall_mem_cons.mpr ⟨s_iload_n dX10_morning_164 rfl, ?_⟩
  refine List.forall_mem_cons.mpr ⟨s_iaload dX10_morning_165, ?_⟩
  refine List.forall_mem_cons.mpr ⟨s_ireturn dX10_morning_166 rfl, ?_⟩
  exact fun _ h => absurd h List.not_mem_nil
def cd_X10_trial : sv_Cd := [(0, o_al 0 1),
  (1, o_il 1 2),
  (2, o_vI m_X10_isPlayer 1 40 5),
  (5, o_if (fun x => x = 0) 8 11),
  (8, o_ic (-2) 10),
  (10, o_ir),
  (11, o_ic 0 12),
  (12, o_is 2 13),
  (13, o_il 2 14),
  (14, o_al 0 15),
  (15, o_gI 40 14 18),
  (18, o_ic2 (fun x y => y ≤ x) 40 21),
  (21, o_al 0 22),
  (22, o_gR 40 49 25),
  (25, o_il 2 26),
  (26, o_ia 27),
  (27, o_il 1 28),
  (28, o_ic2 (fun x y => x = y) 31 34),
  (31, o_ic (-3) 33),
  (33, o_ir),
  (34, o_in 2 1 37),
  (37, o_go 13),
  (40, o_al 0 41),
  (41, o_gI 40 14 44),
  (44, o_ic 6 46),
  (46, o_ic2 (fun x y => x = y) 49 52),
  (49, o_ic (-4) 51),
  (51, o_ir),
  (52, o_al 0 53),
  (53, o_gR 40 49 56),
  (56, o_al 0 57),
  (57, o_gI 40 14 60),
  (60, o_il 1 61),
  (61, o_is3 62),
  (62, o_al 0 63),
  (63, o_dup 64),
  (64, o_gI 40 14 67),
  (67, o_ic 1 68),
  (68, o_b (fun x y => x + y) 69),
  (69, o_pI 40 14 72),
  (72, o_al 0 73),
  (73, o_gI 40 14 76),
  (76, o_ic 1 77),
  (77, o_b (fun x y => x - y) 78),
  (78, o_ir)]
set_option maxRecDepth 20000 in
theorem sn_X10_trial : ∀ q ∈ cd_X10_trial, sv_Snd m_X10_trial q.1 q.2 := by
  unfold cd_X10_trial
  refine List.forall_mem_cons.mpr ⟨s_aload_n dX10_trial_0 rfl, ?_⟩
  refine List.forall_mem_cons.mpr ⟨s_iload_n dX10_trial_1 rfl, ?_⟩
  refine List.forall_mem_cons.mpr ⟨s_callVI cf_X10 rfl ca_X10_isPlayer ml_X10_84 im_X10_isPlayer se_X10_isPlayer ⟨(Nat.le_of_ble_eq_true rfl), (Nat.le_of_ble_eq_true rfl)⟩ dX10_trial_2, ?_⟩
  refine List.forall_mem_cons.mpr ⟨s_if_ne dX10_trial_5 (by decide), ?_⟩
  refine List.forall_mem_cons.mpr ⟨s_bipush dX10_trial_8 (by decide), ?_⟩
  refine List.forall_mem_cons.mpr ⟨s_ireturn dX10_trial_10 rfl, ?_⟩
  refine List.forall_mem_cons.mpr ⟨s_iconst dX10_trial_11 (by decide), ?_⟩
  refine List.forall_mem_cons.mpr ⟨s_istore_n dX10_trial_12 rfl (Nat.le_of_ble_eq_true rfl), ?_⟩
  refine List.forall_mem_cons.mpr ⟨s_iload_n dX10_trial_13 rfl, ?_⟩
  refine List.forall_mem_cons.mpr ⟨s_aload_n dX10_trial_14 rfl, ?_⟩
  refine List.forall_mem_cons.mpr ⟨s_getI cf_X10 (Nat.le_of_ble_eq_true rfl) rfl fl_X10_184 dX10_trial_15, ?_⟩
  refine List.forall_mem_cons.mpr ⟨s_icmp_ge dX10_trial_18 (by decide), ?_⟩
  refine List.forall_mem_cons.mpr ⟨s_aload_n dX10_trial_21 rfl, ?_⟩
  refine List.forall_mem_cons.mpr ⟨s_getR (j := 15) cf_X10 (Nat.le_of_ble_eq_true rfl) rfl fl_X10_38 dX10_trial_22, ?_⟩
  refine List.forall_mem_cons.mpr ⟨s_iload_n dX10_trial_25 rfl, ?_⟩
  refine List.forall_mem_cons.mpr ⟨s_iaload dX10_trial_26, ?_⟩
  refine List.forall_mem_cons.mpr ⟨s_iload_n dX10_trial_27 rfl, ?_⟩
  refine List.forall_mem_cons.mpr ⟨s_icmp_ne dX10_trial_28 (by decide), ?_⟩
  refine List.forall_mem_cons.mpr ⟨s_bipush dX10_trial_31 (by decide), ?_⟩
  refine List.forall_mem_cons.mpr ⟨s_ireturn dX10_trial_33 rfl, ?_⟩
  refine List.forall_mem_cons.mpr ⟨s_iinc dX10_trial_34 (by decide) (Nat.le_of_ble_eq_true rfl), ?_⟩
  refine List.forall_mem_cons.mpr ⟨s_goto dX10_trial_37 (by decide), ?_⟩
  refine List.forall_mem_cons.mpr ⟨s_aload_n dX10_trial_40 rfl, ?_⟩
  refine List.forall_mem_cons.mpr ⟨s_getI cf_X10 (Nat.le_of_ble_eq_true rfl) rfl fl_X10_184 dX10_trial_41, ?_⟩
  refine List.forall_mem_cons.mpr ⟨s_bipush dX10_trial_44 (by decide), ?_⟩
  refine List.forall_mem_cons.mpr ⟨s_icmp_ne dX10_trial_46 (by decide), ?_⟩
  refine List.forall_mem_cons.mpr ⟨s_bipush dX10_trial_49 (by decide), ?_⟩
  refine List.forall_mem_cons.mpr ⟨s_ireturn dX10_trial_51 rfl, ?_⟩
  refine List.forall_mem_cons.mpr ⟨s_aload_n dX10_trial_52 rfl, ?_⟩
  refine List.forall_mem_cons.mpr ⟨s_getR (j := 15) cf_X10 (Nat.le_of_ble_eq_true rfl) rfl fl_X10_38 dX10_trial_53, ?_⟩
  refine List.forall_mem_cons.mpr ⟨s_aload_n dX10_trial_56 rfl, ?_⟩
  refine List.forall_mem_cons.mpr ⟨s_getI cf_X10 (Nat.le_of_ble_eq_true rfl) rfl fl_X10_184 dX10_trial_57, ?_⟩
  refine List.forall_mem_cons.mpr ⟨s_iload_n dX10_trial_60 rfl, ?_⟩
  refine List.forall_mem_cons.mpr ⟨s_iastore dX10_trial_61, ?_⟩
  refine List.forall_mem_cons.mpr ⟨s_aload_n dX10_trial_62 rfl, ?_⟩
  refine List.forall_mem_cons.mpr ⟨s_dup dX10_trial_63, ?_⟩
  refine List.forall_mem_cons.mpr ⟨s_getI cf_X10 (Nat.le_of_ble_eq_true rfl) rfl fl_X10_184 dX10_trial_64, ?_⟩
  refine List.forall_mem_cons.mpr ⟨s_iconst dX10_trial_67 (by decide), ?_⟩
  refine List.forall_mem_cons.mpr ⟨s_iadd dX10_trial_68, ?_⟩
  refine List.forall_mem_cons.mpr ⟨s_put cf_X10 (Nat.le_of_ble_eq_true rfl) rfl fl_X10_184 rfl (tyX10_ok 14 (Nat.le_of_ble_eq_true rfl)) dX10_trial_69, ?_⟩
  refine List.forall_mem_cons.mpr ⟨s_aload_n dX10_trial_72 rfl, ?_⟩
  refine List.forall_mem_cons.mpr ⟨s_getI cf_X10 (Nat.le_of_ble_eq_true rfl) rfl fl_X10_184 dX10_trial_73, ?_⟩
  refine List.forall_mem_cons.mpr ⟨s_iconst dX10_trial_76 (by decide), ?_⟩
  refine List.forall_mem_cons.mpr ⟨s_isub dX10_trial_77, ?_⟩
  refine List.forall_mem_cons.mpr ⟨s_ireturn dX10_trial_78 rfl, ?_⟩
  exact fun _ h => absurd h List.not_mem_nil
def cd_X10_week : sv_Cd := [(0, o_il 1 1),
  (1, o_ic 0 2),
  (2, o_al 0 3),
  (3, o_gI 40 14 6),
  (6, o_ic 1 7),
  (7, o_b (fun x y => x - y) 8),
  (8, o_sI m_X10_in 3 11),
  (11, o_if (fun x => x = 0) 24 14),
  (14, o_il 2 15),
  (15, o_ic 0 16),
  (16, o_ic 20 18),
  (18, o_sI m_X10_in 3 21),
  (21, o_if (fun x => x = 0) 24 27),
  (24, o_ic (-2) 26),
  (26, o_ir),
  (27, o_al 0 28),
  (28, o_gR 40 50 31),
  (31, o_il 1 32),
  (32, o_ia 33),
  (33, o_ic 10 35),
  (35, o_ic2 (fun x y => x = y) 38 41),
  (38, o_ic (-4) 40),
  (40, o_ir),
  (41, o_al 0 42),
  (42, o_gR 40 51 45),
  (45, o_ic 10 47),
  (47, o_il 1 48),
  (48, o_b (fun x y => x * y) 49),
  (49, o_al 0 50),
  (50, o_gR 40 50 53),
  (53, o_il 1 54),
  (54, o_ia 55),
  (55, o_b (fun x y => x + y) 56),
  (56, o_il 2 57),
  (57, o_is3 58),
  (58, o_al 0 59),
  (59, o_gR 40 50 62),
  (62, o_il 1 63),
  (63, o_dup2 64),
  (64, o_ia 65),
  (65, o_ic 1 66),
  (66, o_b (fun x y => x + y) 67),
  (67, o_is3 68),
  (68, o_al 0 69),
  (69, o_gR 40 50 72),
  (72, o_il 1 73),
  (73, o_ia 74),
  (74, o_ir)]
set_option maxRecDepth 20000 in
theorem sn_X10_week : ∀ q ∈ cd_X10_week, sv_Snd m_X10_week q.1 q.2 := by
  unfold cd_X10_week
  refine List.forall_mem_cons.mpr ⟨s_iload_n dX10_week_0 rfl, ?_⟩
  refine List.forall_mem_cons.mpr ⟨s_iconst dX10_week_1 (by decide), ?_⟩
  refine List.forall_mem_cons.mpr ⟨s_aload_n dX10_week_2 rfl, ?_⟩
  refine List.forall_mem_cons.mpr ⟨s_getI cf_X10 (Nat.le_of_ble_eq_true rfl) rfl fl_X10_184 dX10_week_3, ?_⟩
  refine List.forall_mem_cons.mpr ⟨s_iconst dX10_week_6 (by decide), ?_⟩
  refine List.forall_mem_cons.mpr ⟨s_isub dX10_week_7, ?_⟩
  refine List.forall_mem_cons.mpr ⟨s_callSI ca_X10_in ml_X10_75 st_X10_in ⟨(Nat.le_of_ble_eq_true rfl), (Nat.le_of_ble_eq_true rfl)⟩ dX10_week_8, ?_⟩
  refine List.forall_mem_cons.mpr ⟨s_if_eq dX10_week_11 (by decide), ?_⟩
  refine List.forall_mem_cons.mpr ⟨s_iload_n dX10_week_14 rfl, ?_⟩
  refine List.forall_mem_cons.mpr ⟨s_iconst dX10_week_15 (by decide), ?_⟩
  refine List.forall_mem_cons.mpr ⟨s_bipush dX10_week_16 (by decide), ?_⟩
  refine List.forall_mem_cons.mpr ⟨s_callSI ca_X10_in ml_X10_75 st_X10_in ⟨(Nat.le_of_ble_eq_true rfl), (Nat.le_of_ble_eq_true rfl)⟩ dX10_week_18, ?_⟩
  refine List.forall_mem_cons.mpr ⟨s_if_ne dX10_week_21 (by decide), ?_⟩
  refine List.forall_mem_cons.mpr ⟨s_bipush dX10_week_24 (by decide), ?_⟩
  refine List.forall_mem_cons.mpr ⟨s_ireturn dX10_week_26 rfl, ?_⟩
  refine List.forall_mem_cons.mpr ⟨s_aload_n dX10_week_27 rfl, ?_⟩
  refine List.forall_mem_cons.mpr ⟨s_getR (j := 16) cf_X10 (Nat.le_of_ble_eq_true rfl) rfl fl_X10_41 dX10_week_28, ?_⟩
  refine List.forall_mem_cons.mpr ⟨s_iload_n dX10_week_31 rfl, ?_⟩
  refine List.forall_mem_cons.mpr ⟨s_iaload dX10_week_32, ?_⟩
  refine List.forall_mem_cons.mpr ⟨s_bipush dX10_week_33 (by decide), ?_⟩
  refine List.forall_mem_cons.mpr ⟨s_icmp_ne dX10_week_35 (by decide), ?_⟩
  refine List.forall_mem_cons.mpr ⟨s_bipush dX10_week_38 (by decide), ?_⟩
  refine List.forall_mem_cons.mpr ⟨s_ireturn dX10_week_40 rfl, ?_⟩
  refine List.forall_mem_cons.mpr ⟨s_aload_n dX10_week_41 rfl, ?_⟩
  refine List.forall_mem_cons.mpr ⟨s_getR (j := 17) cf_X10 (Nat.le_of_ble_eq_true rfl) rfl fl_X10_44 dX10_week_42, ?_⟩
  refine List.forall_mem_cons.mpr ⟨s_bipush dX10_week_45 (by decide), ?_⟩
  refine List.forall_mem_cons.mpr ⟨s_iload_n dX10_week_47 rfl, ?_⟩
  refine List.forall_mem_cons.mpr ⟨s_imul dX10_week_48, ?_⟩
  refine List.forall_mem_cons.mpr ⟨s_aload_n dX10_week_49 rfl, ?_⟩
  refine List.forall_mem_cons.mpr ⟨s_getR (j := 16) cf_X10 (Nat.le_of_ble_eq_true rfl) rfl fl_X10_41 dX10_week_50, ?_⟩
  refine List.forall_mem_cons.mpr ⟨s_iload_n dX10_week_53 rfl, ?_⟩
  refine List.forall_mem_cons.mpr ⟨s_iaload dX10_week_54, ?_⟩
  refine List.forall_mem_cons.mpr ⟨s_iadd dX10_week_55, ?_⟩
  refine List.forall_mem_cons.mpr ⟨s_iload_n dX10_week_56 rfl, ?_⟩
  refine List.forall_mem_cons.mpr ⟨s_iastore dX10_week_57, ?_⟩
  refine List.forall_mem_cons.mpr ⟨s_aload_n dX10_week_58 rfl, ?_⟩
  refine List.forall_mem_cons.mpr ⟨s_getR (j := 16) cf_X10 (Nat.le_of_ble_eq_true rfl) rfl fl_X10_41 dX10_week_59, ?_⟩
  refine List.forall_mem_cons.mpr ⟨s_iload_n dX10_week_62 rfl, ?_⟩
  refine List.forall_mem_cons.mpr ⟨s_dup2 dX10_week_63, ?_⟩
  refine List.forall_mem_cons.mpr ⟨s_iaload dX10_week_64, ?_⟩
  refine List.forall_mem_cons.mpr ⟨s_iconst dX10_week_65 (by decide), ?_⟩
  refine List.forall_mem_cons.mpr ⟨s_iadd dX10_week_66, ?_⟩
  refine List.forall_mem_cons.mpr ⟨s_iastore dX10_week_67, ?_⟩
  refine List.forall_mem_cons.mpr ⟨s_aload_n dX10_week_68 rfl, ?_⟩
  refine List.forall_mem_cons.mpr ⟨s_getR (j := 16) cf_X10 (Nat.le_of_ble_eq_true rfl) rfl fl_X10_41 dX10_week_69, ?_⟩
  refine List.forall_mem_cons.mpr ⟨s_iload_n dX10_week_72 rfl, ?_⟩
  refine List.forall_mem_cons.mpr ⟨s_iaload dX10_week_73, ?_⟩
  refine List.forall_mem_cons.mpr ⟨s_ireturn dX10_week_74 rfl, ?_⟩
  exact fun _ h => absurd h List.not_mem_nil
def cd_X10_betterOf : sv_Cd := [(0, o_ic 0 1),
  (1, o_is 3 2),
  (2, o_ic 0 3),
  (3, o_is 4 5),
  (5, o_ic 0 6),
  (6, o_is 5 8),
  (8, o_il 5 10),
  (10, o_al 0 11),
  (11, o_gR 40 50 14),
  (14, o_il 1 15),
  (15, o_ia 16),
  (16, o_ic2 (fun x y => y ≤ x) 92 19),
  (19, o_il 5 21),
  (21, o_al 0 22),
  (22, o_gR 40 50 25),
  (25, o_il 2 26),
  (26, o_ia 27),
  (27, o_ic2 (fun x y => y ≤ x) 92 30),
  (30, o_al 0 31),
  (31, o_gR 40 51 34),
  (34, o_ic 10 36),
  (36, o_il 1 37),
  (37, o_b (fun x y => x * y) 38),
  (38, o_il 5 40),
  (40, o_b (fun x y => x + y) 41),
  (41, o_ia 42),
  (42, o_al 0 43),
  (43, o_gR 40 51 46),
  (46, o_ic 10 48),
  (48, o_il 2 49),
  (49, o_b (fun x y => x * y) 50),
  (50, o_il 5 52),
  (52, o_b (fun x y => x + y) 53),
  (53, o_ia 54),
  (54, o_b (fun x y => x - y) 55),
  (55, o_is 6 57),
  (57, o_il 3 58),
  (58, o_il 6 60),
  (60, o_if (fun x => x ≤ 0) 67 63),
  (63, o_ic 1 64),
  (64, o_go 77),
  (67, o_il 6 69),
  (69, o_if (fun x => 0 ≤ x) 76 72),
  (72, o_ic (-1) 73),
  (73, o_go 77),
  (76, o_ic 0 77),
  (77, o_b (fun x y => x + y) 78),
  (78, o_is 3 79),
  (79, o_il 4 81),
  (81, o_il 6 83),
  (83, o_b (fun x y => x + y) 84),
  (84, o_is 4 86),
  (86, o_in 5 1 89),
  (89, o_go 8),
  (92, o_il 3 93),
  (93, o_if (fun x => x = 0) 100 96),
  (96, o_il 3 97),
  (97, o_go 102),
  (100, o_il 4 102),
  (102, o_is 5 104),
  (104, o_il 5 106),
  (106, o_if (fun x => x ≤ 0) 113 109),
  (109, o_ic 1 110),
  (110, o_go 123),
  (113, o_il 5 115),
  (115, o_if (fun x => 0 ≤ x) 122 118),
  (118, o_ic 0 119),
  (119, o_go 123),
  (122, o_ic (-1) 123),
  (123, o_ir)]
set_option maxRecDepth 20000 in
theorem sn_X10_betterOf : ∀ q ∈ cd_X10_betterOf, sv_Snd m_X10_betterOf q.1 q.2 := by
  unfold cd_X10_betterOf
  refine List.forall_mem_cons.mpr ⟨s_iconst dX10_betterOf_0 (by decide), ?_⟩
  refine List.forall_mem_cons.mpr ⟨s_istore_n dX10_betterOf_1 rfl (Nat.le_of_ble_eq_true rfl), ?_⟩
  refine List.forall_mem_cons.mpr ⟨s_iconst dX10_betterOf_2 (by decide), ?_⟩
  refine List.forall_mem_cons.mpr ⟨s_istore dX10_betterOf_3 (Nat.le_of_ble_eq_true rfl), ?_⟩
  refine List.forall_mem_cons.mpr ⟨s_iconst dX10_betterOf_5 (by decide), ?_⟩
  refine List.forall_mem_cons.mpr ⟨s_istore dX10_betterOf_6 (Nat.le_of_ble_eq_true rfl), ?_⟩
  refine List.forall_mem_cons.mpr ⟨s_iload dX10_betterOf_8, ?_⟩
  refine List.forall_mem_cons.mpr ⟨s_aload_n dX10_betterOf_10 rfl, ?_⟩
  refine List.forall_mem_cons.mpr ⟨s_getR (j := 16) cf_X10 (Nat.le_of_ble_eq_true rfl) rfl fl_X10_41 dX10_betterOf_11, ?_⟩
  refine List.forall_mem_cons.mpr ⟨s_iload_n dX10_betterOf_14 rfl, ?_⟩
  refine List.forall_mem_cons.mpr ⟨s_iaload dX10_betterOf_15, ?_⟩
  refine List.forall_mem_cons.mpr ⟨s_icmp_ge dX10_betterOf_16 (by decide), ?_⟩
  refine List.forall_mem_cons.mpr ⟨s_iload dX10_betterOf_19, ?_⟩
  refine List.forall_mem_cons.mpr ⟨s_aload_n dX10_betterOf_21 rfl, ?_⟩
  refine List.forall_mem_cons.mpr ⟨s_getR (j := 16) cf_X10 (Nat.le_of_ble_eq_true rfl) rfl fl_X10_41 dX10_betterOf_22, ?_⟩
  refine List.forall_mem_cons.mpr ⟨s_iload_n dX10_betterOf_25 rfl, ?_⟩
  refine List.forall_mem_cons.mpr ⟨s_iaload dX10_betterOf_26, ?_⟩
  refine List.forall_mem_cons.mpr ⟨s_icmp_ge dX10_betterOf_27 (by decide), ?_⟩
  refine List.forall_mem_cons.mpr ⟨s_aload_n dX10_betterOf_30 rfl, ?_⟩
  refine List.forall_mem_cons.mpr ⟨s_getR (j := 17) cf_X10 (Nat.le_of_ble_eq_true rfl) rfl fl_X10_44 dX10_betterOf_31, ?_⟩
  refine List.forall_mem_cons.mpr ⟨s_bipush dX10_betterOf_34 (by decide), ?_⟩
  refine List.forall_mem_cons.mpr ⟨s_iload_n dX10_betterOf_36 rfl, ?_⟩
  refine List.forall_mem_cons.mpr ⟨s_imul dX10_betterOf_37, ?_⟩
  refine List.forall_mem_cons.mpr ⟨s_iload dX10_betterOf_38, ?_⟩
  refine List.forall_mem_cons.mpr ⟨s_iadd dX10_betterOf_40, ?_⟩
  refine List.forall_mem_cons.mpr ⟨s_iaload dX10_betterOf_41, ?_⟩
  refine List.forall_mem_cons.mpr ⟨s_aload_n dX10_betterOf_42 rfl, ?_⟩
  refine List.forall_mem_cons.mpr ⟨s_getR (j := 17) cf_X10 (Nat.le_of_ble_eq_true rfl) rfl fl_X10_44 dX10_betterOf_43, ?_⟩
  refine List.forall_mem_cons.mpr ⟨s_bipush dX10_betterOf_46 (by decide), ?_⟩
  refine List.forall_mem_cons.mpr ⟨s_iload_n dX10_betterOf_48 rfl, ?_⟩
  refine List.forall_mem_cons.mpr ⟨s_imul dX10_betterOf_49, ?_⟩
  refine List.forall_mem_cons.mpr ⟨s_iload dX10_betterOf_50, ?_⟩
  refine List.forall_mem_cons.mpr ⟨s_iadd dX10_betterOf_52, ?_⟩
  refine List.forall_mem_cons.mpr ⟨s_iaload dX10_betterOf_53, ?_⟩
  refine List.forall_mem_cons.mpr ⟨s_isub dX10_betterOf_54, ?_⟩
  refine List.forall_mem_cons.mpr ⟨s_istore dX10_betterOf_55 (Nat.le_of_ble_eq_true rfl), ?_⟩
  refine List.forall_mem_cons.mpr ⟨s_iload_n dX10_betterOf_57 rfl, ?_⟩
  refine List.forall_mem_cons.mpr ⟨s_iload dX10_betterOf_58, ?_⟩
  refine List.forall_mem_cons.mpr ⟨s_if_le dX10_betterOf_60 (by decide), ?_⟩
  refine List.forall_mem_cons.mpr ⟨s_iconst dX10_betterOf_63 (by decide), ?_⟩
  refine List.forall_mem_cons.mpr ⟨s_goto dX10_betterOf_64 (by decide), ?_⟩
  refine List.forall_mem_cons.mpr ⟨s_iload dX10_betterOf_67, ?_⟩
  refine List.forall_mem_cons.mpr ⟨s_if_ge dX10_betterOf_69 (by decide), ?_⟩
  refine List.forall_mem_cons.mpr ⟨s_iconst dX10_betterOf_72 (by decide), ?_⟩
  refine List.forall_mem_cons.mpr ⟨s_goto dX10_betterOf_73 (by decide), ?_⟩
  refine List.forall_mem_cons.mpr ⟨s_iconst dX10_betterOf_76 (by decide), ?_⟩
  refine List.forall_mem_cons.mpr ⟨s_iadd dX10_betterOf_77, ?_⟩
  refine List.forall_mem_cons.mpr ⟨s_istore_n dX10_betterOf_78 rfl (Nat.le_of_ble_eq_true rfl), ?_⟩
  refine List.forall_mem_cons.mpr ⟨s_iload dX10_betterOf_79, ?_⟩
  refine List.forall_mem_cons.mpr ⟨s_iload dX10_betterOf_81, ?_⟩
  refine List.forall_mem_cons.mpr ⟨s_iadd dX10_betterOf_83, ?_⟩
  refine List.forall_mem_cons.mpr ⟨s_istore dX10_betterOf_84 (Nat.le_of_ble_eq_true rfl), ?_⟩
  refine List.forall_mem_cons.mpr ⟨s_iinc dX10_betterOf_86 (by decide) (Nat.le_of_ble_eq_true rfl), ?_⟩
  refine List.forall_mem_cons.mpr ⟨s_goto dX10_betterOf_89 (by decide), ?_⟩
  refine List.forall_mem_cons.mpr ⟨s_iload_n dX10_betterOf_92 rfl, ?_⟩
  refine List.forall_mem_cons.mpr ⟨s_if_eq dX10_betterOf_93 (by decide), ?_⟩
  refine List.forall_mem_cons.mpr ⟨s_iload_n dX10_betterOf_96 rfl, ?_⟩
  refine List.forall_mem_cons.mpr ⟨s_goto dX10_betterOf_97 (by decide), ?_⟩
  refine List.forall_mem_cons.mpr ⟨s_iload dX10_betterOf_100, ?_⟩
  refine List.forall_mem_cons.mpr ⟨s_istore dX10_betterOf_102 (Nat.le_of_ble_eq_true rfl), ?_⟩
  refine List.forall_mem_cons.mpr ⟨s_iload dX10_betterOf_104, ?_⟩
  refine List.forall_mem_cons.mpr ⟨s_if_le dX10_betterOf_106 (by decide), ?_⟩
  refine List.forall_mem_cons.mpr ⟨s_iconst dX10_betterOf_109 (by decide), ?_⟩
  refine List.forall_mem_cons.mpr ⟨s_goto dX10_betterOf_110 (by decide), ?_⟩
  refine List.forall_mem_cons.mpr ⟨s_iload dX10_betterOf_113, ?_⟩
  refine List.forall_mem_cons.mpr ⟨s_if_ge dX10_betterOf_115 (by decide), ?_⟩
  refine List.forall_mem_cons.mpr ⟨s_iconst dX10_betterOf_118 (by decide), ?_⟩
  refine List.forall_mem_cons.mpr ⟨s_goto dX10_betterOf_119 (by decide), ?_⟩
  refine List.forall_mem_cons.mpr ⟨s_iconst dX10_betterOf_122 (by decide), ?_⟩
  refine List.forall_mem_cons.mpr ⟨s_ireturn dX10_betterOf_123 rfl, ?_⟩
  exact fun _ h => absurd h List.not_mem_nil
def cd_X10_better : sv_Cd := [(0, o_il 1 1),
  (1, o_ic 0 2),
  (2, o_al 0 3),
  (3, o_gI 40 14 6),
  (6, o_ic 1 7),
  (7, o_b (fun x y => x - y) 8),
  (8, o_sI m_X10_in 3 11),
  (11, o_if (fun x => x = 0) 42 14),
  (14, o_il 2 15),
  (15, o_ic 0 16),
  (16, o_al 0 17),
  (17, o_gI 40 14 20),
  (20, o_ic 1 21),
  (21, o_b (fun x y => x - y) 22),
  (22, o_sI m_X10_in 3 25),
  (25, o_if (fun x => x = 0) 42 28),
  (28, o_il 1 29),
  (29, o_il 2 30),
  (30, o_ic2 (fun x y => x = y) 42 33),
  (33, o_al 0 34),
  (34, o_il 1 35),
  (35, o_il 2 36),
  (36, o_vI m_X10_betterOf 2 40 39),
  (39, o_go 44),
  (42, o_ic (-2) 44),
  (44, o_ir)]
set_option maxRecDepth 20000 in
theorem sn_X10_better : ∀ q ∈ cd_X10_better, sv_Snd m_X10_better q.1 q.2 := by
  unfold cd_X10_better
  refine List.forall_mem_cons.mpr ⟨s_iload_n dX10_better_0 rfl, ?_⟩
  refine List.forall_mem_cons.mpr ⟨s_iconst dX10_better_1 (by decide), ?_⟩
  refine List.forall_mem_cons.mpr ⟨s_aload_n dX10_better_2 rfl, ?_⟩
  refine List.forall_mem_cons.mpr ⟨s_getI cf_X10 (Nat.le_of_ble_eq_true rfl) rfl fl_X10_184 dX10_better_3, ?_⟩
  refine List.forall_mem_cons.mpr ⟨s_iconst dX10_better_6 (by decide), ?_⟩
  refine List.forall_mem_cons.mpr ⟨s_isub dX10_better_7, ?_⟩
  refine List.forall_mem_cons.mpr ⟨s_callSI ca_X10_in ml_X10_75 st_X10_in ⟨(Nat.le_of_ble_eq_true rfl), (Nat.le_of_ble_eq_true rfl)⟩ dX10_better_8, ?_⟩
  refine List.forall_mem_cons.mpr ⟨s_if_eq dX10_better_11 (by decide), ?_⟩
  refine List.forall_mem_cons.mpr ⟨s_iload_n dX10_better_14 rfl, ?_⟩
  refine List.forall_mem_cons.mpr ⟨s_iconst dX10_better_15 (by decide), ?_⟩
  refine List.forall_mem_cons.mpr ⟨s_aload_n dX10_better_16 rfl, ?_⟩
  refine List.forall_mem_cons.mpr ⟨s_getI cf_X10 (Nat.le_of_ble_eq_true rfl) rfl fl_X10_184 dX10_better_17, ?_⟩
  refine List.forall_mem_cons.mpr ⟨s_iconst dX10_better_20 (by decide), ?_⟩
  refine List.forall_mem_cons.mpr ⟨s_isub dX10_better_21, ?_⟩
  refine List.forall_mem_cons.mpr ⟨s_callSI ca_X10_in ml_X10_75 st_X10_in ⟨(Nat.le_of_ble_eq_true rfl), (Nat.le_of_ble_eq_true rfl)⟩ dX10_better_22, ?_⟩
  refine List.forall_mem_cons.mpr ⟨s_if_eq dX10_better_25 (by decide), ?_⟩
  refine List.forall_mem_cons.mpr ⟨s_iload_n dX10_better_28 rfl, ?_⟩
  refine List.forall_mem_cons.mpr ⟨s_iload_n dX10_better_29 rfl, ?_⟩
  refine List.forall_mem_cons.mpr ⟨s_icmp_eq dX10_better_30 (by decide), ?_⟩
  refine List.forall_mem_cons.mpr ⟨s_aload_n dX10_better_33 rfl, ?_⟩
  refine List.forall_mem_cons.mpr ⟨s_iload_n dX10_better_34 rfl, ?_⟩
  refine List.forall_mem_cons.mpr ⟨s_iload_n dX10_better_35 rfl, ?_⟩
  refine List.forall_mem_cons.mpr ⟨s_callVI cf_X10 rfl ca_X10_betterOf ml_X10_187 im_X10_betterOf se_X10_betterOf ⟨(Nat.le_of_ble_eq_true rfl), (Nat.le_of_ble_eq_true rfl)⟩ dX10_better_36, ?_⟩
  refine List.forall_mem_cons.mpr ⟨s_goto dX10_better_39 (by decide), ?_⟩
  refine List.forall_mem_cons.mpr ⟨s_bipush dX10_better_42 (by decide), ?_⟩
  refine List.forall_mem_cons.mpr ⟨s_ireturn dX10_better_44 rfl, ?_⟩
  exact fun _ h => absurd h List.not_mem_nil
def cd_X10_seat : sv_Cd := [(0, o_ic 0 1),
  (1, o_is 1 2),
  (2, o_il 1 3),
  (3, o_al 0 4),
  (4, o_gI 40 14 7),
  (7, o_ic2 (fun x y => y ≤ x) 68 10),
  (10, o_ic 1 11),
  (11, o_is 2 12),
  (12, o_ic 0 13),
  (13, o_is 3 14),
  (14, o_il 3 15),
  (15, o_al 0 16),
  (16, o_gI 40 14 19),
  (19, o_ic2 (fun x y => y ≤ x) 51 22),
  (22, o_il 2 23),
  (23, o_il 1 24),
  (24, o_il 3 25),
  (25, o_ic2 (fun x y => x = y) 38 28),
  (28, o_al 0 29),
  (29, o_il 1 30),
  (30, o_il 3 31),
  (31, o_vI m_X10_betterOf 2 40 34),
  (34, o_ic 1 35),
  (35, o_ic2 (fun x y => x = y) 38 42),
  (38, o_ic 1 39),
  (39, o_go 43),
  (42, o_ic 0 43),
  (43, o_b (fun x y => x &&& y) 44),
  (44, o_is 2 45),
  (45, o_in 3 1 48),
  (48, o_go 14),
  (51, o_il 2 52),
  (52, o_if (fun x => x = 0) 62 55),
  (55, o_al 0 56),
  (56, o_gR 40 49 59),
  (59, o_il 1 60),
  (60, o_ia 61),
  (61, o_ir),
  (62, o_in 1 1 65),
  (65, o_go 2),
  (68, o_ic (-1) 69),
  (69, o_ir)]
set_option maxRecDepth 20000 in
theorem sn_X10_seat : ∀ q ∈ cd_X10_seat, sv_Snd m_X10_seat q.1 q.2 := by
  unfold cd_X10_seat
  refine List.forall_mem_cons.mpr ⟨s_iconst dX10_seat_0 (by decide), ?_⟩
  refine List.forall_mem_cons.mpr ⟨s_istore_n dX10_seat_1 rfl (Nat.le_of_ble_eq_true rfl), ?_⟩
  refine List.forall_mem_cons.mpr ⟨s_iload_n dX10_seat_2 rfl, ?_⟩
  refine List.forall_mem_cons.mpr ⟨s_aload_n dX10_seat_3 rfl, ?_⟩
  refine List.forall_mem_cons.mpr ⟨s_getI cf_X10 (Nat.le_of_ble_eq_true rfl) rfl fl_X10_184 dX10_seat_4, ?_⟩
  refine List.forall_mem_cons.mpr ⟨s_icmp_ge dX10_seat_7 (by decide), ?_⟩
  refine List.forall_mem_cons.mpr ⟨s_iconst dX10_seat_10 (by decide), ?_⟩
  refine List.forall_mem_cons.mpr ⟨s_istore_n dX10_seat_11 rfl (Nat.le_of_ble_eq_true rfl), ?_⟩
  refine List.forall_mem_cons.mpr ⟨s_iconst dX10_seat_12 (by decide), ?_⟩
  refine List.forall_mem_cons.mpr ⟨s_istore_n dX10_seat_13 rfl (Nat.le_of_ble_eq_true rfl), ?_⟩
  refine List.forall_mem_cons.mpr ⟨s_iload_n dX10_seat_14 rfl, ?_⟩
  refine List.forall_mem_cons.mpr ⟨s_aload_n dX10_seat_15 rfl, ?_⟩
  refine List.forall_mem_cons.mpr ⟨s_getI cf_X10 (Nat.le_of_ble_eq_true rfl) rfl fl_X10_184 dX10_seat_16, ?_⟩
  refine List.forall_mem_cons.mpr ⟨s_icmp_ge dX10_seat_19 (by decide), ?_⟩
  refine List.forall_mem_cons.mpr ⟨s_iload_n dX10_seat_22 rfl, ?_⟩
  refine List.forall_mem_cons.mpr ⟨s_iload_n dX10_seat_23 rfl, ?_⟩
  refine List.forall_mem_cons.mpr ⟨s_iload_n dX10_seat_24 rfl, ?_⟩
  refine List.forall_mem_cons.mpr ⟨s_icmp_eq dX10_seat_25 (by decide), ?_⟩
  refine List.forall_mem_cons.mpr ⟨s_aload_n dX10_seat_28 rfl, ?_⟩
  refine List.forall_mem_cons.mpr ⟨s_iload_n dX10_seat_29 rfl, ?_⟩
  refine List.forall_mem_cons.mpr ⟨s_iload_n dX10_seat_30 rfl, ?_⟩
  refine List.forall_mem_cons.mpr ⟨s_callVI cf_X10 rfl ca_X10_betterOf ml_X10_187 im_X10_betterOf se_X10_betterOf ⟨(Nat.le_of_ble_eq_true rfl), (Nat.le_of_ble_eq_true rfl)⟩ dX10_seat_31, ?_⟩
  refine List.forall_mem_cons.mpr ⟨s_iconst dX10_seat_34 (by decide), ?_⟩
  refine List.forall_mem_cons.mpr ⟨s_icmp_ne dX10_seat_35 (by decide), ?_⟩
  refine List.forall_mem_cons.mpr ⟨s_iconst dX10_seat_38 (by decide), ?_⟩
  refine List.forall_mem_cons.mpr ⟨s_goto dX10_seat_39 (by decide), ?_⟩
  refine List.forall_mem_cons.mpr ⟨s_iconst dX10_seat_42 (by decide), ?_⟩
  refine List.forall_mem_cons.mpr ⟨s_iand dX10_seat_43, ?_⟩
  refine List.forall_mem_cons.mpr ⟨s_istore_n dX10_seat_44 rfl (Nat.le_of_ble_eq_true rfl), ?_⟩
  refine List.forall_mem_cons.mpr ⟨s_iinc dX10_seat_45 (by decide) (Nat.le_of_ble_eq_true rfl), ?_⟩
  refine List.forall_mem_cons.mpr ⟨s_goto dX10_seat_48 (by decide), ?_⟩
  refine List.forall_mem_cons.mpr ⟨s_iload_n dX10_seat_51 rfl, ?_⟩
  refine List.forall_mem_cons.mpr ⟨s_if_eq dX10_seat_52 (by decide), ?_⟩
  refine List.forall_mem_cons.mpr ⟨s_aload_n dX10_seat_55 rfl, ?_⟩
  refine List.forall_mem_cons.mpr ⟨s_getR (j := 15) cf_X10 (Nat.le_of_ble_eq_true rfl) rfl fl_X10_38 dX10_seat_56, ?_⟩
  refine List.forall_mem_cons.mpr ⟨s_iload_n dX10_seat_59 rfl, ?_⟩
  refine List.forall_mem_cons.mpr ⟨s_iaload dX10_seat_60, ?_⟩
  refine List.forall_mem_cons.mpr ⟨s_ireturn dX10_seat_61 rfl, ?_⟩
  refine List.forall_mem_cons.mpr ⟨s_iinc dX10_seat_62 (by decide) (Nat.le_of_ble_eq_true rfl), ?_⟩
  refine List.forall_mem_cons.mpr ⟨s_goto dX10_seat_65 (by decide), ?_⟩
  refine List.forall_mem_cons.mpr ⟨s_iconst dX10_seat_68 (by decide), ?_⟩
  refine List.forall_mem_cons.mpr ⟨s_ireturn dX10_seat_69 rfl, ?_⟩
  exact fun _ h => absurd h List.not_mem_nil
def cd_X10_hear : sv_Cd := [(0, o_il 1 1),
  (1, o_ic 0 2),
  (2, o_ic 999999 4),
  (4, o_sI m_X10_in 3 7),
  (7, o_if (fun x => x = 0) 29 10),
  (10, o_il 2 11),
  (11, o_ic 0 12),
  (12, o_ic 99 14),
  (14, o_sI m_X10_in 3 17),
  (17, o_if (fun x => x = 0) 29 20),
  (20, o_il 3 21),
  (21, o_ic 0 22),
  (22, o_ic 4 23),
  (23, o_sI m_X10_in 3 26),
  (26, o_if (fun x => x = 0) 29 32),
  (29, o_ic (-2) 31),
  (31, o_ir),
  (32, o_al 0 33),
  (33, o_gI 40 18 36),
  (36, o_ic 60 38),
  (38, o_ic2 (fun x y => x = y) 41 44),
  (41, o_ic (-4) 43),
  (43, o_ir),
  (44, o_al 0 45),
  (45, o_gR 40 52 48),
  (48, o_al 0 49),
  (49, o_gI 40 18 52),
  (52, o_il 1 53),
  (53, o_is3 54),
  (54, o_al 0 55),
  (55, o_gR 40 53 58),
  (58, o_al 0 59),
  (59, o_gI 40 18 62),
  (62, o_il 2 63),
  (63, o_is3 64),
  (64, o_al 0 65),
  (65, o_gR 40 54 68),
  (68, o_al 0 69),
  (69, o_gI 40 18 72),
  (72, o_il 3 73),
  (73, o_is3 74),
  (74, o_al 0 75),
  (75, o_dup 76),
  (76, o_gI 40 18 79),
  (79, o_ic 1 80),
  (80, o_b (fun x y => x + y) 81),
  (81, o_pI 40 18 84),
  (84, o_al 0 85),
  (85, o_gI 40 18 88),
  (88, o_ir)]
set_option maxRecDepth 20000 in
theorem sn_X10_hear : ∀ q ∈ cd_X10_hear, sv_Snd m_X10_hear q.1 q.2 := by
  unfold cd_X10_hear
  refine List.forall_mem_cons.mpr ⟨s_iload_n dX10_hear_0 rfl, ?_⟩
  refine List.forall_mem_cons.mpr ⟨s_iconst dX10_hear_1 (by decide), ?_⟩
  refine List.forall_mem_cons.mpr ⟨s_ldc dX10_hear_2 cs_X10_190, ?_⟩
  refine List.forall_mem_cons.mpr ⟨s_callSI ca_X10_in ml_X10_75 st_X10_in ⟨(Nat.le_of_ble_eq_true rfl), (Nat.le_of_ble_eq_true rfl)⟩ dX10_hear_4, ?_⟩
  refine List.forall_mem_cons.mpr ⟨s_if_eq dX10_hear_7 (by decide), ?_⟩
  refine List.forall_mem_cons.mpr ⟨s_iload_n dX10_hear_10 rfl, ?_⟩
  refine List.forall_mem_cons.mpr ⟨s_iconst dX10_hear_11 (by decide), ?_⟩
  refine List.forall_mem_cons.mpr ⟨s_bipush dX10_hear_12 (by decide), ?_⟩
  refine List.forall_mem_cons.mpr ⟨s_callSI ca_X10_in ml_X10_75 st_X10_in ⟨(Nat.le_of_ble_eq_true rfl), (Nat.le_of_ble_eq_true rfl)⟩ dX10_hear_14, ?_⟩
  refine List.forall_mem_cons.mpr ⟨s_if_eq dX10_hear_17 (by decide), ?_⟩
  refine List.forall_mem_cons.mpr ⟨s_iload_n dX10_hear_20 rfl, ?_⟩
  refine List.forall_mem_cons.mpr ⟨s_iconst dX10_hear_21 (by decide), ?_⟩
  refine List.forall_mem_cons.mpr ⟨s_iconst dX10_hear_22 (by decide), ?_⟩
  refine List.forall_mem_cons.mpr ⟨s_callSI ca_X10_in ml_X10_75 st_X10_in ⟨(Nat.le_of_ble_eq_true rfl), (Nat.le_of_ble_eq_true rfl)⟩ dX10_hear_23, ?_⟩
  refine List.forall_mem_cons.mpr ⟨s_if_ne dX10_hear_26 (by decide), ?_⟩
  refine List.forall_mem_cons.mpr ⟨s_bipush dX10_hear_29 (by decide), ?_⟩
  refine List.forall_mem_cons.mpr ⟨s_ireturn dX10_hear_31 rfl, ?_⟩
  refine List.forall_mem_cons.mpr ⟨s_aload_n dX10_hear_32 rfl, ?_⟩
  refine List.forall_mem_cons.mpr ⟨s_getI cf_X10 (Nat.le_of_ble_eq_true rfl) rfl fl_X10_191 dX10_hear_33, ?_⟩
  refine List.forall_mem_cons.mpr ⟨s_bipush dX10_hear_36 (by decide), ?_⟩
  refine List.forall_mem_cons.mpr ⟨s_icmp_ne dX10_hear_38 (by decide), ?_⟩
  refine List.forall_mem_cons.mpr ⟨s_bipush dX10_hear_41 (by decide), ?_⟩
  refine List.forall_mem_cons.mpr ⟨s_ireturn dX10_hear_43 rfl, ?_⟩
  refine List.forall_mem_cons.mpr ⟨s_aload_n dX10_hear_44 rfl, ?_⟩
  refine List.forall_mem_cons.mpr ⟨s_getR (j := 19) cf_X10 (Nat.le_of_ble_eq_true rfl) rfl fl_X10_47 dX10_hear_45, ?_⟩
  refine List.forall_mem_cons.mpr ⟨s_aload_n dX10_hear_48 rfl, ?_⟩
  refine List.forall_mem_cons.mpr ⟨s_getI cf_X10 (Nat.le_of_ble_eq_true rfl) rfl fl_X10_191 dX10_hear_49, ?_⟩
  refine List.forall_mem_cons.mpr ⟨s_iload_n dX10_hear_52 rfl, ?_⟩
  refine List.forall_mem_cons.mpr ⟨s_iastore dX10_hear_53, ?_⟩
  refine List.forall_mem_cons.mpr ⟨s_aload_n dX10_hear_54 rfl, ?_⟩
  refine List.forall_mem_cons.mpr ⟨s_getR (j := 20) cf_X10 (Nat.le_of_ble_eq_true rfl) rfl fl_X10_50 dX10_hear_55, ?_⟩
  refine List.forall_mem_cons.mpr ⟨s_aload_n dX10_hear_58 rfl, ?_⟩
  refine List.forall_mem_cons.mpr ⟨s_getI cf_X10 (Nat.le_of_ble_eq_true rfl) rfl fl_X10_191 dX10_hear_59, ?_⟩
  refine List.forall_mem_cons.mpr ⟨s_iload_n dX10_hear_62 rfl, ?_⟩
  refine List.forall_mem_cons.mpr ⟨s_iastore dX10_hear_63, ?_⟩
  refine List.forall_mem_cons.mpr ⟨s_aload_n dX10_hear_64 rfl, ?_⟩
  refine List.forall_mem_cons.mpr ⟨s_getR (j := 21) cf_X10 (Nat.le_of_ble_eq_true rfl) rfl fl_X10_53 dX10_hear_65, ?_⟩
  refine List.forall_mem_cons.mpr ⟨s_aload_n dX10_hear_68 rfl, ?_⟩
  refine List.forall_mem_cons.mpr ⟨s_getI cf_X10 (Nat.le_of_ble_eq_true rfl) rfl fl_X10_191 dX10_hear_69, ?_⟩
  refine List.forall_mem_cons.mpr ⟨s_iload_n dX10_hear_72 rfl, ?_⟩
  refine List.forall_mem_cons.mpr ⟨s_iastore dX10_hear_73, ?_⟩
  refine List.forall_mem_cons.mpr ⟨s_aload_n dX10_hear_74 rfl, ?_⟩
  refine List.forall_mem_cons.mpr ⟨s_dup dX10_hear_75, ?_⟩
  refine List.forall_mem_cons.mpr ⟨s_getI cf_X10 (Nat.le_of_ble_eq_true rfl) rfl fl_X10_191 dX10_hear_76, ?_⟩
  refine List.forall_mem_cons.mpr ⟨s_iconst dX10_hear_79 (by decide), ?_⟩
  refine List.forall_mem_cons.mpr ⟨s_iadd dX10_hear_80, ?_⟩
  refine List.forall_mem_cons.mpr ⟨s_put cf_X10 (Nat.le_of_ble_eq_true rfl) rfl fl_X10_191 rfl (tyX10_ok 18 (Nat.le_of_ble_eq_true rfl)) dX10_hear_81, ?_⟩
  refine List.forall_mem_cons.mpr ⟨s_aload_n dX10_hear_84 rfl, ?_⟩
  refine List.forall_mem_cons.mpr ⟨s_getI cf_X10 (Nat.le_of_ble_eq_true rfl) rfl fl_X10_191 dX10_hear_85, ?_⟩
  refine List.forall_mem_cons.mpr ⟨s_ireturn dX10_hear_88 rfl, ?_⟩
  exact fun _ h => absurd h List.not_mem_nil
def cd_X10_known : sv_Cd := [(0, o_il 1 1),
  (1, o_ic 0 2),
  (2, o_ic 999999 4),
  (4, o_sI m_X10_in 3 7),
  (7, o_if (fun x => x = 0) 19 10),
  (10, o_il 2 11),
  (11, o_ic 0 12),
  (12, o_ic 2 13),
  (13, o_sI m_X10_in 3 16),
  (16, o_if (fun x => x = 0) 19 22),
  (19, o_ic (-2) 21),
  (21, o_ir),
  (22, o_ic 0 23),
  (23, o_is 3 24),
  (24, o_ic (-1) 25),
  (25, o_is 4 27),
  (27, o_ic (-1) 28),
  (28, o_is 5 30),
  (30, o_ic 0 31),
  (31, o_is 6 33),
  (33, o_il 6 35),
  (35, o_al 0 36),
  (36, o_gI 40 18 39),
  (39, o_ic2 (fun x y => y ≤ x) 114 42),
  (42, o_al 0 43),
  (43, o_gR 40 52 46),
  (46, o_il 6 48),
  (48, o_ia 49),
  (49, o_il 1 50),
  (50, o_ic2 (fun x y => x = y) 53 108),
  (53, o_in 3 1 56),
  (56, o_al 0 57),
  (57, o_gR 40 54 60),
  (60, o_il 6 62),
  (62, o_ia 63),
  (63, o_il 4 65),
  (65, o_ic2 (fun x y => x ≤ y) 78 68),
  (68, o_al 0 69),
  (69, o_gR 40 54 72),
  (72, o_il 6 74),
  (74, o_ia 75),
  (75, o_go 80),
  (78, o_il 4 80),
  (80, o_is 4 82),
  (82, o_al 0 83),
  (83, o_gR 40 53 86),
  (86, o_il 6 88),
  (88, o_ia 89),
  (89, o_il 5 91),
  (91, o_ic2 (fun x y => x ≤ y) 104 94),
  (94, o_al 0 95),
  (95, o_gR 40 53 98),
  (98, o_il 6 100),
  (100, o_ia 101),
  (101, o_go 106),
  (104, o_il 5 106),
  (106, o_is 5 108),
  (108, o_in 6 1 111),
  (111, o_go 33),
  (114, o_il 2 115),
  (115, o_if (fun x => x = 0) 118 122),
  (118, o_il 3 119),
  (119, o_go 134),
  (122, o_il 2 123),
  (123, o_ic 1 124),
  (124, o_ic2 (fun x y => x = y) 127 132),
  (127, o_il 4 129),
  (129, o_go 134),
  (132, o_il 5 134),
  (134, o_ir)]
set_option maxRecDepth 20000 in
theorem sn_X10_known : ∀ q ∈ cd_X10_known, sv_Snd m_X10_known q.1 q.2 := by
  unfold cd_X10_known
  refine List.forall_mem_cons.mpr ⟨s_iload_n dX10_known_0 rfl, ?_⟩
  refine List.forall_mem_cons.mpr ⟨s_iconst dX10_known_1 (by decide), ?_⟩
  refine List.forall_mem_cons.mpr ⟨s_ldc dX10_known_2 cs_X10_190, ?_⟩
  refine List.forall_mem_cons.mpr ⟨s_callSI ca_X10_in ml_X10_75 st_X10_in ⟨(Nat.le_of_ble_eq_true rfl), (Nat.le_of_ble_eq_true rfl)⟩ dX10_known_4, ?_⟩
  refine List.forall_mem_cons.mpr ⟨s_if_eq dX10_known_7 (by decide), ?_⟩
  refine List.forall_mem_cons.mpr ⟨s_iload_n dX10_known_10 rfl, ?_⟩
  refine List.forall_mem_cons.mpr ⟨s_iconst dX10_known_11 (by decide), ?_⟩
  refine List.forall_mem_cons.mpr ⟨s_iconst dX10_known_12 (by decide), ?_⟩
  refine List.forall_mem_cons.mpr ⟨s_callSI ca_X10_in ml_X10_75 st_X10_in ⟨(Nat.le_of_ble_eq_true rfl), (Nat.le_of_ble_eq_true rfl)⟩ dX10_known_13, ?_⟩
  refine List.forall_mem_cons.mpr ⟨s_if_ne dX10_known_16 (by decide), ?_⟩
  refine List.forall_mem_cons.mpr ⟨s_bipush dX10_known_19 (by decide), ?_⟩
  refine List.forall_mem_cons.mpr ⟨s_ireturn dX10_known_21 rfl, ?_⟩
  refine List.forall_mem_cons.mpr ⟨s_iconst dX10_known_22 (by decide), ?_⟩
  refine List.forall_mem_cons.mpr ⟨s_istore_n dX10_known_23 rfl (Nat.le_of_ble_eq_true rfl), ?_⟩
  refine List.forall_mem_cons.mpr ⟨s_iconst dX10_known_24 (by decide), ?_⟩
  refine List.forall_mem_cons.mpr ⟨s_istore dX10_known_25 (Nat.le_of_ble_eq_true rfl), ?_⟩
  refine List.forall_mem_cons.mpr ⟨s_iconst dX10_known_27 (by decide), ?_⟩
  refine List.forall_mem_cons.mpr ⟨s_istore dX10_known_28 (Nat.le_of_ble_eq_true rfl), ?_⟩
  refine List.forall_mem_cons.mpr ⟨s_iconst dX10_known_30 (by decide), ?_⟩
  refine List.forall_mem_cons.mpr ⟨s_istore dX10_known_31 (Nat.le_of_ble_eq_true rfl), ?_⟩
  refine List.forall_mem_cons.mpr ⟨s_iload dX10_known_33, ?_⟩
  refine List.forall_mem_cons.mpr ⟨s_aload_n dX10_known_35 rfl, ?_⟩
  refine List.forall_mem_cons.mpr ⟨s_getI cf_X10 (Nat.le_of_ble_eq_true rfl) rfl fl_X10_191 dX10_known_36, ?_⟩
  refine List.forall_mem_cons.mpr ⟨s_icmp_ge dX10_known_39 (by decide), ?_⟩
  refine List.forall_mem_cons.mpr ⟨s_aload_n dX10_known_42 rfl, ?_⟩
  refine List.forall_mem_cons.mpr ⟨s_getR (j := 19) cf_X10 (Nat.le_of_ble_eq_true rfl) rfl fl_X10_47 dX10_known_43, ?_⟩
  refine List.forall_mem_cons.mpr ⟨s_iload dX10_known_46, ?_⟩
  refine List.forall_mem_cons.mpr ⟨s_iaload dX10_known_48, ?_⟩
  refine List.forall_mem_cons.mpr ⟨s_iload_n dX10_known_49 rfl, ?_⟩
  refine List.forall_mem_cons.mpr ⟨s_icmp_ne dX10_known_50 (by decide), ?_⟩
  refine List.forall_mem_cons.mpr ⟨s_iinc dX10_known_53 (by decide) (Nat.le_of_ble_eq_true rfl), ?_⟩
  refine List.forall_mem_cons.mpr ⟨s_aload_n dX10_known_56 rfl, ?_⟩
  refine List.forall_mem_cons.mpr ⟨s_getR (j := 21) cf_X10 (Nat.le_of_ble_eq_true rfl) rfl fl_X10_53 dX10_known_57, ?_⟩
  refine List.forall_mem_cons.mpr ⟨s_iload dX10_known_60, ?_⟩
  refine List.forall_mem_cons.mpr ⟨s_iaload dX10_known_62, ?_⟩
  refine List.forall_mem_cons.mpr ⟨s_iload dX10_known_63, ?_⟩
  refine List.forall_mem_cons.mpr ⟨s_icmp_le dX10_known_65 (by decide), ?_⟩
  refine List.forall_mem_cons.mpr ⟨s_aload_n dX10_known_68 rfl, ?_⟩
  refine List.forall_mem_cons.mpr ⟨s_getR (j := 21) cf_X10 (Nat.le_of_ble_eq_true rfl) rfl fl_X10_53 dX10_known_69, ?_⟩
  refine List.forall_mem_cons.mpr ⟨s_iload dX10_known_72, ?_⟩
  refine List.forall_mem_cons.mpr ⟨s_iaload dX10_known_74, ?_⟩
  refine List.forall_mem_cons.mpr ⟨s_goto dX10_known_75 (by decide), ?_⟩
  refine List.forall_mem_cons.mpr ⟨s_iload dX10_known_78, ?_⟩
  refine List.forall_mem_cons.mpr ⟨s_istore dX10_known_80 (Nat.le_of_ble_eq_true rfl), ?_⟩
  refine List.forall_mem_cons.mpr ⟨s_aload_n dX10_known_82 rfl, ?_⟩
  refine List.forall_mem_cons.mpr ⟨s_getR (j := 20) cf_X10 (Nat.le_of_ble_eq_true rfl) rfl fl_X10_50 dX10_known_83, ?_⟩
  refine List.forall_mem_cons.mpr ⟨s_iload dX10_known_86, ?_⟩
  refine List.forall_mem_cons.mpr ⟨s_iaload dX10_known_88, ?_⟩
  refine List.forall_mem_cons.mpr ⟨s_iload dX10_known_89, ?_⟩
  refine List.forall_mem_cons.mpr ⟨s_icmp_le dX10_known_91 (by decide), ?_⟩
  refine List.forall_mem_cons.mpr ⟨s_aload_n dX10_known_94 rfl, ?_⟩
  refine List.forall_mem_cons.mpr ⟨s_getR (j := 20) cf_X10 (Nat.le_of_ble_eq_true rfl) rfl fl_X10_50 dX10_known_95, ?_⟩
  refine List.forall_mem_cons.mpr ⟨s_iload dX10_known_98, ?_⟩
  refine List.forall_mem_cons.mpr ⟨s_iaload dX10_known_100, ?_⟩
  refine List.forall_mem_cons.mpr ⟨s_goto dX10_known_101 (by decide), ?_⟩
  refine List.forall_mem_cons.mpr ⟨s_iload dX10_known_104, ?_⟩
  refine List.forall_mem_cons.mpr ⟨s_istore dX10_known_106 (Nat.le_of_ble_eq_true rfl), ?_⟩
  refine List.forall_mem_cons.mpr ⟨s_iinc dX10_known_108 (by decide) (Nat.le_of_ble_eq_true rfl), ?_⟩
  refine List.forall_mem_cons.mpr ⟨s_goto dX10_known_111 (by decide), ?_⟩
  refine List.forall_mem_cons.mpr ⟨s_iload_n dX10_known_114 rfl, ?_⟩
  refine List.forall_mem_cons.mpr ⟨s_if_ne dX10_known_115 (by decide), ?_⟩
  refine List.forall_mem_cons.mpr ⟨s_iload_n dX10_known_118 rfl, ?_⟩
  refine List.forall_mem_cons.mpr ⟨s_goto dX10_known_119 (by decide), ?_⟩
  refine List.forall_mem_cons.mpr ⟨s_iload_n dX10_known_122 rfl, ?_⟩
  refine List.forall_mem_cons.mpr ⟨s_iconst dX10_known_123 (by decide), ?_⟩
  refine List.forall_mem_cons.mpr ⟨s_icmp_ne dX10_known_124 (by decide), ?_⟩
  refine List.forall_mem_cons.mpr ⟨s_iload dX10_known_127, ?_⟩
  refine List.forall_mem_cons.mpr ⟨s_goto dX10_known_129 (by decide), ?_⟩
  refine List.forall_mem_cons.mpr ⟨s_iload dX10_known_132, ?_⟩
  refine List.forall_mem_cons.mpr ⟨s_ireturn dX10_known_134 rfl, ?_⟩
  exact fun _ h => absurd h List.not_mem_nil
def cd_X10_meets : sv_Cd := [(0, o_al 0 1),
  (1, o_il 1 2),
  (2, o_pI 40 27 5),
  (5, o_ic (-10) 7),
  (7, o_il 1 8),
  (8, o_b (fun x y => x - y) 9),
  (9, o_ir)]
set_option maxRecDepth 20000 in
theorem sn_X10_meets : ∀ q ∈ cd_X10_meets, sv_Snd m_X10_meets q.1 q.2 := by
  unfold cd_X10_meets
  refine List.forall_mem_cons.mpr ⟨s_aload_n dX10_meets_0 rfl, ?_⟩
  refine List.forall_mem_cons.mpr ⟨s_iload_n dX10_meets_1 rfl, ?_⟩
  refine List.forall_mem_cons.mpr ⟨s_put cf_X10 (Nat.le_of_ble_eq_true rfl) rfl fl_X10_194 rfl (tyX10_ok 27 (Nat.le_of_ble_eq_true rfl)) dX10_meets_2, ?_⟩
  refine List.forall_mem_cons.mpr ⟨s_bipush dX10_meets_5 (by decide), ?_⟩
  refine List.forall_mem_cons.mpr ⟨s_iload_n dX10_meets_7 rfl, ?_⟩
  refine List.forall_mem_cons.mpr ⟨s_isub dX10_meets_8, ?_⟩
  refine List.forall_mem_cons.mpr ⟨s_ireturn dX10_meets_9 rfl, ?_⟩
  exact fun _ h => absurd h List.not_mem_nil
def cd_X10_isSheet : sv_Cd := [(0, o_il 0 1),
  (1, o_ic 0 2),
  (2, o_ic 3 3),
  (3, o_sI m_X10_in 3 6),
  (6, o_zr)]
set_option maxRecDepth 20000 in
theorem sn_X10_isSheet : ∀ q ∈ cd_X10_isSheet, sv_Snd m_X10_isSheet q.1 q.2 := by
  unfold cd_X10_isSheet
  refine List.forall_mem_cons.mpr ⟨s_iload_n dX10_isSheet_0 rfl, ?_⟩
  refine List.forall_mem_cons.mpr ⟨s_iconst dX10_isSheet_1 (by decide), ?_⟩
  refine List.forall_mem_cons.mpr ⟨s_iconst dX10_isSheet_2 (by decide), ?_⟩
  refine List.forall_mem_cons.mpr ⟨s_callSI ca_X10_in ml_X10_75 st_X10_in ⟨(Nat.le_of_ble_eq_true rfl), (Nat.le_of_ble_eq_true rfl)⟩ dX10_isSheet_3, ?_⟩
  refine List.forall_mem_cons.mpr ⟨s_zreturn dX10_isSheet_6 rfl, ?_⟩
  exact fun _ h => absurd h List.not_mem_nil
def cd_X10_sheet : sv_Cd := [(0, o_il 1 1),
  (1, o_sI m_X10_isSheet 1 4),
  (4, o_if (fun x => x = 0) 23 7),
  (7, o_il 2 8),
  (8, o_ic 0 9),
  (9, o_ic 2 10),
  (10, o_sI m_X10_in 3 13),
  (13, o_if (fun x => x = 0) 23 16),
  (16, o_il 3 17),
  (17, o_ic 240 20),
  (20, o_ic2 (fun x y => x ≤ y) 26 23),
  (23, o_ic (-2) 25),
  (25, o_ir),
  (26, o_il 3 27),
  (27, o_if (fun x => 0 ≤ x) 36 30),
  (30, o_al 0 31),
  (31, o_ic 5 32),
  (32, o_vI m_X10_meets 1 40 35),
  (35, o_ir),
  (36, o_al 0 37),
  (37, o_gR 40 55 40),
  (40, o_il 1 41),
  (41, o_ic 1 42),
  (42, o_zs 43),
  (43, o_al 0 44),
  (44, o_gR 40 56 47),
  (47, o_il 1 48),
  (48, o_il 2 49),
  (49, o_is3 50),
  (50, o_al 0 51),
  (51, o_gR 40 57 54),
  (54, o_il 1 55),
  (55, o_il 3 56),
  (56, o_is3 57),
  (57, o_ic 0 58),
  (58, o_is 4 60),
  (60, o_il 4 62),
  (62, o_ic 240 65),
  (65, o_ic2 (fun x y => y ≤ x) 88 68),
  (68, o_al 0 69),
  (69, o_gR 40 58 72),
  (72, o_ic 240 75),
  (75, o_il 1 76),
  (76, o_b (fun x y => x * y) 77),
  (77, o_il 4 79),
  (79, o_b (fun x y => x + y) 80),
  (80, o_ic 0 81),
  (81, o_is3 82),
  (82, o_in 4 1 85),
  (85, o_go 60),
  (88, o_il 3 89),
  (89, o_ir)]
set_option maxRecDepth 20000 in
theorem sn_X10_sheet : ∀ q ∈ cd_X10_sheet, sv_Snd m_X10_sheet q.1 q.2 := by
  unfold cd_X10_sheet
  refine List.forall_mem_cons.mpr ⟨s_iload_n dX10_sheet_0 rfl, ?_⟩
  refine List.forall_mem_cons.mpr ⟨s_callSI ca_X10_isSheet ml_X10_197 st_X10_isSheet ⟨(Nat.le_of_ble_eq_true rfl), (Nat.le_of_ble_eq_true rfl)⟩ dX10_sheet_1, ?_⟩
  refine List.forall_mem_cons.mpr ⟨s_if_eq dX10_sheet_4 (by decide), ?_⟩
  refine List.forall_mem_cons.mpr ⟨s_iload_n dX10_sheet_7 rfl, ?_⟩
  refine List.forall_mem_cons.mpr ⟨s_iconst dX10_sheet_8 (by decide), ?_⟩
  refine List.forall_mem_cons.mpr ⟨s_iconst dX10_sheet_9 (by decide), ?_⟩
  refine List.forall_mem_cons.mpr ⟨s_callSI ca_X10_in ml_X10_75 st_X10_in ⟨(Nat.le_of_ble_eq_true rfl), (Nat.le_of_ble_eq_true rfl)⟩ dX10_sheet_10, ?_⟩
  refine List.forall_mem_cons.mpr ⟨s_if_eq dX10_sheet_13 (by decide), ?_⟩
  refine List.forall_mem_cons.mpr ⟨s_iload_n dX10_sheet_16 rfl, ?_⟩
  refine List.forall_mem_cons.mpr ⟨s_sipush dX10_sheet_17 (by decide), ?_⟩
  refine List.forall_mem_cons.mpr ⟨s_icmp_le dX10_sheet_20 (by decide), ?_⟩
  refine List.forall_mem_cons.mpr ⟨s_bipush dX10_sheet_23 (by decide), ?_⟩
  refine List.forall_mem_cons.mpr ⟨s_ireturn dX10_sheet_25 rfl, ?_⟩
  refine List.forall_mem_cons.mpr ⟨s_iload_n dX10_sheet_26 rfl, ?_⟩
  refine List.forall_mem_cons.mpr ⟨s_if_ge dX10_sheet_27 (by decide), ?_⟩
  refine List.forall_mem_cons.mpr ⟨s_aload_n dX10_sheet_30 rfl, ?_⟩
  refine List.forall_mem_cons.mpr ⟨s_iconst dX10_sheet_31 (by decide), ?_⟩
  refine List.forall_mem_cons.mpr ⟨s_callVI cf_X10 rfl ca_X10_meets ml_X10_200 im_X10_meets se_X10_meets ⟨(Nat.le_of_ble_eq_true rfl), (Nat.le_of_ble_eq_true rfl)⟩ dX10_sheet_32, ?_⟩
  refine List.forall_mem_cons.mpr ⟨s_ireturn dX10_sheet_35 rfl, ?_⟩
  refine List.forall_mem_cons.mpr ⟨s_aload_n dX10_sheet_36 rfl, ?_⟩
  refine List.forall_mem_cons.mpr ⟨s_getR (j := 22) cf_X10 (Nat.le_of_ble_eq_true rfl) rfl fl_X10_56 dX10_sheet_37, ?_⟩
  refine List.forall_mem_cons.mpr ⟨s_iload_n dX10_sheet_40 rfl, ?_⟩
  refine List.forall_mem_cons.mpr ⟨s_iconst dX10_sheet_41 (by decide), ?_⟩
  refine List.forall_mem_cons.mpr ⟨s_bastore dX10_sheet_42, ?_⟩
  refine List.forall_mem_cons.mpr ⟨s_aload_n dX10_sheet_43 rfl, ?_⟩
  refine List.forall_mem_cons.mpr ⟨s_getR (j := 23) cf_X10 (Nat.le_of_ble_eq_true rfl) rfl fl_X10_60 dX10_sheet_44, ?_⟩
  refine List.forall_mem_cons.mpr ⟨s_iload_n dX10_sheet_47 rfl, ?_⟩
  refine List.forall_mem_cons.mpr ⟨s_iload_n dX10_sheet_48 rfl, ?_⟩
  refine List.forall_mem_cons.mpr ⟨s_iastore dX10_sheet_49, ?_⟩
  refine List.forall_mem_cons.mpr ⟨s_aload_n dX10_sheet_50 rfl, ?_⟩
  refine List.forall_mem_cons.mpr ⟨s_getR (j := 24) cf_X10 (Nat.le_of_ble_eq_true rfl) rfl fl_X10_63 dX10_sheet_51, ?_⟩
  refine List.forall_mem_cons.mpr ⟨s_iload_n dX10_sheet_54 rfl, ?_⟩
  refine List.forall_mem_cons.mpr ⟨s_iload_n dX10_sheet_55 rfl, ?_⟩
  refine List.forall_mem_cons.mpr ⟨s_iastore dX10_sheet_56, ?_⟩
  refine List.forall_mem_cons.mpr ⟨s_iconst dX10_sheet_57 (by decide), ?_⟩
  refine List.forall_mem_cons.mpr ⟨s_istore dX10_sheet_58 (Nat.le_of_ble_eq_true rfl), ?_⟩
  refine List.forall_mem_cons.mpr ⟨s_iload dX10_sheet_60, ?_⟩
  refine List.forall_mem_cons.mpr ⟨s_sipush dX10_sheet_62 (by decide), ?_⟩
  refine List.forall_mem_cons.mpr ⟨s_icmp_ge dX10_sheet_65 (by decide), ?_⟩
  refine List.forall_mem_cons.mpr ⟨s_aload_n dX10_sheet_68 rfl, ?_⟩
  refine List.forall_mem_cons.mpr ⟨s_getR (j := 25) cf_X10 (Nat.le_of_ble_eq_true rfl) rfl fl_X10_66 dX10_sheet_69, ?_⟩
  refine List.forall_mem_cons.mpr ⟨s_sipush dX10_sheet_72 (by decide), ?_⟩
  refine List.forall_mem_cons.mpr ⟨s_iload_n dX10_sheet_75 rfl, ?_⟩
  refine List.forall_mem_cons.mpr ⟨s_imul dX10_sheet_76, ?_⟩
  refine List.forall_mem_cons.mpr ⟨s_iload dX10_sheet_77, ?_⟩
  refine List.forall_mem_cons.mpr ⟨s_iadd dX10_sheet_79, ?_⟩
  refine List.forall_mem_cons.mpr ⟨s_iconst dX10_sheet_80 (by decide), ?_⟩
  refine List.forall_mem_cons.mpr ⟨s_iastore dX10_sheet_81, ?_⟩
  refine List.forall_mem_cons.mpr ⟨s_iinc dX10_sheet_82 (by decide) (Nat.le_of_ble_eq_true rfl), ?_⟩
  refine List.forall_mem_cons.mpr ⟨s_goto dX10_sheet_85 (by decide), ?_⟩
  refine List.forall_mem_cons.mpr ⟨s_iload_n dX10_sheet_88 rfl, ?_⟩
  refine List.forall_mem_cons.mpr ⟨s_ireturn dX10_sheet_89 rfl, ?_⟩
  exact fun _ h => absurd h List.not_mem_nil
def cd_X10_lose : sv_Cd := [(0, o_il 1 1),
  (1, o_sI m_X10_isSheet 1 4),
  (4, o_if (fun x => x = 0) 7 10),
  (7, o_ic (-2) 9),
  (9, o_ir),
  (10, o_al 0 11),
  (11, o_gR 40 55 14),
  (14, o_il 1 15),
  (15, o_za 16),
  (16, o_if (fun x => x = 0) 19 25),
  (19, o_al 0 20),
  (20, o_ic 1 21),
  (21, o_vI m_X10_meets 1 40 24),
  (24, o_ir),
  (25, o_al 0 26),
  (26, o_gR 40 55 29),
  (29, o_il 1 30),
  (30, o_ic 0 31),
  (31, o_zs 32),
  (32, o_al 0 33),
  (33, o_gR 40 57 36),
  (36, o_il 1 37),
  (37, o_ia 38),
  (38, o_ir)]
set_option maxRecDepth 20000 in
theorem sn_X10_lose : ∀ q ∈ cd_X10_lose, sv_Snd m_X10_lose q.1 q.2 := by
  unfold cd_X10_lose
  refine List.forall_mem_cons.mpr ⟨s_iload_n dX10_lose_0 rfl, ?_⟩
  refine List.forall_mem_cons.mpr ⟨s_callSI ca_X10_isSheet ml_X10_197 st_X10_isSheet ⟨(Nat.le_of_ble_eq_true rfl), (Nat.le_of_ble_eq_true rfl)⟩ dX10_lose_1, ?_⟩
  refine List.forall_mem_cons.mpr ⟨s_if_ne dX10_lose_4 (by decide), ?_⟩
  refine List.forall_mem_cons.mpr ⟨s_bipush dX10_lose_7 (by decide), ?_⟩
  refine List.forall_mem_cons.mpr ⟨s_ireturn dX10_lose_9 rfl, ?_⟩
  refine List.forall_mem_cons.mpr ⟨s_aload_n dX10_lose_10 rfl, ?_⟩
  refine List.forall_mem_cons.mpr ⟨s_getR (j := 22) cf_X10 (Nat.le_of_ble_eq_true rfl) rfl fl_X10_56 dX10_lose_11, ?_⟩
  refine List.forall_mem_cons.mpr ⟨s_iload_n dX10_lose_14 rfl, ?_⟩
  refine List.forall_mem_cons.mpr ⟨s_baload dX10_lose_15, ?_⟩
  refine List.forall_mem_cons.mpr ⟨s_if_ne dX10_lose_16 (by decide), ?_⟩
  refine List.forall_mem_cons.mpr ⟨s_aload_n dX10_lose_19 rfl, ?_⟩
  refine List.forall_mem_cons.mpr ⟨s_iconst dX10_lose_20 (by decide), ?_⟩
  refine List.forall_mem_cons.mpr ⟨s_callVI cf_X10 rfl ca_X10_meets ml_X10_200 im_X10_meets se_X10_meets ⟨(Nat.le_of_ble_eq_true rfl), (Nat.le_of_ble_eq_true rfl)⟩ dX10_lose_21, ?_⟩
  refine List.forall_mem_cons.mpr ⟨s_ireturn dX10_lose_24 rfl, ?_⟩
  refine List.forall_mem_cons.mpr ⟨s_aload_n dX10_lose_25 rfl, ?_⟩
  refine List.forall_mem_cons.mpr ⟨s_getR (j := 22) cf_X10 (Nat.le_of_ble_eq_true rfl) rfl fl_X10_56 dX10_lose_26, ?_⟩
  refine List.forall_mem_cons.mpr ⟨s_iload_n dX10_lose_29 rfl, ?_⟩
  refine List.forall_mem_cons.mpr ⟨s_iconst dX10_lose_30 (by decide), ?_⟩
  refine List.forall_mem_cons.mpr ⟨s_bastore dX10_lose_31, ?_⟩
  refine List.forall_mem_cons.mpr ⟨s_aload_n dX10_lose_32 rfl, ?_⟩
  refine List.forall_mem_cons.mpr ⟨s_getR (j := 24) cf_X10 (Nat.le_of_ble_eq_true rfl) rfl fl_X10_63 dX10_lose_33, ?_⟩
  refine List.forall_mem_cons.mpr ⟨s_iload_n dX10_lose_36 rfl, ?_⟩
  refine List.forall_mem_cons.mpr ⟨s_iaload dX10_lose_37, ?_⟩
  refine List.forall_mem_cons.mpr ⟨s_ireturn dX10_lose_38 rfl, ?_⟩
  exact fun _ h => absurd h List.not_mem_nil
def cd_X10_lacks : sv_Cd := [(0, o_al 0 1),
  (1, o_gR 40 55 4),
  (4, o_il 1 5),
  (5, o_za 6),
  (6, o_if (fun x => x = 0) 9 13),
  (9, o_ic 1 10),
  (10, o_go 48),
  (13, o_al 0 14),
  (14, o_gR 40 56 17),
  (17, o_il 1 18),
  (18, o_ia 19),
  (19, o_il 2 20),
  (20, o_ic2 (fun x y => x = y) 27 23),
  (23, o_ic 3 24),
  (24, o_go 48),
  (27, o_il 3 28),
  (28, o_ic 0 29),
  (29, o_al 0 30),
  (30, o_gR 40 57 33),
  (33, o_il 1 34),
  (34, o_ia 35),
  (35, o_ic 1 36),
  (36, o_b (fun x y => x - y) 37),
  (37, o_sI m_X10_in 3 40),
  (40, o_if (fun x => x = 0) 47 43),
  (43, o_ic 0 44),
  (44, o_go 48),
  (47, o_ic 2 48),
  (48, o_ir)]
set_option maxRecDepth 20000 in
theorem sn_X10_lacks : ∀ q ∈ cd_X10_lacks, sv_Snd m_X10_lacks q.1 q.2 := by
  unfold cd_X10_lacks
  refine List.forall_mem_cons.mpr ⟨s_aload_n dX10_lacks_0 rfl, ?_⟩
  refine List.forall_mem_cons.mpr ⟨s_getR (j := 22) cf_X10 (Nat.le_of_ble_eq_true rfl) rfl fl_X10_56 dX10_lacks_1, ?_⟩
  refine List.forall_mem_cons.mpr ⟨s_iload_n dX10_lacks_4 rfl, ?_⟩
  refine List.forall_mem_cons.mpr ⟨s_baload dX10_lacks_5, ?_⟩
  refine List.forall_mem_cons.mpr ⟨s_if_ne dX10_lacks_6 (by decide), ?_⟩
  refine List.forall_mem_cons.mpr ⟨s_iconst dX10_lacks_9 (by decide), ?_⟩
  refine List.forall_mem_cons.mpr ⟨s_goto dX10_lacks_10 (by decide), ?_⟩
  refine List.forall_mem_cons.mpr ⟨s_aload_n dX10_lacks_13 rfl, ?_⟩
  refine List.forall_mem_cons.mpr ⟨s_getR (j := 23) cf_X10 (Nat.le_of_ble_eq_true rfl) rfl fl_X10_60 dX10_lacks_14, ?_⟩
  refine List.forall_mem_cons.mpr ⟨s_iload_n dX10_lacks_17 rfl, ?_⟩
  refine List.forall_mem_cons.mpr ⟨s_iaload dX10_lacks_18, ?_⟩
  refine List.forall_mem_cons.mpr ⟨s_iload_n dX10_lacks_19 rfl, ?_⟩
  refine List.forall_mem_cons.mpr ⟨s_icmp_eq dX10_lacks_20 (by decide), ?_⟩
  refine List.forall_mem_cons.mpr ⟨s_iconst dX10_lacks_23 (by decide), ?_⟩
  refine List.forall_mem_cons.mpr ⟨s_goto dX10_lacks_24 (by decide), ?_⟩
  refine List.forall_mem_cons.mpr ⟨s_iload_n dX10_lacks_27 rfl, ?_⟩
  refine List.forall_mem_cons.mpr ⟨s_iconst dX10_lacks_28 (by decide), ?_⟩
  refine List.forall_mem_cons.mpr ⟨s_aload_n dX10_lacks_29 rfl, ?_⟩
  refine List.forall_mem_cons.mpr ⟨s_getR (j := 24) cf_X10 (Nat.le_of_ble_eq_true rfl) rfl fl_X10_63 dX10_lacks_30, ?_⟩
  refine List.forall_mem_cons.mpr ⟨s_iload_n dX10_lacks_33 rfl, ?_⟩
  refine List.forall_mem_cons.mpr ⟨s_iaload dX10_lacks_34, ?_⟩
  refine List.forall_mem_cons.mpr ⟨s_iconst dX10_lacks_35 (by decide), ?_⟩
  refine List.forall_mem_cons.mpr ⟨s_isub dX10_lacks_36, ?_⟩
  refine List.forall_mem_cons.mpr ⟨s_callSI ca_X10_in ml_X10_75 st_X10_in ⟨(Nat.le_of_ble_eq_true rfl), (Nat.le_of_ble_eq_true rfl)⟩ dX10_lacks_37, ?_⟩
  refine List.forall_mem_cons.mpr ⟨s_if_eq dX10_lacks_40 (by decide), ?_⟩
  refine List.forall_mem_cons.mpr ⟨s_iconst dX10_lacks_43 (by decide), ?_⟩
  refine List.forall_mem_cons.mpr ⟨s_goto dX10_lacks_44 (by decide), ?_⟩
  refine List.forall_mem_cons.mpr ⟨s_iconst dX10_lacks_47 (by decide), ?_⟩
  refine List.forall_mem_cons.mpr ⟨s_ireturn dX10_lacks_48 rfl, ?_⟩
  exact fun _ h => absurd h List.not_mem_nil
def cd_X10_put : sv_Cd := [(0, o_il 1 1),
  (1, o_sI m_X10_isSheet 1 4),
  (4, o_if (fun x => x = 0) 16 7),
  (7, o_il 2 8),
  (8, o_ic 0 9),
  (9, o_ic 2 10),
  (10, o_sI m_X10_in 3 13),
  (13, o_if (fun x => x = 0) 16 19),
  (16, o_ic (-2) 18),
  (18, o_ir),
  (19, o_al 0 20),
  (20, o_il 1 21),
  (21, o_il 2 22),
  (22, o_il 3 23),
  (23, o_vI m_X10_lacks 3 40 26),
  (26, o_is 5 28),
  (28, o_il 5 30),
  (30, o_if (fun x => x ≤ 0) 40 33),
  (33, o_al 0 34),
  (34, o_il 5 36),
  (36, o_vI m_X10_meets 1 40 39),
  (39, o_ir),
  (40, o_al 0 41),
  (41, o_gR 40 58 44),
  (44, o_ic 240 47),
  (47, o_il 1 48),
  (48, o_b (fun x y => x * y) 49),
  (49, o_il 3 50),
  (50, o_b (fun x y => x + y) 51),
  (51, o_il 2 52),
  (52, o_if (fun x => x = 0) 55 61),
  (55, o_il 4 57),
  (57, o_u (fun x => x.toInt8.toInt32) 58),
  (58, o_go 74),
  (61, o_il 2 62),
  (62, o_ic 1 63),
  (63, o_ic2 (fun x y => x = y) 66 72),
  (66, o_il 4 68),
  (68, o_u (fun x => x.toInt16.toInt32) 69),
  (69, o_go 74),
  (72, o_il 4 74),
  (74, o_is3 75),
  (75, o_ic 1 76),
  (76, o_ir)]
set_option maxRecDepth 20000 in
theorem sn_X10_put : ∀ q ∈ cd_X10_put, sv_Snd m_X10_put q.1 q.2 := by
  unfold cd_X10_put
  refine List.forall_mem_cons.mpr ⟨s_iload_n dX10_put_0 rfl, ?_⟩
  refine List.forall_mem_cons.mpr ⟨s_callSI ca_X10_isSheet ml_X10_197 st_X10_isSheet ⟨(Nat.le_of_ble_eq_true rfl), (Nat.le_of_ble_eq_true rfl)⟩ dX10_put_1, ?_⟩
  refine List.forall_mem_cons.mpr ⟨s_if_eq dX10_put_4 (by decide), ?_⟩
  refine List.forall_mem_cons.mpr ⟨s_iload_n dX10_put_7 rfl, ?_⟩
  refine List.forall_mem_cons.mpr ⟨s_iconst dX10_put_8 (by decide), ?_⟩
  refine List.forall_mem_cons.mpr ⟨s_iconst dX10_put_9 (by decide), ?_⟩
  refine List.forall_mem_cons.mpr ⟨s_callSI ca_X10_in ml_X10_75 st_X10_in ⟨(Nat.le_of_ble_eq_true rfl), (Nat.le_of_ble_eq_true rfl)⟩ dX10_put_10, ?_⟩
  refine List.forall_mem_cons.mpr ⟨s_if_ne dX10_put_13 (by decide), ?_⟩
  refine List.forall_mem_cons.mpr ⟨s_bipush dX10_put_16 (by decide), ?_⟩
  refine List.forall_mem_cons.mpr ⟨s_ireturn dX10_put_18 rfl, ?_⟩
  refine List.forall_mem_cons.mpr ⟨s_aload_n dX10_put_19 rfl, ?_⟩
  refine List.forall_mem_cons.mpr ⟨s_iload_n dX10_put_20 rfl, ?_⟩
  refine List.forall_mem_cons.mpr ⟨s_iload_n dX10_put_21 rfl, ?_⟩
  refine List.forall_mem_cons.mpr ⟨s_iload_n dX10_put_22 rfl, ?_⟩
  refine List.forall_mem_cons.mpr ⟨s_callVI cf_X10 rfl ca_X10_lacks ml_X10_203 im_X10_lacks se_X10_lacks ⟨(Nat.le_of_ble_eq_true rfl), (Nat.le_of_ble_eq_true rfl)⟩ dX10_put_23, ?_⟩
  refine List.forall_mem_cons.mpr ⟨s_istore dX10_put_26 (Nat.le_of_ble_eq_true rfl), ?_⟩
  refine List.forall_mem_cons.mpr ⟨s_iload dX10_put_28, ?_⟩
  refine List.forall_mem_cons.mpr ⟨s_if_le dX10_put_30 (by decide), ?_⟩
  refine List.forall_mem_cons.mpr ⟨s_aload_n dX10_put_33 rfl, ?_⟩
  refine List.forall_mem_cons.mpr ⟨s_iload dX10_put_34, ?_⟩
  refine List.forall_mem_cons.mpr ⟨s_callVI cf_X10 rfl ca_X10_meets ml_X10_200 im_X10_meets se_X10_meets ⟨(Nat.le_of_ble_eq_true rfl), (Nat.le_of_ble_eq_true rfl)⟩ dX10_put_36, ?_⟩
  refine List.forall_mem_cons.mpr ⟨s_ireturn dX10_put_39 rfl, ?_⟩
  refine List.forall_mem_cons.mpr ⟨s_aload_n dX10_put_40 rfl, ?_⟩
  refine List.forall_mem_cons.mpr ⟨s_getR (j := 25) cf_X10 (Nat.le_of_ble_eq_true rfl) rfl fl_X10_66 dX10_put_41, ?_⟩
  refine List.forall_mem_cons.mpr ⟨s_sipush dX10_put_44 (by decide), ?_⟩
  refine List.forall_mem_cons.mpr ⟨s_iload_n dX10_put_47 rfl, ?_⟩
  refine List.forall_mem_cons.mpr ⟨s_imul dX10_put_48, ?_⟩
  refine List.forall_mem_cons.mpr ⟨s_iload_n dX10_put_49 rfl, ?_⟩
  refine List.forall_mem_cons.mpr ⟨s_iadd dX10_put_50, ?_⟩
  refine List.forall_mem_cons.mpr ⟨s_iload_n dX10_put_51 rfl, ?_⟩
  refine List.forall_mem_cons.mpr ⟨s_if_ne dX10_put_52 (by decide), ?_⟩
  refine List.forall_mem_cons.mpr ⟨s_iload dX10_put_55, ?_⟩
  refine List.forall_mem_cons.mpr ⟨s_i2b dX10_put_57, ?_⟩
  refine List.forall_mem_cons.mpr ⟨s_goto dX10_put_58 (by decide), ?_⟩
  refine List.forall_mem_cons.mpr ⟨s_iload_n dX10_put_61 rfl, ?_⟩
  refine List.forall_mem_cons.mpr ⟨s_iconst dX10_put_62 (by decide), ?_⟩
  refine List.forall_mem_cons.mpr ⟨s_icmp_ne dX10_put_63 (by decide), ?_⟩
  refine List.forall_mem_cons.mpr ⟨s_iload dX10_put_66, ?_⟩
  refine List.forall_mem_cons.mpr ⟨s_i2s dX10_put_68, ?_⟩
  refine List.forall_mem_cons.mpr ⟨s_goto dX10_put_69 (by decide), ?_⟩
  refine List.forall_mem_cons.mpr ⟨s_iload dX10_put_72, ?_⟩
  refine List.forall_mem_cons.mpr ⟨s_iastore dX10_put_74, ?_⟩
  refine List.forall_mem_cons.mpr ⟨s_iconst dX10_put_75 (by decide), ?_⟩
  refine List.forall_mem_cons.mpr ⟨s_ireturn dX10_put_76 rfl, ?_⟩
  exact fun _ h => absurd h List.not_mem_nil
def cd_X10_get : sv_Cd := [(0, o_il 1 1),
  (1, o_sI m_X10_isSheet 1 4),
  (4, o_if (fun x => x = 0) 16 7),
  (7, o_il 2 8),
  (8, o_ic 0 9),
  (9, o_ic 2 10),
  (10, o_sI m_X10_in 3 13),
  (13, o_if (fun x => x = 0) 16 19),
  (16, o_ic (-2147483648) 18),
  (18, o_ir),
  (19, o_al 0 20),
  (20, o_il 1 21),
  (21, o_il 2 22),
  (22, o_il 3 23),
  (23, o_vI m_X10_lacks 3 40 26),
  (26, o_is 4 28),
  (28, o_il 4 30),
  (30, o_if (fun x => x ≤ 0) 42 33),
  (33, o_al 0 34),
  (34, o_il 4 36),
  (36, o_pI 40 27 39),
  (39, o_ic (-2147483648) 41),
  (41, o_ir),
  (42, o_al 0 43),
  (43, o_gR 40 58 46),
  (46, o_ic 240 49),
  (49, o_il 1 50),
  (50, o_b (fun x y => x * y) 51),
  (51, o_il 3 52),
  (52, o_b (fun x y => x + y) 53),
  (53, o_ia 54),
  (54, o_ir)]
set_option maxRecDepth 20000 in
theorem sn_X10_get : ∀ q ∈ cd_X10_get, sv_Snd m_X10_get q.1 q.2 := by
  unfold cd_X10_get
  refine List.forall_mem_cons.mpr ⟨s_iload_n dX10_get_0 rfl, ?_⟩
  refine List.forall_mem_cons.mpr ⟨s_callSI ca_X10_isSheet ml_X10_197 st_X10_isSheet ⟨(Nat.le_of_ble_eq_true rfl), (Nat.le_of_ble_eq_true rfl)⟩ dX10_get_1, ?_⟩
  refine List.forall_mem_cons.mpr ⟨s_if_eq dX10_get_4 (by decide), ?_⟩
  refine List.forall_mem_cons.mpr ⟨s_iload_n dX10_get_7 rfl, ?_⟩
  refine List.forall_mem_cons.mpr ⟨s_iconst dX10_get_8 (by decide), ?_⟩
  refine List.forall_mem_cons.mpr ⟨s_iconst dX10_get_9 (by decide), ?_⟩
  refine List.forall_mem_cons.mpr ⟨s_callSI ca_X10_in ml_X10_75 st_X10_in ⟨(Nat.le_of_ble_eq_true rfl), (Nat.le_of_ble_eq_true rfl)⟩ dX10_get_10, ?_⟩
  refine List.forall_mem_cons.mpr ⟨s_if_ne dX10_get_13 (by decide), ?_⟩
  refine List.forall_mem_cons.mpr ⟨s_ldc dX10_get_16 cs_X10_206, ?_⟩
  refine List.forall_mem_cons.mpr ⟨s_ireturn dX10_get_18 rfl, ?_⟩
  refine List.forall_mem_cons.mpr ⟨s_aload_n dX10_get_19 rfl, ?_⟩
  refine List.forall_mem_cons.mpr ⟨s_iload_n dX10_get_20 rfl, ?_⟩
  refine List.forall_mem_cons.mpr ⟨s_iload_n dX10_get_21 rfl, ?_⟩
  refine List.forall_mem_cons.mpr ⟨s_iload_n dX10_get_22 rfl, ?_⟩
  refine List.forall_mem_cons.mpr ⟨s_callVI cf_X10 rfl ca_X10_lacks ml_X10_203 im_X10_lacks se_X10_lacks ⟨(Nat.le_of_ble_eq_true rfl), (Nat.le_of_ble_eq_true rfl)⟩ dX10_get_23, ?_⟩
  refine List.forall_mem_cons.mpr ⟨s_istore dX10_get_26 (Nat.le_of_ble_eq_true rfl), ?_⟩
  refine List.forall_mem_cons.mpr ⟨s_iload dX10_get_28, ?_⟩
  refine List.forall_mem_cons.mpr ⟨s_if_le dX10_get_30 (by decide), ?_⟩
  refine List.forall_mem_cons.mpr ⟨s_aload_n dX10_get_33 rfl, ?_⟩
  refine List.forall_mem_cons.mpr ⟨s_iload dX10_get_34, ?_⟩
  refine List.forall_mem_cons.mpr ⟨s_put cf_X10 (Nat.le_of_ble_eq_true rfl) rfl fl_X10_194 rfl (tyX10_ok 27 (Nat.le_of_ble_eq_true rfl)) dX10_get_36, ?_⟩
  refine List.forall_mem_cons.mpr ⟨s_ldc dX10_get_39 cs_X10_206, ?_⟩
  refine List.forall_mem_cons.mpr ⟨s_ireturn dX10_get_41 rfl, ?_⟩
  refine List.forall_mem_cons.mpr ⟨s_aload_n dX10_get_42 rfl, ?_⟩
  refine List.forall_mem_cons.mpr ⟨s_getR (j := 25) cf_X10 (Nat.le_of_ble_eq_true rfl) rfl fl_X10_66 dX10_get_43, ?_⟩
  refine List.forall_mem_cons.mpr ⟨s_sipush dX10_get_46 (by decide), ?_⟩
  refine List.forall_mem_cons.mpr ⟨s_iload_n dX10_get_49 rfl, ?_⟩
  refine List.forall_mem_cons.mpr ⟨s_imul dX10_get_50, ?_⟩
  refine List.forall_mem_cons.mpr ⟨s_iload_n dX10_get_51 rfl, ?_⟩
  refine List.forall_mem_cons.mpr ⟨s_iadd dX10_get_52, ?_⟩
  refine List.forall_mem_cons.mpr ⟨s_iaload dX10_get_53, ?_⟩
  refine List.forall_mem_cons.mpr ⟨s_ireturn dX10_get_54 rfl, ?_⟩
  exact fun _ h => absurd h List.not_mem_nil
def cd_X10_copy : sv_Cd := [(0, o_il 1 1),
  (1, o_sI m_X10_isSheet 1 4),
  (4, o_if (fun x => x = 0) 14 7),
  (7, o_il 3 8),
  (8, o_sI m_X10_isSheet 1 11),
  (11, o_if (fun x => x = 0) 14 17),
  (14, o_ic (-2) 16),
  (16, o_ir),
  (17, o_al 0 18),
  (18, o_gR 40 55 21),
  (21, o_il 1 22),
  (22, o_za 23),
  (23, o_if (fun x => x = 0) 35 26),
  (26, o_al 0 27),
  (27, o_gR 40 55 30),
  (30, o_il 3 31),
  (31, o_za 32),
  (32, o_if (fun x => x = 0) 35 41),
  (35, o_al 0 36),
  (36, o_ic 1 37),
  (37, o_vI m_X10_meets 1 40 40),
  (40, o_ir),
  (41, o_al 0 42),
  (42, o_gR 40 56 45),
  (45, o_il 1 46),
  (46, o_ia 47),
  (47, o_al 0 48),
  (48, o_gR 40 56 51),
  (51, o_il 3 52),
  (52, o_ia 53),
  (53, o_ic2 (fun x y => x = y) 62 56),
  (56, o_al 0 57),
  (57, o_ic 4 58),
  (58, o_vI m_X10_meets 1 40 61),
  (61, o_ir),
  (62, o_il 2 63),
  (63, o_if (fun x => x < 0) 111 66),
  (66, o_il 4 68),
  (68, o_if (fun x => x < 0) 111 71),
  (71, o_il 5 73),
  (73, o_if (fun x => x < 0) 111 76),
  (76, o_il 2 77),
  (77, o_i2l 78),
  (78, o_il 5 80),
  (80, o_i2l 81),
  (81, o_lb (fun x y => x + y) 82),
  (82, o_al 0 83),
  (83, o_gR 40 57 86),
  (86, o_il 1 87),
  (87, o_ia 88),
  (88, o_i2l 89),
  (89, o_lcmp 90),
  (90, o_if (fun x => 0 < x) 111 93),
  (93, o_il 4 95),
  (95, o_i2l 96),
  (96, o_il 5 98),
  (98, o_i2l 99),
  (99, o_lb (fun x y => x + y) 100),
  (100, o_al 0 101),
  (101, o_gR 40 57 104),
  (104, o_il 3 105),
  (105, o_ia 106),
  (106, o_i2l 107),
  (107, o_lcmp 108),
  (108, o_if (fun x => x ≤ 0) 117 111),
  (111, o_al 0 112),
  (112, o_ic 2 113),
  (113, o_vI m_X10_meets 1 40 116),
  (116, o_ir),
  (117, o_ic 0 118),
  (118, o_is 6 120),
  (120, o_il 6 122),
  (122, o_il 5 124),
  (124, o_ic2 (fun x y => y ≤ x) 155 127),
  (127, o_al 0 128),
  (128, o_gR 40 59 131),
  (131, o_il 6 133),
  (133, o_al 0 134),
  (134, o_gR 40 58 137),
  (137, o_ic 240 140),
  (140, o_il 1 141),
  (141, o_b (fun x y => x * y) 142),
  (142, o_il 2 143),
  (143, o_b (fun x y => x + y) 144),
  (144, o_il 6 146),
  (146, o_b (fun x y => x + y) 147),
  (147, o_ia 148),
  (148, o_is3 149),
  (149, o_in 6 1 152),
  (152, o_go 120),
  (155, o_ic 0 156),
  (156, o_is 6 158),
  (158, o_il 6 160),
  (160, o_il 5 162),
  (162, o_ic2 (fun x y => y ≤ x) 194 165),
  (165, o_al 0 166),
  (166, o_gR 40 58 169),
  (169, o_ic 240 172),
  (172, o_il 3 173),
  (173, o_b (fun x y => x * y) 174),
  (174, o_il 4 176),
  (176, o_b (fun x y => x + y) 177),
  (177, o_il 6 179),
  (179, o_b (fun x y => x + y) 180),
  (180, o_al 0 181),
  (181, o_gR 40 59 184),
  (184, o_il 6 186),
  (186, o_ia 187),
  (187, o_is3 188),
  (188, o_in 6 1 191),
  (191, o_go 158),
  (194, o_ic 1 195),
  (195, o_ir)]
set_option maxRecDepth 20000 in
theorem sn_X10_copy : ∀ q ∈ cd_X10_copy, sv_Snd m_X10_copy q.1 q.2 := by
  unfold cd_X10_copy
  refine List.forall_mem_cons.mpr ⟨s_iload_n dX10_copy_0 rfl, ?_⟩
  refine List.forall_mem_cons.mpr ⟨s_callSI ca_X10_isSheet ml_X10_197 st_X10_isSheet ⟨(Nat.le_of_ble_eq_true rfl), (Nat.le_of_ble_eq_true rfl)⟩ dX10_copy_1, ?_⟩
  refine List.forall_mem_cons.mpr ⟨s_if_eq dX10_copy_4 (by decide), ?_⟩
  refine List.forall_mem_cons.mpr ⟨s_iload_n dX10_copy_7 rfl, ?_⟩
  refine List.forall_mem_cons.mpr ⟨s_callSI ca_X10_isSheet ml_X10_197 st_X10_isSheet ⟨(Nat.le_of_ble_eq_true rfl), (Nat.le_of_ble_eq_true rfl)⟩ dX10_copy_8, ?_⟩
  refine List.forall_mem_cons.mpr ⟨s_if_ne dX10_copy_11 (by decide), ?_⟩
  refine List.forall_mem_cons.mpr ⟨s_bipush dX10_copy_14 (by decide), ?_⟩
  refine List.forall_mem_cons.mpr ⟨s_ireturn dX10_copy_16 rfl, ?_⟩
  refine List.forall_mem_cons.mpr ⟨s_aload_n dX10_copy_17 rfl, ?_⟩
  refine List.forall_mem_cons.mpr ⟨s_getR (j := 22) cf_X10 (Nat.le_of_ble_eq_true rfl) rfl fl_X10_56 dX10_copy_18, ?_⟩
  refine List.forall_mem_cons.mpr ⟨s_iload_n dX10_copy_21 rfl, ?_⟩
  refine List.forall_mem_cons.mpr ⟨s_baload dX10_copy_22, ?_⟩
  refine List.forall_mem_cons.mpr ⟨s_if_eq dX10_copy_23 (by decide), ?_⟩
  refine List.forall_mem_cons.mpr ⟨s_aload_n dX10_copy_26 rfl, ?_⟩
  refine List.forall_mem_cons.mpr ⟨s_getR (j := 22) cf_X10 (Nat.le_of_ble_eq_true rfl) rfl fl_X10_56 dX10_copy_27, ?_⟩
  refine List.forall_mem_cons.mpr ⟨s_iload_n dX10_copy_30 rfl, ?_⟩
  refine List.forall_mem_cons.mpr ⟨s_baload dX10_copy_31, ?_⟩
  refine List.forall_mem_cons.mpr ⟨s_if_ne dX10_copy_32 (by decide), ?_⟩
  refine List.forall_mem_cons.mpr ⟨s_aload_n dX10_copy_35 rfl, ?_⟩
  refine List.forall_mem_cons.mpr ⟨s_iconst dX10_copy_36 (by decide), ?_⟩
  refine List.forall_mem_cons.mpr ⟨s_callVI cf_X10 rfl ca_X10_meets ml_X10_200 im_X10_meets se_X10_meets ⟨(Nat.le_of_ble_eq_true rfl), (Nat.le_of_ble_eq_true rfl)⟩ dX10_copy_37, ?_⟩
  refine List.forall_mem_cons.mpr ⟨s_ireturn dX10_copy_40 rfl, ?_⟩
  refine List.forall_mem_cons.mpr ⟨s_aload_n dX10_copy_41 rfl, ?_⟩
  refine List.forall_mem_cons.mpr ⟨s_getR (j := 23) cf_X10 (Nat.le_of_ble_eq_true rfl) rfl fl_X10_60 dX10_copy_42, ?_⟩
  refine List.forall_mem_cons.mpr ⟨s_iload_n dX10_copy_45 rfl, ?_⟩
  refine List.forall_mem_cons.mpr ⟨s_iaload dX10_copy_46, ?_⟩
  refine List.forall_mem_cons.mpr ⟨s_aload_n dX10_copy_47 rfl, ?_⟩
  refine List.forall_mem_cons.mpr ⟨s_getR (j := 23) cf_X10 (Nat.le_of_ble_eq_true rfl) rfl fl_X10_60 dX10_copy_48, ?_⟩
  refine List.forall_mem_cons.mpr ⟨s_iload_n dX10_copy_51 rfl, ?_⟩
  refine List.forall_mem_cons.mpr ⟨s_iaload dX10_copy_52, ?_⟩
  refine List.forall_mem_cons.mpr ⟨s_icmp_eq dX10_copy_53 (by decide), ?_⟩
  refine List.forall_mem_cons.mpr ⟨s_aload_n dX10_copy_56 rfl, ?_⟩
  refine List.forall_mem_cons.mpr ⟨s_iconst dX10_copy_57 (by decide), ?_⟩
  refine List.forall_mem_cons.mpr ⟨s_callVI cf_X10 rfl ca_X10_meets ml_X10_200 im_X10_meets se_X10_meets ⟨(Nat.le_of_ble_eq_true rfl), (Nat.le_of_ble_eq_true rfl)⟩ dX10_copy_58, ?_⟩
  refine List.forall_mem_cons.mpr ⟨s_ireturn dX10_copy_61 rfl, ?_⟩
  refine List.forall_mem_cons.mpr ⟨s_iload_n dX10_copy_62 rfl, ?_⟩
  refine List.forall_mem_cons.mpr ⟨s_if_lt dX10_copy_63 (by decide), ?_⟩
  refine List.forall_mem_cons.mpr ⟨s_iload dX10_copy_66, ?_⟩
  refine List.forall_mem_cons.mpr ⟨s_if_lt dX10_copy_68 (by decide), ?_⟩
  refine List.forall_mem_cons.mpr ⟨s_iload dX10_copy_71, ?_⟩
  refine List.forall_mem_cons.mpr ⟨s_if_lt dX10_copy_73 (by decide), ?_⟩
  refine List.forall_mem_cons.mpr ⟨s_iload_n dX10_copy_76 rfl, ?_⟩
  refine List.forall_mem_cons.mpr ⟨s_i2l dX10_copy_77, ?_⟩
  refine List.forall_mem_cons.mpr ⟨s_iload dX10_copy_78, ?_⟩
  refine List.forall_mem_cons.mpr ⟨s_i2l dX10_copy_80, ?_⟩
  refine List.forall_mem_cons.mpr ⟨s_ladd dX10_copy_81, ?_⟩
  refine List.forall_mem_cons.mpr ⟨s_aload_n dX10_copy_82 rfl, ?_⟩
  refine List.forall_mem_cons.mpr ⟨s_getR (j := 24) cf_X10 (Nat.le_of_ble_eq_true rfl) rfl fl_X10_63 dX10_copy_83, ?_⟩
  refine List.forall_mem_cons.mpr ⟨s_iload_n dX10_copy_86 rfl, ?_⟩
  refine List.forall_mem_cons.mpr ⟨s_iaload dX10_copy_87, ?_⟩
  refine List.forall_mem_cons.mpr ⟨s_i2l dX10_copy_88, ?_⟩
  refine List.forall_mem_cons.mpr ⟨s_lcmp dX10_copy_89, ?_⟩
  refine List.forall_mem_cons.mpr ⟨s_if_gt dX10_copy_90 (by decide), ?_⟩
  refine List.forall_mem_cons.mpr ⟨s_iload dX10_copy_93, ?_⟩
  refine List.forall_mem_cons.mpr ⟨s_i2l dX10_copy_95, ?_⟩
  refine List.forall_mem_cons.mpr ⟨s_iload dX10_copy_96, ?_⟩
  refine List.forall_mem_cons.mpr ⟨s_i2l dX10_copy_98, ?_⟩
  refine List.forall_mem_cons.mpr ⟨s_ladd dX10_copy_99, ?_⟩
  refine List.forall_mem_cons.mpr ⟨s_aload_n dX10_copy_100 rfl, ?_⟩
  refine List.forall_mem_cons.mpr ⟨s_getR (j := 24) cf_X10 (Nat.le_of_ble_eq_true rfl) rfl fl_X10_63 dX10_copy_101, ?_⟩
  refine List.forall_mem_cons.mpr ⟨s_iload_n dX10_copy_104 rfl, ?_⟩
  refine List.forall_mem_cons.mpr ⟨s_iaload dX10_copy_105, ?_⟩
  refine List.forall_mem_cons.mpr ⟨s_i2l dX10_copy_106, ?_⟩
  refine List.forall_mem_cons.mpr ⟨s_lcmp dX10_copy_107, ?_⟩
  refine List.forall_mem_cons.mpr ⟨s_if_le dX10_copy_108 (by decide), ?_⟩
  refine List.forall_mem_cons.mpr ⟨s_aload_n dX10_copy_111 rfl, ?_⟩
  refine List.forall_mem_cons.mpr ⟨s_iconst dX10_copy_112 (by decide), ?_⟩
  refine List.forall_mem_cons.mpr ⟨s_callVI cf_X10 rfl ca_X10_meets ml_X10_200 im_X10_meets se_X10_meets ⟨(Nat.le_of_ble_eq_true rfl), (Nat.le_of_ble_eq_true rfl)⟩ dX10_copy_113, ?_⟩
  refine List.forall_mem_cons.mpr ⟨s_ireturn dX10_copy_116 rfl, ?_⟩
  refine List.forall_mem_cons.mpr ⟨s_iconst dX10_copy_117 (by decide), ?_⟩
  refine List.forall_mem_cons.mpr ⟨s_istore dX10_copy_118 (Nat.le_of_ble_eq_true rfl), ?_⟩
  refine List.forall_mem_cons.mpr ⟨s_iload dX10_copy_120, ?_⟩
  refine List.forall_mem_cons.mpr ⟨s_iload dX10_copy_122, ?_⟩
  refine List.forall_mem_cons.mpr ⟨s_icmp_ge dX10_copy_124 (by decide), ?_⟩
  refine List.forall_mem_cons.mpr ⟨s_aload_n dX10_copy_127 rfl, ?_⟩
  refine List.forall_mem_cons.mpr ⟨s_getR (j := 26) cf_X10 (Nat.le_of_ble_eq_true rfl) rfl fl_X10_69 dX10_copy_128, ?_⟩
  refine List.forall_mem_cons.mpr ⟨s_iload dX10_copy_131, ?_⟩
  refine List.forall_mem_cons.mpr ⟨s_aload_n dX10_copy_133 rfl, ?_⟩
  refine List.forall_mem_cons.mpr ⟨s_getR (j := 25) cf_X10 (Nat.le_of_ble_eq_true rfl) rfl fl_X10_66 dX10_copy_134, ?_⟩
  refine List.forall_mem_cons.mpr ⟨s_sipush dX10_copy_137 (by decide), ?_⟩
  refine List.forall_mem_cons.mpr ⟨s_iload_n dX10_copy_140 rfl, ?_⟩
  refine List.forall_mem_cons.mpr ⟨s_imul dX10_copy_141, ?_⟩
  refine List.forall_mem_cons.mpr ⟨s_iload_n dX10_copy_142 rfl, ?_⟩
  refine List.forall_mem_cons.mpr ⟨s_iadd dX10_copy_143, ?_⟩
  refine List.forall_mem_cons.mpr ⟨s_iload dX10_copy_144, ?_⟩
  refine List.forall_mem_cons.mpr ⟨s_iadd dX10_copy_146, ?_⟩
  refine List.forall_mem_cons.mpr ⟨s_iaload dX10_copy_147, ?_⟩
  refine List.forall_mem_cons.mpr ⟨s_iastore dX10_copy_148, ?_⟩
  refine List.forall_mem_cons.mpr ⟨s_iinc dX10_copy_149 (by decide) (Nat.le_of_ble_eq_true rfl), ?_⟩
  refine List.forall_mem_cons.mpr ⟨s_goto dX10_copy_152 (by decide), ?_⟩
  refine List.forall_mem_cons.mpr ⟨s_iconst dX10_copy_155 (by decide), ?_⟩
  refine List.forall_mem_cons.mpr ⟨s_istore dX10_copy_156 (Nat.le_of_ble_eq_true rfl), ?_⟩
  refine List.forall_mem_cons.mpr ⟨s_iload dX10_copy_158, ?_⟩
  refine List.forall_mem_cons.mpr ⟨s_iload dX10_copy_160, ?_⟩
  refine List.forall_mem_cons.mpr ⟨s_icmp_ge dX10_copy_162 (by decide), ?_⟩
  refine List.forall_mem_cons.mpr ⟨s_aload_n dX10_copy_165 rfl, ?_⟩
  refine List.forall_mem_cons.mpr ⟨s_getR (j := 25) cf_X10 (Nat.le_of_ble_eq_true rfl) rfl fl_X10_66 dX10_copy_166, ?_⟩
  refine List.forall_mem_cons.mpr ⟨s_sipush dX10_copy_169 (by decide), ?_⟩
  refine List.forall_mem_cons.mpr ⟨s_iload_n dX10_copy_172 rfl, ?_⟩
  refine List.forall_mem_cons.mpr ⟨s_imul dX10_copy_173, ?_⟩
  refine List.forall_mem_cons.mpr ⟨s_iload dX10_copy_174, ?_⟩
  refine List.forall_mem_cons.mpr ⟨s_iadd dX10_copy_176, ?_⟩
  refine List.forall_mem_cons.mpr ⟨s_iload dX10_copy_177, ?_⟩
  refine List.forall_mem_cons.mpr ⟨s_iadd dX10_copy_179, ?_⟩
  refine List.forall_mem_cons.mpr ⟨s_aload_n dX10_copy_180 rfl, ?_⟩
  refine List.forall_mem_cons.mpr ⟨s_getR (j := 26) cf_X10 (Nat.le_of_ble_eq_true rfl) rfl fl_X10_69 dX10_copy_181, ?_⟩
  refine List.forall_mem_cons.mpr ⟨s_iload dX10_copy_184, ?_⟩
  refine List.forall_mem_cons.mpr ⟨s_iaload dX10_copy_186, ?_⟩
  refine List.forall_mem_cons.mpr ⟨s_iastore dX10_copy_187, ?_⟩
  refine List.forall_mem_cons.mpr ⟨s_iinc dX10_copy_188 (by decide) (Nat.le_of_ble_eq_true rfl), ?_⟩
  refine List.forall_mem_cons.mpr ⟨s_goto dX10_copy_191 (by decide), ?_⟩
  refine List.forall_mem_cons.mpr ⟨s_iconst dX10_copy_194 (by decide), ?_⟩
  refine List.forall_mem_cons.mpr ⟨s_ireturn dX10_copy_195 rfl, ?_⟩
  exact fun _ h => absurd h List.not_mem_nil
def cd_X10_count : sv_Cd := [(0, o_il 1 1),
  (1, o_sw [(0, 44), (1, 49), (2, 54), (3, 59), (4, 80), (5, 85), (6, 90)] 95),
  (44, o_al 0 45),
  (45, o_gI 40 0 48),
  (48, o_ir),
  (49, o_al 0 50),
  (50, o_gI 40 3 53),
  (53, o_ir),
  (54, o_al 0 55),
  (55, o_gI 40 4 58),
  (58, o_ir),
  (59, o_al 0 60),
  (60, o_vV m_X10_read 0 40 63),
  (63, o_al 0 64),
  (64, o_gI 40 11 67),
  (67, o_ic (-1) 68),
  (68, o_ic2 (fun x y => x = y) 75 71),
  (71, o_ic 0 72),
  (72, o_go 79),
  (75, o_al 0 76),
  (76, o_gI 40 6 79),
  (79, o_ir),
  (80, o_al 0 81),
  (81, o_gI 40 14 84),
  (84, o_ir),
  (85, o_al 0 86),
  (86, o_gI 40 18 89),
  (89, o_ir),
  (90, o_al 0 91),
  (91, o_gI 40 27 94),
  (94, o_ir),
  (95, o_ic (-2) 97),
  (97, o_ir)]
set_option maxRecDepth 20000 in
theorem sn_X10_count : ∀ q ∈ cd_X10_count, sv_Snd m_X10_count q.1 q.2 := by
  unfold cd_X10_count
  refine List.forall_mem_cons.mpr ⟨s_iload_n dX10_count_0 rfl, ?_⟩
  refine List.forall_mem_cons.mpr ⟨s_tab 7 dX10_count_1 rfl (by decide) (by decide) (by decide) rfl, ?_⟩
  refine List.forall_mem_cons.mpr ⟨s_aload_n dX10_count_44 rfl, ?_⟩
  refine List.forall_mem_cons.mpr ⟨s_getI cf_X10 (Nat.le_of_ble_eq_true rfl) rfl fl_X10_72 dX10_count_45, ?_⟩
  refine List.forall_mem_cons.mpr ⟨s_ireturn dX10_count_48 rfl, ?_⟩
  refine List.forall_mem_cons.mpr ⟨s_aload_n dX10_count_49 rfl, ?_⟩
  refine List.forall_mem_cons.mpr ⟨s_getI cf_X10 (Nat.le_of_ble_eq_true rfl) rfl fl_X10_16 dX10_count_50, ?_⟩
  refine List.forall_mem_cons.mpr ⟨s_ireturn dX10_count_53 rfl, ?_⟩
  refine List.forall_mem_cons.mpr ⟨s_aload_n dX10_count_54 rfl, ?_⟩
  refine List.forall_mem_cons.mpr ⟨s_getI cf_X10 (Nat.le_of_ble_eq_true rfl) rfl fl_X10_95 dX10_count_55, ?_⟩
  refine List.forall_mem_cons.mpr ⟨s_ireturn dX10_count_58 rfl, ?_⟩
  refine List.forall_mem_cons.mpr ⟨s_aload_n dX10_count_59 rfl, ?_⟩
  refine List.forall_mem_cons.mpr ⟨s_callVV cf_X10 rfl ca_X10_read ml_X10_118 im_X10_read se_X10_read ⟨(Nat.le_of_ble_eq_true rfl), (Nat.le_of_ble_eq_true rfl)⟩ dX10_count_60, ?_⟩
  refine List.forall_mem_cons.mpr ⟨s_aload_n dX10_count_63 rfl, ?_⟩
  refine List.forall_mem_cons.mpr ⟨s_getI cf_X10 (Nat.le_of_ble_eq_true rfl) rfl fl_X10_98 dX10_count_64, ?_⟩
  refine List.forall_mem_cons.mpr ⟨s_iconst dX10_count_67 (by decide), ?_⟩
  refine List.forall_mem_cons.mpr ⟨s_icmp_eq dX10_count_68 (by decide), ?_⟩
  refine List.forall_mem_cons.mpr ⟨s_iconst dX10_count_71 (by decide), ?_⟩
  refine List.forall_mem_cons.mpr ⟨s_goto dX10_count_72 (by decide), ?_⟩
  refine List.forall_mem_cons.mpr ⟨s_aload_n dX10_count_75 rfl, ?_⟩
  refine List.forall_mem_cons.mpr ⟨s_getI cf_X10 (Nat.le_of_ble_eq_true rfl) rfl fl_X10_108 dX10_count_76, ?_⟩
  refine List.forall_mem_cons.mpr ⟨s_ireturn dX10_count_79 rfl, ?_⟩
  refine List.forall_mem_cons.mpr ⟨s_aload_n dX10_count_80 rfl, ?_⟩
  refine List.forall_mem_cons.mpr ⟨s_getI cf_X10 (Nat.le_of_ble_eq_true rfl) rfl fl_X10_184 dX10_count_81, ?_⟩
  refine List.forall_mem_cons.mpr ⟨s_ireturn dX10_count_84 rfl, ?_⟩
  refine List.forall_mem_cons.mpr ⟨s_aload_n dX10_count_85 rfl, ?_⟩
  refine List.forall_mem_cons.mpr ⟨s_getI cf_X10 (Nat.le_of_ble_eq_true rfl) rfl fl_X10_191 dX10_count_86, ?_⟩
  refine List.forall_mem_cons.mpr ⟨s_ireturn dX10_count_89 rfl, ?_⟩
  refine List.forall_mem_cons.mpr ⟨s_aload_n dX10_count_90 rfl, ?_⟩
  refine List.forall_mem_cons.mpr ⟨s_getI cf_X10 (Nat.le_of_ble_eq_true rfl) rfl fl_X10_194 dX10_count_91, ?_⟩
  refine List.forall_mem_cons.mpr ⟨s_ireturn dX10_count_94 rfl, ?_⟩
  refine List.forall_mem_cons.mpr ⟨s_bipush dX10_count_95 (by decide), ?_⟩
  refine List.forall_mem_cons.mpr ⟨s_ireturn dX10_count_97 rfl, ?_⟩
  exact fun _ h => absurd h List.not_mem_nil
def cd_X10_digest : sv_Cd := [(0, o_lc 17 3),
  (3, o_ls 1 4),
  (4, o_ic 0 5),
  (5, o_is 3 6),
  (6, o_il 3 7),
  (7, o_ic 6 9),
  (9, o_ic2 (fun x y => y ≤ x) 31 12),
  (12, o_lc 31 15),
  (15, o_ll 1 16),
  (16, o_lb (fun x y => x * y) 17),
  (17, o_al 0 18),
  (18, o_il 3 19),
  (19, o_vI m_X10_count 1 40 22),
  (22, o_i2l 23),
  (23, o_lb (fun x y => x + y) 24),
  (24, o_ls 1 25),
  (25, o_in 3 1 28),
  (28, o_go 6),
  (31, o_ic 0 32),
  (32, o_is 3 33),
  (33, o_il 3 34),
  (34, o_al 0 35),
  (35, o_gI 40 0 38),
  (38, o_ic2 (fun x y => y ≤ x) 61 41),
  (41, o_lc 31 44),
  (44, o_ll 1 45),
  (45, o_lb (fun x y => x * y) 46),
  (46, o_al 0 47),
  (47, o_gR 40 42 50),
  (50, o_il 3 51),
  (51, o_ia 52),
  (52, o_i2l 53),
  (53, o_lb (fun x y => x + y) 54),
  (54, o_ls 1 55),
  (55, o_in 3 1 58),
  (58, o_go 33),
  (61, o_ic 0 62),
  (62, o_is 3 63),
  (63, o_il 3 64),
  (64, o_al 0 65),
  (65, o_gI 40 0 68),
  (68, o_ic2 (fun x y => y ≤ x) 122 71),
  (71, o_ic 0 72),
  (72, o_is 4 74),
  (74, o_il 4 76),
  (76, o_ic 4 77),
  (77, o_ic2 (fun x y => y ≤ x) 116 80),
  (80, o_lc 31 83),
  (83, o_ll 1 84),
  (84, o_lb (fun x y => x * y) 85),
  (85, o_al 0 86),
  (86, o_il 3 87),
  (87, o_il 4 89),
  (89, o_vI m_X10_counted 2 40 92),
  (92, o_i2l 93),
  (93, o_lb (fun x y => x + y) 94),
  (94, o_ls 1 95),
  (95, o_lc 31 98),
  (98, o_ll 1 99),
  (99, o_lb (fun x y => x * y) 100),
  (100, o_al 0 101),
  (101, o_il 3 102),
  (102, o_il 4 104),
  (104, o_vI m_X10_yes 2 40 107),
  (107, o_i2l 108),
  (108, o_lb (fun x y => x + y) 109),
  (109, o_ls 1 110),
  (110, o_in 4 1 113),
  (113, o_go 74),
  (116, o_in 3 1 119),
  (119, o_go 63),
  (122, o_lc 31 125),
  (125, o_ll 1 126),
  (126, o_lb (fun x y => x * y) 127),
  (127, o_al 0 128),
  (128, o_vI m_X10_chosen 0 40 131),
  (131, o_i2l 132),
  (132, o_lb (fun x y => x + y) 133),
  (133, o_ls 1 134),
  (134, o_lc 31 137),
  (137, o_ll 1 138),
  (138, o_lb (fun x y => x * y) 139),
  (139, o_al 0 140),
  (140, o_vI m_X10_seat 0 40 143),
  (143, o_i2l 144),
  (144, o_lb (fun x y => x + y) 145),
  (145, o_lr)]
set_option maxRecDepth 20000 in
theorem sn_X10_digest : ∀ q ∈ cd_X10_digest, sv_Snd m_X10_digest q.1 q.2 := by
  unfold cd_X10_digest
  refine List.forall_mem_cons.mpr ⟨s_ldc2 dX10_digest_0 cs_X10_207, ?_⟩
  refine List.forall_mem_cons.mpr ⟨s_lstore_n dX10_digest_3 rfl (Nat.le_of_ble_eq_true rfl), ?_⟩
  refine List.forall_mem_cons.mpr ⟨s_iconst dX10_digest_4 (by decide), ?_⟩
  refine List.forall_mem_cons.mpr ⟨s_istore_n dX10_digest_5 rfl (Nat.le_of_ble_eq_true rfl), ?_⟩
  refine List.forall_mem_cons.mpr ⟨s_iload_n dX10_digest_6 rfl, ?_⟩
  refine List.forall_mem_cons.mpr ⟨s_bipush dX10_digest_7 (by decide), ?_⟩
  refine List.forall_mem_cons.mpr ⟨s_icmp_ge dX10_digest_9 (by decide), ?_⟩
  refine List.forall_mem_cons.mpr ⟨s_ldc2 dX10_digest_12 cs_X10_209, ?_⟩
  refine List.forall_mem_cons.mpr ⟨s_lload_n dX10_digest_15 rfl, ?_⟩
  refine List.forall_mem_cons.mpr ⟨s_lmul dX10_digest_16, ?_⟩
  refine List.forall_mem_cons.mpr ⟨s_aload_n dX10_digest_17 rfl, ?_⟩
  refine List.forall_mem_cons.mpr ⟨s_iload_n dX10_digest_18 rfl, ?_⟩
  refine List.forall_mem_cons.mpr ⟨s_callVI cf_X10 rfl ca_X10_count ml_X10_211 im_X10_count se_X10_count ⟨(Nat.le_of_ble_eq_true rfl), (Nat.le_of_ble_eq_true rfl)⟩ dX10_digest_19, ?_⟩
  refine List.forall_mem_cons.mpr ⟨s_i2l dX10_digest_22, ?_⟩
  refine List.forall_mem_cons.mpr ⟨s_ladd dX10_digest_23, ?_⟩
  refine List.forall_mem_cons.mpr ⟨s_lstore_n dX10_digest_24 rfl (Nat.le_of_ble_eq_true rfl), ?_⟩
  refine List.forall_mem_cons.mpr ⟨s_iinc dX10_digest_25 (by decide) (Nat.le_of_ble_eq_true rfl), ?_⟩
  refine List.forall_mem_cons.mpr ⟨s_goto dX10_digest_28 (by decide), ?_⟩
  refine List.forall_mem_cons.mpr ⟨s_iconst dX10_digest_31 (by decide), ?_⟩
  refine List.forall_mem_cons.mpr ⟨s_istore_n dX10_digest_32 rfl (Nat.le_of_ble_eq_true rfl), ?_⟩
  refine List.forall_mem_cons.mpr ⟨s_iload_n dX10_digest_33 rfl, ?_⟩
  refine List.forall_mem_cons.mpr ⟨s_aload_n dX10_digest_34 rfl, ?_⟩
  refine List.forall_mem_cons.mpr ⟨s_getI cf_X10 (Nat.le_of_ble_eq_true rfl) rfl fl_X10_72 dX10_digest_35, ?_⟩
  refine List.forall_mem_cons.mpr ⟨s_icmp_ge dX10_digest_38 (by decide), ?_⟩
  refine List.forall_mem_cons.mpr ⟨s_ldc2 dX10_digest_41 cs_X10_209, ?_⟩
  refine List.forall_mem_cons.mpr ⟨s_lload_n dX10_digest_44 rfl, ?_⟩
  refine List.forall_mem_cons.mpr ⟨s_lmul dX10_digest_45, ?_⟩
  refine List.forall_mem_cons.mpr ⟨s_aload_n dX10_digest_46 rfl, ?_⟩
  refine List.forall_mem_cons.mpr ⟨s_getR (j := 2) cf_X10 (Nat.le_of_ble_eq_true rfl) rfl fl_X10_13 dX10_digest_47, ?_⟩
  refine List.forall_mem_cons.mpr ⟨s_iload_n dX10_digest_50 rfl, ?_⟩
  refine List.forall_mem_cons.mpr ⟨s_iaload dX10_digest_51, ?_⟩
  refine List.forall_mem_cons.mpr ⟨s_i2l dX10_digest_52, ?_⟩
  refine List.forall_mem_cons.mpr ⟨s_ladd dX10_digest_53, ?_⟩
  refine List.forall_mem_cons.mpr ⟨s_lstore_n dX10_digest_54 rfl (Nat.le_of_ble_eq_true rfl), ?_⟩
  refine List.forall_mem_cons.mpr ⟨s_iinc dX10_digest_55 (by decide) (Nat.le_of_ble_eq_true rfl), ?_⟩
  refine List.forall_mem_cons.mpr ⟨s_goto dX10_digest_58 (by decide), ?_⟩
  refine List.forall_mem_cons.mpr ⟨s_iconst dX10_digest_61 (by decide), ?_⟩
  refine List.forall_mem_cons.mpr ⟨s_istore_n dX10_digest_62 rfl (Nat.le_of_ble_eq_true rfl), ?_⟩
  refine List.forall_mem_cons.mpr ⟨s_iload_n dX10_digest_63 rfl, ?_⟩
  refine List.forall_mem_cons.mpr ⟨s_aload_n dX10_digest_64 rfl, ?_⟩
  refine List.forall_mem_cons.mpr ⟨s_getI cf_X10 (Nat.le_of_ble_eq_true rfl) rfl fl_X10_72 dX10_digest_65, ?_⟩
  refine List.forall_mem_cons.mpr ⟨s_icmp_ge dX10_digest_68 (by decide), ?_⟩
  refine List.forall_mem_cons.mpr ⟨s_iconst dX10_digest_71 (by decide), ?_⟩
  refine List.forall_mem_cons.mpr ⟨s_istore dX10_digest_72 (Nat.le_of_ble_eq_true rfl), ?_⟩
  refine List.forall_mem_cons.mpr ⟨s_iload dX10_digest_74, ?_⟩
  refine List.forall_mem_cons.mpr ⟨s_iconst dX10_digest_76 (by decide), ?_⟩
  refine List.forall_mem_cons.mpr ⟨s_icmp_ge dX10_digest_77 (by decide), ?_⟩
  refine List.forall_mem_cons.mpr ⟨s_ldc2 dX10_digest_80 cs_X10_209, ?_⟩
  refine List.forall_mem_cons.mpr ⟨s_lload_n dX10_digest_83 rfl, ?_⟩
  refine List.forall_mem_cons.mpr ⟨s_lmul dX10_digest_84, ?_⟩
  refine List.forall_mem_cons.mpr ⟨s_aload_n dX10_digest_85 rfl, ?_⟩
  refine List.forall_mem_cons.mpr ⟨s_iload_n dX10_digest_86 rfl, ?_⟩
  refine List.forall_mem_cons.mpr ⟨s_iload dX10_digest_87, ?_⟩
  refine List.forall_mem_cons.mpr ⟨s_callVI cf_X10 rfl ca_X10_counted ml_X10_88 im_X10_counted se_X10_counted ⟨(Nat.le_of_ble_eq_true rfl), (Nat.le_of_ble_eq_true rfl)⟩ dX10_digest_89, ?_⟩
  refine List.forall_mem_cons.mpr ⟨s_i2l dX10_digest_92, ?_⟩
  refine List.forall_mem_cons.mpr ⟨s_ladd dX10_digest_93, ?_⟩
  refine List.forall_mem_cons.mpr ⟨s_lstore_n dX10_digest_94 rfl (Nat.le_of_ble_eq_true rfl), ?_⟩
  refine List.forall_mem_cons.mpr ⟨s_ldc2 dX10_digest_95 cs_X10_209, ?_⟩
  refine List.forall_mem_cons.mpr ⟨s_lload_n dX10_digest_98 rfl, ?_⟩
  refine List.forall_mem_cons.mpr ⟨s_lmul dX10_digest_99, ?_⟩
  refine List.forall_mem_cons.mpr ⟨s_aload_n dX10_digest_100 rfl, ?_⟩
  refine List.forall_mem_cons.mpr ⟨s_iload_n dX10_digest_101 rfl, ?_⟩
  refine List.forall_mem_cons.mpr ⟨s_iload dX10_digest_102, ?_⟩
  refine List.forall_mem_cons.mpr ⟨s_callVI cf_X10 rfl ca_X10_yes ml_X10_92 im_X10_yes se_X10_yes ⟨(Nat.le_of_ble_eq_true rfl), (Nat.le_of_ble_eq_true rfl)⟩ dX10_digest_104, ?_⟩
  refine List.forall_mem_cons.mpr ⟨s_i2l dX10_digest_107, ?_⟩
  refine List.forall_mem_cons.mpr ⟨s_ladd dX10_digest_108, ?_⟩
  refine List.forall_mem_cons.mpr ⟨s_lstore_n dX10_digest_109 rfl (Nat.le_of_ble_eq_true rfl), ?_⟩
  refine List.forall_mem_cons.mpr ⟨s_iinc dX10_digest_110 (by decide) (Nat.le_of_ble_eq_true rfl), ?_⟩
  refine List.forall_mem_cons.mpr ⟨s_goto dX10_digest_113 (by decide), ?_⟩
  refine List.forall_mem_cons.mpr ⟨s_iinc dX10_digest_116 (by decide) (Nat.le_of_ble_eq_true rfl), ?_⟩
  refine List.forall_mem_cons.mpr ⟨s_goto dX10_digest_119 (by decide), ?_⟩
  refine List.forall_mem_cons.mpr ⟨s_ldc2 dX10_digest_122 cs_X10_209, ?_⟩
  refine List.forall_mem_cons.mpr ⟨s_lload_n dX10_digest_125 rfl, ?_⟩
  refine List.forall_mem_cons.mpr ⟨s_lmul dX10_digest_126, ?_⟩
  refine List.forall_mem_cons.mpr ⟨s_aload_n dX10_digest_127 rfl, ?_⟩
  refine List.forall_mem_cons.mpr ⟨s_callVI cf_X10 rfl ca_X10_chosen ml_X10_214 im_X10_chosen se_X10_chosen ⟨(Nat.le_of_ble_eq_true rfl), (Nat.le_of_ble_eq_true rfl)⟩ dX10_digest_128, ?_⟩
  refine List.forall_mem_cons.mpr ⟨s_i2l dX10_digest_131, ?_⟩
  refine List.forall_mem_cons.mpr ⟨s_ladd dX10_digest_132, ?_⟩
  refine List.forall_mem_cons.mpr ⟨s_lstore_n dX10_digest_133 rfl (Nat.le_of_ble_eq_true rfl), ?_⟩
  refine List.forall_mem_cons.mpr ⟨s_ldc2 dX10_digest_134 cs_X10_209, ?_⟩
  refine List.forall_mem_cons.mpr ⟨s_lload_n dX10_digest_137 rfl, ?_⟩
  refine List.forall_mem_cons.mpr ⟨s_lmul dX10_digest_138, ?_⟩
  refine List.forall_mem_cons.mpr ⟨s_aload_n dX10_digest_139 rfl, ?_⟩
  refine List.forall_mem_cons.mpr ⟨s_callVI cf_X10 rfl ca_X10_seat ml_X10_217 im_X10_seat se_X10_seat ⟨(Nat.le_of_ble_eq_true rfl), (Nat.le_of_ble_eq_true rfl)⟩ dX10_digest_140, ?_⟩
  refine List.forall_mem_cons.mpr ⟨s_i2l dX10_digest_143, ?_⟩
  refine List.forall_mem_cons.mpr ⟨s_ladd dX10_digest_144, ?_⟩
  refine List.forall_mem_cons.mpr ⟨s_lreturn dX10_digest_145 rfl, ?_⟩
  exact fun _ h => absurd h List.not_mem_nil

/-! ===== code tables ===== -/
def cd_X2_keep : sv_Cd := [(0, o_al 0 1),
  (1, o_gR 35 36 4),
  (4, o_al 0 5),
  (5, o_gI 35 3 8),
  (8, o_il 1 9),
  (9, o_is3 10),
  (10, o_al 0 11),
  (11, o_gR 35 37 14),
  (14, o_al 0 15),
  (15, o_gI 35 3 18),
  (18, o_il 2 19),
  (19, o_is3 20),
  (20, o_al 0 21),
  (21, o_gR 35 38 24),
  (24, o_al 0 25),
  (25, o_gI 35 3 28),
  (28, o_il 3 29),
  (29, o_is3 30),
  (30, o_al 0 31),
  (31, o_dup 32),
  (32, o_gI 35 3 35),
  (35, o_ic 1 36),
  (36, o_b (fun x y => x + y) 37),
  (37, o_pI 35 3 40),
  (40, o_al 0 41),
  (41, o_gI 35 3 44),
  (44, o_ir)]
set_option maxRecDepth 20000 in
theorem sn_X2_keep : ∀ q ∈ cd_X2_keep, sv_Snd m_X2_keep q.1 q.2 := by
  unfold cd_X2_keep
  refine List.forall_mem_cons.mpr ⟨s_aload_n dX2_keep_0 rfl, ?_⟩
  refine List.forall_mem_cons.mpr ⟨s_getR (j := 0) cf_X2 (Nat.le_of_ble_eq_true rfl) rfl fl_X2_11 dX2_keep_1, ?_⟩
  refine List.forall_mem_cons.mpr ⟨s_aload_n dX2_keep_4 rfl, ?_⟩
  refine List.forall_mem_cons.mpr ⟨s_getI cf_X2 (Nat.le_of_ble_eq_true rfl) rfl fl_X2_21 dX2_keep_5, ?_⟩
  refine List.forall_mem_cons.mpr ⟨s_iload_n dX2_keep_8 rfl, ?_⟩
  refine List.forall_mem_cons.mpr ⟨s_iastore dX2_keep_9, ?_⟩
  refine List.forall_mem_cons.mpr ⟨s_aload_n dX2_keep_10 rfl, ?_⟩
  refine List.forall_mem_cons.mpr ⟨s_getR (j := 1) cf_X2 (Nat.le_of_ble_eq_true rfl) rfl fl_X2_15 dX2_keep_11, ?_⟩
  refine List.forall_mem_cons.mpr ⟨s_aload_n dX2_keep_14 rfl, ?_⟩
  refine List.forall_mem_cons.mpr ⟨s_getI cf_X2 (Nat.le_of_ble_eq_true rfl) rfl fl_X2_21 dX2_keep_15, ?_⟩
  refine List.forall_mem_cons.mpr ⟨s_iload_n dX2_keep_18 rfl, ?_⟩
  refine List.forall_mem_cons.mpr ⟨s_iastore dX2_keep_19, ?_⟩
  refine List.forall_mem_cons.mpr ⟨s_aload_n dX2_keep_20 rfl, ?_⟩
  refine List.forall_mem_cons.mpr ⟨s_getR (j := 2) cf_X2 (Nat.le_of_ble_eq_true rfl) rfl fl_X2_18 dX2_keep_21, ?_⟩
  refine List.forall_mem_cons.mpr ⟨s_aload_n dX2_keep_24 rfl, ?_⟩
  refine List.forall_mem_cons.mpr ⟨s_getI cf_X2 (Nat.le_of_ble_eq_true rfl) rfl fl_X2_21 dX2_keep_25, ?_⟩
  refine List.forall_mem_cons.mpr ⟨s_iload_n dX2_keep_28 rfl, ?_⟩
  refine List.forall_mem_cons.mpr ⟨s_iastore dX2_keep_29, ?_⟩
  refine List.forall_mem_cons.mpr ⟨s_aload_n dX2_keep_30 rfl, ?_⟩
  refine List.forall_mem_cons.mpr ⟨s_dup dX2_keep_31, ?_⟩
  refine List.forall_mem_cons.mpr ⟨s_getI cf_X2 (Nat.le_of_ble_eq_true rfl) rfl fl_X2_21 dX2_keep_32, ?_⟩
  refine List.forall_mem_cons.mpr ⟨s_iconst dX2_keep_35 (by decide), ?_⟩
  refine List.forall_mem_cons.mpr ⟨s_iadd dX2_keep_36, ?_⟩
  refine List.forall_mem_cons.mpr ⟨s_put cf_X2 (Nat.le_of_ble_eq_true rfl) rfl fl_X2_21 rfl (tyX2_ok 3 (Nat.le_of_ble_eq_true rfl)) dX2_keep_37, ?_⟩
  refine List.forall_mem_cons.mpr ⟨s_aload_n dX2_keep_40 rfl, ?_⟩
  refine List.forall_mem_cons.mpr ⟨s_getI cf_X2 (Nat.le_of_ble_eq_true rfl) rfl fl_X2_21 dX2_keep_41, ?_⟩
  refine List.forall_mem_cons.mpr ⟨s_ireturn dX2_keep_44 rfl, ?_⟩
  exact fun _ h => absurd h List.not_mem_nil
def cd_X2_howOften : sv_Cd := [(0, o_ic 0 1),
  (1, o_is 2 2),
  (2, o_ic 0 3),
  (3, o_is 3 4),
  (4, o_il 3 5),
  (5, o_al 0 6),
  (6, o_gI 35 3 9),
  (9, o_ic2 (fun x y => y ≤ x) 31 12),
  (12, o_al 0 13),
  (13, o_gR 35 36 16),
  (16, o_il 3 17),
  (17, o_ia 18),
  (18, o_il 1 19),
  (19, o_ic2 (fun x y => x = y) 22 25),
  (22, o_in 2 1 25),
  (25, o_in 3 1 28),
  (28, o_go 4),
  (31, o_il 2 32),
  (32, o_ir)]
set_option maxRecDepth 20000 in
theorem sn_X2_howOften : ∀ q ∈ cd_X2_howOften, sv_Snd m_X2_howOften q.1 q.2 := by
  unfold cd_X2_howOften
  refine List.forall_mem_cons.mpr ⟨s_iconst dX2_howOften_0 (by decide), ?_⟩
  refine List.forall_mem_cons.mpr ⟨s_istore_n dX2_howOften_1 rfl (Nat.le_of_ble_eq_true rfl), ?_⟩
  refine List.forall_mem_cons.mpr ⟨s_iconst dX2_howOften_2 (by decide), ?_⟩
  refine List.forall_mem_cons.mpr ⟨s_istore_n dX2_howOften_3 rfl (Nat.le_of_ble_eq_true rfl), ?_⟩
  refine List.forall_mem_cons.mpr ⟨s_iload_n dX2_howOften_4 rfl, ?_⟩
  refine List.forall_mem_cons.mpr ⟨s_aload_n dX2_howOften_5 rfl, ?_⟩
  refine List.forall_mem_cons.mpr ⟨s_getI cf_X2 (Nat.le_of_ble_eq_true rfl) rfl fl_X2_21 dX2_howOften_6, ?_⟩
  refine List.forall_mem_cons.mpr ⟨s_icmp_ge dX2_howOften_9 (by decide), ?_⟩
  refine List.forall_mem_cons.mpr ⟨s_aload_n dX2_howOften_12 rfl, ?_⟩
  refine List.forall_mem_cons.mpr ⟨s_getR (j := 0) cf_X2 (Nat.le_of_ble_eq_true rfl) rfl fl_X2_11 dX2_howOften_13, ?_⟩
  refine List.forall_mem_cons.mpr ⟨s_iload_n dX2_howOften_16 rfl, ?_⟩
  refine List.forall_mem_cons.mpr ⟨s_iaload dX2_howOften_17, ?_⟩
  refine List.forall_mem_cons.mpr ⟨s_iload_n dX2_howOften_18 rfl, ?_⟩
  refine List.forall_mem_cons.mpr ⟨s_icmp_ne dX2_howOften_19 (by decide), ?_⟩
  refine List.forall_mem_cons.mpr ⟨s_iinc dX2_howOften_22 (by decide) (Nat.le_of_ble_eq_true rfl), ?_⟩
  refine List.forall_mem_cons.mpr ⟨s_iinc dX2_howOften_25 (by decide) (Nat.le_of_ble_eq_true rfl), ?_⟩
  refine List.forall_mem_cons.mpr ⟨s_goto dX2_howOften_28 (by decide), ?_⟩
  refine List.forall_mem_cons.mpr ⟨s_iload_n dX2_howOften_31 rfl, ?_⟩
  refine List.forall_mem_cons.mpr ⟨s_ireturn dX2_howOften_32 rfl, ?_⟩
  exact fun _ h => absurd h List.not_mem_nil
def cd_X2_greatest : sv_Cd := [(0, o_ic (-1) 1),
  (1, o_is 3 2),
  (2, o_ic 0 3),
  (3, o_is 4 5),
  (5, o_il 4 7),
  (7, o_al 0 8),
  (8, o_gI 35 3 11),
  (11, o_ic2 (fun x y => y ≤ x) 40 14),
  (14, o_al 0 15),
  (15, o_gR 35 36 18),
  (18, o_il 4 20),
  (20, o_ia 21),
  (21, o_il 1 22),
  (22, o_ic2 (fun x y => x = y) 25 34),
  (25, o_il 3 26),
  (26, o_al 2 27),
  (27, o_il 4 29),
  (29, o_ia 30),
  (30, o_mx 33),
  (33, o_is 3 34),
  (34, o_in 4 1 37),
  (37, o_go 5),
  (40, o_il 3 41),
  (41, o_ir)]
set_option maxRecDepth 20000 in
theorem sn_X2_greatest : ∀ q ∈ cd_X2_greatest, sv_Snd m_X2_greatest q.1 q.2 := by
  unfold cd_X2_greatest
  refine List.forall_mem_cons.mpr ⟨s_iconst dX2_greatest_0 (by decide), ?_⟩
  refine List.forall_mem_cons.mpr ⟨s_istore_n dX2_greatest_1 rfl (Nat.le_of_ble_eq_true rfl), ?_⟩
  refine List.forall_mem_cons.mpr ⟨s_iconst dX2_greatest_2 (by decide), ?_⟩
  refine List.forall_mem_cons.mpr ⟨s_istore dX2_greatest_3 (Nat.le_of_ble_eq_true rfl), ?_⟩
  refine List.forall_mem_cons.mpr ⟨s_iload dX2_greatest_5, ?_⟩
  refine List.forall_mem_cons.mpr ⟨s_aload_n dX2_greatest_7 rfl, ?_⟩
  refine List.forall_mem_cons.mpr ⟨s_getI cf_X2 (Nat.le_of_ble_eq_true rfl) rfl fl_X2_21 dX2_greatest_8, ?_⟩
  refine List.forall_mem_cons.mpr ⟨s_icmp_ge dX2_greatest_11 (by decide), ?_⟩
  refine List.forall_mem_cons.mpr ⟨s_aload_n dX2_greatest_14 rfl, ?_⟩
  refine List.forall_mem_cons.mpr ⟨s_getR (j := 0) cf_X2 (Nat.le_of_ble_eq_true rfl) rfl fl_X2_11 dX2_greatest_15, ?_⟩
  refine List.forall_mem_cons.mpr ⟨s_iload dX2_greatest_18, ?_⟩
  refine List.forall_mem_cons.mpr ⟨s_iaload dX2_greatest_20, ?_⟩
  refine List.forall_mem_cons.mpr ⟨s_iload_n dX2_greatest_21 rfl, ?_⟩
  refine List.forall_mem_cons.mpr ⟨s_icmp_ne dX2_greatest_22 (by decide), ?_⟩
  refine List.forall_mem_cons.mpr ⟨s_iload_n dX2_greatest_25 rfl, ?_⟩
  refine List.forall_mem_cons.mpr ⟨s_aload_n dX2_greatest_26 rfl, ?_⟩
  refine List.forall_mem_cons.mpr ⟨s_iload dX2_greatest_27, ?_⟩
  refine List.forall_mem_cons.mpr ⟨s_iaload dX2_greatest_29, ?_⟩
  refine List.forall_mem_cons.mpr ⟨s_max ml_X2_25 mx_s mx_i mx_c (Nat.le_of_ble_eq_true rfl) (Nat.le_of_ble_eq_true rfl) dX2_greatest_30, ?_⟩
  refine List.forall_mem_cons.mpr ⟨s_istore_n dX2_greatest_33 rfl (Nat.le_of_ble_eq_true rfl), ?_⟩
  refine List.forall_mem_cons.mpr ⟨s_iinc dX2_greatest_34 (by decide) (Nat.le_of_ble_eq_true rfl), ?_⟩
  refine List.forall_mem_cons.mpr ⟨s_goto dX2_greatest_37 (by decide), ?_⟩
  refine List.forall_mem_cons.mpr ⟨s_iload_n dX2_greatest_40 rfl, ?_⟩
  refine List.forall_mem_cons.mpr ⟨s_ireturn dX2_greatest_41 rfl, ?_⟩
  exact fun _ h => absurd h List.not_mem_nil
def cd_X3_tell : sv_Cd := [(0, o_al 0 1),
  (1, o_il 1 2),
  (2, o_vV m_X3_fill 1 23 5),
  (5, o_il 2 6),
  (6, o_al 0 7),
  (7, o_gR 23 24 10),
  (10, o_len 11),
  (11, o_ic2 (fun x y => y ≤ x) 21 14),
  (14, o_al 0 15),
  (15, o_gR 23 24 18),
  (18, o_il 2 19),
  (19, o_ia 20),
  (20, o_ir),
  (21, o_al 0 22),
  (22, o_gR 23 24 25),
  (25, o_ic 0 26),
  (26, o_ia 27),
  (27, o_al 0 28),
  (28, o_gR 23 24 31),
  (31, o_ic 1 32),
  (32, o_ia 33),
  (33, o_al 0 34),
  (34, o_gR 23 24 37),
  (37, o_ic 2 38),
  (38, o_ia 39),
  (39, o_al 0 40),
  (40, o_gR 23 24 43),
  (43, o_ic 3 44),
  (44, o_ia 45),
  (45, o_sI m_X4_falseShare 4 48),
  (48, o_ir)]
set_option maxRecDepth 20000 in
theorem sn_X3_tell : ∀ q ∈ cd_X3_tell, sv_Snd m_X3_tell q.1 q.2 := by
  unfold cd_X3_tell
  refine List.forall_mem_cons.mpr ⟨s_aload_n dX3_tell_0 rfl, ?_⟩
  refine List.forall_mem_cons.mpr ⟨s_iload_n dX3_tell_1 rfl, ?_⟩
  refine List.forall_mem_cons.mpr ⟨s_callVV cf_X3 rfl ca_X3_fill ml_X3_21 im_X3_fill se_X3_fill ⟨(Nat.le_of_ble_eq_true rfl), (Nat.le_of_ble_eq_true rfl)⟩ dX3_tell_2, ?_⟩
  refine List.forall_mem_cons.mpr ⟨s_iload_n dX3_tell_5 rfl, ?_⟩
  refine List.forall_mem_cons.mpr ⟨s_aload_n dX3_tell_6 rfl, ?_⟩
  refine List.forall_mem_cons.mpr ⟨s_getR (j := 2) cf_X3 (Nat.le_of_ble_eq_true rfl) rfl fl_X3_7 dX3_tell_7, ?_⟩
  refine List.forall_mem_cons.mpr ⟨s_arraylength dX3_tell_10, ?_⟩
  refine List.forall_mem_cons.mpr ⟨s_icmp_ge dX3_tell_11 (by decide), ?_⟩
  refine List.forall_mem_cons.mpr ⟨s_aload_n dX3_tell_14 rfl, ?_⟩
  refine List.forall_mem_cons.mpr ⟨s_getR (j := 2) cf_X3 (Nat.le_of_ble_eq_true rfl) rfl fl_X3_7 dX3_tell_15, ?_⟩
  refine List.forall_mem_cons.mpr ⟨s_iload_n dX3_tell_18 rfl, ?_⟩
  refine List.forall_mem_cons.mpr ⟨s_iaload dX3_tell_19, ?_⟩
  refine List.forall_mem_cons.mpr ⟨s_ireturn dX3_tell_20 rfl, ?_⟩
  refine List.forall_mem_cons.mpr ⟨s_aload_n dX3_tell_21 rfl, ?_⟩
  refine List.forall_mem_cons.mpr ⟨s_getR (j := 2) cf_X3 (Nat.le_of_ble_eq_true rfl) rfl fl_X3_7 dX3_tell_22, ?_⟩
  refine List.forall_mem_cons.mpr ⟨s_iconst dX3_tell_25 (by decide), ?_⟩
  refine List.forall_mem_cons.mpr ⟨s_iaload dX3_tell_26, ?_⟩
  refine List.forall_mem_cons.mpr ⟨s_aload_n dX3_tell_27 rfl, ?_⟩
  refine List.forall_mem_cons.mpr ⟨s_getR (j := 2) cf_X3 (Nat.le_of_ble_eq_true rfl) rfl fl_X3_7 dX3_tell_28, ?_⟩
  refine List.forall_mem_cons.mpr ⟨s_iconst dX3_tell_31 (by decide), ?_⟩
  refine List.forall_mem_cons.mpr ⟨s_iaload dX3_tell_32, ?_⟩
  refine List.forall_mem_cons.mpr ⟨s_aload_n dX3_tell_33 rfl, ?_⟩
  refine List.forall_mem_cons.mpr ⟨s_getR (j := 2) cf_X3 (Nat.le_of_ble_eq_true rfl) rfl fl_X3_7 dX3_tell_34, ?_⟩
  refine List.forall_mem_cons.mpr ⟨s_iconst dX3_tell_37 (by decide), ?_⟩
  refine List.forall_mem_cons.mpr ⟨s_iaload dX3_tell_38, ?_⟩
  refine List.forall_mem_cons.mpr ⟨s_aload_n dX3_tell_39 rfl, ?_⟩
  refine List.forall_mem_cons.mpr ⟨s_getR (j := 2) cf_X3 (Nat.le_of_ble_eq_true rfl) rfl fl_X3_7 dX3_tell_40, ?_⟩
  refine List.forall_mem_cons.mpr ⟨s_iconst dX3_tell_43 (by decide), ?_⟩
  refine List.forall_mem_cons.mpr ⟨s_iaload dX3_tell_44, ?_⟩
  refine List.forall_mem_cons.mpr ⟨s_callSI ca_X4_falseShare ml_X3_25 st_X4_falseShare ⟨(Nat.le_of_ble_eq_true rfl), (Nat.le_of_ble_eq_true rfl)⟩ dX3_tell_45, ?_⟩
  refine List.forall_mem_cons.mpr ⟨s_ireturn dX3_tell_48 rfl, ?_⟩
  exact fun _ h => absurd h List.not_mem_nil
def cd_X3_fill : sv_Cd := [(0, o_ic 0 1),
  (1, o_is 2 2),
  (2, o_il 2 3),
  (3, o_al 0 4),
  (4, o_gR 23 24 7),
  (7, o_len 8),
  (8, o_ic2 (fun x y => y ≤ x) 24 11),
  (11, o_al 0 12),
  (12, o_gR 23 24 15),
  (15, o_il 2 16),
  (16, o_ic 0 17),
  (17, o_is3 18),
  (18, o_in 2 1 21),
  (21, o_go 2),
  (24, o_ic 0 25),
  (25, o_is 2 26),
  (26, o_il 2 27),
  (27, o_al 0 28),
  (28, o_gR 23 9 31),
  (31, o_gI 9 4 34),
  (34, o_ic2 (fun x y => y ≤ x) 141 37),
  (37, o_al 0 38),
  (38, o_gR 23 9 41),
  (41, o_al 0 42),
  (42, o_gR 23 9 45),
  (45, o_gR 9 11 48),
  (48, o_il 2 49),
  (49, o_ia 50),
  (50, o_il 1 51),
  (51, o_vI m_X6_countingVotes 2 9 54),
  (54, o_is 3 55),
  (55, o_al 0 56),
  (56, o_gR 23 9 59),
  (59, o_al 0 60),
  (60, o_gR 23 9 63),
  (63, o_gR 9 11 66),
  (66, o_il 2 67),
  (67, o_ia 68),
  (68, o_il 1 69),
  (69, o_vI m_X6_yesVotes 2 9 72),
  (72, o_is 4 74),
  (74, o_il 2 75),
  (75, o_al 0 76),
  (76, o_gR 23 9 79),
  (79, o_gI 9 4 82),
  (82, o_ic 2 83),
  (83, o_bd (fun x y => x / y) 84),
  (84, o_ic2 (fun x y => y ≤ x) 91 87),
  (87, o_ic 0 88),
  (88, o_go 92),
  (91, o_ic 2 92),
  (92, o_is 5 94),
  (94, o_il 3 95),
  (95, o_if (fun x => x ≤ 0) 135 98),
  (98, o_al 0 99),
  (99, o_gR 23 24 102),
  (102, o_ic 100 104),
  (104, o_il 4 106),
  (106, o_b (fun x y => x * y) 107),
  (107, o_al 0 108),
  (108, o_gR 23 13 111),
  (111, o_gR 13 15 114),
  (114, o_il 1 115),
  (115, o_ia 116),
  (116, o_il 3 117),
  (117, o_b (fun x y => x * y) 118),
  (118, o_ic2 (fun x y => x < y) 126 121),
  (121, o_il 5 123),
  (123, o_go 130),
  (126, o_il 5 128),
  (128, o_ic 1 129),
  (129, o_b (fun x y => x + y) 130),
  (130, o_dup2 131),
  (131, o_ia 132),
  (132, o_ic 1 133),
  (133, o_b (fun x y => x + y) 134),
  (134, o_is3 135),
  (135, o_in 2 1 138),
  (138, o_go 26),
  (141, o_vr)]
set_option maxRecDepth 20000 in
theorem sn_X3_fill : ∀ q ∈ cd_X3_fill, sv_Snd m_X3_fill q.1 q.2 := by
  unfold cd_X3_fill
  refine List.forall_mem_cons.mpr ⟨s_iconst dX3_fill_0 (by decide), ?_⟩
  refine List.forall_mem_cons.mpr ⟨s_istore_n dX3_fill_1 rfl (Nat.le_of_ble_eq_true rfl), ?_⟩
  refine List.forall_mem_cons.mpr ⟨s_iload_n dX3_fill_2 rfl, ?_⟩
  refine List.forall_mem_cons.mpr ⟨s_aload_n dX3_fill_3 rfl, ?_⟩
  refine List.forall_mem_cons.mpr ⟨s_getR (j := 2) cf_X3 (Nat.le_of_ble_eq_true rfl) rfl fl_X3_7 dX3_fill_4, ?_⟩
  refine List.forall_mem_cons.mpr ⟨s_arraylength dX3_fill_7, ?_⟩
  refine List.forall_mem_cons.mpr ⟨s_icmp_ge dX3_fill_8 (by decide), ?_⟩
  refine List.forall_mem_cons.mpr ⟨s_aload_n dX3_fill_11 rfl, ?_⟩
  refine List.forall_mem_cons.mpr ⟨s_getR (j := 2) cf_X3 (Nat.le_of_ble_eq_true rfl) rfl fl_X3_7 dX3_fill_12, ?_⟩
  refine List.forall_mem_cons.mpr ⟨s_iload_n dX3_fill_15 rfl, ?_⟩
  refine List.forall_mem_cons.mpr ⟨s_iconst dX3_fill_16 (by decide), ?_⟩
  refine List.forall_mem_cons.mpr ⟨s_iastore dX3_fill_17, ?_⟩
  refine List.forall_mem_cons.mpr ⟨s_iinc dX3_fill_18 (by decide) (Nat.le_of_ble_eq_true rfl), ?_⟩
  refine List.forall_mem_cons.mpr ⟨s_goto dX3_fill_21 (by decide), ?_⟩
  refine List.forall_mem_cons.mpr ⟨s_iconst dX3_fill_24 (by decide), ?_⟩
  refine List.forall_mem_cons.mpr ⟨s_istore_n dX3_fill_25 rfl (Nat.le_of_ble_eq_true rfl), ?_⟩
  refine List.forall_mem_cons.mpr ⟨s_iload_n dX3_fill_26 rfl, ?_⟩
  refine List.forall_mem_cons.mpr ⟨s_aload_n dX3_fill_27 rfl, ?_⟩
  refine List.forall_mem_cons.mpr ⟨s_getR (j := 0) cf_X3 (Nat.le_of_ble_eq_true rfl) rfl fl_X3_13 dX3_fill_28, ?_⟩
  refine List.forall_mem_cons.mpr ⟨s_getIN cf_X6 (Nat.le_of_ble_eq_true rfl) rfl fl_X3_31 dX3_fill_31, ?_⟩
  refine List.forall_mem_cons.mpr ⟨s_icmp_ge dX3_fill_34 (by decide), ?_⟩
  refine List.forall_mem_cons.mpr ⟨s_aload_n dX3_fill_37 rfl, ?_⟩
  refine List.forall_mem_cons.mpr ⟨s_getR (j := 0) cf_X3 (Nat.le_of_ble_eq_true rfl) rfl fl_X3_13 dX3_fill_38, ?_⟩
  refine List.forall_mem_cons.mpr ⟨s_aload_n dX3_fill_41 rfl, ?_⟩
  refine List.forall_mem_cons.mpr ⟨s_getR (j := 0) cf_X3 (Nat.le_of_ble_eq_true rfl) rfl fl_X3_13 dX3_fill_42, ?_⟩
  refine List.forall_mem_cons.mpr ⟨s_getRN (j := 2) cf_X6 (Nat.le_of_ble_eq_true rfl) rfl fl_X3_37 dX3_fill_45, ?_⟩
  refine List.forall_mem_cons.mpr ⟨s_iload_n dX3_fill_48 rfl, ?_⟩
  refine List.forall_mem_cons.mpr ⟨s_iaload dX3_fill_49, ?_⟩
  refine List.forall_mem_cons.mpr ⟨s_iload_n dX3_fill_50 rfl, ?_⟩
  refine List.forall_mem_cons.mpr ⟨s_callVI cf_X6 rfl ca_X6_countingVotes ml_X3_40 im_X6_countingVotes se_X6_countingVotes ⟨(Nat.le_of_ble_eq_true rfl), (Nat.le_of_ble_eq_true rfl)⟩ dX3_fill_51, ?_⟩
  refine List.forall_mem_cons.mpr ⟨s_istore_n dX3_fill_54 rfl (Nat.le_of_ble_eq_true rfl), ?_⟩
  refine List.forall_mem_cons.mpr ⟨s_aload_n dX3_fill_55 rfl, ?_⟩
  refine List.forall_mem_cons.mpr ⟨s_getR (j := 0) cf_X3 (Nat.le_of_ble_eq_true rfl) rfl fl_X3_13 dX3_fill_56, ?_⟩
  refine List.forall_mem_cons.mpr ⟨s_aload_n dX3_fill_59 rfl, ?_⟩
  refine List.forall_mem_cons.mpr ⟨s_getR (j := 0) cf_X3 (Nat.le_of_ble_eq_true rfl) rfl fl_X3_13 dX3_fill_60, ?_⟩
  refine List.forall_mem_cons.mpr ⟨s_getRN (j := 2) cf_X6 (Nat.le_of_ble_eq_true rfl) rfl fl_X3_37 dX3_fill_63, ?_⟩
  refine List.forall_mem_cons.mpr ⟨s_iload_n dX3_fill_66 rfl, ?_⟩
  refine List.forall_mem_cons.mpr ⟨s_iaload dX3_fill_67, ?_⟩
  refine List.forall_mem_cons.mpr ⟨s_iload_n dX3_fill_68 rfl, ?_⟩
  refine List.forall_mem_cons.mpr ⟨s_callVI cf_X6 rfl ca_X6_yesVotes ml_X3_44 im_X6_yesVotes se_X6_yesVotes ⟨(Nat.le_of_ble_eq_true rfl), (Nat.le_of_ble_eq_true rfl)⟩ dX3_fill_69, ?_⟩
  refine List.forall_mem_cons.mpr ⟨s_istore dX3_fill_72 (Nat.le_of_ble_eq_true rfl), ?_⟩
  refine List.forall_mem_cons.mpr ⟨s_iload_n dX3_fill_74 rfl, ?_⟩
  refine List.forall_mem_cons.mpr ⟨s_aload_n dX3_fill_75 rfl, ?_⟩
  refine List.forall_mem_cons.mpr ⟨s_getR (j := 0) cf_X3 (Nat.le_of_ble_eq_true rfl) rfl fl_X3_13 dX3_fill_76, ?_⟩
  refine List.forall_mem_cons.mpr ⟨s_getIN cf_X6 (Nat.le_of_ble_eq_true rfl) rfl fl_X3_31 dX3_fill_79, ?_⟩
  refine List.forall_mem_cons.mpr ⟨s_iconst dX3_fill_82 (by decide), ?_⟩
  refine List.forall_mem_cons.mpr ⟨s_idiv dX3_fill_83, ?_⟩
  refine List.forall_mem_cons.mpr ⟨s_icmp_ge dX3_fill_84 (by decide), ?_⟩
  refine List.forall_mem_cons.mpr ⟨s_iconst dX3_fill_87 (by decide), ?_⟩
  refine List.forall_mem_cons.mpr ⟨s_goto dX3_fill_88 (by decide), ?_⟩
  refine List.forall_mem_cons.mpr ⟨s_iconst dX3_fill_91 (by decide), ?_⟩
  refine List.forall_mem_cons.mpr ⟨s_istore dX3_fill_92 (Nat.le_of_ble_eq_true rfl), ?_⟩
  refine List.forall_mem_cons.mpr ⟨s_iload_n dX3_fill_94 rfl, ?_⟩
  refine List.forall_mem_cons.mpr ⟨s_if_le dX3_fill_95 (by decide), ?_⟩
  refine List.forall_mem_cons.mpr ⟨s_aload_n dX3_fill_98 rfl, ?_⟩
  refine List.forall_mem_cons.mpr ⟨s_getR (j := 2) cf_X3 (Nat.le_of_ble_eq_true rfl) rfl fl_X3_7 dX3_fill_99, ?_⟩
  refine List.forall_mem_cons.mpr ⟨s_bipush dX3_fill_102 (by decide), ?_⟩
  refine List.forall_mem_cons.mpr ⟨s_iload dX3_fill_104, ?_⟩
  refine List.forall_mem_cons.mpr ⟨s_imul dX3_fill_106, ?_⟩
  refine List.forall_mem_cons.mpr ⟨s_aload_n dX3_fill_107 rfl, ?_⟩
  refine List.forall_mem_cons.mpr ⟨s_getR (j := 1) cf_X3 (Nat.le_of_ble_eq_true rfl) rfl fl_X3_17 dX3_fill_108, ?_⟩
  refine List.forall_mem_cons.mpr ⟨s_getRN (j := 1) cf_X0 (Nat.le_of_ble_eq_true rfl) rfl fl_X3_47 dX3_fill_111, ?_⟩
  refine List.forall_mem_cons.mpr ⟨s_iload_n dX3_fill_114 rfl, ?_⟩
  refine List.forall_mem_cons.mpr ⟨s_iaload dX3_fill_115, ?_⟩
  refine List.forall_mem_cons.mpr ⟨s_iload_n dX3_fill_116 rfl, ?_⟩
  refine List.forall_mem_cons.mpr ⟨s_imul dX3_fill_117, ?_⟩
  refine List.forall_mem_cons.mpr ⟨s_icmp_lt dX3_fill_118 (by decide), ?_⟩
  refine List.forall_mem_cons.mpr ⟨s_iload dX3_fill_121, ?_⟩
  refine List.forall_mem_cons.mpr ⟨s_goto dX3_fill_123 (by decide), ?_⟩
  refine List.forall_mem_cons.mpr ⟨s_iload dX3_fill_126, ?_⟩
  refine List.forall_mem_cons.mpr ⟨s_iconst dX3_fill_128 (by decide), ?_⟩
  refine List.forall_mem_cons.mpr ⟨s_iadd dX3_fill_129, ?_⟩
  refine List.forall_mem_cons.mpr ⟨s_dup2 dX3_fill_130, ?_⟩
  refine List.forall_mem_cons.mpr ⟨s_iaload dX3_fill_131, ?_⟩
  refine List.forall_mem_cons.mpr ⟨s_iconst dX3_fill_132 (by decide), ?_⟩
  refine List.forall_mem_cons.mpr ⟨s_iadd dX3_fill_133, ?_⟩
  refine List.forall_mem_cons.mpr ⟨s_iastore dX3_fill_134, ?_⟩
  refine List.forall_mem_cons.mpr ⟨s_iinc dX3_fill_135 (by decide) (Nat.le_of_ble_eq_true rfl), ?_⟩
  refine List.forall_mem_cons.mpr ⟨s_goto dX3_fill_138 (by decide), ?_⟩
  refine List.forall_mem_cons.mpr ⟨s_vreturn dX3_fill_141 rfl, ?_⟩
  exact fun _ h => absurd h List.not_mem_nil
def cd_X4_ofPassing : sv_Cd := [(0, o_lc 0 1),
  (1, o_ls 3 2),
  (2, o_ic 0 3),
  (3, o_is 5 5),
  (5, o_il 5 7),
  (7, o_il 0 8),
  (8, o_ic2 (fun x y => y < x) 56 11),
  (11, o_ic 100 13),
  (13, o_il 5 15),
  (15, o_b (fun x y => x * y) 16),
  (16, o_il 2 17),
  (17, o_il 0 18),
  (18, o_b (fun x y => x * y) 19),
  (19, o_ic2 (fun x y => x < y) 50 22),
  (22, o_ll 3 23),
  (23, o_il 0 24),
  (24, o_il 5 26),
  (26, o_sL m_X4_choose 2 29),
  (29, o_il 1 30),
  (30, o_il 5 32),
  (32, o_sL m_X4_power 2 35),
  (35, o_lb (fun x y => x * y) 36),
  (36, o_ic 100 38),
  (38, o_il 1 39),
  (39, o_b (fun x y => x - y) 40),
  (40, o_il 0 41),
  (41, o_il 5 43),
  (43, o_b (fun x y => x - y) 44),
  (44, o_sL m_X4_power 2 47),
  (47, o_lb (fun x y => x * y) 48),
  (48, o_lb (fun x y => x + y) 49),
  (49, o_ls 3 50),
  (50, o_in 5 1 53),
  (53, o_go 5),
  (56, o_il 0 57),
  (57, o_is 5 59),
  (59, o_il 5 61),
  (61, o_ic 3 62),
  (62, o_ic2 (fun x y => y ≤ x) 77 65),
  (65, o_ll 3 66),
  (66, o_lc 100 69),
  (69, o_lb (fun x y => x * y) 70),
  (70, o_ls 3 71),
  (71, o_in 5 1 74),
  (74, o_go 59),
  (77, o_il 0 78),
  (78, o_is 5 80),
  (80, o_il 5 82),
  (82, o_ic 3 83),
  (83, o_ic2 (fun x y => x ≤ y) 98 86),
  (86, o_ll 3 87),
  (87, o_lc 100 90),
  (90, o_ld (fun x y => x / y) 91),
  (91, o_ls 3 92),
  (92, o_in 5 (-1) 95),
  (95, o_go 80),
  (98, o_ll 3 99),
  (99, o_l2i 100),
  (100, o_ir)]
set_option maxRecDepth 20000 in
theorem sn_X4_ofPassing : ∀ q ∈ cd_X4_ofPassing, sv_Snd m_X4_ofPassing q.1 q.2 := by
  unfold cd_X4_ofPassing
  refine List.forall_mem_cons.mpr ⟨s_lconst dX4_ofPassing_0 (by decide), ?_⟩
  refine List.forall_mem_cons.mpr ⟨s_lstore_n dX4_ofPassing_1 rfl (Nat.le_of_ble_eq_true rfl), ?_⟩
  refine List.forall_mem_cons.mpr ⟨s_iconst dX4_ofPassing_2 (by decide), ?_⟩
  refine List.forall_mem_cons.mpr ⟨s_istore dX4_ofPassing_3 (Nat.le_of_ble_eq_true rfl), ?_⟩
  refine List.forall_mem_cons.mpr ⟨s_iload dX4_ofPassing_5, ?_⟩
  refine List.forall_mem_cons.mpr ⟨s_iload_n dX4_ofPassing_7 rfl, ?_⟩
  refine List.forall_mem_cons.mpr ⟨s_icmp_gt dX4_ofPassing_8 (by decide), ?_⟩
  refine List.forall_mem_cons.mpr ⟨s_bipush dX4_ofPassing_11 (by decide), ?_⟩
  refine List.forall_mem_cons.mpr ⟨s_iload dX4_ofPassing_13, ?_⟩
  refine List.forall_mem_cons.mpr ⟨s_imul dX4_ofPassing_15, ?_⟩
  refine List.forall_mem_cons.mpr ⟨s_iload_n dX4_ofPassing_16 rfl, ?_⟩
  refine List.forall_mem_cons.mpr ⟨s_iload_n dX4_ofPassing_17 rfl, ?_⟩
  refine List.forall_mem_cons.mpr ⟨s_imul dX4_ofPassing_18, ?_⟩
  refine List.forall_mem_cons.mpr ⟨s_icmp_lt dX4_ofPassing_19 (by decide), ?_⟩
  refine List.forall_mem_cons.mpr ⟨s_lload_n dX4_ofPassing_22 rfl, ?_⟩
  refine List.forall_mem_cons.mpr ⟨s_iload_n dX4_ofPassing_23 rfl, ?_⟩
  refine List.forall_mem_cons.mpr ⟨s_iload dX4_ofPassing_24, ?_⟩
  refine List.forall_mem_cons.mpr ⟨s_callSL ca_X4_choose ml_X4_7 st_X4_choose ⟨(Nat.le_of_ble_eq_true rfl), (Nat.le_of_ble_eq_true rfl)⟩ dX4_ofPassing_26, ?_⟩
  refine List.forall_mem_cons.mpr ⟨s_iload_n dX4_ofPassing_29 rfl, ?_⟩
  refine List.forall_mem_cons.mpr ⟨s_iload dX4_ofPassing_30, ?_⟩
  refine List.forall_mem_cons.mpr ⟨s_callSL ca_X4_power ml_X4_13 st_X4_power ⟨(Nat.le_of_ble_eq_true rfl), (Nat.le_of_ble_eq_true rfl)⟩ dX4_ofPassing_32, ?_⟩
  refine List.forall_mem_cons.mpr ⟨s_lmul dX4_ofPassing_35, ?_⟩
  refine List.forall_mem_cons.mpr ⟨s_bipush dX4_ofPassing_36 (by decide), ?_⟩
  refine List.forall_mem_cons.mpr ⟨s_iload_n dX4_ofPassing_38 rfl, ?_⟩
  refine List.forall_mem_cons.mpr ⟨s_isub dX4_ofPassing_39, ?_⟩
  refine List.forall_mem_cons.mpr ⟨s_iload_n dX4_ofPassing_40 rfl, ?_⟩
  refine List.forall_mem_cons.mpr ⟨s_iload dX4_ofPassing_41, ?_⟩
  refine List.forall_mem_cons.mpr ⟨s_isub dX4_ofPassing_43, ?_⟩
  refine List.forall_mem_cons.mpr ⟨s_callSL ca_X4_power ml_X4_13 st_X4_power ⟨(Nat.le_of_ble_eq_true rfl), (Nat.le_of_ble_eq_true rfl)⟩ dX4_ofPassing_44, ?_⟩
  refine List.forall_mem_cons.mpr ⟨s_lmul dX4_ofPassing_47, ?_⟩
  refine List.forall_mem_cons.mpr ⟨s_ladd dX4_ofPassing_48, ?_⟩
  refine List.forall_mem_cons.mpr ⟨s_lstore_n dX4_ofPassing_49 rfl (Nat.le_of_ble_eq_true rfl), ?_⟩
  refine List.forall_mem_cons.mpr ⟨s_iinc dX4_ofPassing_50 (by decide) (Nat.le_of_ble_eq_true rfl), ?_⟩
  refine List.forall_mem_cons.mpr ⟨s_goto dX4_ofPassing_53 (by decide), ?_⟩
  refine List.forall_mem_cons.mpr ⟨s_iload_n dX4_ofPassing_56 rfl, ?_⟩
  refine List.forall_mem_cons.mpr ⟨s_istore dX4_ofPassing_57 (Nat.le_of_ble_eq_true rfl), ?_⟩
  refine List.forall_mem_cons.mpr ⟨s_iload dX4_ofPassing_59, ?_⟩
  refine List.forall_mem_cons.mpr ⟨s_iconst dX4_ofPassing_61 (by decide), ?_⟩
  refine List.forall_mem_cons.mpr ⟨s_icmp_ge dX4_ofPassing_62 (by decide), ?_⟩
  refine List.forall_mem_cons.mpr ⟨s_lload_n dX4_ofPassing_65 rfl, ?_⟩
  refine List.forall_mem_cons.mpr ⟨s_ldc2 dX4_ofPassing_66 cs_X4_16, ?_⟩
  refine List.forall_mem_cons.mpr ⟨s_lmul dX4_ofPassing_69, ?_⟩
  refine List.forall_mem_cons.mpr ⟨s_lstore_n dX4_ofPassing_70 rfl (Nat.le_of_ble_eq_true rfl), ?_⟩
  refine List.forall_mem_cons.mpr ⟨s_iinc dX4_ofPassing_71 (by decide) (Nat.le_of_ble_eq_true rfl), ?_⟩
  refine List.forall_mem_cons.mpr ⟨s_goto dX4_ofPassing_74 (by decide), ?_⟩
  refine List.forall_mem_cons.mpr ⟨s_iload_n dX4_ofPassing_77 rfl, ?_⟩
  refine List.forall_mem_cons.mpr ⟨s_istore dX4_ofPassing_78 (Nat.le_of_ble_eq_true rfl), ?_⟩
  refine List.forall_mem_cons.mpr ⟨s_iload dX4_ofPassing_80, ?_⟩
  refine List.forall_mem_cons.mpr ⟨s_iconst dX4_ofPassing_82 (by decide), ?_⟩
  refine List.forall_mem_cons.mpr ⟨s_icmp_le dX4_ofPassing_83 (by decide), ?_⟩
  refine List.forall_mem_cons.mpr ⟨s_lload_n dX4_ofPassing_86 rfl, ?_⟩
  refine List.forall_mem_cons.mpr ⟨s_ldc2 dX4_ofPassing_87 cs_X4_16, ?_⟩
  refine List.forall_mem_cons.mpr ⟨s_ldiv dX4_ofPassing_90, ?_⟩
  refine List.forall_mem_cons.mpr ⟨s_lstore_n dX4_ofPassing_91 rfl (Nat.le_of_ble_eq_true rfl), ?_⟩
  refine List.forall_mem_cons.mpr ⟨s_iinc dX4_ofPassing_92 (by decide) (Nat.le_of_ble_eq_true rfl), ?_⟩
  refine List.forall_mem_cons.mpr ⟨s_goto dX4_ofPassing_95 (by decide), ?_⟩
  refine List.forall_mem_cons.mpr ⟨s_lload_n dX4_ofPassing_98 rfl, ?_⟩
  refine List.forall_mem_cons.mpr ⟨s_l2i dX4_ofPassing_99, ?_⟩
  refine List.forall_mem_cons.mpr ⟨s_ireturn dX4_ofPassing_100 rfl, ?_⟩
  exact fun _ h => absurd h List.not_mem_nil
def cd_X4_falseShare : sv_Cd := [(0, o_il 0 1),
  (1, o_il 1 2),
  (2, o_il 2 3),
  (3, o_il 3 4),
  (4, o_sI m_X4_isNotBelow 4 7),
  (7, o_is 4 9),
  (9, o_lc 0 10),
  (10, o_ls 5 12),
  (12, o_lc 0 13),
  (13, o_ls 7 15),
  (15, o_ic 0 16),
  (16, o_is 9 18),
  (18, o_il 9 20),
  (20, o_il 0 21),
  (21, o_il 1 22),
  (22, o_b (fun x y => x + y) 23),
  (23, o_ic2 (fun x y => y < x) 89 26),
  (26, o_il 0 27),
  (27, o_il 2 28),
  (28, o_b (fun x y => x + y) 29),
  (29, o_il 9 31),
  (31, o_sL m_X4_choose 2 34),
  (34, o_il 1 35),
  (35, o_il 3 36),
  (36, o_b (fun x y => x + y) 37),
  (37, o_il 0 38),
  (38, o_il 1 39),
  (39, o_b (fun x y => x + y) 40),
  (40, o_il 9 42),
  (42, o_b (fun x y => x - y) 43),
  (43, o_sL m_X4_choose 2 46),
  (46, o_lb (fun x y => x * y) 47),
  (47, o_ls 10 49),
  (49, o_ll 7 51),
  (51, o_ll 10 53),
  (53, o_lb (fun x y => x + y) 54),
  (54, o_ls 7 56),
  (56, o_il 4 58),
  (58, o_if (fun x => x = 0) 70 61),
  (61, o_il 9 63),
  (63, o_il 0 64),
  (64, o_ic2 (fun x y => x < y) 83 67),
  (67, o_go 76),
  (70, o_il 9 72),
  (72, o_il 0 73),
  (73, o_ic2 (fun x y => y < x) 83 76),
  (76, o_ll 5 78),
  (78, o_ll 10 80),
  (80, o_lb (fun x y => x + y) 81),
  (81, o_ls 5 83),
  (83, o_in 9 1 86),
  (86, o_go 18),
  (89, o_ll 5 91),
  (91, o_ll 7 93),
  (93, o_sI m_X4_millionths 2 96),
  (96, o_ir)]
set_option maxRecDepth 20000 in
theorem sn_X4_falseShare : ∀ q ∈ cd_X4_falseShare, sv_Snd m_X4_falseShare q.1 q.2 := by
  unfold cd_X4_falseShare
  refine List.forall_mem_cons.mpr ⟨s_iload_n dX4_falseShare_0 rfl, ?_⟩
  refine List.forall_mem_cons.mpr ⟨s_iload_n dX4_falseShare_1 rfl, ?_⟩
  refine List.forall_mem_cons.mpr ⟨s_iload_n dX4_falseShare_2 rfl, ?_⟩
  refine List.forall_mem_cons.mpr ⟨s_iload_n dX4_falseShare_3 rfl, ?_⟩
  refine List.forall_mem_cons.mpr ⟨s_callSI ca_X4_isNotBelow ml_X4_18 st_X4_isNotBelow ⟨(Nat.le_of_ble_eq_true rfl), (Nat.le_of_ble_eq_true rfl)⟩ dX4_falseShare_4, ?_⟩
  refine List.forall_mem_cons.mpr ⟨s_istore dX4_falseShare_7 (Nat.le_of_ble_eq_true rfl), ?_⟩
  refine List.forall_mem_cons.mpr ⟨s_lconst dX4_falseShare_9 (by decide), ?_⟩
  refine List.forall_mem_cons.mpr ⟨s_lstore dX4_falseShare_10 (Nat.le_of_ble_eq_true rfl), ?_⟩
  refine List.forall_mem_cons.mpr ⟨s_lconst dX4_falseShare_12 (by decide), ?_⟩
  refine List.forall_mem_cons.mpr ⟨s_lstore dX4_falseShare_13 (Nat.le_of_ble_eq_true rfl), ?_⟩
  refine List.forall_mem_cons.mpr ⟨s_iconst dX4_falseShare_15 (by decide), ?_⟩
  refine List.forall_mem_cons.mpr ⟨s_istore dX4_falseShare_16 (Nat.le_of_ble_eq_true rfl), ?_⟩
  refine List.forall_mem_cons.mpr ⟨s_iload dX4_falseShare_18, ?_⟩
  refine List.forall_mem_cons.mpr ⟨s_iload_n dX4_falseShare_20 rfl, ?_⟩
  refine List.forall_mem_cons.mpr ⟨s_iload_n dX4_falseShare_21 rfl, ?_⟩
  refine List.forall_mem_cons.mpr ⟨s_iadd dX4_falseShare_22, ?_⟩
  refine List.forall_mem_cons.mpr ⟨s_icmp_gt dX4_falseShare_23 (by decide), ?_⟩
  refine List.forall_mem_cons.mpr ⟨s_iload_n dX4_falseShare_26 rfl, ?_⟩
  refine List.forall_mem_cons.mpr ⟨s_iload_n dX4_falseShare_27 rfl, ?_⟩
  refine List.forall_mem_cons.mpr ⟨s_iadd dX4_falseShare_28, ?_⟩
  refine List.forall_mem_cons.mpr ⟨s_iload dX4_falseShare_29, ?_⟩
  refine List.forall_mem_cons.mpr ⟨s_callSL ca_X4_choose ml_X4_7 st_X4_choose ⟨(Nat.le_of_ble_eq_true rfl), (Nat.le_of_ble_eq_true rfl)⟩ dX4_falseShare_31, ?_⟩
  refine List.forall_mem_cons.mpr ⟨s_iload_n dX4_falseShare_34 rfl, ?_⟩
  refine List.forall_mem_cons.mpr ⟨s_iload_n dX4_falseShare_35 rfl, ?_⟩
  refine List.forall_mem_cons.mpr ⟨s_iadd dX4_falseShare_36, ?_⟩
  refine List.forall_mem_cons.mpr ⟨s_iload_n dX4_falseShare_37 rfl, ?_⟩
  refine List.forall_mem_cons.mpr ⟨s_iload_n dX4_falseShare_38 rfl, ?_⟩
  refine List.forall_mem_cons.mpr ⟨s_iadd dX4_falseShare_39, ?_⟩
  refine List.forall_mem_cons.mpr ⟨s_iload dX4_falseShare_40, ?_⟩
  refine List.forall_mem_cons.mpr ⟨s_isub dX4_falseShare_42, ?_⟩
  refine List.forall_mem_cons.mpr ⟨s_callSL ca_X4_choose ml_X4_7 st_X4_choose ⟨(Nat.le_of_ble_eq_true rfl), (Nat.le_of_ble_eq_true rfl)⟩ dX4_falseShare_43, ?_⟩
  refine List.forall_mem_cons.mpr ⟨s_lmul dX4_falseShare_46, ?_⟩
  refine List.forall_mem_cons.mpr ⟨s_lstore dX4_falseShare_47 (Nat.le_of_ble_eq_true rfl), ?_⟩
  refine List.forall_mem_cons.mpr ⟨s_lload dX4_falseShare_49, ?_⟩
  refine List.forall_mem_cons.mpr ⟨s_lload dX4_falseShare_51, ?_⟩
  refine List.forall_mem_cons.mpr ⟨s_ladd dX4_falseShare_53, ?_⟩
  refine List.forall_mem_cons.mpr ⟨s_lstore dX4_falseShare_54 (Nat.le_of_ble_eq_true rfl), ?_⟩
  refine List.forall_mem_cons.mpr ⟨s_iload dX4_falseShare_56, ?_⟩
  refine List.forall_mem_cons.mpr ⟨s_if_eq dX4_falseShare_58 (by decide), ?_⟩
  refine List.forall_mem_cons.mpr ⟨s_iload dX4_falseShare_61, ?_⟩
  refine List.forall_mem_cons.mpr ⟨s_iload_n dX4_falseShare_63 rfl, ?_⟩
  refine List.forall_mem_cons.mpr ⟨s_icmp_lt dX4_falseShare_64 (by decide), ?_⟩
  refine List.forall_mem_cons.mpr ⟨s_goto dX4_falseShare_67 (by decide), ?_⟩
  refine List.forall_mem_cons.mpr ⟨s_iload dX4_falseShare_70, ?_⟩
  refine List.forall_mem_cons.mpr ⟨s_iload_n dX4_falseShare_72 rfl, ?_⟩
  refine List.forall_mem_cons.mpr ⟨s_icmp_gt dX4_falseShare_73 (by decide), ?_⟩
  refine List.forall_mem_cons.mpr ⟨s_lload dX4_falseShare_76, ?_⟩
  refine List.forall_mem_cons.mpr ⟨s_lload dX4_falseShare_78, ?_⟩
  refine List.forall_mem_cons.mpr ⟨s_ladd dX4_falseShare_80, ?_⟩
  refine List.forall_mem_cons.mpr ⟨s_lstore dX4_falseShare_81 (Nat.le_of_ble_eq_true rfl), ?_⟩
  refine List.forall_mem_cons.mpr ⟨s_iinc dX4_falseShare_83 (by decide) (Nat.le_of_ble_eq_true rfl), ?_⟩
  refine List.forall_mem_cons.mpr ⟨s_goto dX4_falseShare_86 (by decide), ?_⟩
  refine List.forall_mem_cons.mpr ⟨s_lload dX4_falseShare_89, ?_⟩
  refine List.forall_mem_cons.mpr ⟨s_lload dX4_falseShare_91, ?_⟩
  refine List.forall_mem_cons.mpr ⟨s_callSI ca_X4_millionths ml_X4_22 st_X4_millionths ⟨(Nat.le_of_ble_eq_true rfl), (Nat.le_of_ble_eq_true rfl)⟩ dX4_falseShare_93, ?_⟩
  refine List.forall_mem_cons.mpr ⟨s_ireturn dX4_falseShare_96 rfl, ?_⟩
  exact fun _ h => absurd h List.not_mem_nil
def cd_X4_isNotBelow : sv_Cd := [(0, o_il 0 1),
  (1, o_il 1 2),
  (2, o_b (fun x y => x + y) 3),
  (3, o_if (fun x => x = 0) 6 16),
  (6, o_il 2 7),
  (7, o_if (fun x => x = 0) 10 14),
  (10, o_ic 1 11),
  (11, o_go 15),
  (14, o_ic 0 15),
  (15, o_zr),
  (16, o_il 0 17),
  (17, o_il 2 18),
  (18, o_il 3 19),
  (19, o_b (fun x y => x + y) 20),
  (20, o_b (fun x y => x * y) 21),
  (21, o_il 2 22),
  (22, o_il 0 23),
  (23, o_il 1 24),
  (24, o_b (fun x y => x + y) 25),
  (25, o_b (fun x y => x * y) 26),
  (26, o_ic2 (fun x y => x < y) 33 29),
  (29, o_ic 1 30),
  (30, o_go 34),
  (33, o_ic 0 34),
  (34, o_zr)]
set_option maxRecDepth 20000 in
theorem sn_X4_isNotBelow : ∀ q ∈ cd_X4_isNotBelow, sv_Snd m_X4_isNotBelow q.1 q.2 := by
  unfold cd_X4_isNotBelow
  refine List.forall_mem_cons.mpr ⟨s_iload_n dX4_isNotBelow_0 rfl, ?_⟩
  refine List.forall_mem_cons.mpr ⟨s_iload_n dX4_isNotBelow_1 rfl, ?_⟩
  refine List.forall_mem_cons.mpr ⟨s_iadd dX4_isNotBelow_2, ?_⟩
  refine List.forall_mem_cons.mpr ⟨s_if_ne dX4_isNotBelow_3 (by decide), ?_⟩
  refine List.forall_mem_cons.mpr ⟨s_iload_n dX4_isNotBelow_6 rfl, ?_⟩
  refine List.forall_mem_cons.mpr ⟨s_if_ne dX4_isNotBelow_7 (by decide), ?_⟩
  refine List.forall_mem_cons.mpr ⟨s_iconst dX4_isNotBelow_10 (by decide), ?_⟩
  refine List.forall_mem_cons.mpr ⟨s_goto dX4_isNotBelow_11 (by decide), ?_⟩
  refine List.forall_mem_cons.mpr ⟨s_iconst dX4_isNotBelow_14 (by decide), ?_⟩
  refine List.forall_mem_cons.mpr ⟨s_zreturn dX4_isNotBelow_15 rfl, ?_⟩
  refine List.forall_mem_cons.mpr ⟨s_iload_n dX4_isNotBelow_16 rfl, ?_⟩
  refine List.forall_mem_cons.mpr ⟨s_iload_n dX4_isNotBelow_17 rfl, ?_⟩
  refine List.forall_mem_cons.mpr ⟨s_iload_n dX4_isNotBelow_18 rfl, ?_⟩
  refine List.forall_mem_cons.mpr ⟨s_iadd dX4_isNotBelow_19, ?_⟩
  refine List.forall_mem_cons.mpr ⟨s_imul dX4_isNotBelow_20, ?_⟩
  refine List.forall_mem_cons.mpr ⟨s_iload_n dX4_isNotBelow_21 rfl, ?_⟩
  refine List.forall_mem_cons.mpr ⟨s_iload_n dX4_isNotBelow_22 rfl, ?_⟩
  refine List.forall_mem_cons.mpr ⟨s_iload_n dX4_isNotBelow_23 rfl, ?_⟩
  refine List.forall_mem_cons.mpr ⟨s_iadd dX4_isNotBelow_24, ?_⟩
  refine List.forall_mem_cons.mpr ⟨s_imul dX4_isNotBelow_25, ?_⟩
  refine List.forall_mem_cons.mpr ⟨s_icmp_lt dX4_isNotBelow_26 (by decide), ?_⟩
  refine List.forall_mem_cons.mpr ⟨s_iconst dX4_isNotBelow_29 (by decide), ?_⟩
  refine List.forall_mem_cons.mpr ⟨s_goto dX4_isNotBelow_30 (by decide), ?_⟩
  refine List.forall_mem_cons.mpr ⟨s_iconst dX4_isNotBelow_33 (by decide), ?_⟩
  refine List.forall_mem_cons.mpr ⟨s_zreturn dX4_isNotBelow_34 rfl, ?_⟩
  exact fun _ h => absurd h List.not_mem_nil
def cd_X4_millionths : sv_Cd := [(0, o_ll 2 1),
  (1, o_lc 0 2),
  (2, o_lcmp 3),
  (3, o_if (fun x => 0 < x) 8 6),
  (6, o_ic 0 7),
  (7, o_ir),
  (8, o_ll 0 9),
  (9, o_ll 2 10),
  (10, o_ld (fun x y => x / y) 11),
  (11, o_ls 4 13),
  (13, o_ll 0 14),
  (14, o_ll 2 15),
  (15, o_ld (fun x y => x - x / y * y) 16),
  (16, o_ls 6 18),
  (18, o_ic 0 19),
  (19, o_is 8 21),
  (21, o_il 8 23),
  (23, o_ic 6 25),
  (25, o_ic2 (fun x y => y ≤ x) 61 28),
  (28, o_ll 6 30),
  (30, o_lc 10 33),
  (33, o_lb (fun x y => x * y) 34),
  (34, o_ls 6 36),
  (36, o_lc 10 39),
  (39, o_ll 4 41),
  (41, o_lb (fun x y => x * y) 42),
  (42, o_ll 6 44),
  (44, o_ll 2 45),
  (45, o_ld (fun x y => x / y) 46),
  (46, o_lb (fun x y => x + y) 47),
  (47, o_ls 4 49),
  (49, o_ll 6 51),
  (51, o_ll 2 52),
  (52, o_ld (fun x y => x - x / y * y) 53),
  (53, o_ls 6 55),
  (55, o_in 8 1 58),
  (58, o_go 21),
  (61, o_ll 4 63),
  (63, o_l2i 64),
  (64, o_ir)]
set_option maxRecDepth 20000 in
theorem sn_X4_millionths : ∀ q ∈ cd_X4_millionths, sv_Snd m_X4_millionths q.1 q.2 := by
  unfold cd_X4_millionths
  refine List.forall_mem_cons.mpr ⟨s_lload_n dX4_millionths_0 rfl, ?_⟩
  refine List.forall_mem_cons.mpr ⟨s_lconst dX4_millionths_1 (by decide), ?_⟩
  refine List.forall_mem_cons.mpr ⟨s_lcmp dX4_millionths_2, ?_⟩
  refine List.forall_mem_cons.mpr ⟨s_if_gt dX4_millionths_3 (by decide), ?_⟩
  refine List.forall_mem_cons.mpr ⟨s_iconst dX4_millionths_6 (by decide), ?_⟩
  refine List.forall_mem_cons.mpr ⟨s_ireturn dX4_millionths_7 rfl, ?_⟩
  refine List.forall_mem_cons.mpr ⟨s_lload_n dX4_millionths_8 rfl, ?_⟩
  refine List.forall_mem_cons.mpr ⟨s_lload_n dX4_millionths_9 rfl, ?_⟩
  refine List.forall_mem_cons.mpr ⟨s_ldiv dX4_millionths_10, ?_⟩
  refine List.forall_mem_cons.mpr ⟨s_lstore dX4_millionths_11 (Nat.le_of_ble_eq_true rfl), ?_⟩
  refine List.forall_mem_cons.mpr ⟨s_lload_n dX4_millionths_13 rfl, ?_⟩
  refine List.forall_mem_cons.mpr ⟨s_lload_n dX4_millionths_14 rfl, ?_⟩
  refine List.forall_mem_cons.mpr ⟨s_lrem dX4_millionths_15, ?_⟩
  refine List.forall_mem_cons.mpr ⟨s_lstore dX4_millionths_16 (Nat.le_of_ble_eq_true rfl), ?_⟩
  refine List.forall_mem_cons.mpr ⟨s_iconst dX4_millionths_18 (by decide), ?_⟩
  refine List.forall_mem_cons.mpr ⟨s_istore dX4_millionths_19 (Nat.le_of_ble_eq_true rfl), ?_⟩
  refine List.forall_mem_cons.mpr ⟨s_iload dX4_millionths_21, ?_⟩
  refine List.forall_mem_cons.mpr ⟨s_bipush dX4_millionths_23 (by decide), ?_⟩
  refine List.forall_mem_cons.mpr ⟨s_icmp_ge dX4_millionths_25 (by decide), ?_⟩
  refine List.forall_mem_cons.mpr ⟨s_lload dX4_millionths_28, ?_⟩
  refine List.forall_mem_cons.mpr ⟨s_ldc2 dX4_millionths_30 cs_X4_26, ?_⟩
  refine List.forall_mem_cons.mpr ⟨s_lmul dX4_millionths_33, ?_⟩
  refine List.forall_mem_cons.mpr ⟨s_lstore dX4_millionths_34 (Nat.le_of_ble_eq_true rfl), ?_⟩
  refine List.forall_mem_cons.mpr ⟨s_ldc2 dX4_millionths_36 cs_X4_26, ?_⟩
  refine List.forall_mem_cons.mpr ⟨s_lload dX4_millionths_39, ?_⟩
  refine List.forall_mem_cons.mpr ⟨s_lmul dX4_millionths_41, ?_⟩
  refine List.forall_mem_cons.mpr ⟨s_lload dX4_millionths_42, ?_⟩
  refine List.forall_mem_cons.mpr ⟨s_lload_n dX4_millionths_44 rfl, ?_⟩
  refine List.forall_mem_cons.mpr ⟨s_ldiv dX4_millionths_45, ?_⟩
  refine List.forall_mem_cons.mpr ⟨s_ladd dX4_millionths_46, ?_⟩
  refine List.forall_mem_cons.mpr ⟨s_lstore dX4_millionths_47 (Nat.le_of_ble_eq_true rfl), ?_⟩
  refine List.forall_mem_cons.mpr ⟨s_lload dX4_millionths_49, ?_⟩
  refine List.forall_mem_cons.mpr ⟨s_lload_n dX4_millionths_51 rfl, ?_⟩
  refine List.forall_mem_cons.mpr ⟨s_lrem dX4_millionths_52, ?_⟩
  refine List.forall_mem_cons.mpr ⟨s_lstore dX4_millionths_53 (Nat.le_of_ble_eq_true rfl), ?_⟩
  refine List.forall_mem_cons.mpr ⟨s_iinc dX4_millionths_55 (by decide) (Nat.le_of_ble_eq_true rfl), ?_⟩
  refine List.forall_mem_cons.mpr ⟨s_goto dX4_millionths_58 (by decide), ?_⟩
  refine List.forall_mem_cons.mpr ⟨s_lload dX4_millionths_61, ?_⟩
  refine List.forall_mem_cons.mpr ⟨s_l2i dX4_millionths_63, ?_⟩
  refine List.forall_mem_cons.mpr ⟨s_ireturn dX4_millionths_64 rfl, ?_⟩
  exact fun _ h => absurd h List.not_mem_nil
def cd_X4_choose : sv_Cd := [(0, o_il 1 1),
  (1, o_if (fun x => x < 0) 9 4),
  (4, o_il 1 5),
  (5, o_il 0 6),
  (6, o_ic2 (fun x y => x ≤ y) 11 9),
  (9, o_lc 0 10),
  (10, o_lr),
  (11, o_lc 1 12),
  (12, o_ls 2 13),
  (13, o_ic 1 14),
  (14, o_is 4 16),
  (16, o_il 4 18),
  (18, o_il 1 19),
  (19, o_ic2 (fun x y => y < x) 42 22),
  (22, o_ll 2 23),
  (23, o_il 0 24),
  (24, o_il 1 25),
  (25, o_b (fun x y => x - y) 26),
  (26, o_il 4 28),
  (28, o_b (fun x y => x + y) 29),
  (29, o_i2l 30),
  (30, o_lb (fun x y => x * y) 31),
  (31, o_il 4 33),
  (33, o_i2l 34),
  (34, o_ld (fun x y => x / y) 35),
  (35, o_ls 2 36),
  (36, o_in 4 1 39),
  (39, o_go 16),
  (42, o_ll 2 43),
  (43, o_lr)]
set_option maxRecDepth 20000 in
theorem sn_X4_choose : ∀ q ∈ cd_X4_choose, sv_Snd m_X4_choose q.1 q.2 := by
  unfold cd_X4_choose
  refine List.forall_mem_cons.mpr ⟨s_iload_n dX4_choose_0 rfl, ?_⟩
  refine List.forall_mem_cons.mpr ⟨s_if_lt dX4_choose_1 (by decide), ?_⟩
  refine List.forall_mem_cons.mpr ⟨s_iload_n dX4_choose_4 rfl, ?_⟩
  refine List.forall_mem_cons.mpr ⟨s_iload_n dX4_choose_5 rfl, ?_⟩
  refine List.forall_mem_cons.mpr ⟨s_icmp_le dX4_choose_6 (by decide), ?_⟩
  refine List.forall_mem_cons.mpr ⟨s_lconst dX4_choose_9 (by decide), ?_⟩
  refine List.forall_mem_cons.mpr ⟨s_lreturn dX4_choose_10 rfl, ?_⟩
  refine List.forall_mem_cons.mpr ⟨s_lconst dX4_choose_11 (by decide), ?_⟩
  refine List.forall_mem_cons.mpr ⟨s_lstore_n dX4_choose_12 rfl (Nat.le_of_ble_eq_true rfl), ?_⟩
  refine List.forall_mem_cons.mpr ⟨s_iconst dX4_choose_13 (by decide), ?_⟩
  refine List.forall_mem_cons.mpr ⟨s_istore dX4_choose_14 (Nat.le_of_ble_eq_true rfl), ?_⟩
  refine List.forall_mem_cons.mpr ⟨s_iload dX4_choose_16, ?_⟩
  refine List.forall_mem_cons.mpr ⟨s_iload_n dX4_choose_18 rfl, ?_⟩
  refine List.forall_mem_cons.mpr ⟨s_icmp_gt dX4_choose_19 (by decide), ?_⟩
  refine List.forall_mem_cons.mpr ⟨s_lload_n dX4_choose_22 rfl, ?_⟩
  refine List.forall_mem_cons.mpr ⟨s_iload_n dX4_choose_23 rfl, ?_⟩
  refine List.forall_mem_cons.mpr ⟨s_iload_n dX4_choose_24 rfl, ?_⟩
  refine List.forall_mem_cons.mpr ⟨s_isub dX4_choose_25, ?_⟩
  refine List.forall_mem_cons.mpr ⟨s_iload dX4_choose_26, ?_⟩
  refine List.forall_mem_cons.mpr ⟨s_iadd dX4_choose_28, ?_⟩
  refine List.forall_mem_cons.mpr ⟨s_i2l dX4_choose_29, ?_⟩
  refine List.forall_mem_cons.mpr ⟨s_lmul dX4_choose_30, ?_⟩
  refine List.forall_mem_cons.mpr ⟨s_iload dX4_choose_31, ?_⟩
  refine List.forall_mem_cons.mpr ⟨s_i2l dX4_choose_33, ?_⟩
  refine List.forall_mem_cons.mpr ⟨s_ldiv dX4_choose_34, ?_⟩
  refine List.forall_mem_cons.mpr ⟨s_lstore_n dX4_choose_35 rfl (Nat.le_of_ble_eq_true rfl), ?_⟩
  refine List.forall_mem_cons.mpr ⟨s_iinc dX4_choose_36 (by decide) (Nat.le_of_ble_eq_true rfl), ?_⟩
  refine List.forall_mem_cons.mpr ⟨s_goto dX4_choose_39 (by decide), ?_⟩
  refine List.forall_mem_cons.mpr ⟨s_lload_n dX4_choose_42 rfl, ?_⟩
  refine List.forall_mem_cons.mpr ⟨s_lreturn dX4_choose_43 rfl, ?_⟩
  exact fun _ h => absurd h List.not_mem_nil
def cd_X4_power : sv_Cd := [(0, o_lc 1 1),
  (1, o_ls 2 2),
  (2, o_ic 0 3),
  (3, o_is 4 5),
  (5, o_il 4 7),
  (7, o_il 1 8),
  (8, o_ic2 (fun x y => y ≤ x) 22 11),
  (11, o_ll 2 12),
  (12, o_il 0 13),
  (13, o_i2l 14),
  (14, o_lb (fun x y => x * y) 15),
  (15, o_ls 2 16),
  (16, o_in 4 1 19),
  (19, o_go 5),
  (22, o_ll 2 23),
  (23, o_lr)]
set_option maxRecDepth 20000 in
theorem sn_X4_power : ∀ q ∈ cd_X4_power, sv_Snd m_X4_power q.1 q.2 := by
  unfold cd_X4_power
  refine List.forall_mem_cons.mpr ⟨s_lconst dX4_power_0 (by decide), ?_⟩
  refine List.forall_mem_cons.mpr ⟨s_lstore_n dX4_power_1 rfl (Nat.le_of_ble_eq_true rfl), ?_⟩
  refine List.forall_mem_cons.mpr ⟨s_iconst dX4_power_2 (by decide), ?_⟩
  refine List.forall_mem_cons.mpr ⟨s_istore dX4_power_3 (Nat.le_of_ble_eq_true rfl), ?_⟩
  refine List.forall_mem_cons.mpr ⟨s_iload dX4_power_5, ?_⟩
  refine List.forall_mem_cons.mpr ⟨s_iload_n dX4_power_7 rfl, ?_⟩
  refine List.forall_mem_cons.mpr ⟨s_icmp_ge dX4_power_8 (by decide), ?_⟩
  refine List.forall_mem_cons.mpr ⟨s_lload_n dX4_power_11 rfl, ?_⟩
  refine List.forall_mem_cons.mpr ⟨s_iload_n dX4_power_12 rfl, ?_⟩
  refine List.forall_mem_cons.mpr ⟨s_i2l dX4_power_13, ?_⟩
  refine List.forall_mem_cons.mpr ⟨s_lmul dX4_power_14, ?_⟩
  refine List.forall_mem_cons.mpr ⟨s_lstore_n dX4_power_15 rfl (Nat.le_of_ble_eq_true rfl), ?_⟩
  refine List.forall_mem_cons.mpr ⟨s_iinc dX4_power_16 (by decide) (Nat.le_of_ble_eq_true rfl), ?_⟩
  refine List.forall_mem_cons.mpr ⟨s_goto dX4_power_19 (by decide), ?_⟩
  refine List.forall_mem_cons.mpr ⟨s_lload_n dX4_power_22 rfl, ?_⟩
  refine List.forall_mem_cons.mpr ⟨s_lreturn dX4_power_23 rfl, ?_⟩
  exact fun _ h => absurd h List.not_mem_nil
def cd_X5_mostYes : sv_Cd := [(0, o_ic (-1) 1),
  (1, o_is 1 2),
  (2, o_ic (-1) 3),
  (3, o_is 2 4),
  (4, o_ic 0 5),
  (5, o_is 3 6),
  (6, o_il 3 7),
  (7, o_al 0 8),
  (8, o_gR 22 9 11),
  (11, o_gI 9 4 14),
  (14, o_ic2 (fun x y => y ≤ x) 57 17),
  (17, o_al 0 18),
  (18, o_al 0 19),
  (19, o_gR 22 9 22),
  (22, o_gR 9 11 25),
  (25, o_il 3 26),
  (26, o_ia 27),
  (27, o_vI m_X5_yesInAll 1 22 30),
  (30, o_is 4 32),
  (32, o_il 4 34),
  (34, o_il 2 35),
  (35, o_ic2 (fun x y => x ≤ y) 51 38),
  (38, o_il 4 40),
  (40, o_is 2 41),
  (41, o_al 0 42),
  (42, o_gR 22 9 45),
  (45, o_gR 9 11 48),
  (48, o_il 3 49),
  (49, o_ia 50),
  (50, o_is 1 51),
  (51, o_in 3 1 54),
  (54, o_go 6),
  (57, o_il 1 58),
  (58, o_ir)]
set_option maxRecDepth 20000 in
theorem sn_X5_mostYes : ∀ q ∈ cd_X5_mostYes, sv_Snd m_X5_mostYes q.1 q.2 := by
  unfold cd_X5_mostYes
  refine List.forall_mem_cons.mpr ⟨s_iconst dX5_mostYes_0 (by decide), ?_⟩
  refine List.forall_mem_cons.mpr ⟨s_istore_n dX5_mostYes_1 rfl (Nat.le_of_ble_eq_true rfl), ?_⟩
  refine List.forall_mem_cons.mpr ⟨s_iconst dX5_mostYes_2 (by decide), ?_⟩
  refine List.forall_mem_cons.mpr ⟨s_istore_n dX5_mostYes_3 rfl (Nat.le_of_ble_eq_true rfl), ?_⟩
  refine List.forall_mem_cons.mpr ⟨s_iconst dX5_mostYes_4 (by decide), ?_⟩
  refine List.forall_mem_cons.mpr ⟨s_istore_n dX5_mostYes_5 rfl (Nat.le_of_ble_eq_true rfl), ?_⟩
  refine List.forall_mem_cons.mpr ⟨s_iload_n dX5_mostYes_6 rfl, ?_⟩
  refine List.forall_mem_cons.mpr ⟨s_aload_n dX5_mostYes_7 rfl, ?_⟩
  refine List.forall_mem_cons.mpr ⟨s_getR (j := 0) cf_X5 (Nat.le_of_ble_eq_true rfl) rfl fl_X5_9 dX5_mostYes_8, ?_⟩
  refine List.forall_mem_cons.mpr ⟨s_getIN cf_X6 (Nat.le_of_ble_eq_true rfl) rfl fl_X5_19 dX5_mostYes_11, ?_⟩
  refine List.forall_mem_cons.mpr ⟨s_icmp_ge dX5_mostYes_14 (by decide), ?_⟩
  refine List.forall_mem_cons.mpr ⟨s_aload_n dX5_mostYes_17 rfl, ?_⟩
  refine List.forall_mem_cons.mpr ⟨s_aload_n dX5_mostYes_18 rfl, ?_⟩
  refine List.forall_mem_cons.mpr ⟨s_getR (j := 0) cf_X5 (Nat.le_of_ble_eq_true rfl) rfl fl_X5_9 dX5_mostYes_19, ?_⟩
  refine List.forall_mem_cons.mpr ⟨s_getRN (j := 2) cf_X6 (Nat.le_of_ble_eq_true rfl) rfl fl_X5_25 dX5_mostYes_22, ?_⟩
  refine List.forall_mem_cons.mpr ⟨s_iload_n dX5_mostYes_25 rfl, ?_⟩
  refine List.forall_mem_cons.mpr ⟨s_iaload dX5_mostYes_26, ?_⟩
  refine List.forall_mem_cons.mpr ⟨s_callVI cf_X5 rfl ca_X5_yesInAll ml_X5_29 im_X5_yesInAll se_X5_yesInAll ⟨(Nat.le_of_ble_eq_true rfl), (Nat.le_of_ble_eq_true rfl)⟩ dX5_mostYes_27, ?_⟩
  refine List.forall_mem_cons.mpr ⟨s_istore dX5_mostYes_30 (Nat.le_of_ble_eq_true rfl), ?_⟩
  refine List.forall_mem_cons.mpr ⟨s_iload dX5_mostYes_32, ?_⟩
  refine List.forall_mem_cons.mpr ⟨s_iload_n dX5_mostYes_34 rfl, ?_⟩
  refine List.forall_mem_cons.mpr ⟨s_icmp_le dX5_mostYes_35 (by decide), ?_⟩
  refine List.forall_mem_cons.mpr ⟨s_iload dX5_mostYes_38, ?_⟩
  refine List.forall_mem_cons.mpr ⟨s_istore_n dX5_mostYes_40 rfl (Nat.le_of_ble_eq_true rfl), ?_⟩
  refine List.forall_mem_cons.mpr ⟨s_aload_n dX5_mostYes_41 rfl, ?_⟩
  refine List.forall_mem_cons.mpr ⟨s_getR (j := 0) cf_X5 (Nat.le_of_ble_eq_true rfl) rfl fl_X5_9 dX5_mostYes_42, ?_⟩
  refine List.forall_mem_cons.mpr ⟨s_getRN (j := 2) cf_X6 (Nat.le_of_ble_eq_true rfl) rfl fl_X5_25 dX5_mostYes_45, ?_⟩
  refine List.forall_mem_cons.mpr ⟨s_iload_n dX5_mostYes_48 rfl, ?_⟩
  refine List.forall_mem_cons.mpr ⟨s_iaload dX5_mostYes_49, ?_⟩
  refine List.forall_mem_cons.mpr ⟨s_istore_n dX5_mostYes_50 rfl (Nat.le_of_ble_eq_true rfl), ?_⟩
  refine List.forall_mem_cons.mpr ⟨s_iinc dX5_mostYes_51 (by decide) (Nat.le_of_ble_eq_true rfl), ?_⟩
  refine List.forall_mem_cons.mpr ⟨s_goto dX5_mostYes_54 (by decide), ?_⟩
  refine List.forall_mem_cons.mpr ⟨s_iload_n dX5_mostYes_57 rfl, ?_⟩
  refine List.forall_mem_cons.mpr ⟨s_ireturn dX5_mostYes_58 rfl, ?_⟩
  exact fun _ h => absurd h List.not_mem_nil
def cd_X5_greatestShare : sv_Cd := [(0, o_ic (-1) 1),
  (1, o_is 1 2),
  (2, o_ic 0 3),
  (3, o_is 2 4),
  (4, o_ic 0 5),
  (5, o_is 3 6),
  (6, o_ic 0 7),
  (7, o_is 4 9),
  (9, o_il 4 11),
  (11, o_al 0 12),
  (12, o_gR 22 9 15),
  (15, o_gI 9 4 18),
  (18, o_ic2 (fun x y => y ≤ x) 109 21),
  (21, o_al 0 22),
  (22, o_al 0 23),
  (23, o_gR 22 9 26),
  (26, o_gR 9 11 29),
  (29, o_il 4 31),
  (31, o_ia 32),
  (32, o_vI m_X5_yesInAll 1 22 35),
  (35, o_is 5 37),
  (37, o_al 0 38),
  (38, o_al 0 39),
  (39, o_gR 22 9 42),
  (42, o_gR 9 11 45),
  (45, o_il 4 47),
  (47, o_ia 48),
  (48, o_vI m_X5_votesInAll 1 22 51),
  (51, o_is 6 53),
  (53, o_il 1 54),
  (54, o_ic (-1) 55),
  (55, o_ic2 (fun x y => x = y) 69 58),
  (58, o_il 5 60),
  (60, o_il 3 61),
  (61, o_b (fun x y => x * y) 62),
  (62, o_il 2 63),
  (63, o_il 6 65),
  (65, o_b (fun x y => x * y) 66),
  (66, o_ic2 (fun x y => x ≤ y) 73 69),
  (69, o_ic 1 70),
  (70, o_go 74),
  (73, o_ic 0 74),
  (74, o_is 7 76),
  (76, o_il 6 78),
  (78, o_if (fun x => x ≤ 0) 103 81),
  (81, o_il 7 83),
  (83, o_if (fun x => x = 0) 103 86),
  (86, o_al 0 87),
  (87, o_gR 22 9 90),
  (90, o_gR 9 11 93),
  (93, o_il 4 95),
  (95, o_ia 96),
  (96, o_is 1 97),
  (97, o_il 5 99),
  (99, o_is 2 100),
  (100, o_il 6 102),
  (102, o_is 3 103),
  (103, o_in 4 1 106),
  (106, o_go 9),
  (109, o_il 1 110),
  (110, o_ir)]
set_option maxRecDepth 20000 in
theorem sn_X5_greatestShare : ∀ q ∈ cd_X5_greatestShare, sv_Snd m_X5_greatestShare q.1 q.2 := by
  unfold cd_X5_greatestShare
  refine List.forall_mem_cons.mpr ⟨s_iconst dX5_greatestShare_0 (by decide), ?_⟩
  refine List.forall_mem_cons.mpr ⟨s_istore_n dX5_greatestShare_1 rfl (Nat.le_of_ble_eq_true rfl), ?_⟩
  refine List.forall_mem_cons.mpr ⟨s_iconst dX5_greatestShare_2 (by decide), ?_⟩
  refine List.forall_mem_cons.mpr ⟨s_istore_n dX5_greatestShare_3 rfl (Nat.le_of_ble_eq_true rfl), ?_⟩
  refine List.forall_mem_cons.mpr ⟨s_iconst dX5_greatestShare_4 (by decide), ?_⟩
  refine List.forall_mem_cons.mpr ⟨s_istore_n dX5_greatestShare_5 rfl (Nat.le_of_ble_eq_true rfl), ?_⟩
  refine List.forall_mem_cons.mpr ⟨s_iconst dX5_greatestShare_6 (by decide), ?_⟩
  refine List.forall_mem_cons.mpr ⟨s_istore dX5_greatestShare_7 (Nat.le_of_ble_eq_true rfl), ?_⟩
  refine List.forall_mem_cons.mpr ⟨s_iload dX5_greatestShare_9, ?_⟩
  refine List.forall_mem_cons.mpr ⟨s_aload_n dX5_greatestShare_11 rfl, ?_⟩
  refine List.forall_mem_cons.mpr ⟨s_getR (j := 0) cf_X5 (Nat.le_of_ble_eq_true rfl) rfl fl_X5_9 dX5_greatestShare_12, ?_⟩
  refine List.forall_mem_cons.mpr ⟨s_getIN cf_X6 (Nat.le_of_ble_eq_true rfl) rfl fl_X5_19 dX5_greatestShare_15, ?_⟩
  refine List.forall_mem_cons.mpr ⟨s_icmp_ge dX5_greatestShare_18 (by decide), ?_⟩
  refine List.forall_mem_cons.mpr ⟨s_aload_n dX5_greatestShare_21 rfl, ?_⟩
  refine List.forall_mem_cons.mpr ⟨s_aload_n dX5_greatestShare_22 rfl, ?_⟩
  refine List.forall_mem_cons.mpr ⟨s_getR (j := 0) cf_X5 (Nat.le_of_ble_eq_true rfl) rfl fl_X5_9 dX5_greatestShare_23, ?_⟩
  refine List.forall_mem_cons.mpr ⟨s_getRN (j := 2) cf_X6 (Nat.le_of_ble_eq_true rfl) rfl fl_X5_25 dX5_greatestShare_26, ?_⟩
  refine List.forall_mem_cons.mpr ⟨s_iload dX5_greatestShare_29, ?_⟩
  refine List.forall_mem_cons.mpr ⟨s_iaload dX5_greatestShare_31, ?_⟩
  refine List.forall_mem_cons.mpr ⟨s_callVI cf_X5 rfl ca_X5_yesInAll ml_X5_29 im_X5_yesInAll se_X5_yesInAll ⟨(Nat.le_of_ble_eq_true rfl), (Nat.le_of_ble_eq_true rfl)⟩ dX5_greatestShare_32, ?_⟩
  refine List.forall_mem_cons.mpr ⟨s_istore dX5_greatestShare_35 (Nat.le_of_ble_eq_true rfl), ?_⟩
  refine List.forall_mem_cons.mpr ⟨s_aload_n dX5_greatestShare_37 rfl, ?_⟩
  refine List.forall_mem_cons.mpr ⟨s_aload_n dX5_greatestShare_38 rfl, ?_⟩
  refine List.forall_mem_cons.mpr ⟨s_getR (j := 0) cf_X5 (Nat.le_of_ble_eq_true rfl) rfl fl_X5_9 dX5_greatestShare_39, ?_⟩
  refine List.forall_mem_cons.mpr ⟨s_getRN (j := 2) cf_X6 (Nat.le_of_ble_eq_true rfl) rfl fl_X5_25 dX5_greatestShare_42, ?_⟩
  refine List.forall_mem_cons.mpr ⟨s_iload dX5_greatestShare_45, ?_⟩
  refine List.forall_mem_cons.mpr ⟨s_iaload dX5_greatestShare_47, ?_⟩
  refine List.forall_mem_cons.mpr ⟨s_callVI cf_X5 rfl ca_X5_votesInAll ml_X5_33 im_X5_votesInAll se_X5_votesInAll ⟨(Nat.le_of_ble_eq_true rfl), (Nat.le_of_ble_eq_true rfl)⟩ dX5_greatestShare_48, ?_⟩
  refine List.forall_mem_cons.mpr ⟨s_istore dX5_greatestShare_51 (Nat.le_of_ble_eq_true rfl), ?_⟩
  refine List.forall_mem_cons.mpr ⟨s_iload_n dX5_greatestShare_53 rfl, ?_⟩
  refine List.forall_mem_cons.mpr ⟨s_iconst dX5_greatestShare_54 (by decide), ?_⟩
  refine List.forall_mem_cons.mpr ⟨s_icmp_eq dX5_greatestShare_55 (by decide), ?_⟩
  refine List.forall_mem_cons.mpr ⟨s_iload dX5_greatestShare_58, ?_⟩
  refine List.forall_mem_cons.mpr ⟨s_iload_n dX5_greatestShare_60 rfl, ?_⟩
  refine List.forall_mem_cons.mpr ⟨s_imul dX5_greatestShare_61, ?_⟩
  refine List.forall_mem_cons.mpr ⟨s_iload_n dX5_greatestShare_62 rfl, ?_⟩
  refine List.forall_mem_cons.mpr ⟨s_iload dX5_greatestShare_63, ?_⟩
  refine List.forall_mem_cons.mpr ⟨s_imul dX5_greatestShare_65, ?_⟩
  refine List.forall_mem_cons.mpr ⟨s_icmp_le dX5_greatestShare_66 (by decide), ?_⟩
  refine List.forall_mem_cons.mpr ⟨s_iconst dX5_greatestShare_69 (by decide), ?_⟩
  refine List.forall_mem_cons.mpr ⟨s_goto dX5_greatestShare_70 (by decide), ?_⟩
  refine List.forall_mem_cons.mpr ⟨s_iconst dX5_greatestShare_73 (by decide), ?_⟩
  refine List.forall_mem_cons.mpr ⟨s_istore dX5_greatestShare_74 (Nat.le_of_ble_eq_true rfl), ?_⟩
  refine List.forall_mem_cons.mpr ⟨s_iload dX5_greatestShare_76, ?_⟩
  refine List.forall_mem_cons.mpr ⟨s_if_le dX5_greatestShare_78 (by decide), ?_⟩
  refine List.forall_mem_cons.mpr ⟨s_iload dX5_greatestShare_81, ?_⟩
  refine List.forall_mem_cons.mpr ⟨s_if_eq dX5_greatestShare_83 (by decide), ?_⟩
  refine List.forall_mem_cons.mpr ⟨s_aload_n dX5_greatestShare_86 rfl, ?_⟩
  refine List.forall_mem_cons.mpr ⟨s_getR (j := 0) cf_X5 (Nat.le_of_ble_eq_true rfl) rfl fl_X5_9 dX5_greatestShare_87, ?_⟩
  refine List.forall_mem_cons.mpr ⟨s_getRN (j := 2) cf_X6 (Nat.le_of_ble_eq_true rfl) rfl fl_X5_25 dX5_greatestShare_90, ?_⟩
  refine List.forall_mem_cons.mpr ⟨s_iload dX5_greatestShare_93, ?_⟩
  refine List.forall_mem_cons.mpr ⟨s_iaload dX5_greatestShare_95, ?_⟩
  refine List.forall_mem_cons.mpr ⟨s_istore_n dX5_greatestShare_96 rfl (Nat.le_of_ble_eq_true rfl), ?_⟩
  refine List.forall_mem_cons.mpr ⟨s_iload dX5_greatestShare_97, ?_⟩
  refine List.forall_mem_cons.mpr ⟨s_istore_n dX5_greatestShare_99 rfl (Nat.le_of_ble_eq_true rfl), ?_⟩
  refine List.forall_mem_cons.mpr ⟨s_iload dX5_greatestShare_100, ?_⟩
  refine List.forall_mem_cons.mpr ⟨s_istore_n dX5_greatestShare_102 rfl (Nat.le_of_ble_eq_true rfl), ?_⟩
  refine List.forall_mem_cons.mpr ⟨s_iinc dX5_greatestShare_103 (by decide) (Nat.le_of_ble_eq_true rfl), ?_⟩
  refine List.forall_mem_cons.mpr ⟨s_goto dX5_greatestShare_106 (by decide), ?_⟩
  refine List.forall_mem_cons.mpr ⟨s_iload_n dX5_greatestShare_109 rfl, ?_⟩
  refine List.forall_mem_cons.mpr ⟨s_ireturn dX5_greatestShare_110 rfl, ?_⟩
  exact fun _ h => absurd h List.not_mem_nil
def cd_X5_winnerOfAllPairs : sv_Cd := [(0, o_ic 0 1),
  (1, o_is 1 2),
  (2, o_il 1 3),
  (3, o_al 0 4),
  (4, o_gR 22 9 7),
  (7, o_gI 9 4 10),
  (10, o_ic2 (fun x y => y ≤ x) 29 13),
  (13, o_al 0 14),
  (14, o_il 1 15),
  (15, o_vI m_X5_winsAllPairs 1 22 18),
  (18, o_if (fun x => x = 0) 23 21),
  (21, o_il 1 22),
  (22, o_ir),
  (23, o_in 1 1 26),
  (26, o_go 2),
  (29, o_ic (-1) 30),
  (30, o_ir)]
set_option maxRecDepth 20000 in
theorem sn_X5_winnerOfAllPairs : ∀ q ∈ cd_X5_winnerOfAllPairs, sv_Snd m_X5_winnerOfAllPairs q.1 q.2 := by
  unfold cd_X5_winnerOfAllPairs
  refine List.forall_mem_cons.mpr ⟨s_iconst dX5_winnerOfAllPairs_0 (by decide), ?_⟩
  refine List.forall_mem_cons.mpr ⟨s_istore_n dX5_winnerOfAllPairs_1 rfl (Nat.le_of_ble_eq_true rfl), ?_⟩
  refine List.forall_mem_cons.mpr ⟨s_iload_n dX5_winnerOfAllPairs_2 rfl, ?_⟩
  refine List.forall_mem_cons.mpr ⟨s_aload_n dX5_winnerOfAllPairs_3 rfl, ?_⟩
  refine List.forall_mem_cons.mpr ⟨s_getR (j := 0) cf_X5 (Nat.le_of_ble_eq_true rfl) rfl fl_X5_9 dX5_winnerOfAllPairs_4, ?_⟩
  refine List.forall_mem_cons.mpr ⟨s_getIN cf_X6 (Nat.le_of_ble_eq_true rfl) rfl fl_X5_19 dX5_winnerOfAllPairs_7, ?_⟩
  refine List.forall_mem_cons.mpr ⟨s_icmp_ge dX5_winnerOfAllPairs_10 (by decide), ?_⟩
  refine List.forall_mem_cons.mpr ⟨s_aload_n dX5_winnerOfAllPairs_13 rfl, ?_⟩
  refine List.forall_mem_cons.mpr ⟨s_iload_n dX5_winnerOfAllPairs_14 rfl, ?_⟩
  refine List.forall_mem_cons.mpr ⟨s_callVI cf_X5 rfl ca_X5_winsAllPairs ml_X5_36 im_X5_winsAllPairs se_X5_winsAllPairs ⟨(Nat.le_of_ble_eq_true rfl), (Nat.le_of_ble_eq_true rfl)⟩ dX5_winnerOfAllPairs_15, ?_⟩
  refine List.forall_mem_cons.mpr ⟨s_if_eq dX5_winnerOfAllPairs_18 (by decide), ?_⟩
  refine List.forall_mem_cons.mpr ⟨s_iload_n dX5_winnerOfAllPairs_21 rfl, ?_⟩
  refine List.forall_mem_cons.mpr ⟨s_ireturn dX5_winnerOfAllPairs_22 rfl, ?_⟩
  refine List.forall_mem_cons.mpr ⟨s_iinc dX5_winnerOfAllPairs_23 (by decide) (Nat.le_of_ble_eq_true rfl), ?_⟩
  refine List.forall_mem_cons.mpr ⟨s_goto dX5_winnerOfAllPairs_26 (by decide), ?_⟩
  refine List.forall_mem_cons.mpr ⟨s_iconst dX5_winnerOfAllPairs_29 (by decide), ?_⟩
  refine List.forall_mem_cons.mpr ⟨s_ireturn dX5_winnerOfAllPairs_30 rfl, ?_⟩
  exact fun _ h => absurd h List.not_mem_nil
def cd_X5_winsAllPairs : sv_Cd := [(0, o_ic 0 1),
  (1, o_is 2 2),
  (2, o_il 2 3),
  (3, o_al 0 4),
  (4, o_gR 22 9 7),
  (7, o_gI 9 4 10),
  (10, o_ic2 (fun x y => y ≤ x) 49 13),
  (13, o_il 2 14),
  (14, o_il 1 15),
  (15, o_ic2 (fun x y => x = y) 43 18),
  (18, o_al 0 19),
  (19, o_gR 22 9 22),
  (22, o_il 1 23),
  (23, o_il 2 24),
  (24, o_ic 0 25),
  (25, o_vI m_X6_jurorsOnPart 3 9 28),
  (28, o_al 0 29),
  (29, o_gR 22 9 32),
  (32, o_il 2 33),
  (33, o_il 1 34),
  (34, o_ic 0 35),
  (35, o_vI m_X6_jurorsOnPart 3 9 38),
  (38, o_ic2 (fun x y => y < x) 43 41),
  (41, o_ic 0 42),
  (42, o_zr),
  (43, o_in 2 1 46),
  (46, o_go 2),
  (49, o_ic 1 50),
  (50, o_zr)]
set_option maxRecDepth 20000 in
theorem sn_X5_winsAllPairs : ∀ q ∈ cd_X5_winsAllPairs, sv_Snd m_X5_winsAllPairs q.1 q.2 := by
  unfold cd_X5_winsAllPairs
  refine List.forall_mem_cons.mpr ⟨s_iconst dX5_winsAllPairs_0 (by decide), ?_⟩
  refine List.forall_mem_cons.mpr ⟨s_istore_n dX5_winsAllPairs_1 rfl (Nat.le_of_ble_eq_true rfl), ?_⟩
  refine List.forall_mem_cons.mpr ⟨s_iload_n dX5_winsAllPairs_2 rfl, ?_⟩
  refine List.forall_mem_cons.mpr ⟨s_aload_n dX5_winsAllPairs_3 rfl, ?_⟩
  refine List.forall_mem_cons.mpr ⟨s_getR (j := 0) cf_X5 (Nat.le_of_ble_eq_true rfl) rfl fl_X5_9 dX5_winsAllPairs_4, ?_⟩
  refine List.forall_mem_cons.mpr ⟨s_getIN cf_X6 (Nat.le_of_ble_eq_true rfl) rfl fl_X5_19 dX5_winsAllPairs_7, ?_⟩
  refine List.forall_mem_cons.mpr ⟨s_icmp_ge dX5_winsAllPairs_10 (by decide), ?_⟩
  refine List.forall_mem_cons.mpr ⟨s_iload_n dX5_winsAllPairs_13 rfl, ?_⟩
  refine List.forall_mem_cons.mpr ⟨s_iload_n dX5_winsAllPairs_14 rfl, ?_⟩
  refine List.forall_mem_cons.mpr ⟨s_icmp_eq dX5_winsAllPairs_15 (by decide), ?_⟩
  refine List.forall_mem_cons.mpr ⟨s_aload_n dX5_winsAllPairs_18 rfl, ?_⟩
  refine List.forall_mem_cons.mpr ⟨s_getR (j := 0) cf_X5 (Nat.le_of_ble_eq_true rfl) rfl fl_X5_9 dX5_winsAllPairs_19, ?_⟩
  refine List.forall_mem_cons.mpr ⟨s_iload_n dX5_winsAllPairs_22 rfl, ?_⟩
  refine List.forall_mem_cons.mpr ⟨s_iload_n dX5_winsAllPairs_23 rfl, ?_⟩
  refine List.forall_mem_cons.mpr ⟨s_iconst dX5_winsAllPairs_24 (by decide), ?_⟩
  refine List.forall_mem_cons.mpr ⟨s_callVI cf_X6 rfl ca_X6_jurorsOnPart ml_X5_40 im_X6_jurorsOnPart se_X6_jurorsOnPart ⟨(Nat.le_of_ble_eq_true rfl), (Nat.le_of_ble_eq_true rfl)⟩ dX5_winsAllPairs_25, ?_⟩
  refine List.forall_mem_cons.mpr ⟨s_aload_n dX5_winsAllPairs_28 rfl, ?_⟩
  refine List.forall_mem_cons.mpr ⟨s_getR (j := 0) cf_X5 (Nat.le_of_ble_eq_true rfl) rfl fl_X5_9 dX5_winsAllPairs_29, ?_⟩
  refine List.forall_mem_cons.mpr ⟨s_iload_n dX5_winsAllPairs_32 rfl, ?_⟩
  refine List.forall_mem_cons.mpr ⟨s_iload_n dX5_winsAllPairs_33 rfl, ?_⟩
  refine List.forall_mem_cons.mpr ⟨s_iconst dX5_winsAllPairs_34 (by decide), ?_⟩
  refine List.forall_mem_cons.mpr ⟨s_callVI cf_X6 rfl ca_X6_jurorsOnPart ml_X5_40 im_X6_jurorsOnPart se_X6_jurorsOnPart ⟨(Nat.le_of_ble_eq_true rfl), (Nat.le_of_ble_eq_true rfl)⟩ dX5_winsAllPairs_35, ?_⟩
  refine List.forall_mem_cons.mpr ⟨s_icmp_gt dX5_winsAllPairs_38 (by decide), ?_⟩
  refine List.forall_mem_cons.mpr ⟨s_iconst dX5_winsAllPairs_41 (by decide), ?_⟩
  refine List.forall_mem_cons.mpr ⟨s_zreturn dX5_winsAllPairs_42 rfl, ?_⟩
  refine List.forall_mem_cons.mpr ⟨s_iinc dX5_winsAllPairs_43 (by decide) (Nat.le_of_ble_eq_true rfl), ?_⟩
  refine List.forall_mem_cons.mpr ⟨s_goto dX5_winsAllPairs_46 (by decide), ?_⟩
  refine List.forall_mem_cons.mpr ⟨s_iconst dX5_winsAllPairs_49 (by decide), ?_⟩
  refine List.forall_mem_cons.mpr ⟨s_zreturn dX5_winsAllPairs_50 rfl, ?_⟩
  exact fun _ h => absurd h List.not_mem_nil
def cd_X5_yesInAll : sv_Cd := [(0, o_ic 0 1),
  (1, o_is 2 2),
  (2, o_ic 0 3),
  (3, o_is 3 4),
  (4, o_il 3 5),
  (5, o_al 0 6),
  (6, o_gR 22 13 9),
  (9, o_gI 13 5 12),
  (12, o_ic2 (fun x y => y ≤ x) 33 15),
  (15, o_il 2 16),
  (16, o_al 0 17),
  (17, o_gR 22 9 20),
  (20, o_il 1 21),
  (21, o_il 3 22),
  (22, o_vI m_X6_yesVotes 2 9 25),
  (25, o_b (fun x y => x + y) 26),
  (26, o_is 2 27),
  (27, o_in 3 1 30),
  (30, o_go 4),
  (33, o_il 2 34),
  (34, o_ir)]
set_option maxRecDepth 20000 in
theorem sn_X5_yesInAll : ∀ q ∈ cd_X5_yesInAll, sv_Snd m_X5_yesInAll q.1 q.2 := by
  unfold cd_X5_yesInAll
  refine List.forall_mem_cons.mpr ⟨s_iconst dX5_yesInAll_0 (by decide), ?_⟩
  refine List.forall_mem_cons.mpr ⟨s_istore_n dX5_yesInAll_1 rfl (Nat.le_of_ble_eq_true rfl), ?_⟩
  refine List.forall_mem_cons.mpr ⟨s_iconst dX5_yesInAll_2 (by decide), ?_⟩
  refine List.forall_mem_cons.mpr ⟨s_istore_n dX5_yesInAll_3 rfl (Nat.le_of_ble_eq_true rfl), ?_⟩
  refine List.forall_mem_cons.mpr ⟨s_iload_n dX5_yesInAll_4 rfl, ?_⟩
  refine List.forall_mem_cons.mpr ⟨s_aload_n dX5_yesInAll_5 rfl, ?_⟩
  refine List.forall_mem_cons.mpr ⟨s_getR (j := 1) cf_X5 (Nat.le_of_ble_eq_true rfl) rfl fl_X5_15 dX5_yesInAll_6, ?_⟩
  refine List.forall_mem_cons.mpr ⟨s_getIN cf_X0 (Nat.le_of_ble_eq_true rfl) rfl fl_X5_44 dX5_yesInAll_9, ?_⟩
  refine List.forall_mem_cons.mpr ⟨s_icmp_ge dX5_yesInAll_12 (by decide), ?_⟩
  refine List.forall_mem_cons.mpr ⟨s_iload_n dX5_yesInAll_15 rfl, ?_⟩
  refine List.forall_mem_cons.mpr ⟨s_aload_n dX5_yesInAll_16 rfl, ?_⟩
  refine List.forall_mem_cons.mpr ⟨s_getR (j := 0) cf_X5 (Nat.le_of_ble_eq_true rfl) rfl fl_X5_9 dX5_yesInAll_17, ?_⟩
  refine List.forall_mem_cons.mpr ⟨s_iload_n dX5_yesInAll_20 rfl, ?_⟩
  refine List.forall_mem_cons.mpr ⟨s_iload_n dX5_yesInAll_21 rfl, ?_⟩
  refine List.forall_mem_cons.mpr ⟨s_callVI cf_X6 rfl ca_X6_yesVotes ml_X5_49 im_X6_yesVotes se_X6_yesVotes ⟨(Nat.le_of_ble_eq_true rfl), (Nat.le_of_ble_eq_true rfl)⟩ dX5_yesInAll_22, ?_⟩
  refine List.forall_mem_cons.mpr ⟨s_iadd dX5_yesInAll_25, ?_⟩
  refine List.forall_mem_cons.mpr ⟨s_istore_n dX5_yesInAll_26 rfl (Nat.le_of_ble_eq_true rfl), ?_⟩
  refine List.forall_mem_cons.mpr ⟨s_iinc dX5_yesInAll_27 (by decide) (Nat.le_of_ble_eq_true rfl), ?_⟩
  refine List.forall_mem_cons.mpr ⟨s_goto dX5_yesInAll_30 (by decide), ?_⟩
  refine List.forall_mem_cons.mpr ⟨s_iload_n dX5_yesInAll_33 rfl, ?_⟩
  refine List.forall_mem_cons.mpr ⟨s_ireturn dX5_yesInAll_34 rfl, ?_⟩
  exact fun _ h => absurd h List.not_mem_nil
def cd_X5_votesInAll : sv_Cd := [(0, o_ic 0 1),
  (1, o_is 2 2),
  (2, o_ic 0 3),
  (3, o_is 3 4),
  (4, o_il 3 5),
  (5, o_al 0 6),
  (6, o_gR 22 13 9),
  (9, o_gI 13 5 12),
  (12, o_ic2 (fun x y => y ≤ x) 33 15),
  (15, o_il 2 16),
  (16, o_al 0 17),
  (17, o_gR 22 9 20),
  (20, o_il 1 21),
  (21, o_il 3 22),
  (22, o_vI m_X6_countingVotes 2 9 25),
  (25, o_b (fun x y => x + y) 26),
  (26, o_is 2 27),
  (27, o_in 3 1 30),
  (30, o_go 4),
  (33, o_il 2 34),
  (34, o_ir)]
set_option maxRecDepth 20000 in
theorem sn_X5_votesInAll : ∀ q ∈ cd_X5_votesInAll, sv_Snd m_X5_votesInAll q.1 q.2 := by
  unfold cd_X5_votesInAll
  refine List.forall_mem_cons.mpr ⟨s_iconst dX5_votesInAll_0 (by decide), ?_⟩
  refine List.forall_mem_cons.mpr ⟨s_istore_n dX5_votesInAll_1 rfl (Nat.le_of_ble_eq_true rfl), ?_⟩
  refine List.forall_mem_cons.mpr ⟨s_iconst dX5_votesInAll_2 (by decide), ?_⟩
  refine List.forall_mem_cons.mpr ⟨s_istore_n dX5_votesInAll_3 rfl (Nat.le_of_ble_eq_true rfl), ?_⟩
  refine List.forall_mem_cons.mpr ⟨s_iload_n dX5_votesInAll_4 rfl, ?_⟩
  refine List.forall_mem_cons.mpr ⟨s_aload_n dX5_votesInAll_5 rfl, ?_⟩
  refine List.forall_mem_cons.mpr ⟨s_getR (j := 1) cf_X5 (Nat.le_of_ble_eq_true rfl) rfl fl_X5_15 dX5_votesInAll_6, ?_⟩
  refine List.forall_mem_cons.mpr ⟨s_getIN cf_X0 (Nat.le_of_ble_eq_true rfl) rfl fl_X5_44 dX5_votesInAll_9, ?_⟩
  refine List.forall_mem_cons.mpr ⟨s_icmp_ge dX5_votesInAll_12 (by decide), ?_⟩
  refine List.forall_mem_cons.mpr ⟨s_iload_n dX5_votesInAll_15 rfl, ?_⟩
  refine List.forall_mem_cons.mpr ⟨s_aload_n dX5_votesInAll_16 rfl, ?_⟩
  refine List.forall_mem_cons.mpr ⟨s_getR (j := 0) cf_X5 (Nat.le_of_ble_eq_true rfl) rfl fl_X5_9 dX5_votesInAll_17, ?_⟩
  refine List.forall_mem_cons.mpr ⟨s_iload_n dX5_votesInAll_20 rfl, ?_⟩
  refine List.forall_mem_cons.mpr ⟨s_iload_n dX5_votesInAll_21 rfl, ?_⟩
  refine List.forall_mem_cons.mpr ⟨s_callVI cf_X6 rfl ca_X6_countingVotes ml_X5_53 im_X6_countingVotes se_X6_countingVotes ⟨(Nat.le_of_ble_eq_true rfl), (Nat.le_of_ble_eq_true rfl)⟩ dX5_votesInAll_22, ?_⟩
  refine List.forall_mem_cons.mpr ⟨s_iadd dX5_votesInAll_25, ?_⟩
  refine List.forall_mem_cons.mpr ⟨s_istore_n dX5_votesInAll_26 rfl (Nat.le_of_ble_eq_true rfl), ?_⟩
  refine List.forall_mem_cons.mpr ⟨s_iinc dX5_votesInAll_27 (by decide) (Nat.le_of_ble_eq_true rfl), ?_⟩
  refine List.forall_mem_cons.mpr ⟨s_goto dX5_votesInAll_30 (by decide), ?_⟩
  refine List.forall_mem_cons.mpr ⟨s_iload_n dX5_votesInAll_33 rfl, ?_⟩
  refine List.forall_mem_cons.mpr ⟨s_ireturn dX5_votesInAll_34 rfl, ?_⟩
  exact fun _ h => absurd h List.not_mem_nil
def cd_X6_addPlayer : sv_Cd := [(0, o_al 0 1),
  (1, o_gI 9 4 4),
  (4, o_is 2 5),
  (5, o_al 0 6),
  (6, o_gR 9 10 9),
  (9, o_il 2 10),
  (10, o_il 1 11),
  (11, o_is3 12),
  (12, o_al 0 13),
  (13, o_il 2 14),
  (14, o_il 2 15),
  (15, o_vV m_X6_place 2 9 18),
  (18, o_al 0 19),
  (19, o_dup 20),
  (20, o_gI 9 4 23),
  (23, o_ic 1 24),
  (24, o_b (fun x y => x + y) 25),
  (25, o_pI 9 4 28),
  (28, o_il 2 29),
  (29, o_ir)]
set_option maxRecDepth 20000 in
theorem sn_X6_addPlayer : ∀ q ∈ cd_X6_addPlayer, sv_Snd m_X6_addPlayer q.1 q.2 := by
  unfold cd_X6_addPlayer
  refine List.forall_mem_cons.mpr ⟨s_aload_n dX6_addPlayer_0 rfl, ?_⟩
  refine List.forall_mem_cons.mpr ⟨s_getI cf_X6 (Nat.le_of_ble_eq_true rfl) rfl fl_X6_27 dX6_addPlayer_1, ?_⟩
  refine List.forall_mem_cons.mpr ⟨s_istore_n dX6_addPlayer_4 rfl (Nat.le_of_ble_eq_true rfl), ?_⟩
  refine List.forall_mem_cons.mpr ⟨s_aload_n dX6_addPlayer_5 rfl, ?_⟩
  refine List.forall_mem_cons.mpr ⟨s_getR (j := 1) cf_X6 (Nat.le_of_ble_eq_true rfl) rfl fl_X6_9 dX6_addPlayer_6, ?_⟩
  refine List.forall_mem_cons.mpr ⟨s_iload_n dX6_addPlayer_9 rfl, ?_⟩
  refine List.forall_mem_cons.mpr ⟨s_iload_n dX6_addPlayer_10 rfl, ?_⟩
  refine List.forall_mem_cons.mpr ⟨s_iastore dX6_addPlayer_11, ?_⟩
  refine List.forall_mem_cons.mpr ⟨s_aload_n dX6_addPlayer_12 rfl, ?_⟩
  refine List.forall_mem_cons.mpr ⟨s_iload_n dX6_addPlayer_13 rfl, ?_⟩
  refine List.forall_mem_cons.mpr ⟨s_iload_n dX6_addPlayer_14 rfl, ?_⟩
  refine List.forall_mem_cons.mpr ⟨s_callVV cf_X6 rfl ca_X6_place ml_X6_30 im_X6_place se_X6_place ⟨(Nat.le_of_ble_eq_true rfl), (Nat.le_of_ble_eq_true rfl)⟩ dX6_addPlayer_15, ?_⟩
  refine List.forall_mem_cons.mpr ⟨s_aload_n dX6_addPlayer_18 rfl, ?_⟩
  refine List.forall_mem_cons.mpr ⟨s_dup dX6_addPlayer_19, ?_⟩
  refine List.forall_mem_cons.mpr ⟨s_getI cf_X6 (Nat.le_of_ble_eq_true rfl) rfl fl_X6_27 dX6_addPlayer_20, ?_⟩
  refine List.forall_mem_cons.mpr ⟨s_iconst dX6_addPlayer_23 (by decide), ?_⟩
  refine List.forall_mem_cons.mpr ⟨s_iadd dX6_addPlayer_24, ?_⟩
  refine List.forall_mem_cons.mpr ⟨s_put cf_X6 (Nat.le_of_ble_eq_true rfl) rfl fl_X6_27 rfl (tyX6_ok 4 (Nat.le_of_ble_eq_true rfl)) dX6_addPlayer_25, ?_⟩
  refine List.forall_mem_cons.mpr ⟨s_iload_n dX6_addPlayer_28 rfl, ?_⟩
  refine List.forall_mem_cons.mpr ⟨s_ireturn dX6_addPlayer_29 rfl, ?_⟩
  exact fun _ h => absurd h List.not_mem_nil
def cd_X6_shuffle : sv_Cd := [(0, o_ic 0 1),
  (1, o_is 2 2),
  (2, o_il 2 3),
  (3, o_al 0 4),
  (4, o_gI 9 4 7),
  (7, o_ic2 (fun x y => y ≤ x) 22 10),
  (10, o_al 0 11),
  (11, o_il 2 12),
  (12, o_il 2 13),
  (13, o_vV m_X6_place 2 9 16),
  (16, o_in 2 1 19),
  (19, o_go 2),
  (22, o_il 1 23),
  (23, o_is 2 24),
  (24, o_al 0 25),
  (25, o_gI 9 4 28),
  (28, o_ic 1 29),
  (29, o_b (fun x y => x - y) 30),
  (30, o_is 3 31),
  (31, o_il 3 32),
  (32, o_ic 1 33),
  (33, o_ic2 (fun x y => x < y) 89 36),
  (36, o_ic 1103515245 38),
  (38, o_il 2 39),
  (39, o_b (fun x y => x * y) 40),
  (40, o_ic 12345 43),
  (43, o_b (fun x y => x + y) 44),
  (44, o_is 2 45),
  (45, o_il 2 46),
  (46, o_ic 16 48),
  (48, o_b (fun x y => (x.toUInt32 >>> (y.toUInt32 &&& Int32.toUInt32 31)).toInt32) 49),
  (49, o_il 3 50),
  (50, o_ic 1 51),
  (51, o_b (fun x y => x + y) 52),
  (52, o_bd (fun x y => x - x / y * y) 53),
  (53, o_is 4 55),
  (55, o_al 0 56),
  (56, o_gR 9 11 59),
  (59, o_il 3 60),
  (60, o_ia 61),
  (61, o_is 5 63),
  (63, o_al 0 64),
  (64, o_al 0 65),
  (65, o_gR 9 11 68),
  (68, o_il 4 70),
  (70, o_ia 71),
  (71, o_il 3 72),
  (72, o_vV m_X6_place 2 9 75),
  (75, o_al 0 76),
  (76, o_il 5 78),
  (78, o_il 4 80),
  (80, o_vV m_X6_place 2 9 83),
  (83, o_in 3 (-1) 86),
  (86, o_go 31),
  (89, o_vr)]
set_option maxRecDepth 20000 in
theorem sn_X6_shuffle : ∀ q ∈ cd_X6_shuffle, sv_Snd m_X6_shuffle q.1 q.2 := by
  unfold cd_X6_shuffle
  refine List.forall_mem_cons.mpr ⟨s_iconst dX6_shuffle_0 (by decide), ?_⟩
  refine List.forall_mem_cons.mpr ⟨s_istore_n dX6_shuffle_1 rfl (Nat.le_of_ble_eq_true rfl), ?_⟩
  refine List.forall_mem_cons.mpr ⟨s_iload_n dX6_shuffle_2 rfl, ?_⟩
  refine List.forall_mem_cons.mpr ⟨s_aload_n dX6_shuffle_3 rfl, ?_⟩
  refine List.forall_mem_cons.mpr ⟨s_getI cf_X6 (Nat.le_of_ble_eq_true rfl) rfl fl_X6_27 dX6_shuffle_4, ?_⟩
  refine List.forall_mem_cons.mpr ⟨s_icmp_ge dX6_shuffle_7 (by decide), ?_⟩
  refine List.forall_mem_cons.mpr ⟨s_aload_n dX6_shuffle_10 rfl, ?_⟩
  refine List.forall_mem_cons.mpr ⟨s_iload_n dX6_shuffle_11 rfl, ?_⟩
  refine List.forall_mem_cons.mpr ⟨s_iload_n dX6_shuffle_12 rfl, ?_⟩
  refine List.forall_mem_cons.mpr ⟨s_callVV cf_X6 rfl ca_X6_place ml_X6_30 im_X6_place se_X6_place ⟨(Nat.le_of_ble_eq_true rfl), (Nat.le_of_ble_eq_true rfl)⟩ dX6_shuffle_13, ?_⟩
  refine List.forall_mem_cons.mpr ⟨s_iinc dX6_shuffle_16 (by decide) (Nat.le_of_ble_eq_true rfl), ?_⟩
  refine List.forall_mem_cons.mpr ⟨s_goto dX6_shuffle_19 (by decide), ?_⟩
  refine List.forall_mem_cons.mpr ⟨s_iload_n dX6_shuffle_22 rfl, ?_⟩
  refine List.forall_mem_cons.mpr ⟨s_istore_n dX6_shuffle_23 rfl (Nat.le_of_ble_eq_true rfl), ?_⟩
  refine List.forall_mem_cons.mpr ⟨s_aload_n dX6_shuffle_24 rfl, ?_⟩
  refine List.forall_mem_cons.mpr ⟨s_getI cf_X6 (Nat.le_of_ble_eq_true rfl) rfl fl_X6_27 dX6_shuffle_25, ?_⟩
  refine List.forall_mem_cons.mpr ⟨s_iconst dX6_shuffle_28 (by decide), ?_⟩
  refine List.forall_mem_cons.mpr ⟨s_isub dX6_shuffle_29, ?_⟩
  refine List.forall_mem_cons.mpr ⟨s_istore_n dX6_shuffle_30 rfl (Nat.le_of_ble_eq_true rfl), ?_⟩
  refine List.forall_mem_cons.mpr ⟨s_iload_n dX6_shuffle_31 rfl, ?_⟩
  refine List.forall_mem_cons.mpr ⟨s_iconst dX6_shuffle_32 (by decide), ?_⟩
  refine List.forall_mem_cons.mpr ⟨s_icmp_lt dX6_shuffle_33 (by decide), ?_⟩
  refine List.forall_mem_cons.mpr ⟨s_ldc dX6_shuffle_36 cs_X6_34, ?_⟩
  refine List.forall_mem_cons.mpr ⟨s_iload_n dX6_shuffle_38 rfl, ?_⟩
  refine List.forall_mem_cons.mpr ⟨s_imul dX6_shuffle_39, ?_⟩
  refine List.forall_mem_cons.mpr ⟨s_sipush dX6_shuffle_40 (by decide), ?_⟩
  refine List.forall_mem_cons.mpr ⟨s_iadd dX6_shuffle_43, ?_⟩
  refine List.forall_mem_cons.mpr ⟨s_istore_n dX6_shuffle_44 rfl (Nat.le_of_ble_eq_true rfl), ?_⟩
  refine List.forall_mem_cons.mpr ⟨s_iload_n dX6_shuffle_45 rfl, ?_⟩
  refine List.forall_mem_cons.mpr ⟨s_bipush dX6_shuffle_46 (by decide), ?_⟩
  refine List.forall_mem_cons.mpr ⟨s_iushr dX6_shuffle_48, ?_⟩
  refine List.forall_mem_cons.mpr ⟨s_iload_n dX6_shuffle_49 rfl, ?_⟩
  refine List.forall_mem_cons.mpr ⟨s_iconst dX6_shuffle_50 (by decide), ?_⟩
  refine List.forall_mem_cons.mpr ⟨s_iadd dX6_shuffle_51, ?_⟩
  refine List.forall_mem_cons.mpr ⟨s_irem dX6_shuffle_52, ?_⟩
  refine List.forall_mem_cons.mpr ⟨s_istore dX6_shuffle_53 (Nat.le_of_ble_eq_true rfl), ?_⟩
  refine List.forall_mem_cons.mpr ⟨s_aload_n dX6_shuffle_55 rfl, ?_⟩
  refine List.forall_mem_cons.mpr ⟨s_getR (j := 2) cf_X6 (Nat.le_of_ble_eq_true rfl) rfl fl_X6_13 dX6_shuffle_56, ?_⟩
  refine List.forall_mem_cons.mpr ⟨s_iload_n dX6_shuffle_59 rfl, ?_⟩
  refine List.forall_mem_cons.mpr ⟨s_iaload dX6_shuffle_60, ?_⟩
  refine List.forall_mem_cons.mpr ⟨s_istore dX6_shuffle_61 (Nat.le_of_ble_eq_true rfl), ?_⟩
  refine List.forall_mem_cons.mpr ⟨s_aload_n dX6_shuffle_63 rfl, ?_⟩
  refine List.forall_mem_cons.mpr ⟨s_aload_n dX6_shuffle_64 rfl, ?_⟩
  refine List.forall_mem_cons.mpr ⟨s_getR (j := 2) cf_X6 (Nat.le_of_ble_eq_true rfl) rfl fl_X6_13 dX6_shuffle_65, ?_⟩
  refine List.forall_mem_cons.mpr ⟨s_iload dX6_shuffle_68, ?_⟩
  refine List.forall_mem_cons.mpr ⟨s_iaload dX6_shuffle_70, ?_⟩
  refine List.forall_mem_cons.mpr ⟨s_iload_n dX6_shuffle_71 rfl, ?_⟩
  refine List.forall_mem_cons.mpr ⟨s_callVV cf_X6 rfl ca_X6_place ml_X6_30 im_X6_place se_X6_place ⟨(Nat.le_of_ble_eq_true rfl), (Nat.le_of_ble_eq_true rfl)⟩ dX6_shuffle_72, ?_⟩
  refine List.forall_mem_cons.mpr ⟨s_aload_n dX6_shuffle_75 rfl, ?_⟩
  refine List.forall_mem_cons.mpr ⟨s_iload dX6_shuffle_76, ?_⟩
  refine List.forall_mem_cons.mpr ⟨s_iload dX6_shuffle_78, ?_⟩
  refine List.forall_mem_cons.mpr ⟨s_callVV cf_X6 rfl ca_X6_place ml_X6_30 im_X6_place se_X6_place ⟨(Nat.le_of_ble_eq_true rfl), (Nat.le_of_ble_eq_true rfl)⟩ dX6_shuffle_80, ?_⟩
  refine List.forall_mem_cons.mpr ⟨s_iinc dX6_shuffle_83 (by decide) (Nat.le_of_ble_eq_true rfl), ?_⟩
  refine List.forall_mem_cons.mpr ⟨s_goto dX6_shuffle_86 (by decide), ?_⟩
  refine List.forall_mem_cons.mpr ⟨s_vreturn dX6_shuffle_89 rfl, ?_⟩
  exact fun _ h => absurd h List.not_mem_nil
def cd_X6_place : sv_Cd := [(0, o_al 0 1),
  (1, o_gR 9 11 4),
  (4, o_il 2 5),
  (5, o_il 1 6),
  (6, o_is3 7),
  (7, o_al 0 8),
  (8, o_gR 9 12 11),
  (11, o_il 1 12),
  (12, o_il 2 13),
  (13, o_is3 14),
  (14, o_vr)]
set_option maxRecDepth 20000 in
theorem sn_X6_place : ∀ q ∈ cd_X6_place, sv_Snd m_X6_place q.1 q.2 := by
  unfold cd_X6_place
  refine List.forall_mem_cons.mpr ⟨s_aload_n dX6_place_0 rfl, ?_⟩
  refine List.forall_mem_cons.mpr ⟨s_getR (j := 2) cf_X6 (Nat.le_of_ble_eq_true rfl) rfl fl_X6_13 dX6_place_1, ?_⟩
  refine List.forall_mem_cons.mpr ⟨s_iload_n dX6_place_4 rfl, ?_⟩
  refine List.forall_mem_cons.mpr ⟨s_iload_n dX6_place_5 rfl, ?_⟩
  refine List.forall_mem_cons.mpr ⟨s_iastore dX6_place_6, ?_⟩
  refine List.forall_mem_cons.mpr ⟨s_aload_n dX6_place_7 rfl, ?_⟩
  refine List.forall_mem_cons.mpr ⟨s_getR (j := 3) cf_X6 (Nat.le_of_ble_eq_true rfl) rfl fl_X6_16 dX6_place_8, ?_⟩
  refine List.forall_mem_cons.mpr ⟨s_iload_n dX6_place_11 rfl, ?_⟩
  refine List.forall_mem_cons.mpr ⟨s_iload_n dX6_place_12 rfl, ?_⟩
  refine List.forall_mem_cons.mpr ⟨s_iastore dX6_place_13, ?_⟩
  refine List.forall_mem_cons.mpr ⟨s_vreturn dX6_place_14 rfl, ?_⟩
  exact fun _ h => absurd h List.not_mem_nil
def cd_X6_everyone : sv_Cd := [(0, o_ic 1 1),
  (1, o_al 0 2),
  (2, o_gI 9 4 5),
  (5, o_b (fun x y => x <<< (y &&& 31)) 6),
  (6, o_ic 1 7),
  (7, o_b (fun x y => x - y) 8),
  (8, o_ir)]
set_option maxRecDepth 20000 in
theorem sn_X6_everyone : ∀ q ∈ cd_X6_everyone, sv_Snd m_X6_everyone q.1 q.2 := by
  unfold cd_X6_everyone
  refine List.forall_mem_cons.mpr ⟨s_iconst dX6_everyone_0 (by decide), ?_⟩
  refine List.forall_mem_cons.mpr ⟨s_aload_n dX6_everyone_1 rfl, ?_⟩
  refine List.forall_mem_cons.mpr ⟨s_getI cf_X6 (Nat.le_of_ble_eq_true rfl) rfl fl_X6_27 dX6_everyone_2, ?_⟩
  refine List.forall_mem_cons.mpr ⟨s_ishl dX6_everyone_5, ?_⟩
  refine List.forall_mem_cons.mpr ⟨s_iconst dX6_everyone_6 (by decide), ?_⟩
  refine List.forall_mem_cons.mpr ⟨s_isub dX6_everyone_7, ?_⟩
  refine List.forall_mem_cons.mpr ⟨s_ireturn dX6_everyone_8 rfl, ?_⟩
  exact fun _ h => absurd h List.not_mem_nil
def cd_X6_countingVote : sv_Cd := [(0, o_al 0 1),
  (1, o_gR 9 10 4),
  (4, o_il 1 5),
  (5, o_ia 6),
  (6, o_il 2 7),
  (7, o_b (fun x y => x >>> (y &&& 31)) 8),
  (8, o_ic 1 9),
  (9, o_b (fun x y => x &&& y) 10),
  (10, o_if (fun x => x = 0) 15 13),
  (13, o_ic (-1) 14),
  (14, o_ir),
  (15, o_al 0 16),
  (16, o_gR 9 1 19),
  (19, o_il 3 20),
  (20, o_ic 9 22),
  (22, o_il 1 23),
  (23, o_b (fun x y => x * y) 24),
  (24, o_il 2 25),
  (25, o_b (fun x y => x + y) 26),
  (26, o_vI m_X7_voteAt 2 1 29),
  (29, o_ir)]
set_option maxRecDepth 20000 in
theorem sn_X6_countingVote : ∀ q ∈ cd_X6_countingVote, sv_Snd m_X6_countingVote q.1 q.2 := by
  unfold cd_X6_countingVote
  refine List.forall_mem_cons.mpr ⟨s_aload_n dX6_countingVote_0 rfl, ?_⟩
  refine List.forall_mem_cons.mpr ⟨s_getR (j := 1) cf_X6 (Nat.le_of_ble_eq_true rfl) rfl fl_X6_9 dX6_countingVote_1, ?_⟩
  refine List.forall_mem_cons.mpr ⟨s_iload_n dX6_countingVote_4 rfl, ?_⟩
  refine List.forall_mem_cons.mpr ⟨s_iaload dX6_countingVote_5, ?_⟩
  refine List.forall_mem_cons.mpr ⟨s_iload_n dX6_countingVote_6 rfl, ?_⟩
  refine List.forall_mem_cons.mpr ⟨s_ishr dX6_countingVote_7, ?_⟩
  refine List.forall_mem_cons.mpr ⟨s_iconst dX6_countingVote_8 (by decide), ?_⟩
  refine List.forall_mem_cons.mpr ⟨s_iand dX6_countingVote_9, ?_⟩
  refine List.forall_mem_cons.mpr ⟨s_if_eq dX6_countingVote_10 (by decide), ?_⟩
  refine List.forall_mem_cons.mpr ⟨s_iconst dX6_countingVote_13 (by decide), ?_⟩
  refine List.forall_mem_cons.mpr ⟨s_ireturn dX6_countingVote_14 rfl, ?_⟩
  refine List.forall_mem_cons.mpr ⟨s_aload_n dX6_countingVote_15 rfl, ?_⟩
  refine List.forall_mem_cons.mpr ⟨s_getR (j := 0) cf_X6 (Nat.le_of_ble_eq_true rfl) rfl fl_X6_23 dX6_countingVote_16, ?_⟩
  refine List.forall_mem_cons.mpr ⟨s_iload_n dX6_countingVote_19 rfl, ?_⟩
  refine List.forall_mem_cons.mpr ⟨s_bipush dX6_countingVote_20 (by decide), ?_⟩
  refine List.forall_mem_cons.mpr ⟨s_iload_n dX6_countingVote_22 rfl, ?_⟩
  refine List.forall_mem_cons.mpr ⟨s_imul dX6_countingVote_23, ?_⟩
  refine List.forall_mem_cons.mpr ⟨s_iload_n dX6_countingVote_24 rfl, ?_⟩
  refine List.forall_mem_cons.mpr ⟨s_iadd dX6_countingVote_25, ?_⟩
  refine List.forall_mem_cons.mpr ⟨s_callVI cf_X7 rfl ca_X7_voteAt ml_X6_37 im_X7_voteAt se_X7_voteAt ⟨(Nat.le_of_ble_eq_true rfl), (Nat.le_of_ble_eq_true rfl)⟩ dX6_countingVote_26, ?_⟩
  refine List.forall_mem_cons.mpr ⟨s_ireturn dX6_countingVote_29 rfl, ?_⟩
  exact fun _ h => absurd h List.not_mem_nil
def cd_X6_countingVotes : sv_Cd := [(0, o_ic 0 1),
  (1, o_is 3 2),
  (2, o_ic 0 3),
  (3, o_is 4 5),
  (5, o_il 4 7),
  (7, o_al 0 8),
  (8, o_gI 9 5 11),
  (11, o_ic2 (fun x y => y ≤ x) 35 14),
  (14, o_al 0 15),
  (15, o_il 1 16),
  (16, o_il 4 18),
  (18, o_il 2 19),
  (19, o_vI m_X6_countingVote 3 9 22),
  (22, o_ic (-1) 23),
  (23, o_ic2 (fun x y => x = y) 29 26),
  (26, o_in 3 1 29),
  (29, o_in 4 1 32),
  (32, o_go 5),
  (35, o_il 3 36),
  (36, o_ir)]
set_option maxRecDepth 20000 in
theorem sn_X6_countingVotes : ∀ q ∈ cd_X6_countingVotes, sv_Snd m_X6_countingVotes q.1 q.2 := by
  unfold cd_X6_countingVotes
  refine List.forall_mem_cons.mpr ⟨s_iconst dX6_countingVotes_0 (by decide), ?_⟩
  refine List.forall_mem_cons.mpr ⟨s_istore_n dX6_countingVotes_1 rfl (Nat.le_of_ble_eq_true rfl), ?_⟩
  refine List.forall_mem_cons.mpr ⟨s_iconst dX6_countingVotes_2 (by decide), ?_⟩
  refine List.forall_mem_cons.mpr ⟨s_istore dX6_countingVotes_3 (Nat.le_of_ble_eq_true rfl), ?_⟩
  refine List.forall_mem_cons.mpr ⟨s_iload dX6_countingVotes_5, ?_⟩
  refine List.forall_mem_cons.mpr ⟨s_aload_n dX6_countingVotes_7 rfl, ?_⟩
  refine List.forall_mem_cons.mpr ⟨s_getI cf_X6 (Nat.le_of_ble_eq_true rfl) rfl fl_X6_19 dX6_countingVotes_8, ?_⟩
  refine List.forall_mem_cons.mpr ⟨s_icmp_ge dX6_countingVotes_11 (by decide), ?_⟩
  refine List.forall_mem_cons.mpr ⟨s_aload_n dX6_countingVotes_14 rfl, ?_⟩
  refine List.forall_mem_cons.mpr ⟨s_iload_n dX6_countingVotes_15 rfl, ?_⟩
  refine List.forall_mem_cons.mpr ⟨s_iload dX6_countingVotes_16, ?_⟩
  refine List.forall_mem_cons.mpr ⟨s_iload_n dX6_countingVotes_18 rfl, ?_⟩
  refine List.forall_mem_cons.mpr ⟨s_callVI cf_X6 rfl ca_X6_countingVote ml_X6_41 im_X6_countingVote se_X6_countingVote ⟨(Nat.le_of_ble_eq_true rfl), (Nat.le_of_ble_eq_true rfl)⟩ dX6_countingVotes_19, ?_⟩
  refine List.forall_mem_cons.mpr ⟨s_iconst dX6_countingVotes_22 (by decide), ?_⟩
  refine List.forall_mem_cons.mpr ⟨s_icmp_eq dX6_countingVotes_23 (by decide), ?_⟩
  refine List.forall_mem_cons.mpr ⟨s_iinc dX6_countingVotes_26 (by decide) (Nat.le_of_ble_eq_true rfl), ?_⟩
  refine List.forall_mem_cons.mpr ⟨s_iinc dX6_countingVotes_29 (by decide) (Nat.le_of_ble_eq_true rfl), ?_⟩
  refine List.forall_mem_cons.mpr ⟨s_goto dX6_countingVotes_32 (by decide), ?_⟩
  refine List.forall_mem_cons.mpr ⟨s_iload_n dX6_countingVotes_35 rfl, ?_⟩
  refine List.forall_mem_cons.mpr ⟨s_ireturn dX6_countingVotes_36 rfl, ?_⟩
  exact fun _ h => absurd h List.not_mem_nil
def cd_X6_yesVotes : sv_Cd := [(0, o_ic 0 1),
  (1, o_is 3 2),
  (2, o_ic 0 3),
  (3, o_is 4 5),
  (5, o_il 4 7),
  (7, o_al 0 8),
  (8, o_gI 9 5 11),
  (11, o_ic2 (fun x y => y ≤ x) 35 14),
  (14, o_al 0 15),
  (15, o_il 1 16),
  (16, o_il 4 18),
  (18, o_il 2 19),
  (19, o_vI m_X6_countingVote 3 9 22),
  (22, o_ic 1 23),
  (23, o_ic2 (fun x y => x = y) 26 29),
  (26, o_in 3 1 29),
  (29, o_in 4 1 32),
  (32, o_go 5),
  (35, o_il 3 36),
  (36, o_ir)]
set_option maxRecDepth 20000 in
theorem sn_X6_yesVotes : ∀ q ∈ cd_X6_yesVotes, sv_Snd m_X6_yesVotes q.1 q.2 := by
  unfold cd_X6_yesVotes
  refine List.forall_mem_cons.mpr ⟨s_iconst dX6_yesVotes_0 (by decide), ?_⟩
  refine List.forall_mem_cons.mpr ⟨s_istore_n dX6_yesVotes_1 rfl (Nat.le_of_ble_eq_true rfl), ?_⟩
  refine List.forall_mem_cons.mpr ⟨s_iconst dX6_yesVotes_2 (by decide), ?_⟩
  refine List.forall_mem_cons.mpr ⟨s_istore dX6_yesVotes_3 (Nat.le_of_ble_eq_true rfl), ?_⟩
  refine List.forall_mem_cons.mpr ⟨s_iload dX6_yesVotes_5, ?_⟩
  refine List.forall_mem_cons.mpr ⟨s_aload_n dX6_yesVotes_7 rfl, ?_⟩
  refine List.forall_mem_cons.mpr ⟨s_getI cf_X6 (Nat.le_of_ble_eq_true rfl) rfl fl_X6_19 dX6_yesVotes_8, ?_⟩
  refine List.forall_mem_cons.mpr ⟨s_icmp_ge dX6_yesVotes_11 (by decide), ?_⟩
  refine List.forall_mem_cons.mpr ⟨s_aload_n dX6_yesVotes_14 rfl, ?_⟩
  refine List.forall_mem_cons.mpr ⟨s_iload_n dX6_yesVotes_15 rfl, ?_⟩
  refine List.forall_mem_cons.mpr ⟨s_iload dX6_yesVotes_16, ?_⟩
  refine List.forall_mem_cons.mpr ⟨s_iload_n dX6_yesVotes_18 rfl, ?_⟩
  refine List.forall_mem_cons.mpr ⟨s_callVI cf_X6 rfl ca_X6_countingVote ml_X6_41 im_X6_countingVote se_X6_countingVote ⟨(Nat.le_of_ble_eq_true rfl), (Nat.le_of_ble_eq_true rfl)⟩ dX6_yesVotes_19, ?_⟩
  refine List.forall_mem_cons.mpr ⟨s_iconst dX6_yesVotes_22 (by decide), ?_⟩
  refine List.forall_mem_cons.mpr ⟨s_icmp_ne dX6_yesVotes_23 (by decide), ?_⟩
  refine List.forall_mem_cons.mpr ⟨s_iinc dX6_yesVotes_26 (by decide) (Nat.le_of_ble_eq_true rfl), ?_⟩
  refine List.forall_mem_cons.mpr ⟨s_iinc dX6_yesVotes_29 (by decide) (Nat.le_of_ble_eq_true rfl), ?_⟩
  refine List.forall_mem_cons.mpr ⟨s_goto dX6_yesVotes_32 (by decide), ?_⟩
  refine List.forall_mem_cons.mpr ⟨s_iload_n dX6_yesVotes_35 rfl, ?_⟩
  refine List.forall_mem_cons.mpr ⟨s_ireturn dX6_yesVotes_36 rfl, ?_⟩
  exact fun _ h => absurd h List.not_mem_nil
def cd_X6_jurorsOnPart : sv_Cd := [(0, o_ic 0 1),
  (1, o_is 4 3),
  (3, o_ic 0 4),
  (4, o_is 5 6),
  (6, o_il 5 8),
  (8, o_al 0 9),
  (9, o_gI 9 5 12),
  (12, o_ic2 (fun x y => y ≤ x) 59 15),
  (15, o_al 0 16),
  (16, o_il 1 17),
  (17, o_il 5 19),
  (19, o_il 3 20),
  (20, o_vI m_X6_countingVote 3 9 23),
  (23, o_ic 1 24),
  (24, o_ic2 (fun x y => x = y) 27 31),
  (27, o_ic 1 28),
  (28, o_go 32),
  (31, o_ic 0 32),
  (32, o_is 6 34),
  (34, o_il 6 36),
  (36, o_if (fun x => x = 0) 53 39),
  (39, o_al 0 40),
  (40, o_il 2 41),
  (41, o_il 5 43),
  (43, o_il 3 44),
  (44, o_vI m_X6_countingVote 3 9 47),
  (47, o_if (fun x => x = 0) 50 53),
  (50, o_in 4 1 53),
  (53, o_in 5 1 56),
  (56, o_go 6),
  (59, o_il 4 61),
  (61, o_ir)]
set_option maxRecDepth 20000 in
theorem sn_X6_jurorsOnPart : ∀ q ∈ cd_X6_jurorsOnPart, sv_Snd m_X6_jurorsOnPart q.1 q.2 := by
  unfold cd_X6_jurorsOnPart
  refine List.forall_mem_cons.mpr ⟨s_iconst dX6_jurorsOnPart_0 (by decide), ?_⟩
  refine List.forall_mem_cons.mpr ⟨s_istore dX6_jurorsOnPart_1 (Nat.le_of_ble_eq_true rfl), ?_⟩
  refine List.forall_mem_cons.mpr ⟨s_iconst dX6_jurorsOnPart_3 (by decide), ?_⟩
  refine List.forall_mem_cons.mpr ⟨s_istore dX6_jurorsOnPart_4 (Nat.le_of_ble_eq_true rfl), ?_⟩
  refine List.forall_mem_cons.mpr ⟨s_iload dX6_jurorsOnPart_6, ?_⟩
  refine List.forall_mem_cons.mpr ⟨s_aload_n dX6_jurorsOnPart_8 rfl, ?_⟩
  refine List.forall_mem_cons.mpr ⟨s_getI cf_X6 (Nat.le_of_ble_eq_true rfl) rfl fl_X6_19 dX6_jurorsOnPart_9, ?_⟩
  refine List.forall_mem_cons.mpr ⟨s_icmp_ge dX6_jurorsOnPart_12 (by decide), ?_⟩
  refine List.forall_mem_cons.mpr ⟨s_aload_n dX6_jurorsOnPart_15 rfl, ?_⟩
  refine List.forall_mem_cons.mpr ⟨s_iload_n dX6_jurorsOnPart_16 rfl, ?_⟩
  refine List.forall_mem_cons.mpr ⟨s_iload dX6_jurorsOnPart_17, ?_⟩
  refine List.forall_mem_cons.mpr ⟨s_iload_n dX6_jurorsOnPart_19 rfl, ?_⟩
  refine List.forall_mem_cons.mpr ⟨s_callVI cf_X6 rfl ca_X6_countingVote ml_X6_41 im_X6_countingVote se_X6_countingVote ⟨(Nat.le_of_ble_eq_true rfl), (Nat.le_of_ble_eq_true rfl)⟩ dX6_jurorsOnPart_20, ?_⟩
  refine List.forall_mem_cons.mpr ⟨s_iconst dX6_jurorsOnPart_23 (by decide), ?_⟩
  refine List.forall_mem_cons.mpr ⟨s_icmp_ne dX6_jurorsOnPart_24 (by decide), ?_⟩
  refine List.forall_mem_cons.mpr ⟨s_iconst dX6_jurorsOnPart_27 (by decide), ?_⟩
  refine List.forall_mem_cons.mpr ⟨s_goto dX6_jurorsOnPart_28 (by decide), ?_⟩
  refine List.forall_mem_cons.mpr ⟨s_iconst dX6_jurorsOnPart_31 (by decide), ?_⟩
  refine List.forall_mem_cons.mpr ⟨s_istore dX6_jurorsOnPart_32 (Nat.le_of_ble_eq_true rfl), ?_⟩
  refine List.forall_mem_cons.mpr ⟨s_iload dX6_jurorsOnPart_34, ?_⟩
  refine List.forall_mem_cons.mpr ⟨s_if_eq dX6_jurorsOnPart_36 (by decide), ?_⟩
  refine List.forall_mem_cons.mpr ⟨s_aload_n dX6_jurorsOnPart_39 rfl, ?_⟩
  refine List.forall_mem_cons.mpr ⟨s_iload_n dX6_jurorsOnPart_40 rfl, ?_⟩
  refine List.forall_mem_cons.mpr ⟨s_iload dX6_jurorsOnPart_41, ?_⟩
  refine List.forall_mem_cons.mpr ⟨s_iload_n dX6_jurorsOnPart_43 rfl, ?_⟩
  refine List.forall_mem_cons.mpr ⟨s_callVI cf_X6 rfl ca_X6_countingVote ml_X6_41 im_X6_countingVote se_X6_countingVote ⟨(Nat.le_of_ble_eq_true rfl), (Nat.le_of_ble_eq_true rfl)⟩ dX6_jurorsOnPart_44, ?_⟩
  refine List.forall_mem_cons.mpr ⟨s_if_ne dX6_jurorsOnPart_47 (by decide), ?_⟩
  refine List.forall_mem_cons.mpr ⟨s_iinc dX6_jurorsOnPart_50 (by decide) (Nat.le_of_ble_eq_true rfl), ?_⟩
  refine List.forall_mem_cons.mpr ⟨s_iinc dX6_jurorsOnPart_53 (by decide) (Nat.le_of_ble_eq_true rfl), ?_⟩
  refine List.forall_mem_cons.mpr ⟨s_goto dX6_jurorsOnPart_56 (by decide), ?_⟩
  refine List.forall_mem_cons.mpr ⟨s_iload dX6_jurorsOnPart_59, ?_⟩
  refine List.forall_mem_cons.mpr ⟨s_ireturn dX6_jurorsOnPart_61 rfl, ?_⟩
  exact fun _ h => absurd h List.not_mem_nil
def cd_X7_isLost : sv_Cd := [(0, o_al 0 1),
  (1, o_gR 1 7 4),
  (4, o_il 1 5),
  (5, o_ia 6),
  (6, o_ic (-1) 7),
  (7, o_ic2 (fun x y => x = y) 10 14),
  (10, o_ic 1 11),
  (11, o_go 15),
  (14, o_ic 0 15),
  (15, o_zr)]
set_option maxRecDepth 20000 in
theorem sn_X7_isLost : ∀ q ∈ cd_X7_isLost, sv_Snd m_X7_isLost q.1 q.2 := by
  unfold cd_X7_isLost
  refine List.forall_mem_cons.mpr ⟨s_aload_n dX7_isLost_0 rfl, ?_⟩
  refine List.forall_mem_cons.mpr ⟨s_getR (j := 1) cf_X7 (Nat.le_of_ble_eq_true rfl) rfl fl_X7_16 dX7_isLost_1, ?_⟩
  refine List.forall_mem_cons.mpr ⟨s_iload_n dX7_isLost_4 rfl, ?_⟩
  refine List.forall_mem_cons.mpr ⟨s_iaload dX7_isLost_5, ?_⟩
  refine List.forall_mem_cons.mpr ⟨s_iconst dX7_isLost_6 (by decide), ?_⟩
  refine List.forall_mem_cons.mpr ⟨s_icmp_ne dX7_isLost_7 (by decide), ?_⟩
  refine List.forall_mem_cons.mpr ⟨s_iconst dX7_isLost_10 (by decide), ?_⟩
  refine List.forall_mem_cons.mpr ⟨s_goto dX7_isLost_11 (by decide), ?_⟩
  refine List.forall_mem_cons.mpr ⟨s_iconst dX7_isLost_14 (by decide), ?_⟩
  refine List.forall_mem_cons.mpr ⟨s_zreturn dX7_isLost_15 rfl, ?_⟩
  exact fun _ h => absurd h List.not_mem_nil
def cd_X7_found : sv_Cd := [(0, o_al 0 1),
  (1, o_il 1 2),
  (2, o_pI 1 3 5),
  (5, o_ic (-10) 7),
  (7, o_il 1 8),
  (8, o_b (fun x y => x - y) 9),
  (9, o_ir)]
set_option maxRecDepth 20000 in
theorem sn_X7_found : ∀ q ∈ cd_X7_found, sv_Snd m_X7_found q.1 q.2 := by
  unfold cd_X7_found
  refine List.forall_mem_cons.mpr ⟨s_aload_n dX7_found_0 rfl, ?_⟩
  refine List.forall_mem_cons.mpr ⟨s_iload_n dX7_found_1 rfl, ?_⟩
  refine List.forall_mem_cons.mpr ⟨s_put cf_X7 (Nat.le_of_ble_eq_true rfl) rfl fl_X7_23 rfl (tyX7_ok 3 (Nat.le_of_ble_eq_true rfl)) dX7_found_2, ?_⟩
  refine List.forall_mem_cons.mpr ⟨s_bipush dX7_found_5 (by decide), ?_⟩
  refine List.forall_mem_cons.mpr ⟨s_iload_n dX7_found_7 rfl, ?_⟩
  refine List.forall_mem_cons.mpr ⟨s_isub dX7_found_8, ?_⟩
  refine List.forall_mem_cons.mpr ⟨s_ireturn dX7_found_9 rfl, ?_⟩
  exact fun _ h => absurd h List.not_mem_nil
def cd_X7_lay : sv_Cd := [(0, o_al 0 1),
  (1, o_gR 1 7 4),
  (4, o_il 1 5),
  (5, o_il 2 6),
  (6, o_is3 7),
  (7, o_al 0 8),
  (8, o_gR 1 8 11),
  (11, o_il 1 12),
  (12, o_il 3 13),
  (13, o_is3 14),
  (14, o_ic 0 15),
  (15, o_is 4 17),
  (17, o_il 4 19),
  (19, o_il 3 20),
  (20, o_ic2 (fun x y => y ≤ x) 39 23),
  (23, o_al 0 24),
  (24, o_gR 1 2 27),
  (27, o_il 1 28),
  (28, o_aa 29),
  (29, o_il 4 31),
  (31, o_ic 0 32),
  (32, o_is3 33),
  (33, o_in 4 1 36),
  (36, o_go 17),
  (39, o_il 3 40),
  (40, o_ir)]
set_option maxRecDepth 20000 in
theorem sn_X7_lay : ∀ q ∈ cd_X7_lay, sv_Snd m_X7_lay q.1 q.2 := by
  unfold cd_X7_lay
  refine List.forall_mem_cons.mpr ⟨s_aload_n dX7_lay_0 rfl, ?_⟩
  refine List.forall_mem_cons.mpr ⟨s_getR (j := 1) cf_X7 (Nat.le_of_ble_eq_true rfl) rfl fl_X7_16 dX7_lay_1, ?_⟩
  refine List.forall_mem_cons.mpr ⟨s_iload_n dX7_lay_4 rfl, ?_⟩
  refine List.forall_mem_cons.mpr ⟨s_iload_n dX7_lay_5 rfl, ?_⟩
  refine List.forall_mem_cons.mpr ⟨s_iastore dX7_lay_6, ?_⟩
  refine List.forall_mem_cons.mpr ⟨s_aload_n dX7_lay_7 rfl, ?_⟩
  refine List.forall_mem_cons.mpr ⟨s_getR (j := 2) cf_X7 (Nat.le_of_ble_eq_true rfl) rfl fl_X7_20 dX7_lay_8, ?_⟩
  refine List.forall_mem_cons.mpr ⟨s_iload_n dX7_lay_11 rfl, ?_⟩
  refine List.forall_mem_cons.mpr ⟨s_iload_n dX7_lay_12 rfl, ?_⟩
  refine List.forall_mem_cons.mpr ⟨s_iastore dX7_lay_13, ?_⟩
  refine List.forall_mem_cons.mpr ⟨s_iconst dX7_lay_14 (by decide), ?_⟩
  refine List.forall_mem_cons.mpr ⟨s_istore dX7_lay_15 (Nat.le_of_ble_eq_true rfl), ?_⟩
  refine List.forall_mem_cons.mpr ⟨s_iload dX7_lay_17, ?_⟩
  refine List.forall_mem_cons.mpr ⟨s_iload_n dX7_lay_19 rfl, ?_⟩
  refine List.forall_mem_cons.mpr ⟨s_icmp_ge dX7_lay_20 (by decide), ?_⟩
  refine List.forall_mem_cons.mpr ⟨s_aload_n dX7_lay_23 rfl, ?_⟩
  refine List.forall_mem_cons.mpr ⟨s_getR (j := 0) cf_X7 (Nat.le_of_ble_eq_true rfl) rfl fl_X7_13 dX7_lay_24, ?_⟩
  refine List.forall_mem_cons.mpr ⟨s_iload_n dX7_lay_27 rfl, ?_⟩
  refine List.forall_mem_cons.mpr ⟨s_aaload dX7_lay_28, ?_⟩
  refine List.forall_mem_cons.mpr ⟨s_iload dX7_lay_29, ?_⟩
  refine List.forall_mem_cons.mpr ⟨s_iconst dX7_lay_31 (by decide), ?_⟩
  refine List.forall_mem_cons.mpr ⟨s_iastore dX7_lay_32, ?_⟩
  refine List.forall_mem_cons.mpr ⟨s_iinc dX7_lay_33 (by decide) (Nat.le_of_ble_eq_true rfl), ?_⟩
  refine List.forall_mem_cons.mpr ⟨s_goto dX7_lay_36 (by decide), ?_⟩
  refine List.forall_mem_cons.mpr ⟨s_iload_n dX7_lay_39 rfl, ?_⟩
  refine List.forall_mem_cons.mpr ⟨s_ireturn dX7_lay_40 rfl, ?_⟩
  exact fun _ h => absurd h List.not_mem_nil
def cd_X7_drop : sv_Cd := [(0, o_al 0 1),
  (1, o_gR 1 8 4),
  (4, o_il 1 5),
  (5, o_ia 6),
  (6, o_is 2 7),
  (7, o_al 0 8),
  (8, o_gR 1 7 11),
  (11, o_il 1 12),
  (12, o_ic (-1) 13),
  (13, o_is3 14),
  (14, o_al 0 15),
  (15, o_gR 1 8 18),
  (18, o_il 1 19),
  (19, o_ic 0 20),
  (20, o_is3 21),
  (21, o_il 2 22),
  (22, o_ir)]
set_option maxRecDepth 20000 in
theorem sn_X7_drop : ∀ q ∈ cd_X7_drop, sv_Snd m_X7_drop q.1 q.2 := by
  unfold cd_X7_drop
  refine List.forall_mem_cons.mpr ⟨s_aload_n dX7_drop_0 rfl, ?_⟩
  refine List.forall_mem_cons.mpr ⟨s_getR (j := 2) cf_X7 (Nat.le_of_ble_eq_true rfl) rfl fl_X7_20 dX7_drop_1, ?_⟩
  refine List.forall_mem_cons.mpr ⟨s_iload_n dX7_drop_4 rfl, ?_⟩
  refine List.forall_mem_cons.mpr ⟨s_iaload dX7_drop_5, ?_⟩
  refine List.forall_mem_cons.mpr ⟨s_istore_n dX7_drop_6 rfl (Nat.le_of_ble_eq_true rfl), ?_⟩
  refine List.forall_mem_cons.mpr ⟨s_aload_n dX7_drop_7 rfl, ?_⟩
  refine List.forall_mem_cons.mpr ⟨s_getR (j := 1) cf_X7 (Nat.le_of_ble_eq_true rfl) rfl fl_X7_16 dX7_drop_8, ?_⟩
  refine List.forall_mem_cons.mpr ⟨s_iload_n dX7_drop_11 rfl, ?_⟩
  refine List.forall_mem_cons.mpr ⟨s_iconst dX7_drop_12 (by decide), ?_⟩
  refine List.forall_mem_cons.mpr ⟨s_iastore dX7_drop_13, ?_⟩
  refine List.forall_mem_cons.mpr ⟨s_aload_n dX7_drop_14 rfl, ?_⟩
  refine List.forall_mem_cons.mpr ⟨s_getR (j := 2) cf_X7 (Nat.le_of_ble_eq_true rfl) rfl fl_X7_20 dX7_drop_15, ?_⟩
  refine List.forall_mem_cons.mpr ⟨s_iload_n dX7_drop_18 rfl, ?_⟩
  refine List.forall_mem_cons.mpr ⟨s_iconst dX7_drop_19 (by decide), ?_⟩
  refine List.forall_mem_cons.mpr ⟨s_iastore dX7_drop_20, ?_⟩
  refine List.forall_mem_cons.mpr ⟨s_iload_n dX7_drop_21 rfl, ?_⟩
  refine List.forall_mem_cons.mpr ⟨s_ireturn dX7_drop_22 rfl, ?_⟩
  exact fun _ h => absurd h List.not_mem_nil
def cd_X7_findingOfItem : sv_Cd := [(0, o_al 0 1),
  (1, o_il 1 2),
  (2, o_vI m_X7_isLost 1 1 5),
  (5, o_if (fun x => x = 0) 10 8),
  (8, o_ic 1 9),
  (9, o_ir),
  (10, o_al 0 11),
  (11, o_gR 1 7 14),
  (14, o_il 1 15),
  (15, o_ia 16),
  (16, o_il 2 17),
  (17, o_ic2 (fun x y => x = y) 22 20),
  (20, o_ic 3 21),
  (21, o_ir),
  (22, o_il 3 23),
  (23, o_if (fun x => x < 0) 40 26),
  (26, o_il 3 27),
  (27, o_al 0 28),
  (28, o_gR 1 8 31),
  (31, o_il 1 32),
  (32, o_ia 33),
  (33, o_ic2 (fun x y => y ≤ x) 40 36),
  (36, o_ic 0 37),
  (37, o_go 41),
  (40, o_ic 2 41),
  (41, o_ir)]
set_option maxRecDepth 20000 in
theorem sn_X7_findingOfItem : ∀ q ∈ cd_X7_findingOfItem, sv_Snd m_X7_findingOfItem q.1 q.2 := by
  unfold cd_X7_findingOfItem
  refine List.forall_mem_cons.mpr ⟨s_aload_n dX7_findingOfItem_0 rfl, ?_⟩
  refine List.forall_mem_cons.mpr ⟨s_iload_n dX7_findingOfItem_1 rfl, ?_⟩
  refine List.forall_mem_cons.mpr ⟨s_callVI cf_X7 rfl ca_X7_isLost ml_X7_27 im_X7_isLost se_X7_isLost ⟨(Nat.le_of_ble_eq_true rfl), (Nat.le_of_ble_eq_true rfl)⟩ dX7_findingOfItem_2, ?_⟩
  refine List.forall_mem_cons.mpr ⟨s_if_eq dX7_findingOfItem_5 (by decide), ?_⟩
  refine List.forall_mem_cons.mpr ⟨s_iconst dX7_findingOfItem_8 (by decide), ?_⟩
  refine List.forall_mem_cons.mpr ⟨s_ireturn dX7_findingOfItem_9 rfl, ?_⟩
  refine List.forall_mem_cons.mpr ⟨s_aload_n dX7_findingOfItem_10 rfl, ?_⟩
  refine List.forall_mem_cons.mpr ⟨s_getR (j := 1) cf_X7 (Nat.le_of_ble_eq_true rfl) rfl fl_X7_16 dX7_findingOfItem_11, ?_⟩
  refine List.forall_mem_cons.mpr ⟨s_iload_n dX7_findingOfItem_14 rfl, ?_⟩
  refine List.forall_mem_cons.mpr ⟨s_iaload dX7_findingOfItem_15, ?_⟩
  refine List.forall_mem_cons.mpr ⟨s_iload_n dX7_findingOfItem_16 rfl, ?_⟩
  refine List.forall_mem_cons.mpr ⟨s_icmp_eq dX7_findingOfItem_17 (by decide), ?_⟩
  refine List.forall_mem_cons.mpr ⟨s_iconst dX7_findingOfItem_20 (by decide), ?_⟩
  refine List.forall_mem_cons.mpr ⟨s_ireturn dX7_findingOfItem_21 rfl, ?_⟩
  refine List.forall_mem_cons.mpr ⟨s_iload_n dX7_findingOfItem_22 rfl, ?_⟩
  refine List.forall_mem_cons.mpr ⟨s_if_lt dX7_findingOfItem_23 (by decide), ?_⟩
  refine List.forall_mem_cons.mpr ⟨s_iload_n dX7_findingOfItem_26 rfl, ?_⟩
  refine List.forall_mem_cons.mpr ⟨s_aload_n dX7_findingOfItem_27 rfl, ?_⟩
  refine List.forall_mem_cons.mpr ⟨s_getR (j := 2) cf_X7 (Nat.le_of_ble_eq_true rfl) rfl fl_X7_20 dX7_findingOfItem_28, ?_⟩
  refine List.forall_mem_cons.mpr ⟨s_iload_n dX7_findingOfItem_31 rfl, ?_⟩
  refine List.forall_mem_cons.mpr ⟨s_iaload dX7_findingOfItem_32, ?_⟩
  refine List.forall_mem_cons.mpr ⟨s_icmp_ge dX7_findingOfItem_33 (by decide), ?_⟩
  refine List.forall_mem_cons.mpr ⟨s_iconst dX7_findingOfItem_36 (by decide), ?_⟩
  refine List.forall_mem_cons.mpr ⟨s_goto dX7_findingOfItem_37 (by decide), ?_⟩
  refine List.forall_mem_cons.mpr ⟨s_iconst dX7_findingOfItem_40 (by decide), ?_⟩
  refine List.forall_mem_cons.mpr ⟨s_ireturn dX7_findingOfItem_41 rfl, ?_⟩
  exact fun _ h => absurd h List.not_mem_nil
def cd_X7_findingOfSheets : sv_Cd := [(0, o_al 0 1),
  (1, o_il 1 2),
  (2, o_vI m_X7_isLost 1 1 5),
  (5, o_if (fun x => x = 0) 8 16),
  (8, o_al 0 9),
  (9, o_il 2 10),
  (10, o_vI m_X7_isLost 1 1 13),
  (13, o_if (fun x => x = 0) 18 16),
  (16, o_ic 1 17),
  (17, o_ir),
  (18, o_al 0 19),
  (19, o_gR 1 7 22),
  (22, o_il 1 23),
  (23, o_ia 24),
  (24, o_al 0 25),
  (25, o_gR 1 7 28),
  (28, o_il 2 29),
  (29, o_ia 30),
  (30, o_ic2 (fun x y => x = y) 33 37),
  (33, o_ic 0 34),
  (34, o_go 38),
  (37, o_ic 4 38),
  (38, o_ir)]
set_option maxRecDepth 20000 in
theorem sn_X7_findingOfSheets : ∀ q ∈ cd_X7_findingOfSheets, sv_Snd m_X7_findingOfSheets q.1 q.2 := by
  unfold cd_X7_findingOfSheets
  refine List.forall_mem_cons.mpr ⟨s_aload_n dX7_findingOfSheets_0 rfl, ?_⟩
  refine List.forall_mem_cons.mpr ⟨s_iload_n dX7_findingOfSheets_1 rfl, ?_⟩
  refine List.forall_mem_cons.mpr ⟨s_callVI cf_X7 rfl ca_X7_isLost ml_X7_27 im_X7_isLost se_X7_isLost ⟨(Nat.le_of_ble_eq_true rfl), (Nat.le_of_ble_eq_true rfl)⟩ dX7_findingOfSheets_2, ?_⟩
  refine List.forall_mem_cons.mpr ⟨s_if_ne dX7_findingOfSheets_5 (by decide), ?_⟩
  refine List.forall_mem_cons.mpr ⟨s_aload_n dX7_findingOfSheets_8 rfl, ?_⟩
  refine List.forall_mem_cons.mpr ⟨s_iload_n dX7_findingOfSheets_9 rfl, ?_⟩
  refine List.forall_mem_cons.mpr ⟨s_callVI cf_X7 rfl ca_X7_isLost ml_X7_27 im_X7_isLost se_X7_isLost ⟨(Nat.le_of_ble_eq_true rfl), (Nat.le_of_ble_eq_true rfl)⟩ dX7_findingOfSheets_10, ?_⟩
  refine List.forall_mem_cons.mpr ⟨s_if_eq dX7_findingOfSheets_13 (by decide), ?_⟩
  refine List.forall_mem_cons.mpr ⟨s_iconst dX7_findingOfSheets_16 (by decide), ?_⟩
  refine List.forall_mem_cons.mpr ⟨s_ireturn dX7_findingOfSheets_17 rfl, ?_⟩
  refine List.forall_mem_cons.mpr ⟨s_aload_n dX7_findingOfSheets_18 rfl, ?_⟩
  refine List.forall_mem_cons.mpr ⟨s_getR (j := 1) cf_X7 (Nat.le_of_ble_eq_true rfl) rfl fl_X7_16 dX7_findingOfSheets_19, ?_⟩
  refine List.forall_mem_cons.mpr ⟨s_iload_n dX7_findingOfSheets_22 rfl, ?_⟩
  refine List.forall_mem_cons.mpr ⟨s_iaload dX7_findingOfSheets_23, ?_⟩
  refine List.forall_mem_cons.mpr ⟨s_aload_n dX7_findingOfSheets_24 rfl, ?_⟩
  refine List.forall_mem_cons.mpr ⟨s_getR (j := 1) cf_X7 (Nat.le_of_ble_eq_true rfl) rfl fl_X7_16 dX7_findingOfSheets_25, ?_⟩
  refine List.forall_mem_cons.mpr ⟨s_iload_n dX7_findingOfSheets_28 rfl, ?_⟩
  refine List.forall_mem_cons.mpr ⟨s_iaload dX7_findingOfSheets_29, ?_⟩
  refine List.forall_mem_cons.mpr ⟨s_icmp_ne dX7_findingOfSheets_30 (by decide), ?_⟩
  refine List.forall_mem_cons.mpr ⟨s_iconst dX7_findingOfSheets_33 (by decide), ?_⟩
  refine List.forall_mem_cons.mpr ⟨s_goto dX7_findingOfSheets_34 (by decide), ?_⟩
  refine List.forall_mem_cons.mpr ⟨s_iconst dX7_findingOfSheets_37 (by decide), ?_⟩
  refine List.forall_mem_cons.mpr ⟨s_ireturn dX7_findingOfSheets_38 rfl, ?_⟩
  exact fun _ h => absurd h List.not_mem_nil
def cd_X7_hasSpan : sv_Cd := [(0, o_il 2 1),
  (1, o_if (fun x => x < 0) 34 4),
  (4, o_il 3 5),
  (5, o_if (fun x => x < 0) 34 8),
  (8, o_il 2 9),
  (9, o_al 0 10),
  (10, o_gR 1 8 13),
  (13, o_il 1 14),
  (14, o_ia 15),
  (15, o_ic2 (fun x y => y < x) 34 18),
  (18, o_il 3 19),
  (19, o_al 0 20),
  (20, o_gR 1 8 23),
  (23, o_il 1 24),
  (24, o_ia 25),
  (25, o_il 2 26),
  (26, o_b (fun x y => x - y) 27),
  (27, o_ic2 (fun x y => y < x) 34 30),
  (30, o_ic 1 31),
  (31, o_go 35),
  (34, o_ic 0 35),
  (35, o_zr)]
set_option maxRecDepth 20000 in
theorem sn_X7_hasSpan : ∀ q ∈ cd_X7_hasSpan, sv_Snd m_X7_hasSpan q.1 q.2 := by
  unfold cd_X7_hasSpan
  refine List.forall_mem_cons.mpr ⟨s_iload_n dX7_hasSpan_0 rfl, ?_⟩
  refine List.forall_mem_cons.mpr ⟨s_if_lt dX7_hasSpan_1 (by decide), ?_⟩
  refine List.forall_mem_cons.mpr ⟨s_iload_n dX7_hasSpan_4 rfl, ?_⟩
  refine List.forall_mem_cons.mpr ⟨s_if_lt dX7_hasSpan_5 (by decide), ?_⟩
  refine List.forall_mem_cons.mpr ⟨s_iload_n dX7_hasSpan_8 rfl, ?_⟩
  refine List.forall_mem_cons.mpr ⟨s_aload_n dX7_hasSpan_9 rfl, ?_⟩
  refine List.forall_mem_cons.mpr ⟨s_getR (j := 2) cf_X7 (Nat.le_of_ble_eq_true rfl) rfl fl_X7_20 dX7_hasSpan_10, ?_⟩
  refine List.forall_mem_cons.mpr ⟨s_iload_n dX7_hasSpan_13 rfl, ?_⟩
  refine List.forall_mem_cons.mpr ⟨s_iaload dX7_hasSpan_14, ?_⟩
  refine List.forall_mem_cons.mpr ⟨s_icmp_gt dX7_hasSpan_15 (by decide), ?_⟩
  refine List.forall_mem_cons.mpr ⟨s_iload_n dX7_hasSpan_18 rfl, ?_⟩
  refine List.forall_mem_cons.mpr ⟨s_aload_n dX7_hasSpan_19 rfl, ?_⟩
  refine List.forall_mem_cons.mpr ⟨s_getR (j := 2) cf_X7 (Nat.le_of_ble_eq_true rfl) rfl fl_X7_20 dX7_hasSpan_20, ?_⟩
  refine List.forall_mem_cons.mpr ⟨s_iload_n dX7_hasSpan_23 rfl, ?_⟩
  refine List.forall_mem_cons.mpr ⟨s_iaload dX7_hasSpan_24, ?_⟩
  refine List.forall_mem_cons.mpr ⟨s_iload_n dX7_hasSpan_25 rfl, ?_⟩
  refine List.forall_mem_cons.mpr ⟨s_isub dX7_hasSpan_26, ?_⟩
  refine List.forall_mem_cons.mpr ⟨s_icmp_gt dX7_hasSpan_27 (by decide), ?_⟩
  refine List.forall_mem_cons.mpr ⟨s_iconst dX7_hasSpan_30 (by decide), ?_⟩
  refine List.forall_mem_cons.mpr ⟨s_goto dX7_hasSpan_31 (by decide), ?_⟩
  refine List.forall_mem_cons.mpr ⟨s_iconst dX7_hasSpan_34 (by decide), ?_⟩
  refine List.forall_mem_cons.mpr ⟨s_zreturn dX7_hasSpan_35 rfl, ?_⟩
  exact fun _ h => absurd h List.not_mem_nil
def cd_X7_lowestBits : sv_Cd := [(0, o_il 0 1),
  (1, o_if (fun x => x = 0) 4 7),
  (4, o_il 1 5),
  (5, o_u (fun x => x.toInt8.toInt32) 6),
  (6, o_ir),
  (7, o_il 0 8),
  (8, o_ic 1 9),
  (9, o_ic2 (fun x y => x = y) 12 17),
  (12, o_il 1 13),
  (13, o_u (fun x => x.toInt16.toInt32) 14),
  (14, o_go 18),
  (17, o_il 1 18),
  (18, o_ir)]
set_option maxRecDepth 20000 in
theorem sn_X7_lowestBits : ∀ q ∈ cd_X7_lowestBits, sv_Snd m_X7_lowestBits q.1 q.2 := by
  unfold cd_X7_lowestBits
  refine List.forall_mem_cons.mpr ⟨s_iload_n dX7_lowestBits_0 rfl, ?_⟩
  refine List.forall_mem_cons.mpr ⟨s_if_ne dX7_lowestBits_1 (by decide), ?_⟩
  refine List.forall_mem_cons.mpr ⟨s_iload_n dX7_lowestBits_4 rfl, ?_⟩
  refine List.forall_mem_cons.mpr ⟨s_i2b dX7_lowestBits_5, ?_⟩
  refine List.forall_mem_cons.mpr ⟨s_ireturn dX7_lowestBits_6 rfl, ?_⟩
  refine List.forall_mem_cons.mpr ⟨s_iload_n dX7_lowestBits_7 rfl, ?_⟩
  refine List.forall_mem_cons.mpr ⟨s_iconst dX7_lowestBits_8 (by decide), ?_⟩
  refine List.forall_mem_cons.mpr ⟨s_icmp_ne dX7_lowestBits_9 (by decide), ?_⟩
  refine List.forall_mem_cons.mpr ⟨s_iload_n dX7_lowestBits_12 rfl, ?_⟩
  refine List.forall_mem_cons.mpr ⟨s_i2s dX7_lowestBits_13, ?_⟩
  refine List.forall_mem_cons.mpr ⟨s_goto dX7_lowestBits_14 (by decide), ?_⟩
  refine List.forall_mem_cons.mpr ⟨s_iload_n dX7_lowestBits_17 rfl, ?_⟩
  refine List.forall_mem_cons.mpr ⟨s_ireturn dX7_lowestBits_18 rfl, ?_⟩
  exact fun _ h => absurd h List.not_mem_nil
def cd_X7_voteAt : sv_Cd := [(0, o_il 2 1),
  (1, o_al 0 2),
  (2, o_gR 1 8 5),
  (5, o_il 1 6),
  (6, o_ia 7),
  (7, o_ic2 (fun x y => y ≤ x) 21 10),
  (10, o_al 0 11),
  (11, o_gR 1 2 14),
  (14, o_il 1 15),
  (15, o_aa 16),
  (16, o_il 2 17),
  (17, o_ia 18),
  (18, o_if (fun x => 0 ≤ x) 23 21),
  (21, o_ic (-1) 22),
  (22, o_ir),
  (23, o_al 0 24),
  (24, o_gR 1 2 27),
  (27, o_il 1 28),
  (28, o_aa 29),
  (29, o_il 2 30),
  (30, o_ia 31),
  (31, o_if (fun x => x ≤ 0) 38 34),
  (34, o_ic 1 35),
  (35, o_go 39),
  (38, o_ic 0 39),
  (39, o_ir)]
set_option maxRecDepth 20000 in
theorem sn_X7_voteAt : ∀ q ∈ cd_X7_voteAt, sv_Snd m_X7_voteAt q.1 q.2 := by
  unfold cd_X7_voteAt
  refine List.forall_mem_cons.mpr ⟨s_iload_n dX7_voteAt_0 rfl, ?_⟩
  refine List.forall_mem_cons.mpr ⟨s_aload_n dX7_voteAt_1 rfl, ?_⟩
  refine List.forall_mem_cons.mpr ⟨s_getR (j := 2) cf_X7 (Nat.le_of_ble_eq_true rfl) rfl fl_X7_20 dX7_voteAt_2, ?_⟩
  refine List.forall_mem_cons.mpr ⟨s_iload_n dX7_voteAt_5 rfl, ?_⟩
  refine List.forall_mem_cons.mpr ⟨s_iaload dX7_voteAt_6, ?_⟩
  refine List.forall_mem_cons.mpr ⟨s_icmp_ge dX7_voteAt_7 (by decide), ?_⟩
  refine List.forall_mem_cons.mpr ⟨s_aload_n dX7_voteAt_10 rfl, ?_⟩
  refine List.forall_mem_cons.mpr ⟨s_getR (j := 0) cf_X7 (Nat.le_of_ble_eq_true rfl) rfl fl_X7_13 dX7_voteAt_11, ?_⟩
  refine List.forall_mem_cons.mpr ⟨s_iload_n dX7_voteAt_14 rfl, ?_⟩
  refine List.forall_mem_cons.mpr ⟨s_aaload dX7_voteAt_15, ?_⟩
  refine List.forall_mem_cons.mpr ⟨s_iload_n dX7_voteAt_16 rfl, ?_⟩
  refine List.forall_mem_cons.mpr ⟨s_iaload dX7_voteAt_17, ?_⟩
  refine List.forall_mem_cons.mpr ⟨s_if_ge dX7_voteAt_18 (by decide), ?_⟩
  refine List.forall_mem_cons.mpr ⟨s_iconst dX7_voteAt_21 (by decide), ?_⟩
  refine List.forall_mem_cons.mpr ⟨s_ireturn dX7_voteAt_22 rfl, ?_⟩
  refine List.forall_mem_cons.mpr ⟨s_aload_n dX7_voteAt_23 rfl, ?_⟩
  refine List.forall_mem_cons.mpr ⟨s_getR (j := 0) cf_X7 (Nat.le_of_ble_eq_true rfl) rfl fl_X7_13 dX7_voteAt_24, ?_⟩
  refine List.forall_mem_cons.mpr ⟨s_iload_n dX7_voteAt_27 rfl, ?_⟩
  refine List.forall_mem_cons.mpr ⟨s_aaload dX7_voteAt_28, ?_⟩
  refine List.forall_mem_cons.mpr ⟨s_iload_n dX7_voteAt_29 rfl, ?_⟩
  refine List.forall_mem_cons.mpr ⟨s_iaload dX7_voteAt_30, ?_⟩
  refine List.forall_mem_cons.mpr ⟨s_if_le dX7_voteAt_31 (by decide), ?_⟩
  refine List.forall_mem_cons.mpr ⟨s_iconst dX7_voteAt_34 (by decide), ?_⟩
  refine List.forall_mem_cons.mpr ⟨s_goto dX7_voteAt_35 (by decide), ?_⟩
  refine List.forall_mem_cons.mpr ⟨s_iconst dX7_voteAt_38 (by decide), ?_⟩
  refine List.forall_mem_cons.mpr ⟨s_ireturn dX7_voteAt_39 rfl, ?_⟩
  exact fun _ h => absurd h List.not_mem_nil
def cd_X8_has : sv_Cd := [(0, o_ic 0 1),
  (1, o_is 2 2),
  (2, o_il 2 3),
  (3, o_al 0 4),
  (4, o_gI 25 3 7),
  (7, o_ic2 (fun x y => y ≤ x) 28 10),
  (10, o_al 0 11),
  (11, o_gR 25 26 14),
  (14, o_il 2 15),
  (15, o_ia 16),
  (16, o_il 1 17),
  (17, o_ic2 (fun x y => x = y) 20 22),
  (20, o_ic 1 21),
  (21, o_zr),
  (22, o_in 2 1 25),
  (25, o_go 2),
  (28, o_ic 0 29),
  (29, o_zr)]
set_option maxRecDepth 20000 in
theorem sn_X8_has : ∀ q ∈ cd_X8_has, sv_Snd m_X8_has q.1 q.2 := by
  unfold cd_X8_has
  refine List.forall_mem_cons.mpr ⟨s_iconst dX8_has_0 (by decide), ?_⟩
  refine List.forall_mem_cons.mpr ⟨s_istore_n dX8_has_1 rfl (Nat.le_of_ble_eq_true rfl), ?_⟩
  refine List.forall_mem_cons.mpr ⟨s_iload_n dX8_has_2 rfl, ?_⟩
  refine List.forall_mem_cons.mpr ⟨s_aload_n dX8_has_3 rfl, ?_⟩
  refine List.forall_mem_cons.mpr ⟨s_getI cf_X8 (Nat.le_of_ble_eq_true rfl) rfl fl_X8_23 dX8_has_4, ?_⟩
  refine List.forall_mem_cons.mpr ⟨s_icmp_ge dX8_has_7 (by decide), ?_⟩
  refine List.forall_mem_cons.mpr ⟨s_aload_n dX8_has_10 rfl, ?_⟩
  refine List.forall_mem_cons.mpr ⟨s_getR (j := 0) cf_X8 (Nat.le_of_ble_eq_true rfl) rfl fl_X8_11 dX8_has_11, ?_⟩
  refine List.forall_mem_cons.mpr ⟨s_iload_n dX8_has_14 rfl, ?_⟩
  refine List.forall_mem_cons.mpr ⟨s_iaload dX8_has_15, ?_⟩
  refine List.forall_mem_cons.mpr ⟨s_iload_n dX8_has_16 rfl, ?_⟩
  refine List.forall_mem_cons.mpr ⟨s_icmp_ne dX8_has_17 (by decide), ?_⟩
  refine List.forall_mem_cons.mpr ⟨s_iconst dX8_has_20 (by decide), ?_⟩
  refine List.forall_mem_cons.mpr ⟨s_zreturn dX8_has_21 rfl, ?_⟩
  refine List.forall_mem_cons.mpr ⟨s_iinc dX8_has_22 (by decide) (Nat.le_of_ble_eq_true rfl), ?_⟩
  refine List.forall_mem_cons.mpr ⟨s_goto dX8_has_25 (by decide), ?_⟩
  refine List.forall_mem_cons.mpr ⟨s_iconst dX8_has_28 (by decide), ?_⟩
  refine List.forall_mem_cons.mpr ⟨s_zreturn dX8_has_29 rfl, ?_⟩
  exact fun _ h => absurd h List.not_mem_nil
def cd_X8_open : sv_Cd := [(0, o_al 0 1),
  (1, o_gI 25 3 4),
  (4, o_is 2 5),
  (5, o_al 0 6),
  (6, o_gR 25 26 9),
  (9, o_il 2 10),
  (10, o_il 1 11),
  (11, o_is3 12),
  (12, o_al 0 13),
  (13, o_dup 14),
  (14, o_gI 25 3 17),
  (17, o_ic 1 18),
  (18, o_b (fun x y => x + y) 19),
  (19, o_pI 25 3 22),
  (22, o_il 2 23),
  (23, o_ir)]
set_option maxRecDepth 20000 in
theorem sn_X8_open : ∀ q ∈ cd_X8_open, sv_Snd m_X8_open q.1 q.2 := by
  unfold cd_X8_open
  refine List.forall_mem_cons.mpr ⟨s_aload_n dX8_open_0 rfl, ?_⟩
  refine List.forall_mem_cons.mpr ⟨s_getI cf_X8 (Nat.le_of_ble_eq_true rfl) rfl fl_X8_23 dX8_open_1, ?_⟩
  refine List.forall_mem_cons.mpr ⟨s_istore_n dX8_open_4 rfl (Nat.le_of_ble_eq_true rfl), ?_⟩
  refine List.forall_mem_cons.mpr ⟨s_aload_n dX8_open_5 rfl, ?_⟩
  refine List.forall_mem_cons.mpr ⟨s_getR (j := 0) cf_X8 (Nat.le_of_ble_eq_true rfl) rfl fl_X8_11 dX8_open_6, ?_⟩
  refine List.forall_mem_cons.mpr ⟨s_iload_n dX8_open_9 rfl, ?_⟩
  refine List.forall_mem_cons.mpr ⟨s_iload_n dX8_open_10 rfl, ?_⟩
  refine List.forall_mem_cons.mpr ⟨s_iastore dX8_open_11, ?_⟩
  refine List.forall_mem_cons.mpr ⟨s_aload_n dX8_open_12 rfl, ?_⟩
  refine List.forall_mem_cons.mpr ⟨s_dup dX8_open_13, ?_⟩
  refine List.forall_mem_cons.mpr ⟨s_getI cf_X8 (Nat.le_of_ble_eq_true rfl) rfl fl_X8_23 dX8_open_14, ?_⟩
  refine List.forall_mem_cons.mpr ⟨s_iconst dX8_open_17 (by decide), ?_⟩
  refine List.forall_mem_cons.mpr ⟨s_iadd dX8_open_18, ?_⟩
  refine List.forall_mem_cons.mpr ⟨s_put cf_X8 (Nat.le_of_ble_eq_true rfl) rfl fl_X8_23 rfl (tyX8_ok 3 (Nat.le_of_ble_eq_true rfl)) dX8_open_19, ?_⟩
  refine List.forall_mem_cons.mpr ⟨s_iload_n dX8_open_22 rfl, ?_⟩
  refine List.forall_mem_cons.mpr ⟨s_ireturn dX8_open_23 rfl, ?_⟩
  exact fun _ h => absurd h List.not_mem_nil
def cd_X8_addMark : sv_Cd := [(0, o_al 0 1),
  (1, o_gR 25 28 4),
  (4, o_il 1 5),
  (5, o_aa 6),
  (6, o_al 0 7),
  (7, o_gR 25 27 10),
  (10, o_il 1 11),
  (11, o_ia 12),
  (12, o_il 2 13),
  (13, o_is3 14),
  (14, o_al 0 15),
  (15, o_gR 25 27 18),
  (18, o_il 1 19),
  (19, o_dup2 20),
  (20, o_ia 21),
  (21, o_ic 1 22),
  (22, o_b (fun x y => x + y) 23),
  (23, o_is3 24),
  (24, o_al 0 25),
  (25, o_gR 25 27 28),
  (28, o_il 1 29),
  (29, o_ia 30),
  (30, o_ir)]
set_option maxRecDepth 20000 in
theorem sn_X8_addMark : ∀ q ∈ cd_X8_addMark, sv_Snd m_X8_addMark q.1 q.2 := by
  unfold cd_X8_addMark
  refine List.forall_mem_cons.mpr ⟨s_aload_n dX8_addMark_0 rfl, ?_⟩
  refine List.forall_mem_cons.mpr ⟨s_getR (j := 2) cf_X8 (Nat.le_of_ble_eq_true rfl) rfl fl_X8_20 dX8_addMark_1, ?_⟩
  refine List.forall_mem_cons.mpr ⟨s_iload_n dX8_addMark_4 rfl, ?_⟩
  refine List.forall_mem_cons.mpr ⟨s_aaload dX8_addMark_5, ?_⟩
  refine List.forall_mem_cons.mpr ⟨s_aload_n dX8_addMark_6 rfl, ?_⟩
  refine List.forall_mem_cons.mpr ⟨s_getR (j := 1) cf_X8 (Nat.le_of_ble_eq_true rfl) rfl fl_X8_15 dX8_addMark_7, ?_⟩
  refine List.forall_mem_cons.mpr ⟨s_iload_n dX8_addMark_10 rfl, ?_⟩
  refine List.forall_mem_cons.mpr ⟨s_iaload dX8_addMark_11, ?_⟩
  refine List.forall_mem_cons.mpr ⟨s_iload_n dX8_addMark_12 rfl, ?_⟩
  refine List.forall_mem_cons.mpr ⟨s_iastore dX8_addMark_13, ?_⟩
  refine List.forall_mem_cons.mpr ⟨s_aload_n dX8_addMark_14 rfl, ?_⟩
  refine List.forall_mem_cons.mpr ⟨s_getR (j := 1) cf_X8 (Nat.le_of_ble_eq_true rfl) rfl fl_X8_15 dX8_addMark_15, ?_⟩
  refine List.forall_mem_cons.mpr ⟨s_iload_n dX8_addMark_18 rfl, ?_⟩
  refine List.forall_mem_cons.mpr ⟨s_dup2 dX8_addMark_19, ?_⟩
  refine List.forall_mem_cons.mpr ⟨s_iaload dX8_addMark_20, ?_⟩
  refine List.forall_mem_cons.mpr ⟨s_iconst dX8_addMark_21 (by decide), ?_⟩
  refine List.forall_mem_cons.mpr ⟨s_iadd dX8_addMark_22, ?_⟩
  refine List.forall_mem_cons.mpr ⟨s_iastore dX8_addMark_23, ?_⟩
  refine List.forall_mem_cons.mpr ⟨s_aload_n dX8_addMark_24 rfl, ?_⟩
  refine List.forall_mem_cons.mpr ⟨s_getR (j := 1) cf_X8 (Nat.le_of_ble_eq_true rfl) rfl fl_X8_15 dX8_addMark_25, ?_⟩
  refine List.forall_mem_cons.mpr ⟨s_iload_n dX8_addMark_28 rfl, ?_⟩
  refine List.forall_mem_cons.mpr ⟨s_iaload dX8_addMark_29, ?_⟩
  refine List.forall_mem_cons.mpr ⟨s_ireturn dX8_addMark_30 rfl, ?_⟩
  exact fun _ h => absurd h List.not_mem_nil
def cd_X8_lead : sv_Cd := [(0, o_ic 0 1),
  (1, o_is 3 2),
  (2, o_ic 0 3),
  (3, o_is 4 5),
  (5, o_ic 0 6),
  (6, o_is 5 8),
  (8, o_il 5 10),
  (10, o_al 0 11),
  (11, o_gR 25 27 14),
  (14, o_il 1 15),
  (15, o_ia 16),
  (16, o_ic2 (fun x y => y ≤ x) 84 19),
  (19, o_il 5 21),
  (21, o_al 0 22),
  (22, o_gR 25 27 25),
  (25, o_il 2 26),
  (26, o_ia 27),
  (27, o_ic2 (fun x y => y ≤ x) 84 30),
  (30, o_il 3 31),
  (31, o_al 0 32),
  (32, o_gR 25 28 35),
  (35, o_il 1 36),
  (36, o_aa 37),
  (37, o_il 5 39),
  (39, o_ia 40),
  (40, o_al 0 41),
  (41, o_gR 25 28 44),
  (44, o_il 2 45),
  (45, o_aa 46),
  (46, o_il 5 48),
  (48, o_ia 49),
  (49, o_sI m_J6_compare_7cf53 2 52),
  (52, o_b (fun x y => x + y) 53),
  (53, o_is 3 54),
  (54, o_il 4 56),
  (56, o_al 0 57),
  (57, o_gR 25 28 60),
  (60, o_il 1 61),
  (61, o_aa 62),
  (62, o_il 5 64),
  (64, o_ia 65),
  (65, o_al 0 66),
  (66, o_gR 25 28 69),
  (69, o_il 2 70),
  (70, o_aa 71),
  (71, o_il 5 73),
  (73, o_ia 74),
  (74, o_b (fun x y => x - y) 75),
  (75, o_b (fun x y => x + y) 76),
  (76, o_is 4 78),
  (78, o_in 5 1 81),
  (81, o_go 8),
  (84, o_il 3 85),
  (85, o_if (fun x => x = 0) 92 88),
  (88, o_il 3 89),
  (89, o_go 94),
  (92, o_il 4 94),
  (94, o_ir)]
set_option maxRecDepth 20000 in
theorem sn_X8_lead : ∀ q ∈ cd_X8_lead, sv_Snd m_X8_lead q.1 q.2 := by
  unfold cd_X8_lead
  refine List.forall_mem_cons.mpr ⟨s_iconst dX8_lead_0 (by decide), ?_⟩
  refine List.forall_mem_cons.mpr ⟨s_istore_n dX8_lead_1 rfl (Nat.le_of_ble_eq_true rfl), ?_⟩
  refine List.forall_mem_cons.mpr ⟨s_iconst dX8_lead_2 (by decide), ?_⟩
  refine List.forall_mem_cons.mpr ⟨s_istore dX8_lead_3 (Nat.le_of_ble_eq_true rfl), ?_⟩
  refine List.forall_mem_cons.mpr ⟨s_iconst dX8_lead_5 (by decide), ?_⟩
  refine List.forall_mem_cons.mpr ⟨s_istore dX8_lead_6 (Nat.le_of_ble_eq_true rfl), ?_⟩
  refine List.forall_mem_cons.mpr ⟨s_iload dX8_lead_8, ?_⟩
  refine List.forall_mem_cons.mpr ⟨s_aload_n dX8_lead_10 rfl, ?_⟩
  refine List.forall_mem_cons.mpr ⟨s_getR (j := 1) cf_X8 (Nat.le_of_ble_eq_true rfl) rfl fl_X8_15 dX8_lead_11, ?_⟩
  refine List.forall_mem_cons.mpr ⟨s_iload_n dX8_lead_14 rfl, ?_⟩
  refine List.forall_mem_cons.mpr ⟨s_iaload dX8_lead_15, ?_⟩
  refine List.forall_mem_cons.mpr ⟨s_icmp_ge dX8_lead_16 (by decide), ?_⟩
  refine List.forall_mem_cons.mpr ⟨s_iload dX8_lead_19, ?_⟩
  refine List.forall_mem_cons.mpr ⟨s_aload_n dX8_lead_21 rfl, ?_⟩
  refine List.forall_mem_cons.mpr ⟨s_getR (j := 1) cf_X8 (Nat.le_of_ble_eq_true rfl) rfl fl_X8_15 dX8_lead_22, ?_⟩
  refine List.forall_mem_cons.mpr ⟨s_iload_n dX8_lead_25 rfl, ?_⟩
  refine List.forall_mem_cons.mpr ⟨s_iaload dX8_lead_26, ?_⟩
  refine List.forall_mem_cons.mpr ⟨s_icmp_ge dX8_lead_27 (by decide), ?_⟩
  refine List.forall_mem_cons.mpr ⟨s_iload_n dX8_lead_30 rfl, ?_⟩
  refine List.forall_mem_cons.mpr ⟨s_aload_n dX8_lead_31 rfl, ?_⟩
  refine List.forall_mem_cons.mpr ⟨s_getR (j := 2) cf_X8 (Nat.le_of_ble_eq_true rfl) rfl fl_X8_20 dX8_lead_32, ?_⟩
  refine List.forall_mem_cons.mpr ⟨s_iload_n dX8_lead_35 rfl, ?_⟩
  refine List.forall_mem_cons.mpr ⟨s_aaload dX8_lead_36, ?_⟩
  refine List.forall_mem_cons.mpr ⟨s_iload dX8_lead_37, ?_⟩
  refine List.forall_mem_cons.mpr ⟨s_iaload dX8_lead_39, ?_⟩
  refine List.forall_mem_cons.mpr ⟨s_aload_n dX8_lead_40 rfl, ?_⟩
  refine List.forall_mem_cons.mpr ⟨s_getR (j := 2) cf_X8 (Nat.le_of_ble_eq_true rfl) rfl fl_X8_20 dX8_lead_41, ?_⟩
  refine List.forall_mem_cons.mpr ⟨s_iload_n dX8_lead_44 rfl, ?_⟩
  refine List.forall_mem_cons.mpr ⟨s_aaload dX8_lead_45, ?_⟩
  refine List.forall_mem_cons.mpr ⟨s_iload dX8_lead_46, ?_⟩
  refine List.forall_mem_cons.mpr ⟨s_iaload dX8_lead_48, ?_⟩
  refine List.forall_mem_cons.mpr ⟨s_callSI ca_J6_compare_7cf53 ml_X8_27 st_J6_compare_7cf53 ⟨(Nat.le_of_ble_eq_true rfl), (Nat.le_of_ble_eq_true rfl)⟩ dX8_lead_49, ?_⟩
  refine List.forall_mem_cons.mpr ⟨s_iadd dX8_lead_52, ?_⟩
  refine List.forall_mem_cons.mpr ⟨s_istore_n dX8_lead_53 rfl (Nat.le_of_ble_eq_true rfl), ?_⟩
  refine List.forall_mem_cons.mpr ⟨s_iload dX8_lead_54, ?_⟩
  refine List.forall_mem_cons.mpr ⟨s_aload_n dX8_lead_56 rfl, ?_⟩
  refine List.forall_mem_cons.mpr ⟨s_getR (j := 2) cf_X8 (Nat.le_of_ble_eq_true rfl) rfl fl_X8_20 dX8_lead_57, ?_⟩
  refine List.forall_mem_cons.mpr ⟨s_iload_n dX8_lead_60 rfl, ?_⟩
  refine List.forall_mem_cons.mpr ⟨s_aaload dX8_lead_61, ?_⟩
  refine List.forall_mem_cons.mpr ⟨s_iload dX8_lead_62, ?_⟩
  refine List.forall_mem_cons.mpr ⟨s_iaload dX8_lead_64, ?_⟩
  refine List.forall_mem_cons.mpr ⟨s_aload_n dX8_lead_65 rfl, ?_⟩
  refine List.forall_mem_cons.mpr ⟨s_getR (j := 2) cf_X8 (Nat.le_of_ble_eq_true rfl) rfl fl_X8_20 dX8_lead_66, ?_⟩
  refine List.forall_mem_cons.mpr ⟨s_iload_n dX8_lead_69 rfl, ?_⟩
  refine List.forall_mem_cons.mpr ⟨s_aaload dX8_lead_70, ?_⟩
  refine List.forall_mem_cons.mpr ⟨s_iload dX8_lead_71, ?_⟩
  refine List.forall_mem_cons.mpr ⟨s_iaload dX8_lead_73, ?_⟩
  refine List.forall_mem_cons.mpr ⟨s_isub dX8_lead_74, ?_⟩
  refine List.forall_mem_cons.mpr ⟨s_iadd dX8_lead_75, ?_⟩
  refine List.forall_mem_cons.mpr ⟨s_istore dX8_lead_76 (Nat.le_of_ble_eq_true rfl), ?_⟩
  refine List.forall_mem_cons.mpr ⟨s_iinc dX8_lead_78 (by decide) (Nat.le_of_ble_eq_true rfl), ?_⟩
  refine List.forall_mem_cons.mpr ⟨s_goto dX8_lead_81 (by decide), ?_⟩
  refine List.forall_mem_cons.mpr ⟨s_iload_n dX8_lead_84 rfl, ?_⟩
  refine List.forall_mem_cons.mpr ⟨s_if_eq dX8_lead_85 (by decide), ?_⟩
  refine List.forall_mem_cons.mpr ⟨s_iload_n dX8_lead_88 rfl, ?_⟩
  refine List.forall_mem_cons.mpr ⟨s_goto dX8_lead_89 (by decide), ?_⟩
  refine List.forall_mem_cons.mpr ⟨s_iload dX8_lead_92, ?_⟩
  refine List.forall_mem_cons.mpr ⟨s_ireturn dX8_lead_94 rfl, ?_⟩
  exact fun _ h => absurd h List.not_mem_nil
def cd_X8_seated : sv_Cd := [(0, o_ic 0 1),
  (1, o_is 1 2),
  (2, o_il 1 3),
  (3, o_al 0 4),
  (4, o_gI 25 3 7),
  (7, o_ic2 (fun x y => y ≤ x) 31 10),
  (10, o_al 0 11),
  (11, o_il 1 12),
  (12, o_vI m_X8_leadsAll 1 25 15),
  (15, o_if (fun x => x = 0) 25 18),
  (18, o_al 0 19),
  (19, o_gR 25 26 22),
  (22, o_il 1 23),
  (23, o_ia 24),
  (24, o_ir),
  (25, o_in 1 1 28),
  (28, o_go 2),
  (31, o_ic (-1) 32),
  (32, o_ir)]
set_option maxRecDepth 20000 in
theorem sn_X8_seated : ∀ q ∈ cd_X8_seated, sv_Snd m_X8_seated q.1 q.2 := by
  unfold cd_X8_seated
  refine List.forall_mem_cons.mpr ⟨s_iconst dX8_seated_0 (by decide), ?_⟩
  refine List.forall_mem_cons.mpr ⟨s_istore_n dX8_seated_1 rfl (Nat.le_of_ble_eq_true rfl), ?_⟩
  refine List.forall_mem_cons.mpr ⟨s_iload_n dX8_seated_2 rfl, ?_⟩
  refine List.forall_mem_cons.mpr ⟨s_aload_n dX8_seated_3 rfl, ?_⟩
  refine List.forall_mem_cons.mpr ⟨s_getI cf_X8 (Nat.le_of_ble_eq_true rfl) rfl fl_X8_23 dX8_seated_4, ?_⟩
  refine List.forall_mem_cons.mpr ⟨s_icmp_ge dX8_seated_7 (by decide), ?_⟩
  refine List.forall_mem_cons.mpr ⟨s_aload_n dX8_seated_10 rfl, ?_⟩
  refine List.forall_mem_cons.mpr ⟨s_iload_n dX8_seated_11 rfl, ?_⟩
  refine List.forall_mem_cons.mpr ⟨s_callVI cf_X8 rfl ca_X8_leadsAll ml_X8_33 im_X8_leadsAll se_X8_leadsAll ⟨(Nat.le_of_ble_eq_true rfl), (Nat.le_of_ble_eq_true rfl)⟩ dX8_seated_12, ?_⟩
  refine List.forall_mem_cons.mpr ⟨s_if_eq dX8_seated_15 (by decide), ?_⟩
  refine List.forall_mem_cons.mpr ⟨s_aload_n dX8_seated_18 rfl, ?_⟩
  refine List.forall_mem_cons.mpr ⟨s_getR (j := 0) cf_X8 (Nat.le_of_ble_eq_true rfl) rfl fl_X8_11 dX8_seated_19, ?_⟩
  refine List.forall_mem_cons.mpr ⟨s_iload_n dX8_seated_22 rfl, ?_⟩
  refine List.forall_mem_cons.mpr ⟨s_iaload dX8_seated_23, ?_⟩
  refine List.forall_mem_cons.mpr ⟨s_ireturn dX8_seated_24 rfl, ?_⟩
  refine List.forall_mem_cons.mpr ⟨s_iinc dX8_seated_25 (by decide) (Nat.le_of_ble_eq_true rfl), ?_⟩
  refine List.forall_mem_cons.mpr ⟨s_goto dX8_seated_28 (by decide), ?_⟩
  refine List.forall_mem_cons.mpr ⟨s_iconst dX8_seated_31 (by decide), ?_⟩
  refine List.forall_mem_cons.mpr ⟨s_ireturn dX8_seated_32 rfl, ?_⟩
  exact fun _ h => absurd h List.not_mem_nil
def cd_X8_leadsAll : sv_Cd := [(0, o_ic 0 1),
  (1, o_is 2 2),
  (2, o_il 2 3),
  (3, o_al 0 4),
  (4, o_gI 25 3 7),
  (7, o_ic2 (fun x y => y ≤ x) 32 10),
  (10, o_il 2 11),
  (11, o_il 1 12),
  (12, o_ic2 (fun x y => x = y) 26 15),
  (15, o_al 0 16),
  (16, o_il 1 17),
  (17, o_il 2 18),
  (18, o_vI m_X8_lead 2 25 21),
  (21, o_if (fun x => 0 < x) 26 24),
  (24, o_ic 0 25),
  (25, o_zr),
  (26, o_in 2 1 29),
  (29, o_go 2),
  (32, o_ic 1 33),
  (33, o_zr)]
set_option maxRecDepth 20000 in
theorem sn_X8_leadsAll : ∀ q ∈ cd_X8_leadsAll, sv_Snd m_X8_leadsAll q.1 q.2 := by
  unfold cd_X8_leadsAll
  refine List.forall_mem_cons.mpr ⟨s_iconst dX8_leadsAll_0 (by decide), ?_⟩
  refine List.forall_mem_cons.mpr ⟨s_istore_n dX8_leadsAll_1 rfl (Nat.le_of_ble_eq_true rfl), ?_⟩
  refine List.forall_mem_cons.mpr ⟨s_iload_n dX8_leadsAll_2 rfl, ?_⟩
  refine List.forall_mem_cons.mpr ⟨s_aload_n dX8_leadsAll_3 rfl, ?_⟩
  refine List.forall_mem_cons.mpr ⟨s_getI cf_X8 (Nat.le_of_ble_eq_true rfl) rfl fl_X8_23 dX8_leadsAll_4, ?_⟩
  refine List.forall_mem_cons.mpr ⟨s_icmp_ge dX8_leadsAll_7 (by decide), ?_⟩
  refine List.forall_mem_cons.mpr ⟨s_iload_n dX8_leadsAll_10 rfl, ?_⟩
  refine List.forall_mem_cons.mpr ⟨s_iload_n dX8_leadsAll_11 rfl, ?_⟩
  refine List.forall_mem_cons.mpr ⟨s_icmp_eq dX8_leadsAll_12 (by decide), ?_⟩
  refine List.forall_mem_cons.mpr ⟨s_aload_n dX8_leadsAll_15 rfl, ?_⟩
  refine List.forall_mem_cons.mpr ⟨s_iload_n dX8_leadsAll_16 rfl, ?_⟩
  refine List.forall_mem_cons.mpr ⟨s_iload_n dX8_leadsAll_17 rfl, ?_⟩
  refine List.forall_mem_cons.mpr ⟨s_callVI cf_X8 rfl ca_X8_lead ml_X8_37 im_X8_lead se_X8_lead ⟨(Nat.le_of_ble_eq_true rfl), (Nat.le_of_ble_eq_true rfl)⟩ dX8_leadsAll_18, ?_⟩
  refine List.forall_mem_cons.mpr ⟨s_if_gt dX8_leadsAll_21 (by decide), ?_⟩
  refine List.forall_mem_cons.mpr ⟨s_iconst dX8_leadsAll_24 (by decide), ?_⟩
  refine List.forall_mem_cons.mpr ⟨s_zreturn dX8_leadsAll_25 rfl, ?_⟩
  refine List.forall_mem_cons.mpr ⟨s_iinc dX8_leadsAll_26 (by decide) (Nat.le_of_ble_eq_true rfl), ?_⟩
  refine List.forall_mem_cons.mpr ⟨s_goto dX8_leadsAll_29 (by decide), ?_⟩
  refine List.forall_mem_cons.mpr ⟨s_iconst dX8_leadsAll_32 (by decide), ?_⟩
  refine List.forall_mem_cons.mpr ⟨s_zreturn dX8_leadsAll_33 rfl, ?_⟩
  exact fun _ h => absurd h List.not_mem_nil

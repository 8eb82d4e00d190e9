/-! ===== code tables ===== -/
theorem s_tab {M : sv_M} {pc : Nat} {dflt hi : Int} {offs : Array Int} {len : Nat} {cs : List (Int32 × Nat)} {d : Nat} (n : Nat) (hd : decode M.2.1 pc = .ok (.tableswitch dflt 0 hi offs, len)) (hn : hi + 1 = (n : Int)) (hlt : n < 2 ^ 31) (h1 : ∀ j, j < n → (offs[j]?).map (fun o => (pc : Int) + o) = some ((sv_tgt cs d (nI j) : Nat) : Int)) (h2 : ∀ q ∈ cs, 0 ≤ q.1.toInt ∧ q.1.toInt ≤ hi) (h3 : (pc : Int) + dflt = (d : Int)) : sv_Snd M pc (o_sw cs d) := by
  refine s_table hd (fun x hx => ?_) (fun x hx1 hx2 => ?_)
  · rw [h3]
    have key : ∀ cs : List (Int32 × Nat), (∀ q ∈ cs, 0 ≤ q.1.toInt ∧ q.1.toInt ≤ hi) → sv_tgt cs d x = d := by
      intro cs
      induction cs with
      | nil => intro _; rfl
      | cons q r ih =>
        intro h
        have hq := h q List.mem_cons_self
        unfold sv_tgt
        rw [if_neg (fun e => by rw [e] at hx; omega)]
        exact ih (fun z hz => h z (List.mem_cons_of_mem _ hz))
    rw [key cs h2]
  · have hx0 : 0 ≤ x.toInt := by omega
    have hj : x.toInt.toNat < n := by omega
    have ex : x = nI x.toInt.toNat := by
      apply Int32.toInt_inj.mp
      rw [nI_toInt (by omega)]
      omega
    have h4 := h1 _ hj
    rw [← ex] at h4
    rw [Int.sub_zero]
    cases ho : offs[x.toInt.toNat]? with
    | none => rw [ho] at h4; cases h4
    | some o => rw [ho] at h4; exact ⟨o, rfl, Option.some.inj h4⟩
def cd_X0_append : sv_Cd := [(0, o_al 0 1),
  (1, o_gR 13 14 4),
  (4, o_al 0 5),
  (5, o_gI 13 4 8),
  (8, o_il 1 9),
  (9, o_is3 10),
  (10, o_al 0 11),
  (11, o_dup 12),
  (12, o_gI 13 4 15),
  (15, o_ic 1 16),
  (16, o_b (fun x y => x + y) 17),
  (17, o_pI 13 4 20),
  (20, o_al 0 21),
  (21, o_vV m_X0_readText 0 13 24),
  (24, o_al 0 25),
  (25, o_gI 13 4 28),
  (28, o_ir)]
set_option maxRecDepth 20000 in
theorem sn_X0_append : ∀ q ∈ cd_X0_append, sv_Snd m_X0_append q.1 q.2 := by
  unfold cd_X0_append
  refine List.forall_mem_cons.mpr ⟨s_aload_n dX0_append_0 rfl, ?_⟩
  refine List.forall_mem_cons.mpr ⟨s_getR (j := 0) cf_X0 (Nat.le_of_ble_eq_true rfl) rfl fl_X0_11 dX0_append_1, ?_⟩
  refine List.forall_mem_cons.mpr ⟨s_aload_n dX0_append_4 rfl, ?_⟩
  refine List.forall_mem_cons.mpr ⟨s_getI cf_X0 (Nat.le_of_ble_eq_true rfl) rfl fl_X0_24 dX0_append_5, ?_⟩
  refine List.forall_mem_cons.mpr ⟨s_iload_n dX0_append_8 rfl, ?_⟩
  refine List.forall_mem_cons.mpr ⟨s_iastore dX0_append_9, ?_⟩
  refine List.forall_mem_cons.mpr ⟨s_aload_n dX0_append_10 rfl, ?_⟩
  refine List.forall_mem_cons.mpr ⟨s_dup dX0_append_11, ?_⟩
  refine List.forall_mem_cons.mpr ⟨s_getI cf_X0 (Nat.le_of_ble_eq_true rfl) rfl fl_X0_24 dX0_append_12, ?_⟩
  refine List.forall_mem_cons.mpr ⟨s_iconst dX0_append_15 (by decide), ?_⟩
  refine List.forall_mem_cons.mpr ⟨s_iadd dX0_append_16, ?_⟩
  refine List.forall_mem_cons.mpr ⟨s_put cf_X0 (Nat.le_of_ble_eq_true rfl) rfl fl_X0_24 rfl (tyX0_ok 4 (Nat.le_of_ble_eq_true rfl)) dX0_append_17, ?_⟩
  refine List.forall_mem_cons.mpr ⟨s_aload_n dX0_append_20 rfl, ?_⟩
  refine List.forall_mem_cons.mpr ⟨s_callVV cf_X0 rfl ca_X0_readText ml_X0_28 im_X0_readText se_X0_readText ⟨(Nat.le_of_ble_eq_true rfl), (Nat.le_of_ble_eq_true rfl)⟩ dX0_append_21, ?_⟩
  refine List.forall_mem_cons.mpr ⟨s_aload_n dX0_append_24 rfl, ?_⟩
  refine List.forall_mem_cons.mpr ⟨s_getI cf_X0 (Nat.le_of_ble_eq_true rfl) rfl fl_X0_24 dX0_append_25, ?_⟩
  refine List.forall_mem_cons.mpr ⟨s_ireturn dX0_append_28 rfl, ?_⟩
  exact fun _ h => absurd h List.not_mem_nil
def cd_X0_clear : sv_Cd := [(0, o_al 0 1),
  (1, o_gI 13 4 4),
  (4, o_is 1 5),
  (5, o_al 0 6),
  (6, o_ic 0 7),
  (7, o_pI 13 4 10),
  (10, o_al 0 11),
  (11, o_vV m_X0_readText 0 13 14),
  (14, o_il 1 15),
  (15, o_ir)]
set_option maxRecDepth 20000 in
theorem sn_X0_clear : ∀ q ∈ cd_X0_clear, sv_Snd m_X0_clear q.1 q.2 := by
  unfold cd_X0_clear
  refine List.forall_mem_cons.mpr ⟨s_aload_n dX0_clear_0 rfl, ?_⟩
  refine List.forall_mem_cons.mpr ⟨s_getI cf_X0 (Nat.le_of_ble_eq_true rfl) rfl fl_X0_24 dX0_clear_1, ?_⟩
  refine List.forall_mem_cons.mpr ⟨s_istore_n dX0_clear_4 rfl (Nat.le_of_ble_eq_true rfl), ?_⟩
  refine List.forall_mem_cons.mpr ⟨s_aload_n dX0_clear_5 rfl, ?_⟩
  refine List.forall_mem_cons.mpr ⟨s_iconst dX0_clear_6 (by decide), ?_⟩
  refine List.forall_mem_cons.mpr ⟨s_put cf_X0 (Nat.le_of_ble_eq_true rfl) rfl fl_X0_24 rfl (tyX0_ok 4 (Nat.le_of_ble_eq_true rfl)) dX0_clear_7, ?_⟩
  refine List.forall_mem_cons.mpr ⟨s_aload_n dX0_clear_10 rfl, ?_⟩
  refine List.forall_mem_cons.mpr ⟨s_callVV cf_X0 rfl ca_X0_readText ml_X0_28 im_X0_readText se_X0_readText ⟨(Nat.le_of_ble_eq_true rfl), (Nat.le_of_ble_eq_true rfl)⟩ dX0_clear_11, ?_⟩
  refine List.forall_mem_cons.mpr ⟨s_iload_n dX0_clear_14 rfl, ?_⟩
  refine List.forall_mem_cons.mpr ⟨s_ireturn dX0_clear_15 rfl, ?_⟩
  exact fun _ h => absurd h List.not_mem_nil
def cd_X0_readText : sv_Cd := [(0, o_al 0 1),
  (1, o_ic 0 2),
  (2, o_pI 13 5 5),
  (5, o_al 0 6),
  (6, o_ic 0 7),
  (7, o_pI 13 7 10),
  (10, o_al 0 11),
  (11, o_al 0 12),
  (12, o_vI m_X0_readRounds 0 13 15),
  (15, o_if (fun x => x = 0) 22 18),
  (18, o_ic (-1) 19),
  (19, o_go 26),
  (22, o_al 0 23),
  (23, o_gI 13 7 26),
  (26, o_pI 13 6 29),
  (29, o_vr)]
set_option maxRecDepth 20000 in
theorem sn_X0_readText : ∀ q ∈ cd_X0_readText, sv_Snd m_X0_readText q.1 q.2 := by
  unfold cd_X0_readText
  refine List.forall_mem_cons.mpr ⟨s_aload_n dX0_readText_0 rfl, ?_⟩
  refine List.forall_mem_cons.mpr ⟨s_iconst dX0_readText_1 (by decide), ?_⟩
  refine List.forall_mem_cons.mpr ⟨s_put cf_X0 (Nat.le_of_ble_eq_true rfl) rfl fl_X0_31 rfl (tyX0_ok 5 (Nat.le_of_ble_eq_true rfl)) dX0_readText_2, ?_⟩
  refine List.forall_mem_cons.mpr ⟨s_aload_n dX0_readText_5 rfl, ?_⟩
  refine List.forall_mem_cons.mpr ⟨s_iconst dX0_readText_6 (by decide), ?_⟩
  refine List.forall_mem_cons.mpr ⟨s_put cf_X0 (Nat.le_of_ble_eq_true rfl) rfl fl_X0_34 rfl (tyX0_ok 7 (Nat.le_of_ble_eq_true rfl)) dX0_readText_7, ?_⟩
  refine List.forall_mem_cons.mpr ⟨s_aload_n dX0_readText_10 rfl, ?_⟩
  refine List.forall_mem_cons.mpr ⟨s_aload_n dX0_readText_11 rfl, ?_⟩
  refine List.forall_mem_cons.mpr ⟨s_callVI cf_X0 rfl ca_X0_readRounds ml_X0_37 im_X0_readRounds se_X0_readRounds ⟨(Nat.le_of_ble_eq_true rfl), (Nat.le_of_ble_eq_true rfl)⟩ dX0_readText_12, ?_⟩
  refine List.forall_mem_cons.mpr ⟨s_if_eq dX0_readText_15 (by decide), ?_⟩
  refine List.forall_mem_cons.mpr ⟨s_iconst dX0_readText_18 (by decide), ?_⟩
  refine List.forall_mem_cons.mpr ⟨s_goto dX0_readText_19 (by decide), ?_⟩
  refine List.forall_mem_cons.mpr ⟨s_aload_n dX0_readText_22 rfl, ?_⟩
  refine List.forall_mem_cons.mpr ⟨s_getI cf_X0 (Nat.le_of_ble_eq_true rfl) rfl fl_X0_34 dX0_readText_23, ?_⟩
  refine List.forall_mem_cons.mpr ⟨s_put cf_X0 (Nat.le_of_ble_eq_true rfl) rfl fl_X0_41 rfl (tyX0_ok 6 (Nat.le_of_ble_eq_true rfl)) dX0_readText_26, ?_⟩
  refine List.forall_mem_cons.mpr ⟨s_vreturn dX0_readText_29 rfl, ?_⟩
  exact fun _ h => absurd h List.not_mem_nil
def cd_X0_readRounds : sv_Cd := [(0, o_ic 0 1),
  (1, o_is 1 2),
  (2, o_il 1 3),
  (3, o_ic 4 4),
  (4, o_ic2 (fun x y => y ≤ x) 59 7),
  (7, o_al 0 8),
  (8, o_il 1 9),
  (9, o_vI m_X0_readRound 1 13 12),
  (12, o_if (fun x => x = 0) 15 17),
  (15, o_ic 0 16),
  (16, o_zr),
  (17, o_al 0 18),
  (18, o_gI 13 7 21),
  (21, o_al 0 22),
  (22, o_gI 13 4 25),
  (25, o_ic2 (fun x y => x = y) 28 37),
  (28, o_al 0 29),
  (29, o_il 1 30),
  (30, o_ic 1 31),
  (31, o_b (fun x y => x + y) 32),
  (32, o_pI 13 5 35),
  (35, o_ic 1 36),
  (36, o_zr),
  (37, o_il 1 38),
  (38, o_ic 3 39),
  (39, o_ic2 (fun x y => x = y) 51 42),
  (42, o_al 0 43),
  (43, o_ic 59 45),
  (45, o_vI m_X0_readByte 1 13 48),
  (48, o_if (fun x => x = 0) 51 53),
  (51, o_ic 0 52),
  (52, o_zr),
  (53, o_in 1 1 56),
  (56, o_go 2),
  (59, o_ic 0 60),
  (60, o_zr)]
set_option maxRecDepth 20000 in
theorem sn_X0_readRounds : ∀ q ∈ cd_X0_readRounds, sv_Snd m_X0_readRounds q.1 q.2 := by
  unfold cd_X0_readRounds
  refine List.forall_mem_cons.mpr ⟨s_iconst dX0_readRounds_0 (by decide), ?_⟩
  refine List.forall_mem_cons.mpr ⟨s_istore_n dX0_readRounds_1 rfl (Nat.le_of_ble_eq_true rfl), ?_⟩
  refine List.forall_mem_cons.mpr ⟨s_iload_n dX0_readRounds_2 rfl, ?_⟩
  refine List.forall_mem_cons.mpr ⟨s_iconst dX0_readRounds_3 (by decide), ?_⟩
  refine List.forall_mem_cons.mpr ⟨s_icmp_ge dX0_readRounds_4 (by decide), ?_⟩
  refine List.forall_mem_cons.mpr ⟨s_aload_n dX0_readRounds_7 rfl, ?_⟩
  refine List.forall_mem_cons.mpr ⟨s_iload_n dX0_readRounds_8 rfl, ?_⟩
  refine List.forall_mem_cons.mpr ⟨s_callVI cf_X0 rfl ca_X0_readRound ml_X0_44 im_X0_readRound se_X0_readRound ⟨(Nat.le_of_ble_eq_true rfl), (Nat.le_of_ble_eq_true rfl)⟩ dX0_readRounds_9, ?_⟩
  refine List.forall_mem_cons.mpr ⟨s_if_ne dX0_readRounds_12 (by decide), ?_⟩
  refine List.forall_mem_cons.mpr ⟨s_iconst dX0_readRounds_15 (by decide), ?_⟩
  refine List.forall_mem_cons.mpr ⟨s_zreturn dX0_readRounds_16 rfl, ?_⟩
  refine List.forall_mem_cons.mpr ⟨s_aload_n dX0_readRounds_17 rfl, ?_⟩
  refine List.forall_mem_cons.mpr ⟨s_getI cf_X0 (Nat.le_of_ble_eq_true rfl) rfl fl_X0_34 dX0_readRounds_18, ?_⟩
  refine List.forall_mem_cons.mpr ⟨s_aload_n dX0_readRounds_21 rfl, ?_⟩
  refine List.forall_mem_cons.mpr ⟨s_getI cf_X0 (Nat.le_of_ble_eq_true rfl) rfl fl_X0_24 dX0_readRounds_22, ?_⟩
  refine List.forall_mem_cons.mpr ⟨s_icmp_ne dX0_readRounds_25 (by decide), ?_⟩
  refine List.forall_mem_cons.mpr ⟨s_aload_n dX0_readRounds_28 rfl, ?_⟩
  refine List.forall_mem_cons.mpr ⟨s_iload_n dX0_readRounds_29 rfl, ?_⟩
  refine List.forall_mem_cons.mpr ⟨s_iconst dX0_readRounds_30 (by decide), ?_⟩
  refine List.forall_mem_cons.mpr ⟨s_iadd dX0_readRounds_31, ?_⟩
  refine List.forall_mem_cons.mpr ⟨s_put cf_X0 (Nat.le_of_ble_eq_true rfl) rfl fl_X0_31 rfl (tyX0_ok 5 (Nat.le_of_ble_eq_true rfl)) dX0_readRounds_32, ?_⟩
  refine List.forall_mem_cons.mpr ⟨s_iconst dX0_readRounds_35 (by decide), ?_⟩
  refine List.forall_mem_cons.mpr ⟨s_zreturn dX0_readRounds_36 rfl, ?_⟩
  refine List.forall_mem_cons.mpr ⟨s_iload_n dX0_readRounds_37 rfl, ?_⟩
  refine List.forall_mem_cons.mpr ⟨s_iconst dX0_readRounds_38 (by decide), ?_⟩
  refine List.forall_mem_cons.mpr ⟨s_icmp_eq dX0_readRounds_39 (by decide), ?_⟩
  refine List.forall_mem_cons.mpr ⟨s_aload_n dX0_readRounds_42 rfl, ?_⟩
  refine List.forall_mem_cons.mpr ⟨s_bipush dX0_readRounds_43 (by decide), ?_⟩
  refine List.forall_mem_cons.mpr ⟨s_callVI cf_X0 rfl ca_X0_readByte ml_X0_48 im_X0_readByte se_X0_readByte ⟨(Nat.le_of_ble_eq_true rfl), (Nat.le_of_ble_eq_true rfl)⟩ dX0_readRounds_45, ?_⟩
  refine List.forall_mem_cons.mpr ⟨s_if_ne dX0_readRounds_48 (by decide), ?_⟩
  refine List.forall_mem_cons.mpr ⟨s_iconst dX0_readRounds_51 (by decide), ?_⟩
  refine List.forall_mem_cons.mpr ⟨s_zreturn dX0_readRounds_52 rfl, ?_⟩
  refine List.forall_mem_cons.mpr ⟨s_iinc dX0_readRounds_53 (by decide) (Nat.le_of_ble_eq_true rfl), ?_⟩
  refine List.forall_mem_cons.mpr ⟨s_goto dX0_readRounds_56 (by decide), ?_⟩
  refine List.forall_mem_cons.mpr ⟨s_iconst dX0_readRounds_59 (by decide), ?_⟩
  refine List.forall_mem_cons.mpr ⟨s_zreturn dX0_readRounds_60 rfl, ?_⟩
  exact fun _ h => absurd h List.not_mem_nil
def cd_X0_readRound : sv_Cd := [(0, o_al 0 1),
  (1, o_ic 118 3),
  (3, o_vI m_X0_readByte 1 13 6),
  (6, o_if (fun x => x = 0) 18 9),
  (9, o_al 0 10),
  (10, o_ic 100 12),
  (12, o_vI m_X0_readNumber 1 13 15),
  (15, o_if (fun x => x = 0) 18 20),
  (18, o_ic 0 19),
  (19, o_zr),
  (20, o_al 0 21),
  (21, o_gR 13 15 24),
  (24, o_il 1 25),
  (25, o_al 0 26),
  (26, o_gI 13 8 29),
  (29, o_is3 30),
  (30, o_al 0 31),
  (31, o_ic 97 33),
  (33, o_vI m_X0_readByte 1 13 36),
  (36, o_if (fun x => x = 0) 48 39),
  (39, o_al 0 40),
  (40, o_ic 24 42),
  (42, o_vI m_X0_readNumber 1 13 45),
  (45, o_if (fun x => x = 0) 48 50),
  (48, o_ic 0 49),
  (49, o_zr),
  (50, o_al 0 51),
  (51, o_gR 13 16 54),
  (54, o_il 1 55),
  (55, o_al 0 56),
  (56, o_gI 13 8 59),
  (59, o_is3 60),
  (60, o_al 0 61),
  (61, o_il 1 62),
  (62, o_vI m_X0_readLetter 1 13 65),
  (65, o_zr)]
set_option maxRecDepth 20000 in
theorem sn_X0_readRound : ∀ q ∈ cd_X0_readRound, sv_Snd m_X0_readRound q.1 q.2 := by
  unfold cd_X0_readRound
  refine List.forall_mem_cons.mpr ⟨s_aload_n dX0_readRound_0 rfl, ?_⟩
  refine List.forall_mem_cons.mpr ⟨s_bipush dX0_readRound_1 (by decide), ?_⟩
  refine List.forall_mem_cons.mpr ⟨s_callVI cf_X0 rfl ca_X0_readByte ml_X0_48 im_X0_readByte se_X0_readByte ⟨(Nat.le_of_ble_eq_true rfl), (Nat.le_of_ble_eq_true rfl)⟩ dX0_readRound_3, ?_⟩
  refine List.forall_mem_cons.mpr ⟨s_if_eq dX0_readRound_6 (by decide), ?_⟩
  refine List.forall_mem_cons.mpr ⟨s_aload_n dX0_readRound_9 rfl, ?_⟩
  refine List.forall_mem_cons.mpr ⟨s_bipush dX0_readRound_10 (by decide), ?_⟩
  refine List.forall_mem_cons.mpr ⟨s_callVI cf_X0 rfl ca_X0_readNumber ml_X0_51 im_X0_readNumber se_X0_readNumber ⟨(Nat.le_of_ble_eq_true rfl), (Nat.le_of_ble_eq_true rfl)⟩ dX0_readRound_12, ?_⟩
  refine List.forall_mem_cons.mpr ⟨s_if_ne dX0_readRound_15 (by decide), ?_⟩
  refine List.forall_mem_cons.mpr ⟨s_iconst dX0_readRound_18 (by decide), ?_⟩
  refine List.forall_mem_cons.mpr ⟨s_zreturn dX0_readRound_19 rfl, ?_⟩
  refine List.forall_mem_cons.mpr ⟨s_aload_n dX0_readRound_20 rfl, ?_⟩
  refine List.forall_mem_cons.mpr ⟨s_getR (j := 1) cf_X0 (Nat.le_of_ble_eq_true rfl) rfl fl_X0_15 dX0_readRound_21, ?_⟩
  refine List.forall_mem_cons.mpr ⟨s_iload_n dX0_readRound_24 rfl, ?_⟩
  refine List.forall_mem_cons.mpr ⟨s_aload_n dX0_readRound_25 rfl, ?_⟩
  refine List.forall_mem_cons.mpr ⟨s_getI cf_X0 (Nat.le_of_ble_eq_true rfl) rfl fl_X0_54 dX0_readRound_26, ?_⟩
  refine List.forall_mem_cons.mpr ⟨s_iastore dX0_readRound_29, ?_⟩
  refine List.forall_mem_cons.mpr ⟨s_aload_n dX0_readRound_30 rfl, ?_⟩
  refine List.forall_mem_cons.mpr ⟨s_bipush dX0_readRound_31 (by decide), ?_⟩
  refine List.forall_mem_cons.mpr ⟨s_callVI cf_X0 rfl ca_X0_readByte ml_X0_48 im_X0_readByte se_X0_readByte ⟨(Nat.le_of_ble_eq_true rfl), (Nat.le_of_ble_eq_true rfl)⟩ dX0_readRound_33, ?_⟩
  refine List.forall_mem_cons.mpr ⟨s_if_eq dX0_readRound_36 (by decide), ?_⟩
  refine List.forall_mem_cons.mpr ⟨s_aload_n dX0_readRound_39 rfl, ?_⟩
  refine List.forall_mem_cons.mpr ⟨s_bipush dX0_readRound_40 (by decide), ?_⟩
  refine List.forall_mem_cons.mpr ⟨s_callVI cf_X0 rfl ca_X0_readNumber ml_X0_51 im_X0_readNumber se_X0_readNumber ⟨(Nat.le_of_ble_eq_true rfl), (Nat.le_of_ble_eq_true rfl)⟩ dX0_readRound_42, ?_⟩
  refine List.forall_mem_cons.mpr ⟨s_if_ne dX0_readRound_45 (by decide), ?_⟩
  refine List.forall_mem_cons.mpr ⟨s_iconst dX0_readRound_48 (by decide), ?_⟩
  refine List.forall_mem_cons.mpr ⟨s_zreturn dX0_readRound_49 rfl, ?_⟩
  refine List.forall_mem_cons.mpr ⟨s_aload_n dX0_readRound_50 rfl, ?_⟩
  refine List.forall_mem_cons.mpr ⟨s_getR (j := 2) cf_X0 (Nat.le_of_ble_eq_true rfl) rfl fl_X0_18 dX0_readRound_51, ?_⟩
  refine List.forall_mem_cons.mpr ⟨s_iload_n dX0_readRound_54 rfl, ?_⟩
  refine List.forall_mem_cons.mpr ⟨s_aload_n dX0_readRound_55 rfl, ?_⟩
  refine List.forall_mem_cons.mpr ⟨s_getI cf_X0 (Nat.le_of_ble_eq_true rfl) rfl fl_X0_54 dX0_readRound_56, ?_⟩
  refine List.forall_mem_cons.mpr ⟨s_iastore dX0_readRound_59, ?_⟩
  refine List.forall_mem_cons.mpr ⟨s_aload_n dX0_readRound_60 rfl, ?_⟩
  refine List.forall_mem_cons.mpr ⟨s_iload_n dX0_readRound_61 rfl, ?_⟩
  refine List.forall_mem_cons.mpr ⟨s_callVI cf_X0 rfl ca_X0_readLetter ml_X0_57 im_X0_readLetter se_X0_readLetter ⟨(Nat.le_of_ble_eq_true rfl), (Nat.le_of_ble_eq_true rfl)⟩ dX0_readRound_62, ?_⟩
  refine List.forall_mem_cons.mpr ⟨s_zreturn dX0_readRound_65 rfl, ?_⟩
  exact fun _ h => absurd h List.not_mem_nil
def cd_X0_readByte : sv_Cd := [(0, o_al 0 1),
  (1, o_gI 13 7 4),
  (4, o_al 0 5),
  (5, o_gI 13 4 8),
  (8, o_ic2 (fun x y => y ≤ x) 24 11),
  (11, o_al 0 12),
  (12, o_gR 13 14 15),
  (15, o_al 0 16),
  (16, o_gI 13 7 19),
  (19, o_ia 20),
  (20, o_il 1 21),
  (21, o_ic2 (fun x y => x = y) 26 24),
  (24, o_ic 0 25),
  (25, o_zr),
  (26, o_al 0 27),
  (27, o_dup 28),
  (28, o_gI 13 7 31),
  (31, o_ic 1 32),
  (32, o_b (fun x y => x + y) 33),
  (33, o_pI 13 7 36),
  (36, o_ic 1 37),
  (37, o_zr)]
set_option maxRecDepth 20000 in
theorem sn_X0_readByte : ∀ q ∈ cd_X0_readByte, sv_Snd m_X0_readByte q.1 q.2 := by
  unfold cd_X0_readByte
  refine List.forall_mem_cons.mpr ⟨s_aload_n dX0_readByte_0 rfl, ?_⟩
  refine List.forall_mem_cons.mpr ⟨s_getI cf_X0 (Nat.le_of_ble_eq_true rfl) rfl fl_X0_34 dX0_readByte_1, ?_⟩
  refine List.forall_mem_cons.mpr ⟨s_aload_n dX0_readByte_4 rfl, ?_⟩
  refine List.forall_mem_cons.mpr ⟨s_getI cf_X0 (Nat.le_of_ble_eq_true rfl) rfl fl_X0_24 dX0_readByte_5, ?_⟩
  refine List.forall_mem_cons.mpr ⟨s_icmp_ge dX0_readByte_8 (by decide), ?_⟩
  refine List.forall_mem_cons.mpr ⟨s_aload_n dX0_readByte_11 rfl, ?_⟩
  refine List.forall_mem_cons.mpr ⟨s_getR (j := 0) cf_X0 (Nat.le_of_ble_eq_true rfl) rfl fl_X0_11 dX0_readByte_12, ?_⟩
  refine List.forall_mem_cons.mpr ⟨s_aload_n dX0_readByte_15 rfl, ?_⟩
  refine List.forall_mem_cons.mpr ⟨s_getI cf_X0 (Nat.le_of_ble_eq_true rfl) rfl fl_X0_34 dX0_readByte_16, ?_⟩
  refine List.forall_mem_cons.mpr ⟨s_iaload dX0_readByte_19, ?_⟩
  refine List.forall_mem_cons.mpr ⟨s_iload_n dX0_readByte_20 rfl, ?_⟩
  refine List.forall_mem_cons.mpr ⟨s_icmp_eq dX0_readByte_21 (by decide), ?_⟩
  refine List.forall_mem_cons.mpr ⟨s_iconst dX0_readByte_24 (by decide), ?_⟩
  refine List.forall_mem_cons.mpr ⟨s_zreturn dX0_readByte_25 rfl, ?_⟩
  refine List.forall_mem_cons.mpr ⟨s_aload_n dX0_readByte_26 rfl, ?_⟩
  refine List.forall_mem_cons.mpr ⟨s_dup dX0_readByte_27, ?_⟩
  refine List.forall_mem_cons.mpr ⟨s_getI cf_X0 (Nat.le_of_ble_eq_true rfl) rfl fl_X0_34 dX0_readByte_28, ?_⟩
  refine List.forall_mem_cons.mpr ⟨s_iconst dX0_readByte_31 (by decide), ?_⟩
  refine List.forall_mem_cons.mpr ⟨s_iadd dX0_readByte_32, ?_⟩
  refine List.forall_mem_cons.mpr ⟨s_put cf_X0 (Nat.le_of_ble_eq_true rfl) rfl fl_X0_34 rfl (tyX0_ok 7 (Nat.le_of_ble_eq_true rfl)) dX0_readByte_33, ?_⟩
  refine List.forall_mem_cons.mpr ⟨s_iconst dX0_readByte_36 (by decide), ?_⟩
  refine List.forall_mem_cons.mpr ⟨s_zreturn dX0_readByte_37 rfl, ?_⟩
  exact fun _ h => absurd h List.not_mem_nil
def cd_X0_readLetter : sv_Cd := [(0, o_al 0 1),
  (1, o_gR 13 17 4),
  (4, o_il 1 5),
  (5, o_al 0 6),
  (6, o_gI 13 7 9),
  (9, o_al 0 10),
  (10, o_gI 13 4 13),
  (13, o_ic2 (fun x y => y ≤ x) 28 16),
  (16, o_al 0 17),
  (17, o_gR 13 14 20),
  (20, o_al 0 21),
  (21, o_gI 13 7 24),
  (24, o_ia 25),
  (25, o_go 29),
  (28, o_ic (-1) 29),
  (29, o_is3 30),
  (30, o_al 0 31),
  (31, o_ic 97 33),
  (33, o_vI m_X0_readByte 1 13 36),
  (36, o_if (fun x => x = 0) 39 66),
  (39, o_al 0 40),
  (40, o_ic 110 42),
  (42, o_vI m_X0_readByte 1 13 45),
  (45, o_if (fun x => x = 0) 48 66),
  (48, o_al 0 49),
  (49, o_ic 100 51),
  (51, o_vI m_X0_readByte 1 13 54),
  (54, o_if (fun x => x = 0) 57 66),
  (57, o_al 0 58),
  (58, o_ic 115 60),
  (60, o_vI m_X0_readByte 1 13 63),
  (63, o_if (fun x => x = 0) 70 66),
  (66, o_ic 1 67),
  (67, o_go 71),
  (70, o_ic 0 71),
  (71, o_zr)]
set_option maxRecDepth 20000 in
theorem sn_X0_readLetter : ∀ q ∈ cd_X0_readLetter, sv_Snd m_X0_readLetter q.1 q.2 := by
  unfold cd_X0_readLetter
  refine List.forall_mem_cons.mpr ⟨s_aload_n dX0_readLetter_0 rfl, ?_⟩
  refine List.forall_mem_cons.mpr ⟨s_getR (j := 3) cf_X0 (Nat.le_of_ble_eq_true rfl) rfl fl_X0_21 dX0_readLetter_1, ?_⟩
  refine List.forall_mem_cons.mpr ⟨s_iload_n dX0_readLetter_4 rfl, ?_⟩
  refine List.forall_mem_cons.mpr ⟨s_aload_n dX0_readLetter_5 rfl, ?_⟩
  refine List.forall_mem_cons.mpr ⟨s_getI cf_X0 (Nat.le_of_ble_eq_true rfl) rfl fl_X0_34 dX0_readLetter_6, ?_⟩
  refine List.forall_mem_cons.mpr ⟨s_aload_n dX0_readLetter_9 rfl, ?_⟩
  refine List.forall_mem_cons.mpr ⟨s_getI cf_X0 (Nat.le_of_ble_eq_true rfl) rfl fl_X0_24 dX0_readLetter_10, ?_⟩
  refine List.forall_mem_cons.mpr ⟨s_icmp_ge dX0_readLetter_13 (by decide), ?_⟩
  refine List.forall_mem_cons.mpr ⟨s_aload_n dX0_readLetter_16 rfl, ?_⟩
  refine List.forall_mem_cons.mpr ⟨s_getR (j := 0) cf_X0 (Nat.le_of_ble_eq_true rfl) rfl fl_X0_11 dX0_readLetter_17, ?_⟩
  refine List.forall_mem_cons.mpr ⟨s_aload_n dX0_readLetter_20 rfl, ?_⟩
  refine List.forall_mem_cons.mpr ⟨s_getI cf_X0 (Nat.le_of_ble_eq_true rfl) rfl fl_X0_34 dX0_readLetter_21, ?_⟩
  refine List.forall_mem_cons.mpr ⟨s_iaload dX0_readLetter_24, ?_⟩
  refine List.forall_mem_cons.mpr ⟨s_goto dX0_readLetter_25 (by decide), ?_⟩
  refine List.forall_mem_cons.mpr ⟨s_iconst dX0_readLetter_28 (by decide), ?_⟩
  refine List.forall_mem_cons.mpr ⟨s_iastore dX0_readLetter_29, ?_⟩
  refine List.forall_mem_cons.mpr ⟨s_aload_n dX0_readLetter_30 rfl, ?_⟩
  refine List.forall_mem_cons.mpr ⟨s_bipush dX0_readLetter_31 (by decide), ?_⟩
  refine List.forall_mem_cons.mpr ⟨s_callVI cf_X0 rfl ca_X0_readByte ml_X0_48 im_X0_readByte se_X0_readByte ⟨(Nat.le_of_ble_eq_true rfl), (Nat.le_of_ble_eq_true rfl)⟩ dX0_readLetter_33, ?_⟩
  refine List.forall_mem_cons.mpr ⟨s_if_ne dX0_readLetter_36 (by decide), ?_⟩
  refine List.forall_mem_cons.mpr ⟨s_aload_n dX0_readLetter_39 rfl, ?_⟩
  refine List.forall_mem_cons.mpr ⟨s_bipush dX0_readLetter_40 (by decide), ?_⟩
  refine List.forall_mem_cons.mpr ⟨s_callVI cf_X0 rfl ca_X0_readByte ml_X0_48 im_X0_readByte se_X0_readByte ⟨(Nat.le_of_ble_eq_true rfl), (Nat.le_of_ble_eq_true rfl)⟩ dX0_readLetter_42, ?_⟩
  refine List.forall_mem_cons.mpr ⟨s_if_ne dX0_readLetter_45 (by decide), ?_⟩
  refine List.forall_mem_cons.mpr ⟨s_aload_n dX0_readLetter_48 rfl, ?_⟩
  refine List.forall_mem_cons.mpr ⟨s_bipush dX0_readLetter_49 (by decide), ?_⟩
  refine List.forall_mem_cons.mpr ⟨s_callVI cf_X0 rfl ca_X0_readByte ml_X0_48 im_X0_readByte se_X0_readByte ⟨(Nat.le_of_ble_eq_true rfl), (Nat.le_of_ble_eq_true rfl)⟩ dX0_readLetter_51, ?_⟩
  refine List.forall_mem_cons.mpr ⟨s_if_ne dX0_readLetter_54 (by decide), ?_⟩
  refine List.forall_mem_cons.mpr ⟨s_aload_n dX0_readLetter_57 rfl, ?_⟩
  refine List.forall_mem_cons.mpr ⟨s_bipush dX0_readLetter_58 (by decide), ?_⟩
  refine List.forall_mem_cons.mpr ⟨s_callVI cf_X0 rfl ca_X0_readByte ml_X0_48 im_X0_readByte se_X0_readByte ⟨(Nat.le_of_ble_eq_true rfl), (Nat.le_of_ble_eq_true rfl)⟩ dX0_readLetter_60, ?_⟩
  refine List.forall_mem_cons.mpr ⟨s_if_eq dX0_readLetter_63 (by decide), ?_⟩
  refine List.forall_mem_cons.mpr ⟨s_iconst dX0_readLetter_66 (by decide), ?_⟩
  refine List.forall_mem_cons.mpr ⟨s_goto dX0_readLetter_67 (by decide), ?_⟩
  refine List.forall_mem_cons.mpr ⟨s_iconst dX0_readLetter_70 (by decide), ?_⟩
  refine List.forall_mem_cons.mpr ⟨s_zreturn dX0_readLetter_71 rfl, ?_⟩
  exact fun _ h => absurd h List.not_mem_nil
def cd_X0_readNumber : sv_Cd := [(0, o_al 0 1),
  (1, o_gI 13 7 4),
  (4, o_is 2 5),
  (5, o_al 0 6),
  (6, o_ic 0 7),
  (7, o_pI 13 8 10),
  (10, o_ic 0 11),
  (11, o_is 3 12),
  (12, o_il 3 13),
  (13, o_ic 3 14),
  (14, o_ic2 (fun x y => y ≤ x) 55 17),
  (17, o_al 0 18),
  (18, o_il 2 19),
  (19, o_vI m_X0_isFigure 1 13 22),
  (22, o_if (fun x => x = 0) 55 25),
  (25, o_al 0 26),
  (26, o_ic 10 28),
  (28, o_al 0 29),
  (29, o_gI 13 8 32),
  (32, o_b (fun x y => x * y) 33),
  (33, o_al 0 34),
  (34, o_gR 13 14 37),
  (37, o_il 2 38),
  (38, o_ia 39),
  (39, o_b (fun x y => x + y) 40),
  (40, o_ic 48 42),
  (42, o_b (fun x y => x - y) 43),
  (43, o_pI 13 8 46),
  (46, o_in 2 1 49),
  (49, o_in 3 1 52),
  (52, o_go 12),
  (55, o_al 0 56),
  (56, o_gI 13 8 59),
  (59, o_ic 1 60),
  (60, o_ic2 (fun x y => x < y) 75 63),
  (63, o_al 0 64),
  (64, o_gI 13 8 67),
  (67, o_il 1 68),
  (68, o_ic2 (fun x y => y < x) 75 71),
  (71, o_ic 1 72),
  (72, o_go 76),
  (75, o_ic 0 76),
  (76, o_is 3 77),
  (77, o_il 3 78),
  (78, o_if (fun x => x = 0) 86 81),
  (81, o_al 0 82),
  (82, o_il 2 83),
  (83, o_pI 13 7 86),
  (86, o_il 3 87),
  (87, o_zr)]
set_option maxRecDepth 20000 in
theorem sn_X0_readNumber : ∀ q ∈ cd_X0_readNumber, sv_Snd m_X0_readNumber q.1 q.2 := by
  unfold cd_X0_readNumber
  refine List.forall_mem_cons.mpr ⟨s_aload_n dX0_readNumber_0 rfl, ?_⟩
  refine List.forall_mem_cons.mpr ⟨s_getI cf_X0 (Nat.le_of_ble_eq_true rfl) rfl fl_X0_34 dX0_readNumber_1, ?_⟩
  refine List.forall_mem_cons.mpr ⟨s_istore_n dX0_readNumber_4 rfl (Nat.le_of_ble_eq_true rfl), ?_⟩
  refine List.forall_mem_cons.mpr ⟨s_aload_n dX0_readNumber_5 rfl, ?_⟩
  refine List.forall_mem_cons.mpr ⟨s_iconst dX0_readNumber_6 (by decide), ?_⟩
  refine List.forall_mem_cons.mpr ⟨s_put cf_X0 (Nat.le_of_ble_eq_true rfl) rfl fl_X0_54 rfl (tyX0_ok 8 (Nat.le_of_ble_eq_true rfl)) dX0_readNumber_7, ?_⟩
  refine List.forall_mem_cons.mpr ⟨s_iconst dX0_readNumber_10 (by decide), ?_⟩
  refine List.forall_mem_cons.mpr ⟨s_istore_n dX0_readNumber_11 rfl (Nat.le_of_ble_eq_true rfl), ?_⟩
  refine List.forall_mem_cons.mpr ⟨s_iload_n dX0_readNumber_12 rfl, ?_⟩
  refine List.forall_mem_cons.mpr ⟨s_iconst dX0_readNumber_13 (by decide), ?_⟩
  refine List.forall_mem_cons.mpr ⟨s_icmp_ge dX0_readNumber_14 (by decide), ?_⟩
  refine List.forall_mem_cons.mpr ⟨s_aload_n dX0_readNumber_17 rfl, ?_⟩
  refine List.forall_mem_cons.mpr ⟨s_iload_n dX0_readNumber_18 rfl, ?_⟩
  refine List.forall_mem_cons.mpr ⟨s_callVI cf_X0 rfl ca_X0_isFigure ml_X0_60 im_X0_isFigure se_X0_isFigure ⟨(Nat.le_of_ble_eq_true rfl), (Nat.le_of_ble_eq_true rfl)⟩ dX0_readNumber_19, ?_⟩
  refine List.forall_mem_cons.mpr ⟨s_if_eq dX0_readNumber_22 (by decide), ?_⟩
  refine List.forall_mem_cons.mpr ⟨s_aload_n dX0_readNumber_25 rfl, ?_⟩
  refine List.forall_mem_cons.mpr ⟨s_bipush dX0_readNumber_26 (by decide), ?_⟩
  refine List.forall_mem_cons.mpr ⟨s_aload_n dX0_readNumber_28 rfl, ?_⟩
  refine List.forall_mem_cons.mpr ⟨s_getI cf_X0 (Nat.le_of_ble_eq_true rfl) rfl fl_X0_54 dX0_readNumber_29, ?_⟩
  refine List.forall_mem_cons.mpr ⟨s_imul dX0_readNumber_32, ?_⟩
  refine List.forall_mem_cons.mpr ⟨s_aload_n dX0_readNumber_33 rfl, ?_⟩
  refine List.forall_mem_cons.mpr ⟨s_getR (j := 0) cf_X0 (Nat.le_of_ble_eq_true rfl) rfl fl_X0_11 dX0_readNumber_34, ?_⟩
  refine List.forall_mem_cons.mpr ⟨s_iload_n dX0_readNumber_37 rfl, ?_⟩
  refine List.forall_mem_cons.mpr ⟨s_iaload dX0_readNumber_38, ?_⟩
  refine List.forall_mem_cons.mpr ⟨s_iadd dX0_readNumber_39, ?_⟩
  refine List.forall_mem_cons.mpr ⟨s_bipush dX0_readNumber_40 (by decide), ?_⟩
  refine List.forall_mem_cons.mpr ⟨s_isub dX0_readNumber_42, ?_⟩
  refine List.forall_mem_cons.mpr ⟨s_put cf_X0 (Nat.le_of_ble_eq_true rfl) rfl fl_X0_54 rfl (tyX0_ok 8 (Nat.le_of_ble_eq_true rfl)) dX0_readNumber_43, ?_⟩
  refine List.forall_mem_cons.mpr ⟨s_iinc dX0_readNumber_46 (by decide) (Nat.le_of_ble_eq_true rfl), ?_⟩
  refine List.forall_mem_cons.mpr ⟨s_iinc dX0_readNumber_49 (by decide) (Nat.le_of_ble_eq_true rfl), ?_⟩
  refine List.forall_mem_cons.mpr ⟨s_goto dX0_readNumber_52 (by decide), ?_⟩
  refine List.forall_mem_cons.mpr ⟨s_aload_n dX0_readNumber_55 rfl, ?_⟩
  refine List.forall_mem_cons.mpr ⟨s_getI cf_X0 (Nat.le_of_ble_eq_true rfl) rfl fl_X0_54 dX0_readNumber_56, ?_⟩
  refine List.forall_mem_cons.mpr ⟨s_iconst dX0_readNumber_59 (by decide), ?_⟩
  refine List.forall_mem_cons.mpr ⟨s_icmp_lt dX0_readNumber_60 (by decide), ?_⟩
  refine List.forall_mem_cons.mpr ⟨s_aload_n dX0_readNumber_63 rfl, ?_⟩
  refine List.forall_mem_cons.mpr ⟨s_getI cf_X0 (Nat.le_of_ble_eq_true rfl) rfl fl_X0_54 dX0_readNumber_64, ?_⟩
  refine List.forall_mem_cons.mpr ⟨s_iload_n dX0_readNumber_67 rfl, ?_⟩
  refine List.forall_mem_cons.mpr ⟨s_icmp_gt dX0_readNumber_68 (by decide), ?_⟩
  refine List.forall_mem_cons.mpr ⟨s_iconst dX0_readNumber_71 (by decide), ?_⟩
  refine List.forall_mem_cons.mpr ⟨s_goto dX0_readNumber_72 (by decide), ?_⟩
  refine List.forall_mem_cons.mpr ⟨s_iconst dX0_readNumber_75 (by decide), ?_⟩
  refine List.forall_mem_cons.mpr ⟨s_istore_n dX0_readNumber_76 rfl (Nat.le_of_ble_eq_true rfl), ?_⟩
  refine List.forall_mem_cons.mpr ⟨s_iload_n dX0_readNumber_77 rfl, ?_⟩
  refine List.forall_mem_cons.mpr ⟨s_if_eq dX0_readNumber_78 (by decide), ?_⟩
  refine List.forall_mem_cons.mpr ⟨s_aload_n dX0_readNumber_81 rfl, ?_⟩
  refine List.forall_mem_cons.mpr ⟨s_iload_n dX0_readNumber_82 rfl, ?_⟩
  refine List.forall_mem_cons.mpr ⟨s_put cf_X0 (Nat.le_of_ble_eq_true rfl) rfl fl_X0_34 rfl (tyX0_ok 7 (Nat.le_of_ble_eq_true rfl)) dX0_readNumber_83, ?_⟩
  refine List.forall_mem_cons.mpr ⟨s_iload_n dX0_readNumber_86 rfl, ?_⟩
  refine List.forall_mem_cons.mpr ⟨s_zreturn dX0_readNumber_87 rfl, ?_⟩
  exact fun _ h => absurd h List.not_mem_nil
def cd_X0_isFigure : sv_Cd := [(0, o_il 1 1),
  (1, o_al 0 2),
  (2, o_gI 13 4 5),
  (5, o_ic2 (fun x y => y ≤ x) 34 8),
  (8, o_al 0 9),
  (9, o_gR 13 14 12),
  (12, o_il 1 13),
  (13, o_ia 14),
  (14, o_ic 48 16),
  (16, o_ic2 (fun x y => x < y) 34 19),
  (19, o_al 0 20),
  (20, o_gR 13 14 23),
  (23, o_il 1 24),
  (24, o_ia 25),
  (25, o_ic 57 27),
  (27, o_ic2 (fun x y => y < x) 34 30),
  (30, o_ic 1 31),
  (31, o_go 35),
  (34, o_ic 0 35),
  (35, o_zr)]
set_option maxRecDepth 20000 in
theorem sn_X0_isFigure : ∀ q ∈ cd_X0_isFigure, sv_Snd m_X0_isFigure q.1 q.2 := by
  unfold cd_X0_isFigure
  refine List.forall_mem_cons.mpr ⟨s_iload_n dX0_isFigure_0 rfl, ?_⟩
  refine List.forall_mem_cons.mpr ⟨s_aload_n dX0_isFigure_1 rfl, ?_⟩
  refine List.forall_mem_cons.mpr ⟨s_getI cf_X0 (Nat.le_of_ble_eq_true rfl) rfl fl_X0_24 dX0_isFigure_2, ?_⟩
  refine List.forall_mem_cons.mpr ⟨s_icmp_ge dX0_isFigure_5 (by decide), ?_⟩
  refine List.forall_mem_cons.mpr ⟨s_aload_n dX0_isFigure_8 rfl, ?_⟩
  refine List.forall_mem_cons.mpr ⟨s_getR (j := 0) cf_X0 (Nat.le_of_ble_eq_true rfl) rfl fl_X0_11 dX0_isFigure_9, ?_⟩
  refine List.forall_mem_cons.mpr ⟨s_iload_n dX0_isFigure_12 rfl, ?_⟩
  refine List.forall_mem_cons.mpr ⟨s_iaload dX0_isFigure_13, ?_⟩
  refine List.forall_mem_cons.mpr ⟨s_bipush dX0_isFigure_14 (by decide), ?_⟩
  refine List.forall_mem_cons.mpr ⟨s_icmp_lt dX0_isFigure_16 (by decide), ?_⟩
  refine List.forall_mem_cons.mpr ⟨s_aload_n dX0_isFigure_19 rfl, ?_⟩
  refine List.forall_mem_cons.mpr ⟨s_getR (j := 0) cf_X0 (Nat.le_of_ble_eq_true rfl) rfl fl_X0_11 dX0_isFigure_20, ?_⟩
  refine List.forall_mem_cons.mpr ⟨s_iload_n dX0_isFigure_23 rfl, ?_⟩
  refine List.forall_mem_cons.mpr ⟨s_iaload dX0_isFigure_24, ?_⟩
  refine List.forall_mem_cons.mpr ⟨s_bipush dX0_isFigure_25 (by decide), ?_⟩
  refine List.forall_mem_cons.mpr ⟨s_icmp_gt dX0_isFigure_27 (by decide), ?_⟩
  refine List.forall_mem_cons.mpr ⟨s_iconst dX0_isFigure_30 (by decide), ?_⟩
  refine List.forall_mem_cons.mpr ⟨s_goto dX0_isFigure_31 (by decide), ?_⟩
  refine List.forall_mem_cons.mpr ⟨s_iconst dX0_isFigure_34 (by decide), ?_⟩
  refine List.forall_mem_cons.mpr ⟨s_zreturn dX0_isFigure_35 rfl, ?_⟩
  exact fun _ h => absurd h List.not_mem_nil
def cd_X1_advancedOutOf : sv_Cd := [(0, o_ic 0 1),
  (1, o_is 2 2),
  (2, o_il 2 3),
  (3, o_al 0 4),
  (4, o_gR 18 9 7),
  (7, o_gI 9 4 10),
  (10, o_ic2 (fun x y => y ≤ x) 26 13),
  (13, o_al 0 14),
  (14, o_gR 18 21 17),
  (17, o_il 2 18),
  (18, o_ic 0 19),
  (19, o_is3 20),
  (20, o_in 2 1 23),
  (23, o_go 2),
  (26, o_al 0 27),
  (27, o_gR 18 9 30),
  (30, o_vI m_X6_everyone 0 9 33),
  (33, o_is 2 34),
  (34, o_ic 0 35),
  (35, o_is 3 36),
  (36, o_il 3 37),
  (37, o_il 1 38),
  (38, o_ic2 (fun x y => y < x) 64 41),
  (41, o_al 0 42),
  (42, o_il 3 43),
  (43, o_vV m_X1_tally 1 18 46),
  (46, o_al 0 47),
  (47, o_il 3 48),
  (48, o_al 0 49),
  (49, o_il 3 50),
  (50, o_il 2 51),
  (51, o_vI m_X1_whoPass 2 18 54),
  (54, o_vI m_X1_whoAdvance 2 18 57),
  (57, o_is 2 58),
  (58, o_in 3 1 61),
  (61, o_go 36),
  (64, o_il 2 65),
  (65, o_ir)]
set_option maxRecDepth 20000 in
theorem sn_X1_advancedOutOf : ∀ q ∈ cd_X1_advancedOutOf, sv_Snd m_X1_advancedOutOf q.1 q.2 := by
  unfold cd_X1_advancedOutOf
  refine List.forall_mem_cons.mpr ⟨s_iconst dX1_advancedOutOf_0 (by decide), ?_⟩
  refine List.forall_mem_cons.mpr ⟨s_istore_n dX1_advancedOutOf_1 rfl (Nat.le_of_ble_eq_true rfl), ?_⟩
  refine List.forall_mem_cons.mpr ⟨s_iload_n dX1_advancedOutOf_2 rfl, ?_⟩
  refine List.forall_mem_cons.mpr ⟨s_aload_n dX1_advancedOutOf_3 rfl, ?_⟩
  refine List.forall_mem_cons.mpr ⟨s_getR (j := 0) cf_X1 (Nat.le_of_ble_eq_true rfl) rfl fl_X1_21 dX1_advancedOutOf_4, ?_⟩
  refine List.forall_mem_cons.mpr ⟨s_getIN cf_X6 (Nat.le_of_ble_eq_true rfl) rfl fl_X1_29 dX1_advancedOutOf_7, ?_⟩
  refine List.forall_mem_cons.mpr ⟨s_icmp_ge dX1_advancedOutOf_10 (by decide), ?_⟩
  refine List.forall_mem_cons.mpr ⟨s_aload_n dX1_advancedOutOf_13 rfl, ?_⟩
  refine List.forall_mem_cons.mpr ⟨s_getR (j := 4) cf_X1 (Nat.le_of_ble_eq_true rfl) rfl fl_X1_18 dX1_advancedOutOf_14, ?_⟩
  refine List.forall_mem_cons.mpr ⟨s_iload_n dX1_advancedOutOf_17 rfl, ?_⟩
  refine List.forall_mem_cons.mpr ⟨s_iconst dX1_advancedOutOf_18 (by decide), ?_⟩
  refine List.forall_mem_cons.mpr ⟨s_iastore dX1_advancedOutOf_19, ?_⟩
  refine List.forall_mem_cons.mpr ⟨s_iinc dX1_advancedOutOf_20 (by decide) (Nat.le_of_ble_eq_true rfl), ?_⟩
  refine List.forall_mem_cons.mpr ⟨s_goto dX1_advancedOutOf_23 (by decide), ?_⟩
  refine List.forall_mem_cons.mpr ⟨s_aload_n dX1_advancedOutOf_26 rfl, ?_⟩
  refine List.forall_mem_cons.mpr ⟨s_getR (j := 0) cf_X1 (Nat.le_of_ble_eq_true rfl) rfl fl_X1_21 dX1_advancedOutOf_27, ?_⟩
  refine List.forall_mem_cons.mpr ⟨s_callVI cf_X6 rfl ca_X6_everyone ml_X1_33 im_X6_everyone se_X6_everyone ⟨(Nat.le_of_ble_eq_true rfl), (Nat.le_of_ble_eq_true rfl)⟩ dX1_advancedOutOf_30, ?_⟩
  refine List.forall_mem_cons.mpr ⟨s_istore_n dX1_advancedOutOf_33 rfl (Nat.le_of_ble_eq_true rfl), ?_⟩
  refine List.forall_mem_cons.mpr ⟨s_iconst dX1_advancedOutOf_34 (by decide), ?_⟩
  refine List.forall_mem_cons.mpr ⟨s_istore_n dX1_advancedOutOf_35 rfl (Nat.le_of_ble_eq_true rfl), ?_⟩
  refine List.forall_mem_cons.mpr ⟨s_iload_n dX1_advancedOutOf_36 rfl, ?_⟩
  refine List.forall_mem_cons.mpr ⟨s_iload_n dX1_advancedOutOf_37 rfl, ?_⟩
  refine List.forall_mem_cons.mpr ⟨s_icmp_gt dX1_advancedOutOf_38 (by decide), ?_⟩
  refine List.forall_mem_cons.mpr ⟨s_aload_n dX1_advancedOutOf_41 rfl, ?_⟩
  refine List.forall_mem_cons.mpr ⟨s_iload_n dX1_advancedOutOf_42 rfl, ?_⟩
  refine List.forall_mem_cons.mpr ⟨s_callVV cf_X1 rfl ca_X1_tally ml_X1_37 im_X1_tally se_X1_tally ⟨(Nat.le_of_ble_eq_true rfl), (Nat.le_of_ble_eq_true rfl)⟩ dX1_advancedOutOf_43, ?_⟩
  refine List.forall_mem_cons.mpr ⟨s_aload_n dX1_advancedOutOf_46 rfl, ?_⟩
  refine List.forall_mem_cons.mpr ⟨s_iload_n dX1_advancedOutOf_47 rfl, ?_⟩
  refine List.forall_mem_cons.mpr ⟨s_aload_n dX1_advancedOutOf_48 rfl, ?_⟩
  refine List.forall_mem_cons.mpr ⟨s_iload_n dX1_advancedOutOf_49 rfl, ?_⟩
  refine List.forall_mem_cons.mpr ⟨s_iload_n dX1_advancedOutOf_50 rfl, ?_⟩
  refine List.forall_mem_cons.mpr ⟨s_callVI cf_X1 rfl ca_X1_whoPass ml_X1_41 im_X1_whoPass se_X1_whoPass ⟨(Nat.le_of_ble_eq_true rfl), (Nat.le_of_ble_eq_true rfl)⟩ dX1_advancedOutOf_51, ?_⟩
  refine List.forall_mem_cons.mpr ⟨s_callVI cf_X1 rfl ca_X1_whoAdvance ml_X1_45 im_X1_whoAdvance se_X1_whoAdvance ⟨(Nat.le_of_ble_eq_true rfl), (Nat.le_of_ble_eq_true rfl)⟩ dX1_advancedOutOf_54, ?_⟩
  refine List.forall_mem_cons.mpr ⟨s_istore_n dX1_advancedOutOf_57 rfl (Nat.le_of_ble_eq_true rfl), ?_⟩
  refine List.forall_mem_cons.mpr ⟨s_iinc dX1_advancedOutOf_58 (by decide) (Nat.le_of_ble_eq_true rfl), ?_⟩
  refine List.forall_mem_cons.mpr ⟨s_goto dX1_advancedOutOf_61 (by decide), ?_⟩
  refine List.forall_mem_cons.mpr ⟨s_iload_n dX1_advancedOutOf_64 rfl, ?_⟩
  refine List.forall_mem_cons.mpr ⟨s_ireturn dX1_advancedOutOf_65 rfl, ?_⟩
  exact fun _ h => absurd h List.not_mem_nil
def cd_X1_tally : sv_Cd := [(0, o_ic 0 1),
  (1, o_is 2 2),
  (2, o_il 2 3),
  (3, o_al 0 4),
  (4, o_gR 18 9 7),
  (7, o_gI 9 4 10),
  (10, o_ic2 (fun x y => y ≤ x) 64 13),
  (13, o_al 0 14),
  (14, o_gR 18 19 17),
  (17, o_il 2 18),
  (18, o_al 0 19),
  (19, o_gR 18 9 22),
  (22, o_il 2 23),
  (23, o_il 1 24),
  (24, o_vI m_X6_countingVotes 2 9 27),
  (27, o_is3 28),
  (28, o_al 0 29),
  (29, o_gR 18 20 32),
  (32, o_il 2 33),
  (33, o_al 0 34),
  (34, o_gR 18 9 37),
  (37, o_il 2 38),
  (38, o_il 1 39),
  (39, o_vI m_X6_yesVotes 2 9 42),
  (42, o_is3 43),
  (43, o_al 0 44),
  (44, o_gR 18 21 47),
  (47, o_il 2 48),
  (48, o_dup2 49),
  (49, o_ia 50),
  (50, o_al 0 51),
  (51, o_gR 18 20 54),
  (54, o_il 2 55),
  (55, o_ia 56),
  (56, o_b (fun x y => x + y) 57),
  (57, o_is3 58),
  (58, o_in 2 1 61),
  (61, o_go 2),
  (64, o_vr)]
set_option maxRecDepth 20000 in
theorem sn_X1_tally : ∀ q ∈ cd_X1_tally, sv_Snd m_X1_tally q.1 q.2 := by
  unfold cd_X1_tally
  refine List.forall_mem_cons.mpr ⟨s_iconst dX1_tally_0 (by decide), ?_⟩
  refine List.forall_mem_cons.mpr ⟨s_istore_n dX1_tally_1 rfl (Nat.le_of_ble_eq_true rfl), ?_⟩
  refine List.forall_mem_cons.mpr ⟨s_iload_n dX1_tally_2 rfl, ?_⟩
  refine List.forall_mem_cons.mpr ⟨s_aload_n dX1_tally_3 rfl, ?_⟩
  refine List.forall_mem_cons.mpr ⟨s_getR (j := 0) cf_X1 (Nat.le_of_ble_eq_true rfl) rfl fl_X1_21 dX1_tally_4, ?_⟩
  refine List.forall_mem_cons.mpr ⟨s_getIN cf_X6 (Nat.le_of_ble_eq_true rfl) rfl fl_X1_29 dX1_tally_7, ?_⟩
  refine List.forall_mem_cons.mpr ⟨s_icmp_ge dX1_tally_10 (by decide), ?_⟩
  refine List.forall_mem_cons.mpr ⟨s_aload_n dX1_tally_13 rfl, ?_⟩
  refine List.forall_mem_cons.mpr ⟨s_getR (j := 2) cf_X1 (Nat.le_of_ble_eq_true rfl) rfl fl_X1_9 dX1_tally_14, ?_⟩
  refine List.forall_mem_cons.mpr ⟨s_iload_n dX1_tally_17 rfl, ?_⟩
  refine List.forall_mem_cons.mpr ⟨s_aload_n dX1_tally_18 rfl, ?_⟩
  refine List.forall_mem_cons.mpr ⟨s_getR (j := 0) cf_X1 (Nat.le_of_ble_eq_true rfl) rfl fl_X1_21 dX1_tally_19, ?_⟩
  refine List.forall_mem_cons.mpr ⟨s_iload_n dX1_tally_22 rfl, ?_⟩
  refine List.forall_mem_cons.mpr ⟨s_iload_n dX1_tally_23 rfl, ?_⟩
  refine List.forall_mem_cons.mpr ⟨s_callVI cf_X6 rfl ca_X6_countingVotes ml_X1_48 im_X6_countingVotes se_X6_countingVotes ⟨(Nat.le_of_ble_eq_true rfl), (Nat.le_of_ble_eq_true rfl)⟩ dX1_tally_24, ?_⟩
  refine List.forall_mem_cons.mpr ⟨s_iastore dX1_tally_27, ?_⟩
  refine List.forall_mem_cons.mpr ⟨s_aload_n dX1_tally_28 rfl, ?_⟩
  refine List.forall_mem_cons.mpr ⟨s_getR (j := 3) cf_X1 (Nat.le_of_ble_eq_true rfl) rfl fl_X1_15 dX1_tally_29, ?_⟩
  refine List.forall_mem_cons.mpr ⟨s_iload_n dX1_tally_32 rfl, ?_⟩
  refine List.forall_mem_cons.mpr ⟨s_aload_n dX1_tally_33 rfl, ?_⟩
  refine List.forall_mem_cons.mpr ⟨s_getR (j := 0) cf_X1 (Nat.le_of_ble_eq_true rfl) rfl fl_X1_21 dX1_tally_34, ?_⟩
  refine List.forall_mem_cons.mpr ⟨s_iload_n dX1_tally_37 rfl, ?_⟩
  refine List.forall_mem_cons.mpr ⟨s_iload_n dX1_tally_38 rfl, ?_⟩
  refine List.forall_mem_cons.mpr ⟨s_callVI cf_X6 rfl ca_X6_yesVotes ml_X1_51 im_X6_yesVotes se_X6_yesVotes ⟨(Nat.le_of_ble_eq_true rfl), (Nat.le_of_ble_eq_true rfl)⟩ dX1_tally_39, ?_⟩
  refine List.forall_mem_cons.mpr ⟨s_iastore dX1_tally_42, ?_⟩
  refine List.forall_mem_cons.mpr ⟨s_aload_n dX1_tally_43 rfl, ?_⟩
  refine List.forall_mem_cons.mpr ⟨s_getR (j := 4) cf_X1 (Nat.le_of_ble_eq_true rfl) rfl fl_X1_18 dX1_tally_44, ?_⟩
  refine List.forall_mem_cons.mpr ⟨s_iload_n dX1_tally_47 rfl, ?_⟩
  refine List.forall_mem_cons.mpr ⟨s_dup2 dX1_tally_48, ?_⟩
  refine List.forall_mem_cons.mpr ⟨s_iaload dX1_tally_49, ?_⟩
  refine List.forall_mem_cons.mpr ⟨s_aload_n dX1_tally_50 rfl, ?_⟩
  refine List.forall_mem_cons.mpr ⟨s_getR (j := 3) cf_X1 (Nat.le_of_ble_eq_true rfl) rfl fl_X1_15 dX1_tally_51, ?_⟩
  refine List.forall_mem_cons.mpr ⟨s_iload_n dX1_tally_54 rfl, ?_⟩
  refine List.forall_mem_cons.mpr ⟨s_iaload dX1_tally_55, ?_⟩
  refine List.forall_mem_cons.mpr ⟨s_iadd dX1_tally_56, ?_⟩
  refine List.forall_mem_cons.mpr ⟨s_iastore dX1_tally_57, ?_⟩
  refine List.forall_mem_cons.mpr ⟨s_iinc dX1_tally_58 (by decide) (Nat.le_of_ble_eq_true rfl), ?_⟩
  refine List.forall_mem_cons.mpr ⟨s_goto dX1_tally_61 (by decide), ?_⟩
  refine List.forall_mem_cons.mpr ⟨s_vreturn dX1_tally_64 rfl, ?_⟩
  exact fun _ h => absurd h List.not_mem_nil
def cd_X1_whoPass : sv_Cd := [(0, o_ic 0 1),
  (1, o_is 3 2),
  (2, o_ic 0 3),
  (3, o_is 4 5),
  (5, o_il 4 7),
  (7, o_al 0 8),
  (8, o_gR 18 9 11),
  (11, o_gI 9 4 14),
  (14, o_ic2 (fun x y => y ≤ x) 91 17),
  (17, o_il 2 18),
  (18, o_il 4 20),
  (20, o_sI m_X1_has 2 23),
  (23, o_if (fun x => x = 0) 40 26),
  (26, o_al 0 27),
  (27, o_gR 18 19 30),
  (30, o_il 4 32),
  (32, o_ia 33),
  (33, o_if (fun x => x ≤ 0) 40 36),
  (36, o_ic 1 37),
  (37, o_go 41),
  (40, o_ic 0 41),
  (41, o_is 5 43),
  (43, o_il 5 45),
  (45, o_if (fun x => x = 0) 85 48),
  (48, o_ic 100 50),
  (50, o_al 0 51),
  (51, o_gR 18 20 54),
  (54, o_il 4 56),
  (56, o_ia 57),
  (57, o_b (fun x y => x * y) 58),
  (58, o_al 0 59),
  (59, o_gR 18 13 62),
  (62, o_gR 13 15 65),
  (65, o_il 1 66),
  (66, o_ia 67),
  (67, o_al 0 68),
  (68, o_gR 18 19 71),
  (71, o_il 4 73),
  (73, o_ia 74),
  (74, o_b (fun x y => x * y) 75),
  (75, o_ic2 (fun x y => x < y) 85 78),
  (78, o_il 3 79),
  (79, o_ic 1 80),
  (80, o_il 4 82),
  (82, o_b (fun x y => x <<< (y &&& 31)) 83),
  (83, o_b (fun x y => x ||| y) 84),
  (84, o_is 3 85),
  (85, o_in 4 1 88),
  (88, o_go 5),
  (91, o_il 3 92),
  (92, o_ir)]
set_option maxRecDepth 20000 in
theorem sn_X1_whoPass : ∀ q ∈ cd_X1_whoPass, sv_Snd m_X1_whoPass q.1 q.2 := by
  unfold cd_X1_whoPass
  refine List.forall_mem_cons.mpr ⟨s_iconst dX1_whoPass_0 (by decide), ?_⟩
  refine List.forall_mem_cons.mpr ⟨s_istore_n dX1_whoPass_1 rfl (Nat.le_of_ble_eq_true rfl), ?_⟩
  refine List.forall_mem_cons.mpr ⟨s_iconst dX1_whoPass_2 (by decide), ?_⟩
  refine List.forall_mem_cons.mpr ⟨s_istore dX1_whoPass_3 (Nat.le_of_ble_eq_true rfl), ?_⟩
  refine List.forall_mem_cons.mpr ⟨s_iload dX1_whoPass_5, ?_⟩
  refine List.forall_mem_cons.mpr ⟨s_aload_n dX1_whoPass_7 rfl, ?_⟩
  refine List.forall_mem_cons.mpr ⟨s_getR (j := 0) cf_X1 (Nat.le_of_ble_eq_true rfl) rfl fl_X1_21 dX1_whoPass_8, ?_⟩
  refine List.forall_mem_cons.mpr ⟨s_getIN cf_X6 (Nat.le_of_ble_eq_true rfl) rfl fl_X1_29 dX1_whoPass_11, ?_⟩
  refine List.forall_mem_cons.mpr ⟨s_icmp_ge dX1_whoPass_14 (by decide), ?_⟩
  refine List.forall_mem_cons.mpr ⟨s_iload_n dX1_whoPass_17 rfl, ?_⟩
  refine List.forall_mem_cons.mpr ⟨s_iload dX1_whoPass_18, ?_⟩
  refine List.forall_mem_cons.mpr ⟨s_callSI ca_X1_has ml_X1_54 st_X1_has ⟨(Nat.le_of_ble_eq_true rfl), (Nat.le_of_ble_eq_true rfl)⟩ dX1_whoPass_20, ?_⟩
  refine List.forall_mem_cons.mpr ⟨s_if_eq dX1_whoPass_23 (by decide), ?_⟩
  refine List.forall_mem_cons.mpr ⟨s_aload_n dX1_whoPass_26 rfl, ?_⟩
  refine List.forall_mem_cons.mpr ⟨s_getR (j := 2) cf_X1 (Nat.le_of_ble_eq_true rfl) rfl fl_X1_9 dX1_whoPass_27, ?_⟩
  refine List.forall_mem_cons.mpr ⟨s_iload dX1_whoPass_30, ?_⟩
  refine List.forall_mem_cons.mpr ⟨s_iaload dX1_whoPass_32, ?_⟩
  refine List.forall_mem_cons.mpr ⟨s_if_le dX1_whoPass_33 (by decide), ?_⟩
  refine List.forall_mem_cons.mpr ⟨s_iconst dX1_whoPass_36 (by decide), ?_⟩
  refine List.forall_mem_cons.mpr ⟨s_goto dX1_whoPass_37 (by decide), ?_⟩
  refine List.forall_mem_cons.mpr ⟨s_iconst dX1_whoPass_40 (by decide), ?_⟩
  refine List.forall_mem_cons.mpr ⟨s_istore dX1_whoPass_41 (Nat.le_of_ble_eq_true rfl), ?_⟩
  refine List.forall_mem_cons.mpr ⟨s_iload dX1_whoPass_43, ?_⟩
  refine List.forall_mem_cons.mpr ⟨s_if_eq dX1_whoPass_45 (by decide), ?_⟩
  refine List.forall_mem_cons.mpr ⟨s_bipush dX1_whoPass_48 (by decide), ?_⟩
  refine List.forall_mem_cons.mpr ⟨s_aload_n dX1_whoPass_50 rfl, ?_⟩
  refine List.forall_mem_cons.mpr ⟨s_getR (j := 3) cf_X1 (Nat.le_of_ble_eq_true rfl) rfl fl_X1_15 dX1_whoPass_51, ?_⟩
  refine List.forall_mem_cons.mpr ⟨s_iload dX1_whoPass_54, ?_⟩
  refine List.forall_mem_cons.mpr ⟨s_iaload dX1_whoPass_56, ?_⟩
  refine List.forall_mem_cons.mpr ⟨s_imul dX1_whoPass_57, ?_⟩
  refine List.forall_mem_cons.mpr ⟨s_aload_n dX1_whoPass_58 rfl, ?_⟩
  refine List.forall_mem_cons.mpr ⟨s_getR (j := 1) cf_X1 (Nat.le_of_ble_eq_true rfl) rfl fl_X1_25 dX1_whoPass_59, ?_⟩
  refine List.forall_mem_cons.mpr ⟨s_getRN (j := 1) cf_X0 (Nat.le_of_ble_eq_true rfl) rfl fl_X1_58 dX1_whoPass_62, ?_⟩
  refine List.forall_mem_cons.mpr ⟨s_iload_n dX1_whoPass_65 rfl, ?_⟩
  refine List.forall_mem_cons.mpr ⟨s_iaload dX1_whoPass_66, ?_⟩
  refine List.forall_mem_cons.mpr ⟨s_aload_n dX1_whoPass_67 rfl, ?_⟩
  refine List.forall_mem_cons.mpr ⟨s_getR (j := 2) cf_X1 (Nat.le_of_ble_eq_true rfl) rfl fl_X1_9 dX1_whoPass_68, ?_⟩
  refine List.forall_mem_cons.mpr ⟨s_iload dX1_whoPass_71, ?_⟩
  refine List.forall_mem_cons.mpr ⟨s_iaload dX1_whoPass_73, ?_⟩
  refine List.forall_mem_cons.mpr ⟨s_imul dX1_whoPass_74, ?_⟩
  refine List.forall_mem_cons.mpr ⟨s_icmp_lt dX1_whoPass_75 (by decide), ?_⟩
  refine List.forall_mem_cons.mpr ⟨s_iload_n dX1_whoPass_78 rfl, ?_⟩
  refine List.forall_mem_cons.mpr ⟨s_iconst dX1_whoPass_79 (by decide), ?_⟩
  refine List.forall_mem_cons.mpr ⟨s_iload dX1_whoPass_80, ?_⟩
  refine List.forall_mem_cons.mpr ⟨s_ishl dX1_whoPass_82, ?_⟩
  refine List.forall_mem_cons.mpr ⟨s_ior dX1_whoPass_83, ?_⟩
  refine List.forall_mem_cons.mpr ⟨s_istore_n dX1_whoPass_84 rfl (Nat.le_of_ble_eq_true rfl), ?_⟩
  refine List.forall_mem_cons.mpr ⟨s_iinc dX1_whoPass_85 (by decide) (Nat.le_of_ble_eq_true rfl), ?_⟩
  refine List.forall_mem_cons.mpr ⟨s_goto dX1_whoPass_88 (by decide), ?_⟩
  refine List.forall_mem_cons.mpr ⟨s_iload_n dX1_whoPass_91 rfl, ?_⟩
  refine List.forall_mem_cons.mpr ⟨s_ireturn dX1_whoPass_92 rfl, ?_⟩
  exact fun _ h => absurd h List.not_mem_nil
def cd_X1_whoAdvance : sv_Cd := [(0, o_ic 0 1),
  (1, o_is 3 2),
  (2, o_ic 0 3),
  (3, o_is 4 5),
  (5, o_ic 0 6),
  (6, o_is 5 8),
  (8, o_ic 0 9),
  (9, o_is 6 11),
  (11, o_il 6 13),
  (13, o_al 0 14),
  (14, o_gR 18 9 17),
  (17, o_gI 9 4 20),
  (20, o_ic2 (fun x y => y ≤ x) 121 23),
  (23, o_il 2 24),
  (24, o_il 6 26),
  (26, o_sI m_X1_has 2 29),
  (29, o_if (fun x => x = 0) 32 35),
  (32, o_go 115),
  (35, o_al 0 36),
  (36, o_il 2 37),
  (37, o_il 6 39),
  (39, o_ic 1 40),
  (40, o_vI m_X1_withShare 3 18 43),
  (43, o_is 7 45),
  (45, o_il 7 47),
  (47, o_al 0 48),
  (48, o_il 2 49),
  (49, o_il 6 51),
  (51, o_ic 0 52),
  (52, o_vI m_X1_withShare 3 18 55),
  (55, o_b (fun x y => x + y) 56),
  (56, o_al 0 57),
  (57, o_gR 18 13 60),
  (60, o_gR 13 16 63),
  (63, o_il 1 64),
  (64, o_ia 65),
  (65, o_ic2 (fun x y => y < x) 78 68),
  (68, o_il 3 69),
  (69, o_ic 1 70),
  (70, o_il 6 72),
  (72, o_b (fun x y => x <<< (y &&& 31)) 73),
  (73, o_b (fun x y => x ||| y) 74),
  (74, o_is 3 75),
  (75, o_go 115),
  (78, o_il 7 80),
  (80, o_al 0 81),
  (81, o_gR 18 13 84),
  (84, o_gR 13 16 87),
  (87, o_il 1 88),
  (88, o_ia 89),
  (89, o_ic2 (fun x y => y ≤ x) 115 92),
  (92, o_il 4 94),
  (94, o_ic 1 95),
  (95, o_il 6 97),
  (97, o_b (fun x y => x <<< (y &&& 31)) 98),
  (98, o_b (fun x y => x ||| y) 99),
  (99, o_is 4 101),
  (101, o_al 0 102),
  (102, o_gR 18 13 105),
  (105, o_gR 13 16 108),
  (108, o_il 1 109),
  (109, o_ia 110),
  (110, o_il 7 112),
  (112, o_b (fun x y => x - y) 113),
  (113, o_is 5 115),
  (115, o_in 6 1 118),
  (118, o_go 11),
  (121, o_il 3 122),
  (122, o_al 0 123),
  (123, o_al 0 124),
  (124, o_gR 18 13 127),
  (127, o_gR 13 17 130),
  (130, o_il 1 131),
  (131, o_ia 132),
  (132, o_il 4 134),
  (134, o_il 5 136),
  (136, o_vI m_X1_outOfTie 3 18 139),
  (139, o_b (fun x y => x ||| y) 140),
  (140, o_ir)]
set_option maxRecDepth 20000 in
theorem sn_X1_whoAdvance : ∀ q ∈ cd_X1_whoAdvance, sv_Snd m_X1_whoAdvance q.1 q.2 := by
  unfold cd_X1_whoAdvance
  refine List.forall_mem_cons.mpr ⟨s_iconst dX1_whoAdvance_0 (by decide), ?_⟩
  refine List.forall_mem_cons.mpr ⟨s_istore_n dX1_whoAdvance_1 rfl (Nat.le_of_ble_eq_true rfl), ?_⟩
  refine List.forall_mem_cons.mpr ⟨s_iconst dX1_whoAdvance_2 (by decide), ?_⟩
  refine List.forall_mem_cons.mpr ⟨s_istore dX1_whoAdvance_3 (Nat.le_of_ble_eq_true rfl), ?_⟩
  refine List.forall_mem_cons.mpr ⟨s_iconst dX1_whoAdvance_5 (by decide), ?_⟩
  refine List.forall_mem_cons.mpr ⟨s_istore dX1_whoAdvance_6 (Nat.le_of_ble_eq_true rfl), ?_⟩
  refine List.forall_mem_cons.mpr ⟨s_iconst dX1_whoAdvance_8 (by decide), ?_⟩
  refine List.forall_mem_cons.mpr ⟨s_istore dX1_whoAdvance_9 (Nat.le_of_ble_eq_true rfl), ?_⟩
  refine List.forall_mem_cons.mpr ⟨s_iload dX1_whoAdvance_11, ?_⟩
  refine List.forall_mem_cons.mpr ⟨s_aload_n dX1_whoAdvance_13 rfl, ?_⟩
  refine List.forall_mem_cons.mpr ⟨s_getR (j := 0) cf_X1 (Nat.le_of_ble_eq_true rfl) rfl fl_X1_21 dX1_whoAdvance_14, ?_⟩
  refine List.forall_mem_cons.mpr ⟨s_getIN cf_X6 (Nat.le_of_ble_eq_true rfl) rfl fl_X1_29 dX1_whoAdvance_17, ?_⟩
  refine List.forall_mem_cons.mpr ⟨s_icmp_ge dX1_whoAdvance_20 (by decide), ?_⟩
  refine List.forall_mem_cons.mpr ⟨s_iload_n dX1_whoAdvance_23 rfl, ?_⟩
  refine List.forall_mem_cons.mpr ⟨s_iload dX1_whoAdvance_24, ?_⟩
  refine List.forall_mem_cons.mpr ⟨s_callSI ca_X1_has ml_X1_54 st_X1_has ⟨(Nat.le_of_ble_eq_true rfl), (Nat.le_of_ble_eq_true rfl)⟩ dX1_whoAdvance_26, ?_⟩
  refine List.forall_mem_cons.mpr ⟨s_if_ne dX1_whoAdvance_29 (by decide), ?_⟩
  refine List.forall_mem_cons.mpr ⟨s_goto dX1_whoAdvance_32 (by decide), ?_⟩
  refine List.forall_mem_cons.mpr ⟨s_aload_n dX1_whoAdvance_35 rfl, ?_⟩
  refine List.forall_mem_cons.mpr ⟨s_iload_n dX1_whoAdvance_36 rfl, ?_⟩
  refine List.forall_mem_cons.mpr ⟨s_iload dX1_whoAdvance_37, ?_⟩
  refine List.forall_mem_cons.mpr ⟨s_iconst dX1_whoAdvance_39 (by decide), ?_⟩
  refine List.forall_mem_cons.mpr ⟨s_callVI cf_X1 rfl ca_X1_withShare ml_X1_63 im_X1_withShare se_X1_withShare ⟨(Nat.le_of_ble_eq_true rfl), (Nat.le_of_ble_eq_true rfl)⟩ dX1_whoAdvance_40, ?_⟩
  refine List.forall_mem_cons.mpr ⟨s_istore dX1_whoAdvance_43 (Nat.le_of_ble_eq_true rfl), ?_⟩
  refine List.forall_mem_cons.mpr ⟨s_iload dX1_whoAdvance_45, ?_⟩
  refine List.forall_mem_cons.mpr ⟨s_aload_n dX1_whoAdvance_47 rfl, ?_⟩
  refine List.forall_mem_cons.mpr ⟨s_iload_n dX1_whoAdvance_48 rfl, ?_⟩
  refine List.forall_mem_cons.mpr ⟨s_iload dX1_whoAdvance_49, ?_⟩
  refine List.forall_mem_cons.mpr ⟨s_iconst dX1_whoAdvance_51 (by decide), ?_⟩
  refine List.forall_mem_cons.mpr ⟨s_callVI cf_X1 rfl ca_X1_withShare ml_X1_63 im_X1_withShare se_X1_withShare ⟨(Nat.le_of_ble_eq_true rfl), (Nat.le_of_ble_eq_true rfl)⟩ dX1_whoAdvance_52, ?_⟩
  refine List.forall_mem_cons.mpr ⟨s_iadd dX1_whoAdvance_55, ?_⟩
  refine List.forall_mem_cons.mpr ⟨s_aload_n dX1_whoAdvance_56 rfl, ?_⟩
  refine List.forall_mem_cons.mpr ⟨s_getR (j := 1) cf_X1 (Nat.le_of_ble_eq_true rfl) rfl fl_X1_25 dX1_whoAdvance_57, ?_⟩
  refine List.forall_mem_cons.mpr ⟨s_getRN (j := 2) cf_X0 (Nat.le_of_ble_eq_true rfl) rfl fl_X1_67 dX1_whoAdvance_60, ?_⟩
  refine List.forall_mem_cons.mpr ⟨s_iload_n dX1_whoAdvance_63 rfl, ?_⟩
  refine List.forall_mem_cons.mpr ⟨s_iaload dX1_whoAdvance_64, ?_⟩
  refine List.forall_mem_cons.mpr ⟨s_icmp_gt dX1_whoAdvance_65 (by decide), ?_⟩
  refine List.forall_mem_cons.mpr ⟨s_iload_n dX1_whoAdvance_68 rfl, ?_⟩
  refine List.forall_mem_cons.mpr ⟨s_iconst dX1_whoAdvance_69 (by decide), ?_⟩
  refine List.forall_mem_cons.mpr ⟨s_iload dX1_whoAdvance_70, ?_⟩
  refine List.forall_mem_cons.mpr ⟨s_ishl dX1_whoAdvance_72, ?_⟩
  refine List.forall_mem_cons.mpr ⟨s_ior dX1_whoAdvance_73, ?_⟩
  refine List.forall_mem_cons.mpr ⟨s_istore_n dX1_whoAdvance_74 rfl (Nat.le_of_ble_eq_true rfl), ?_⟩
  refine List.forall_mem_cons.mpr ⟨s_goto dX1_whoAdvance_75 (by decide), ?_⟩
  refine List.forall_mem_cons.mpr ⟨s_iload dX1_whoAdvance_78, ?_⟩
  refine List.forall_mem_cons.mpr ⟨s_aload_n dX1_whoAdvance_80 rfl, ?_⟩
  refine List.forall_mem_cons.mpr ⟨s_getR (j := 1) cf_X1 (Nat.le_of_ble_eq_true rfl) rfl fl_X1_25 dX1_whoAdvance_81, ?_⟩
  refine List.forall_mem_cons.mpr ⟨s_getRN (j := 2) cf_X0 (Nat.le_of_ble_eq_true rfl) rfl fl_X1_67 dX1_whoAdvance_84, ?_⟩
  refine List.forall_mem_cons.mpr ⟨s_iload_n dX1_whoAdvance_87 rfl, ?_⟩
  refine List.forall_mem_cons.mpr ⟨s_iaload dX1_whoAdvance_88, ?_⟩
  refine List.forall_mem_cons.mpr ⟨s_icmp_ge dX1_whoAdvance_89 (by decide), ?_⟩
  refine List.forall_mem_cons.mpr ⟨s_iload dX1_whoAdvance_92, ?_⟩
  refine List.forall_mem_cons.mpr ⟨s_iconst dX1_whoAdvance_94 (by decide), ?_⟩
  refine List.forall_mem_cons.mpr ⟨s_iload dX1_whoAdvance_95, ?_⟩
  refine List.forall_mem_cons.mpr ⟨s_ishl dX1_whoAdvance_97, ?_⟩
  refine List.forall_mem_cons.mpr ⟨s_ior dX1_whoAdvance_98, ?_⟩
  refine List.forall_mem_cons.mpr ⟨s_istore dX1_whoAdvance_99 (Nat.le_of_ble_eq_true rfl), ?_⟩
  refine List.forall_mem_cons.mpr ⟨s_aload_n dX1_whoAdvance_101 rfl, ?_⟩
  refine List.forall_mem_cons.mpr ⟨s_getR (j := 1) cf_X1 (Nat.le_of_ble_eq_true rfl) rfl fl_X1_25 dX1_whoAdvance_102, ?_⟩
  refine List.forall_mem_cons.mpr ⟨s_getRN (j := 2) cf_X0 (Nat.le_of_ble_eq_true rfl) rfl fl_X1_67 dX1_whoAdvance_105, ?_⟩
  refine List.forall_mem_cons.mpr ⟨s_iload_n dX1_whoAdvance_108 rfl, ?_⟩
  refine List.forall_mem_cons.mpr ⟨s_iaload dX1_whoAdvance_109, ?_⟩
  refine List.forall_mem_cons.mpr ⟨s_iload dX1_whoAdvance_110, ?_⟩
  refine List.forall_mem_cons.mpr ⟨s_isub dX1_whoAdvance_112, ?_⟩
  refine List.forall_mem_cons.mpr ⟨s_istore dX1_whoAdvance_113 (Nat.le_of_ble_eq_true rfl), ?_⟩
  refine List.forall_mem_cons.mpr ⟨s_iinc dX1_whoAdvance_115 (by decide) (Nat.le_of_ble_eq_true rfl), ?_⟩
  refine List.forall_mem_cons.mpr ⟨s_goto dX1_whoAdvance_118 (by decide), ?_⟩
  refine List.forall_mem_cons.mpr ⟨s_iload_n dX1_whoAdvance_121 rfl, ?_⟩
  refine List.forall_mem_cons.mpr ⟨s_aload_n dX1_whoAdvance_122 rfl, ?_⟩
  refine List.forall_mem_cons.mpr ⟨s_aload_n dX1_whoAdvance_123 rfl, ?_⟩
  refine List.forall_mem_cons.mpr ⟨s_getR (j := 1) cf_X1 (Nat.le_of_ble_eq_true rfl) rfl fl_X1_25 dX1_whoAdvance_124, ?_⟩
  refine List.forall_mem_cons.mpr ⟨s_getRN (j := 3) cf_X0 (Nat.le_of_ble_eq_true rfl) rfl fl_X1_70 dX1_whoAdvance_127, ?_⟩
  refine List.forall_mem_cons.mpr ⟨s_iload_n dX1_whoAdvance_130 rfl, ?_⟩
  refine List.forall_mem_cons.mpr ⟨s_iaload dX1_whoAdvance_131, ?_⟩
  refine List.forall_mem_cons.mpr ⟨s_iload dX1_whoAdvance_132, ?_⟩
  refine List.forall_mem_cons.mpr ⟨s_iload dX1_whoAdvance_134, ?_⟩
  refine List.forall_mem_cons.mpr ⟨s_callVI cf_X1 rfl ca_X1_outOfTie ml_X1_73 im_X1_outOfTie se_X1_outOfTie ⟨(Nat.le_of_ble_eq_true rfl), (Nat.le_of_ble_eq_true rfl)⟩ dX1_whoAdvance_136, ?_⟩
  refine List.forall_mem_cons.mpr ⟨s_ior dX1_whoAdvance_139, ?_⟩
  refine List.forall_mem_cons.mpr ⟨s_ireturn dX1_whoAdvance_140 rfl, ?_⟩
  exact fun _ h => absurd h List.not_mem_nil
def cd_X1_withShare : sv_Cd := [(0, o_ic 0 1),
  (1, o_is 4 3),
  (3, o_ic 0 4),
  (4, o_is 5 6),
  (6, o_il 5 8),
  (8, o_al 0 9),
  (9, o_gR 18 9 12),
  (12, o_gI 9 4 15),
  (15, o_ic2 (fun x y => y ≤ x) 47 18),
  (18, o_il 1 19),
  (19, o_il 5 21),
  (21, o_sI m_X1_has 2 24),
  (24, o_if (fun x => x = 0) 41 27),
  (27, o_al 0 28),
  (28, o_il 5 30),
  (30, o_il 2 31),
  (31, o_vI m_X1_compareShares 2 18 34),
  (34, o_il 3 35),
  (35, o_ic2 (fun x y => x = y) 38 41),
  (38, o_in 4 1 41),
  (41, o_in 5 1 44),
  (44, o_go 6),
  (47, o_il 4 49),
  (49, o_ir)]
set_option maxRecDepth 20000 in
theorem sn_X1_withShare : ∀ q ∈ cd_X1_withShare, sv_Snd m_X1_withShare q.1 q.2 := by
  unfold cd_X1_withShare
  refine List.forall_mem_cons.mpr ⟨s_iconst dX1_withShare_0 (by decide), ?_⟩
  refine List.forall_mem_cons.mpr ⟨s_istore dX1_withShare_1 (Nat.le_of_ble_eq_true rfl), ?_⟩
  refine List.forall_mem_cons.mpr ⟨s_iconst dX1_withShare_3 (by decide), ?_⟩
  refine List.forall_mem_cons.mpr ⟨s_istore dX1_withShare_4 (Nat.le_of_ble_eq_true rfl), ?_⟩
  refine List.forall_mem_cons.mpr ⟨s_iload dX1_withShare_6, ?_⟩
  refine List.forall_mem_cons.mpr ⟨s_aload_n dX1_withShare_8 rfl, ?_⟩
  refine List.forall_mem_cons.mpr ⟨s_getR (j := 0) cf_X1 (Nat.le_of_ble_eq_true rfl) rfl fl_X1_21 dX1_withShare_9, ?_⟩
  refine List.forall_mem_cons.mpr ⟨s_getIN cf_X6 (Nat.le_of_ble_eq_true rfl) rfl fl_X1_29 dX1_withShare_12, ?_⟩
  refine List.forall_mem_cons.mpr ⟨s_icmp_ge dX1_withShare_15 (by decide), ?_⟩
  refine List.forall_mem_cons.mpr ⟨s_iload_n dX1_withShare_18 rfl, ?_⟩
  refine List.forall_mem_cons.mpr ⟨s_iload dX1_withShare_19, ?_⟩
  refine List.forall_mem_cons.mpr ⟨s_callSI ca_X1_has ml_X1_54 st_X1_has ⟨(Nat.le_of_ble_eq_true rfl), (Nat.le_of_ble_eq_true rfl)⟩ dX1_withShare_21, ?_⟩
  refine List.forall_mem_cons.mpr ⟨s_if_eq dX1_withShare_24 (by decide), ?_⟩
  refine List.forall_mem_cons.mpr ⟨s_aload_n dX1_withShare_27 rfl, ?_⟩
  refine List.forall_mem_cons.mpr ⟨s_iload dX1_withShare_28, ?_⟩
  refine List.forall_mem_cons.mpr ⟨s_iload_n dX1_withShare_30 rfl, ?_⟩
  refine List.forall_mem_cons.mpr ⟨s_callVI cf_X1 rfl ca_X1_compareShares ml_X1_76 im_X1_compareShares se_X1_compareShares ⟨(Nat.le_of_ble_eq_true rfl), (Nat.le_of_ble_eq_true rfl)⟩ dX1_withShare_31, ?_⟩
  refine List.forall_mem_cons.mpr ⟨s_iload_n dX1_withShare_34 rfl, ?_⟩
  refine List.forall_mem_cons.mpr ⟨s_icmp_ne dX1_withShare_35 (by decide), ?_⟩
  refine List.forall_mem_cons.mpr ⟨s_iinc dX1_withShare_38 (by decide) (Nat.le_of_ble_eq_true rfl), ?_⟩
  refine List.forall_mem_cons.mpr ⟨s_iinc dX1_withShare_41 (by decide) (Nat.le_of_ble_eq_true rfl), ?_⟩
  refine List.forall_mem_cons.mpr ⟨s_goto dX1_withShare_44 (by decide), ?_⟩
  refine List.forall_mem_cons.mpr ⟨s_iload dX1_withShare_47, ?_⟩
  refine List.forall_mem_cons.mpr ⟨s_ireturn dX1_withShare_49 rfl, ?_⟩
  exact fun _ h => absurd h List.not_mem_nil
def cd_X1_compareShares : sv_Cd := [(0, o_al 0 1),
  (1, o_gR 18 20 4),
  (4, o_il 1 5),
  (5, o_ia 6),
  (6, o_al 0 7),
  (7, o_gR 18 19 10),
  (10, o_il 2 11),
  (11, o_ia 12),
  (12, o_b (fun x y => x * y) 13),
  (13, o_al 0 14),
  (14, o_gR 18 20 17),
  (17, o_il 2 18),
  (18, o_ia 19),
  (19, o_al 0 20),
  (20, o_gR 18 19 23),
  (23, o_il 1 24),
  (24, o_ia 25),
  (25, o_b (fun x y => x * y) 26),
  (26, o_sI m_J6_compare_7cf53 2 29),
  (29, o_ir)]
set_option maxRecDepth 20000 in
theorem sn_X1_compareShares : ∀ q ∈ cd_X1_compareShares, sv_Snd m_X1_compareShares q.1 q.2 := by
  unfold cd_X1_compareShares
  refine List.forall_mem_cons.mpr ⟨s_aload_n dX1_compareShares_0 rfl, ?_⟩
  refine List.forall_mem_cons.mpr ⟨s_getR (j := 3) cf_X1 (Nat.le_of_ble_eq_true rfl) rfl fl_X1_15 dX1_compareShares_1, ?_⟩
  refine List.forall_mem_cons.mpr ⟨s_iload_n dX1_compareShares_4 rfl, ?_⟩
  refine List.forall_mem_cons.mpr ⟨s_iaload dX1_compareShares_5, ?_⟩
  refine List.forall_mem_cons.mpr ⟨s_aload_n dX1_compareShares_6 rfl, ?_⟩
  refine List.forall_mem_cons.mpr ⟨s_getR (j := 2) cf_X1 (Nat.le_of_ble_eq_true rfl) rfl fl_X1_9 dX1_compareShares_7, ?_⟩
  refine List.forall_mem_cons.mpr ⟨s_iload_n dX1_compareShares_10 rfl, ?_⟩
  refine List.forall_mem_cons.mpr ⟨s_iaload dX1_compareShares_11, ?_⟩
  refine List.forall_mem_cons.mpr ⟨s_imul dX1_compareShares_12, ?_⟩
  refine List.forall_mem_cons.mpr ⟨s_aload_n dX1_compareShares_13 rfl, ?_⟩
  refine List.forall_mem_cons.mpr ⟨s_getR (j := 3) cf_X1 (Nat.le_of_ble_eq_true rfl) rfl fl_X1_15 dX1_compareShares_14, ?_⟩
  refine List.forall_mem_cons.mpr ⟨s_iload_n dX1_compareShares_17 rfl, ?_⟩
  refine List.forall_mem_cons.mpr ⟨s_iaload dX1_compareShares_18, ?_⟩
  refine List.forall_mem_cons.mpr ⟨s_aload_n dX1_compareShares_19 rfl, ?_⟩
  refine List.forall_mem_cons.mpr ⟨s_getR (j := 2) cf_X1 (Nat.le_of_ble_eq_true rfl) rfl fl_X1_9 dX1_compareShares_20, ?_⟩
  refine List.forall_mem_cons.mpr ⟨s_iload_n dX1_compareShares_23 rfl, ?_⟩
  refine List.forall_mem_cons.mpr ⟨s_iaload dX1_compareShares_24, ?_⟩
  refine List.forall_mem_cons.mpr ⟨s_imul dX1_compareShares_25, ?_⟩
  refine List.forall_mem_cons.mpr ⟨s_callSI ca_J6_compare_7cf53 ml_X1_79 st_J6_compare_7cf53 ⟨(Nat.le_of_ble_eq_true rfl), (Nat.le_of_ble_eq_true rfl)⟩ dX1_compareShares_26, ?_⟩
  refine List.forall_mem_cons.mpr ⟨s_ireturn dX1_compareShares_29 rfl, ?_⟩
  exact fun _ h => absurd h List.not_mem_nil
def cd_X1_outOfTie : sv_Cd := [(0, o_il 1 1),
  (1, o_sw [(97, 36), (100, 38), (115, 46)] 54),
  (36, o_il 2 37),
  (37, o_ir),
  (38, o_al 0 39),
  (39, o_il 2 40),
  (40, o_il 3 41),
  (41, o_ic 0 42),
  (42, o_vI m_X1_firstOf 3 18 45),
  (45, o_ir),
  (46, o_al 0 47),
  (47, o_il 2 48),
  (48, o_il 3 49),
  (49, o_ic 1 50),
  (50, o_vI m_X1_firstOf 3 18 53),
  (53, o_ir),
  (54, o_ic 0 55),
  (55, o_ir)]
set_option maxRecDepth 20000 in
theorem sn_X1_outOfTie : ∀ q ∈ cd_X1_outOfTie, sv_Snd m_X1_outOfTie q.1 q.2 := by
  unfold cd_X1_outOfTie
  refine List.forall_mem_cons.mpr ⟨s_iload_n dX1_outOfTie_0 rfl, ?_⟩
  refine List.forall_mem_cons.mpr ⟨s_lookup dX1_outOfTie_1 (by decide) (fun x => by
    by_cases h97 : x = 97
    · subst h97; decide
    by_cases h100 : x = 100
    · subst h100; decide
    by_cases h115 : x = 115
    · subst h115; decide
    have e : Op.lookupswitch.offset [(97, 35), (100, 37), (115, 45)] 53 x.toInt = 53 := (lv_osw h97 (by decide)).trans ((lv_osw h100 (by decide)).trans ((lv_osw h115 (by decide)).trans (rfl)))
    have e2 : sv_tgt [(97, 36), (100, 38), (115, 46)] 54 x = 54 := by simp [sv_tgt, h97, h100, h115]
    show ((1 : Nat) : Int) + Op.lookupswitch.offset [(97, 35), (100, 37), (115, 45)] 53 x.toInt = ((sv_tgt [(97, 36), (100, 38), (115, 46)] 54 x : Nat) : Int)
    rw [e, e2]
    rfl), ?_⟩
  refine List.forall_mem_cons.mpr ⟨s_iload_n dX1_outOfTie_36 rfl, ?_⟩
  refine List.forall_mem_cons.mpr ⟨s_ireturn dX1_outOfTie_37 rfl, ?_⟩
  refine List.forall_mem_cons.mpr ⟨s_aload_n dX1_outOfTie_38 rfl, ?_⟩
  refine List.forall_mem_cons.mpr ⟨s_iload_n dX1_outOfTie_39 rfl, ?_⟩
  refine List.forall_mem_cons.mpr ⟨s_iload_n dX1_outOfTie_40 rfl, ?_⟩
  refine List.forall_mem_cons.mpr ⟨s_iconst dX1_outOfTie_41 (by decide), ?_⟩
  refine List.forall_mem_cons.mpr ⟨s_callVI cf_X1 rfl ca_X1_firstOf ml_X1_84 im_X1_firstOf se_X1_firstOf ⟨(Nat.le_of_ble_eq_true rfl), (Nat.le_of_ble_eq_true rfl)⟩ dX1_outOfTie_42, ?_⟩
  refine List.forall_mem_cons.mpr ⟨s_ireturn dX1_outOfTie_45 rfl, ?_⟩
  refine List.forall_mem_cons.mpr ⟨s_aload_n dX1_outOfTie_46 rfl, ?_⟩
  refine List.forall_mem_cons.mpr ⟨s_iload_n dX1_outOfTie_47 rfl, ?_⟩
  refine List.forall_mem_cons.mpr ⟨s_iload_n dX1_outOfTie_48 rfl, ?_⟩
  refine List.forall_mem_cons.mpr ⟨s_iconst dX1_outOfTie_49 (by decide), ?_⟩
  refine List.forall_mem_cons.mpr ⟨s_callVI cf_X1 rfl ca_X1_firstOf ml_X1_84 im_X1_firstOf se_X1_firstOf ⟨(Nat.le_of_ble_eq_true rfl), (Nat.le_of_ble_eq_true rfl)⟩ dX1_outOfTie_50, ?_⟩
  refine List.forall_mem_cons.mpr ⟨s_ireturn dX1_outOfTie_53 rfl, ?_⟩
  refine List.forall_mem_cons.mpr ⟨s_iconst dX1_outOfTie_54 (by decide), ?_⟩
  refine List.forall_mem_cons.mpr ⟨s_ireturn dX1_outOfTie_55 rfl, ?_⟩
  exact fun _ h => absurd h List.not_mem_nil
def cd_X1_firstOf : sv_Cd := [(0, o_ic 0 1),
  (1, o_is 4 3),
  (3, o_ic 0 4),
  (4, o_is 5 6),
  (6, o_il 5 8),
  (8, o_al 0 9),
  (9, o_gR 18 9 12),
  (12, o_gI 9 4 15),
  (15, o_ic2 (fun x y => y ≤ x) 54 18),
  (18, o_il 1 19),
  (19, o_il 5 21),
  (21, o_sI m_X1_has 2 24),
  (24, o_if (fun x => x = 0) 48 27),
  (27, o_al 0 28),
  (28, o_il 1 29),
  (29, o_il 5 31),
  (31, o_il 3 32),
  (32, o_vI m_X1_ahead 3 18 35),
  (35, o_il 2 36),
  (36, o_ic2 (fun x y => y ≤ x) 48 39),
  (39, o_il 4 41),
  (41, o_ic 1 42),
  (42, o_il 5 44),
  (44, o_b (fun x y => x <<< (y &&& 31)) 45),
  (45, o_b (fun x y => x ||| y) 46),
  (46, o_is 4 48),
  (48, o_in 5 1 51),
  (51, o_go 6),
  (54, o_il 4 56),
  (56, o_ir)]
set_option maxRecDepth 20000 in
theorem sn_X1_firstOf : ∀ q ∈ cd_X1_firstOf, sv_Snd m_X1_firstOf q.1 q.2 := by
  unfold cd_X1_firstOf
  refine List.forall_mem_cons.mpr ⟨s_iconst dX1_firstOf_0 (by decide), ?_⟩
  refine List.forall_mem_cons.mpr ⟨s_istore dX1_firstOf_1 (Nat.le_of_ble_eq_true rfl), ?_⟩
  refine List.forall_mem_cons.mpr ⟨s_iconst dX1_firstOf_3 (by decide), ?_⟩
  refine List.forall_mem_cons.mpr ⟨s_istore dX1_firstOf_4 (Nat.le_of_ble_eq_true rfl), ?_⟩
  refine List.forall_mem_cons.mpr ⟨s_iload dX1_firstOf_6, ?_⟩
  refine List.forall_mem_cons.mpr ⟨s_aload_n dX1_firstOf_8 rfl, ?_⟩
  refine List.forall_mem_cons.mpr ⟨s_getR (j := 0) cf_X1 (Nat.le_of_ble_eq_true rfl) rfl fl_X1_21 dX1_firstOf_9, ?_⟩
  refine List.forall_mem_cons.mpr ⟨s_getIN cf_X6 (Nat.le_of_ble_eq_true rfl) rfl fl_X1_29 dX1_firstOf_12, ?_⟩
  refine List.forall_mem_cons.mpr ⟨s_icmp_ge dX1_firstOf_15 (by decide), ?_⟩
  refine List.forall_mem_cons.mpr ⟨s_iload_n dX1_firstOf_18 rfl, ?_⟩
  refine List.forall_mem_cons.mpr ⟨s_iload dX1_firstOf_19, ?_⟩
  refine List.forall_mem_cons.mpr ⟨s_callSI ca_X1_has ml_X1_54 st_X1_has ⟨(Nat.le_of_ble_eq_true rfl), (Nat.le_of_ble_eq_true rfl)⟩ dX1_firstOf_21, ?_⟩
  refine List.forall_mem_cons.mpr ⟨s_if_eq dX1_firstOf_24 (by decide), ?_⟩
  refine List.forall_mem_cons.mpr ⟨s_aload_n dX1_firstOf_27 rfl, ?_⟩
  refine List.forall_mem_cons.mpr ⟨s_iload_n dX1_firstOf_28 rfl, ?_⟩
  refine List.forall_mem_cons.mpr ⟨s_iload dX1_firstOf_29, ?_⟩
  refine List.forall_mem_cons.mpr ⟨s_iload_n dX1_firstOf_31 rfl, ?_⟩
  refine List.forall_mem_cons.mpr ⟨s_callVI cf_X1 rfl ca_X1_ahead ml_X1_88 im_X1_ahead se_X1_ahead ⟨(Nat.le_of_ble_eq_true rfl), (Nat.le_of_ble_eq_true rfl)⟩ dX1_firstOf_32, ?_⟩
  refine List.forall_mem_cons.mpr ⟨s_iload_n dX1_firstOf_35 rfl, ?_⟩
  refine List.forall_mem_cons.mpr ⟨s_icmp_ge dX1_firstOf_36 (by decide), ?_⟩
  refine List.forall_mem_cons.mpr ⟨s_iload dX1_firstOf_39, ?_⟩
  refine List.forall_mem_cons.mpr ⟨s_iconst dX1_firstOf_41 (by decide), ?_⟩
  refine List.forall_mem_cons.mpr ⟨s_iload dX1_firstOf_42, ?_⟩
  refine List.forall_mem_cons.mpr ⟨s_ishl dX1_firstOf_44, ?_⟩
  refine List.forall_mem_cons.mpr ⟨s_ior dX1_firstOf_45, ?_⟩
  refine List.forall_mem_cons.mpr ⟨s_istore dX1_firstOf_46 (Nat.le_of_ble_eq_true rfl), ?_⟩
  refine List.forall_mem_cons.mpr ⟨s_iinc dX1_firstOf_48 (by decide) (Nat.le_of_ble_eq_true rfl), ?_⟩
  refine List.forall_mem_cons.mpr ⟨s_goto dX1_firstOf_51 (by decide), ?_⟩
  refine List.forall_mem_cons.mpr ⟨s_iload dX1_firstOf_54, ?_⟩
  refine List.forall_mem_cons.mpr ⟨s_ireturn dX1_firstOf_56 rfl, ?_⟩
  exact fun _ h => absurd h List.not_mem_nil
def cd_X1_ahead : sv_Cd := [(0, o_ic 0 1),
  (1, o_is 4 3),
  (3, o_ic 0 4),
  (4, o_is 5 6),
  (6, o_il 5 8),
  (8, o_al 0 9),
  (9, o_gR 18 9 12),
  (12, o_gI 9 4 15),
  (15, o_ic2 (fun x y => y ≤ x) 47 18),
  (18, o_il 1 19),
  (19, o_il 5 21),
  (21, o_sI m_X1_has 2 24),
  (24, o_if (fun x => x = 0) 41 27),
  (27, o_al 0 28),
  (28, o_il 5 30),
  (30, o_il 2 31),
  (31, o_il 3 32),
  (32, o_vI m_X1_isBefore 3 18 35),
  (35, o_if (fun x => x = 0) 41 38),
  (38, o_in 4 1 41),
  (41, o_in 5 1 44),
  (44, o_go 6),
  (47, o_il 4 49),
  (49, o_ir)]
set_option maxRecDepth 20000 in
theorem sn_X1_ahead : ∀ q ∈ cd_X1_ahead, sv_Snd m_X1_ahead q.1 q.2 := by
  unfold cd_X1_ahead
  refine List.forall_mem_cons.mpr ⟨s_iconst dX1_ahead_0 (by decide), ?_⟩
  refine List.forall_mem_cons.mpr ⟨s_istore dX1_ahead_1 (Nat.le_of_ble_eq_true rfl), ?_⟩
  refine List.forall_mem_cons.mpr ⟨s_iconst dX1_ahead_3 (by decide), ?_⟩
  refine List.forall_mem_cons.mpr ⟨s_istore dX1_ahead_4 (Nat.le_of_ble_eq_true rfl), ?_⟩
  refine List.forall_mem_cons.mpr ⟨s_iload dX1_ahead_6, ?_⟩
  refine List.forall_mem_cons.mpr ⟨s_aload_n dX1_ahead_8 rfl, ?_⟩
  refine List.forall_mem_cons.mpr ⟨s_getR (j := 0) cf_X1 (Nat.le_of_ble_eq_true rfl) rfl fl_X1_21 dX1_ahead_9, ?_⟩
  refine List.forall_mem_cons.mpr ⟨s_getIN cf_X6 (Nat.le_of_ble_eq_true rfl) rfl fl_X1_29 dX1_ahead_12, ?_⟩
  refine List.forall_mem_cons.mpr ⟨s_icmp_ge dX1_ahead_15 (by decide), ?_⟩
  refine List.forall_mem_cons.mpr ⟨s_iload_n dX1_ahead_18 rfl, ?_⟩
  refine List.forall_mem_cons.mpr ⟨s_iload dX1_ahead_19, ?_⟩
  refine List.forall_mem_cons.mpr ⟨s_callSI ca_X1_has ml_X1_54 st_X1_has ⟨(Nat.le_of_ble_eq_true rfl), (Nat.le_of_ble_eq_true rfl)⟩ dX1_ahead_21, ?_⟩
  refine List.forall_mem_cons.mpr ⟨s_if_eq dX1_ahead_24 (by decide), ?_⟩
  refine List.forall_mem_cons.mpr ⟨s_aload_n dX1_ahead_27 rfl, ?_⟩
  refine List.forall_mem_cons.mpr ⟨s_iload dX1_ahead_28, ?_⟩
  refine List.forall_mem_cons.mpr ⟨s_iload_n dX1_ahead_30 rfl, ?_⟩
  refine List.forall_mem_cons.mpr ⟨s_iload_n dX1_ahead_31 rfl, ?_⟩
  refine List.forall_mem_cons.mpr ⟨s_callVI cf_X1 rfl ca_X1_isBefore ml_X1_91 im_X1_isBefore se_X1_isBefore ⟨(Nat.le_of_ble_eq_true rfl), (Nat.le_of_ble_eq_true rfl)⟩ dX1_ahead_32, ?_⟩
  refine List.forall_mem_cons.mpr ⟨s_if_eq dX1_ahead_35 (by decide), ?_⟩
  refine List.forall_mem_cons.mpr ⟨s_iinc dX1_ahead_38 (by decide) (Nat.le_of_ble_eq_true rfl), ?_⟩
  refine List.forall_mem_cons.mpr ⟨s_iinc dX1_ahead_41 (by decide) (Nat.le_of_ble_eq_true rfl), ?_⟩
  refine List.forall_mem_cons.mpr ⟨s_goto dX1_ahead_44 (by decide), ?_⟩
  refine List.forall_mem_cons.mpr ⟨s_iload dX1_ahead_47, ?_⟩
  refine List.forall_mem_cons.mpr ⟨s_ireturn dX1_ahead_49 rfl, ?_⟩
  exact fun _ h => absurd h List.not_mem_nil
def cd_X1_isBefore : sv_Cd := [(0, o_il 3 1),
  (1, o_if (fun x => x = 0) 40 4),
  (4, o_al 0 5),
  (5, o_gR 18 21 8),
  (8, o_il 1 9),
  (9, o_ia 10),
  (10, o_al 0 11),
  (11, o_gR 18 21 14),
  (14, o_il 2 15),
  (15, o_ia 16),
  (16, o_ic2 (fun x y => x = y) 40 19),
  (19, o_al 0 20),
  (20, o_gR 18 21 23),
  (23, o_il 1 24),
  (24, o_ia 25),
  (25, o_al 0 26),
  (26, o_gR 18 21 29),
  (29, o_il 2 30),
  (30, o_ia 31),
  (31, o_ic2 (fun x y => x ≤ y) 38 34),
  (34, o_ic 1 35),
  (35, o_go 39),
  (38, o_ic 0 39),
  (39, o_zr),
  (40, o_al 0 41),
  (41, o_gR 18 9 44),
  (44, o_gR 9 12 47),
  (47, o_il 1 48),
  (48, o_ia 49),
  (49, o_al 0 50),
  (50, o_gR 18 9 53),
  (53, o_gR 9 12 56),
  (56, o_il 2 57),
  (57, o_ia 58),
  (58, o_ic2 (fun x y => y ≤ x) 65 61),
  (61, o_ic 1 62),
  (62, o_go 66),
  (65, o_ic 0 66),
  (66, o_zr)]
set_option maxRecDepth 20000 in
theorem sn_X1_isBefore : ∀ q ∈ cd_X1_isBefore, sv_Snd m_X1_isBefore q.1 q.2 := by
  unfold cd_X1_isBefore
  refine List.forall_mem_cons.mpr ⟨s_iload_n dX1_isBefore_0 rfl, ?_⟩
  refine List.forall_mem_cons.mpr ⟨s_if_eq dX1_isBefore_1 (by decide), ?_⟩
  refine List.forall_mem_cons.mpr ⟨s_aload_n dX1_isBefore_4 rfl, ?_⟩
  refine List.forall_mem_cons.mpr ⟨s_getR (j := 4) cf_X1 (Nat.le_of_ble_eq_true rfl) rfl fl_X1_18 dX1_isBefore_5, ?_⟩
  refine List.forall_mem_cons.mpr ⟨s_iload_n dX1_isBefore_8 rfl, ?_⟩
  refine List.forall_mem_cons.mpr ⟨s_iaload dX1_isBefore_9, ?_⟩
  refine List.forall_mem_cons.mpr ⟨s_aload_n dX1_isBefore_10 rfl, ?_⟩
  refine List.forall_mem_cons.mpr ⟨s_getR (j := 4) cf_X1 (Nat.le_of_ble_eq_true rfl) rfl fl_X1_18 dX1_isBefore_11, ?_⟩
  refine List.forall_mem_cons.mpr ⟨s_iload_n dX1_isBefore_14 rfl, ?_⟩
  refine List.forall_mem_cons.mpr ⟨s_iaload dX1_isBefore_15, ?_⟩
  refine List.forall_mem_cons.mpr ⟨s_icmp_eq dX1_isBefore_16 (by decide), ?_⟩
  refine List.forall_mem_cons.mpr ⟨s_aload_n dX1_isBefore_19 rfl, ?_⟩
  refine List.forall_mem_cons.mpr ⟨s_getR (j := 4) cf_X1 (Nat.le_of_ble_eq_true rfl) rfl fl_X1_18 dX1_isBefore_20, ?_⟩
  refine List.forall_mem_cons.mpr ⟨s_iload_n dX1_isBefore_23 rfl, ?_⟩
  refine List.forall_mem_cons.mpr ⟨s_iaload dX1_isBefore_24, ?_⟩
  refine List.forall_mem_cons.mpr ⟨s_aload_n dX1_isBefore_25 rfl, ?_⟩
  refine List.forall_mem_cons.mpr ⟨s_getR (j := 4) cf_X1 (Nat.le_of_ble_eq_true rfl) rfl fl_X1_18 dX1_isBefore_26, ?_⟩
  refine List.forall_mem_cons.mpr ⟨s_iload_n dX1_isBefore_29 rfl, ?_⟩
  refine List.forall_mem_cons.mpr ⟨s_iaload dX1_isBefore_30, ?_⟩
  refine List.forall_mem_cons.mpr ⟨s_icmp_le dX1_isBefore_31 (by decide), ?_⟩
  refine List.forall_mem_cons.mpr ⟨s_iconst dX1_isBefore_34 (by decide), ?_⟩
  refine List.forall_mem_cons.mpr ⟨s_goto dX1_isBefore_35 (by decide), ?_⟩
  refine List.forall_mem_cons.mpr ⟨s_iconst dX1_isBefore_38 (by decide), ?_⟩
  refine List.forall_mem_cons.mpr ⟨s_zreturn dX1_isBefore_39 rfl, ?_⟩
  refine List.forall_mem_cons.mpr ⟨s_aload_n dX1_isBefore_40 rfl, ?_⟩
  refine List.forall_mem_cons.mpr ⟨s_getR (j := 0) cf_X1 (Nat.le_of_ble_eq_true rfl) rfl fl_X1_21 dX1_isBefore_41, ?_⟩
  refine List.forall_mem_cons.mpr ⟨s_getRN (j := 3) cf_X6 (Nat.le_of_ble_eq_true rfl) rfl fl_X1_95 dX1_isBefore_44, ?_⟩
  refine List.forall_mem_cons.mpr ⟨s_iload_n dX1_isBefore_47 rfl, ?_⟩
  refine List.forall_mem_cons.mpr ⟨s_iaload dX1_isBefore_48, ?_⟩
  refine List.forall_mem_cons.mpr ⟨s_aload_n dX1_isBefore_49 rfl, ?_⟩
  refine List.forall_mem_cons.mpr ⟨s_getR (j := 0) cf_X1 (Nat.le_of_ble_eq_true rfl) rfl fl_X1_21 dX1_isBefore_50, ?_⟩
  refine List.forall_mem_cons.mpr ⟨s_getRN (j := 3) cf_X6 (Nat.le_of_ble_eq_true rfl) rfl fl_X1_95 dX1_isBefore_53, ?_⟩
  refine List.forall_mem_cons.mpr ⟨s_iload_n dX1_isBefore_56 rfl, ?_⟩
  refine List.forall_mem_cons.mpr ⟨s_iaload dX1_isBefore_57, ?_⟩
  refine List.forall_mem_cons.mpr ⟨s_icmp_ge dX1_isBefore_58 (by decide), ?_⟩
  refine List.forall_mem_cons.mpr ⟨s_iconst dX1_isBefore_61 (by decide), ?_⟩
  refine List.forall_mem_cons.mpr ⟨s_goto dX1_isBefore_62 (by decide), ?_⟩
  refine List.forall_mem_cons.mpr ⟨s_iconst dX1_isBefore_65 (by decide), ?_⟩
  refine List.forall_mem_cons.mpr ⟨s_zreturn dX1_isBefore_66 rfl, ?_⟩
  exact fun _ h => absurd h List.not_mem_nil
def cd_X1_has : sv_Cd := [(0, o_il 0 1),
  (1, o_il 1 2),
  (2, o_b (fun x y => x >>> (y &&& 31)) 3),
  (3, o_ic 1 4),
  (4, o_b (fun x y => x &&& y) 5),
  (5, o_if (fun x => x = 0) 12 8),
  (8, o_ic 1 9),
  (9, o_go 13),
  (12, o_ic 0 13),
  (13, o_zr)]
set_option maxRecDepth 20000 in
theorem sn_X1_has : ∀ q ∈ cd_X1_has, sv_Snd m_X1_has q.1 q.2 := by
  unfold cd_X1_has
  refine List.forall_mem_cons.mpr ⟨s_iload_n dX1_has_0 rfl, ?_⟩
  refine List.forall_mem_cons.mpr ⟨s_iload_n dX1_has_1 rfl, ?_⟩
  refine List.forall_mem_cons.mpr ⟨s_ishr dX1_has_2, ?_⟩
  refine List.forall_mem_cons.mpr ⟨s_iconst dX1_has_3 (by decide), ?_⟩
  refine List.forall_mem_cons.mpr ⟨s_iand dX1_has_4, ?_⟩
  refine List.forall_mem_cons.mpr ⟨s_if_eq dX1_has_5 (by decide), ?_⟩
  refine List.forall_mem_cons.mpr ⟨s_iconst dX1_has_8 (by decide), ?_⟩
  refine List.forall_mem_cons.mpr ⟨s_goto dX1_has_9 (by decide), ?_⟩
  refine List.forall_mem_cons.mpr ⟨s_iconst dX1_has_12 (by decide), ?_⟩
  refine List.forall_mem_cons.mpr ⟨s_zreturn dX1_has_13 rfl, ?_⟩
  exact fun _ h => absurd h List.not_mem_nil
def cd_J6_compare_7cf53 : sv_Cd := [(0, o_il 0 1),
  (1, o_il 1 2),
  (2, o_ic2 (fun x y => y ≤ x) 9 5),
  (5, o_ic (-1) 6),
  (6, o_go 19),
  (9, o_il 0 10),
  (10, o_il 1 11),
  (11, o_ic2 (fun x y => x = y) 14 18),
  (14, o_ic 0 15),
  (15, o_go 19),
  (18, o_ic 1 19),
  (19, o_ir)]
set_option maxRecDepth 20000 in
theorem sn_J6_compare_7cf53 : ∀ q ∈ cd_J6_compare_7cf53, sv_Snd m_J6_compare_7cf53 q.1 q.2 := by
  unfold cd_J6_compare_7cf53
  refine List.forall_mem_cons.mpr ⟨s_iload_n dJ6_compare_7cf53_0 rfl, ?_⟩
  refine List.forall_mem_cons.mpr ⟨s_iload_n dJ6_compare_7cf53_1 rfl, ?_⟩
  refine List.forall_mem_cons.mpr ⟨s_icmp_ge dJ6_compare_7cf53_2 (by decide), ?_⟩
  refine List.forall_mem_cons.mpr ⟨s_iconst dJ6_compare_7cf53_5 (by decide), ?_⟩
  refine List.forall_mem_cons.mpr ⟨s_goto dJ6_compare_7cf53_6 (by decide), ?_⟩
  refine List.forall_mem_cons.mpr ⟨s_iload_n dJ6_compare_7cf53_9 rfl, ?_⟩
  refine List.forall_mem_cons.mpr ⟨s_iload_n dJ6_compare_7cf53_10 rfl, ?_⟩
  refine List.forall_mem_cons.mpr ⟨s_icmp_ne dJ6_compare_7cf53_11 (by decide), ?_⟩
  refine List.forall_mem_cons.mpr ⟨s_iconst dJ6_compare_7cf53_14 (by decide), ?_⟩
  refine List.forall_mem_cons.mpr ⟨s_goto dJ6_compare_7cf53_15 (by decide), ?_⟩
  refine List.forall_mem_cons.mpr ⟨s_iconst dJ6_compare_7cf53_18 (by decide), ?_⟩
  refine List.forall_mem_cons.mpr ⟨s_ireturn dJ6_compare_7cf53_19 rfl, ?_⟩
  exact fun _ h => absurd h List.not_mem_nil
def cd_J6_bitCount_0f7a4 : sv_Cd := [(0, o_il 0 1),
  (1, o_il 0 2),
  (2, o_ic 1 3),
  (3, o_b (fun x y => (x.toUInt32 >>> (y.toUInt32 &&& Int32.toUInt32 31)).toInt32) 4),
  (4, o_ic 1431655765 7),
  (7, o_b (fun x y => x &&& y) 8),
  (8, o_b (fun x y => x - y) 9),
  (9, o_is 0 10),
  (10, o_il 0 11),
  (11, o_ic 858993459 14),
  (14, o_b (fun x y => x &&& y) 15),
  (15, o_il 0 16),
  (16, o_ic 2 17),
  (17, o_b (fun x y => (x.toUInt32 >>> (y.toUInt32 &&& Int32.toUInt32 31)).toInt32) 18),
  (18, o_ic 858993459 21),
  (21, o_b (fun x y => x &&& y) 22),
  (22, o_b (fun x y => x + y) 23),
  (23, o_is 0 24),
  (24, o_il 0 25),
  (25, o_il 0 26),
  (26, o_ic 4 27),
  (27, o_b (fun x y => (x.toUInt32 >>> (y.toUInt32 &&& Int32.toUInt32 31)).toInt32) 28),
  (28, o_b (fun x y => x + y) 29),
  (29, o_ic 252645135 32),
  (32, o_b (fun x y => x &&& y) 33),
  (33, o_is 0 34),
  (34, o_il 0 35),
  (35, o_il 0 36),
  (36, o_ic 8 38),
  (38, o_b (fun x y => (x.toUInt32 >>> (y.toUInt32 &&& Int32.toUInt32 31)).toInt32) 39),
  (39, o_b (fun x y => x + y) 40),
  (40, o_is 0 41),
  (41, o_il 0 42),
  (42, o_il 0 43),
  (43, o_ic 16 45),
  (45, o_b (fun x y => (x.toUInt32 >>> (y.toUInt32 &&& Int32.toUInt32 31)).toInt32) 46),
  (46, o_b (fun x y => x + y) 47),
  (47, o_is 0 48),
  (48, o_il 0 49),
  (49, o_ic 63 51),
  (51, o_b (fun x y => x &&& y) 52),
  (52, o_ir)]
set_option maxRecDepth 20000 in
theorem sn_J6_bitCount_0f7a4 : ∀ q ∈ cd_J6_bitCount_0f7a4, sv_Snd m_J6_bitCount_0f7a4 q.1 q.2 := by
  unfold cd_J6_bitCount_0f7a4
  refine List.forall_mem_cons.mpr ⟨s_iload_n dJ6_bitCount_0f7a4_0 rfl, ?_⟩
  refine List.forall_mem_cons.mpr ⟨s_iload_n dJ6_bitCount_0f7a4_1 rfl, ?_⟩
  refine List.forall_mem_cons.mpr ⟨s_iconst dJ6_bitCount_0f7a4_2 (by decide), ?_⟩
  refine List.forall_mem_cons.mpr ⟨s_iushr dJ6_bitCount_0f7a4_3, ?_⟩
  refine List.forall_mem_cons.mpr ⟨s_ldcw dJ6_bitCount_0f7a4_4 cs_J6_265, ?_⟩
  refine List.forall_mem_cons.mpr ⟨s_iand dJ6_bitCount_0f7a4_7, ?_⟩
  refine List.forall_mem_cons.mpr ⟨s_isub dJ6_bitCount_0f7a4_8, ?_⟩
  refine List.forall_mem_cons.mpr ⟨s_istore_n dJ6_bitCount_0f7a4_9 rfl (Nat.le_of_ble_eq_true rfl), ?_⟩
  refine List.forall_mem_cons.mpr ⟨s_iload_n dJ6_bitCount_0f7a4_10 rfl, ?_⟩
  refine List.forall_mem_cons.mpr ⟨s_ldcw dJ6_bitCount_0f7a4_11 cs_J6_266, ?_⟩
  refine List.forall_mem_cons.mpr ⟨s_iand dJ6_bitCount_0f7a4_14, ?_⟩
  refine List.forall_mem_cons.mpr ⟨s_iload_n dJ6_bitCount_0f7a4_15 rfl, ?_⟩
  refine List.forall_mem_cons.mpr ⟨s_iconst dJ6_bitCount_0f7a4_16 (by decide), ?_⟩
  refine List.forall_mem_cons.mpr ⟨s_iushr dJ6_bitCount_0f7a4_17, ?_⟩
  refine List.forall_mem_cons.mpr ⟨s_ldcw dJ6_bitCount_0f7a4_18 cs_J6_266, ?_⟩
  refine List.forall_mem_cons.mpr ⟨s_iand dJ6_bitCount_0f7a4_21, ?_⟩
  refine List.forall_mem_cons.mpr ⟨s_iadd dJ6_bitCount_0f7a4_22, ?_⟩
  refine List.forall_mem_cons.mpr ⟨s_istore_n dJ6_bitCount_0f7a4_23 rfl (Nat.le_of_ble_eq_true rfl), ?_⟩
  refine List.forall_mem_cons.mpr ⟨s_iload_n dJ6_bitCount_0f7a4_24 rfl, ?_⟩
  refine List.forall_mem_cons.mpr ⟨s_iload_n dJ6_bitCount_0f7a4_25 rfl, ?_⟩
  refine List.forall_mem_cons.mpr ⟨s_iconst dJ6_bitCount_0f7a4_26 (by decide), ?_⟩
  refine List.forall_mem_cons.mpr ⟨s_iushr dJ6_bitCount_0f7a4_27, ?_⟩
  refine List.forall_mem_cons.mpr ⟨s_iadd dJ6_bitCount_0f7a4_28, ?_⟩
  refine List.forall_mem_cons.mpr ⟨s_ldcw dJ6_bitCount_0f7a4_29 cs_J6_267, ?_⟩
  refine List.forall_mem_cons.mpr ⟨s_iand dJ6_bitCount_0f7a4_32, ?_⟩
  refine List.forall_mem_cons.mpr ⟨s_istore_n dJ6_bitCount_0f7a4_33 rfl (Nat.le_of_ble_eq_true rfl), ?_⟩
  refine List.forall_mem_cons.mpr ⟨s_iload_n dJ6_bitCount_0f7a4_34 rfl, ?_⟩
  refine List.forall_mem_cons.mpr ⟨s_iload_n dJ6_bitCount_0f7a4_35 rfl, ?_⟩
  refine List.forall_mem_cons.mpr ⟨s_bipush dJ6_bitCount_0f7a4_36 (by decide), ?_⟩
  refine List.forall_mem_cons.mpr ⟨s_iushr dJ6_bitCount_0f7a4_38, ?_⟩
  refine List.forall_mem_cons.mpr ⟨s_iadd dJ6_bitCount_0f7a4_39, ?_⟩
  refine List.forall_mem_cons.mpr ⟨s_istore_n dJ6_bitCount_0f7a4_40 rfl (Nat.le_of_ble_eq_true rfl), ?_⟩
  refine List.forall_mem_cons.mpr ⟨s_iload_n dJ6_bitCount_0f7a4_41 rfl, ?_⟩
  refine List.forall_mem_cons.mpr ⟨s_iload_n dJ6_bitCount_0f7a4_42 rfl, ?_⟩
  refine List.forall_mem_cons.mpr ⟨s_bipush dJ6_bitCount_0f7a4_43 (by decide), ?_⟩
  refine List.forall_mem_cons.mpr ⟨s_iushr dJ6_bitCount_0f7a4_45, ?_⟩
  refine List.forall_mem_cons.mpr ⟨s_iadd dJ6_bitCount_0f7a4_46, ?_⟩
  refine List.forall_mem_cons.mpr ⟨s_istore_n dJ6_bitCount_0f7a4_47 rfl (Nat.le_of_ble_eq_true rfl), ?_⟩
  refine List.forall_mem_cons.mpr ⟨s_iload_n dJ6_bitCount_0f7a4_48 rfl, ?_⟩
  refine List.forall_mem_cons.mpr ⟨s_bipush dJ6_bitCount_0f7a4_49 (by decide), ?_⟩
  refine List.forall_mem_cons.mpr ⟨s_iand dJ6_bitCount_0f7a4_51, ?_⟩
  refine List.forall_mem_cons.mpr ⟨s_ireturn dJ6_bitCount_0f7a4_52 rfl, ?_⟩
  exact fun _ h => absurd h List.not_mem_nil

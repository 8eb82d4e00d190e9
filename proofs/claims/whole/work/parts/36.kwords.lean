/-! ===== constructors: words, decode rows ===== -/
theorem ki_obi : Cond.instanceMethod objectInit ∈ sv_GT := sv_mem 71 (by decide +kernel) (by decide +kernel)
theorem ki_obc : Cond.code objectInit ⟨#[0xb1]⟩ 1 none ∈ sv_GT := sv_mem 72 (by decide +kernel) (by decide +kernel)
theorem ki_ai : Cond.arrayClass .int ∈ sv_GT := sv_mem 96 (by decide +kernel) (by decide +kernel)
theorem ki_ab : Cond.arrayClass .boolean ∈ sv_GT := sv_mem 816 (by decide +kernel) (by decide +kernel)
def m_X7_init : sv_M := (yX7_init, cX7_init, 1, none, 1, 12)
theorem ca_X7_init : sv_cal m_X7_init 0 := ⟨(by decide +kernel), sv_mem 77 (by decide +kernel) (by decide +kernel), sv_mem 52 (by decide +kernel) (by decide +kernel), ⟨(by decide +kernel), (by decide +kernel)⟩, (by decide +kernel)⟩
theorem im_X7_init : Cond.instanceMethod yX7_init ∈ sv_GT := sv_mem 76 (by decide +kernel) (by decide +kernel)
theorem ki_is_X7 : Cond.instantiable RX7 4 ∈ sv_GT := sv_mem 74 (by decide +kernel) (by decide +kernel)
theorem ki_ni_X7 : Cond.initialized RX7 ∈ sv_GT := sv_mem 52 (by decide +kernel) (by decide +kernel)
theorem ki_ob_X7 : Cond.methodLink RX7 3 objectInit ∈ sv_GT := sv_mem 78 (by decide +kernel) (by decide +kernel)
theorem ki_cl_X7_11 : Cond.classLink RX7 11 "[[I" ∈ sv_GT := sv_mem 79 (by decide +kernel) (by decide +kernel)
theorem ki_fl_X7_13 : Cond.fieldLink RX7 13 "ScreenVotes$Sheets" "items" "[[I" ∈ sv_GT := sv_mem 81 (by decide +kernel) (by decide +kernel)
theorem ki_fl_X7_16 : Cond.fieldLink RX7 16 "ScreenVotes$Sheets" "forms" "[I" ∈ sv_GT := sv_mem 83 (by decide +kernel) (by decide +kernel)
theorem ki_fl_X7_20 : Cond.fieldLink RX7 20 "ScreenVotes$Sheets" "sizes" "[I" ∈ sv_GT := sv_mem 84 (by decide +kernel) (by decide +kernel)
theorem dX7_init_0 : decode cX7_init 0 = .ok (.aload_n 0, 1) := by decide +kernel
theorem dX7_init_1 : decode cX7_init 1 = .ok (.invokespecial 3, 3) := by decide +kernel
theorem dX7_init_4 : decode cX7_init 4 = .ok (.aload_n 0, 1) := by decide +kernel
theorem dX7_init_5 : decode cX7_init 5 = .ok (.iconst 4, 1) := by decide +kernel
theorem dX7_init_6 : decode cX7_init 6 = .ok (.sipush 240, 3) := by decide +kernel
theorem dX7_init_9 : decode cX7_init 9 = .ok (.multianewarray 11 2, 4) := by decide +kernel
theorem dX7_init_13 : decode cX7_init 13 = .ok (.putfield 13, 3) := by decide +kernel
theorem dX7_init_16 : decode cX7_init 16 = .ok (.aload_n 0, 1) := by decide +kernel
theorem dX7_init_17 : decode cX7_init 17 = .ok (.iconst 4, 1) := by decide +kernel
theorem dX7_init_18 : decode cX7_init 18 = .ok (.newarray .int, 2) := by decide +kernel
theorem dX7_init_20 : decode cX7_init 20 = .ok (.dup, 1) := by decide +kernel
theorem dX7_init_21 : decode cX7_init 21 = .ok (.iconst 0, 1) := by decide +kernel
theorem dX7_init_22 : decode cX7_init 22 = .ok (.iconst (-1), 1) := by decide +kernel
theorem dX7_init_23 : decode cX7_init 23 = .ok (.iastore, 1) := by decide +kernel
theorem dX7_init_24 : decode cX7_init 24 = .ok (.dup, 1) := by decide +kernel
theorem dX7_init_25 : decode cX7_init 25 = .ok (.iconst 1, 1) := by decide +kernel
theorem dX7_init_26 : decode cX7_init 26 = .ok (.iconst (-1), 1) := by decide +kernel
theorem dX7_init_27 : decode cX7_init 27 = .ok (.iastore, 1) := by decide +kernel
theorem dX7_init_28 : decode cX7_init 28 = .ok (.dup, 1) := by decide +kernel
theorem dX7_init_29 : decode cX7_init 29 = .ok (.iconst 2, 1) := by decide +kernel
theorem dX7_init_30 : decode cX7_init 30 = .ok (.iconst (-1), 1) := by decide +kernel
theorem dX7_init_31 : decode cX7_init 31 = .ok (.iastore, 1) := by decide +kernel
theorem dX7_init_32 : decode cX7_init 32 = .ok (.dup, 1) := by decide +kernel
theorem dX7_init_33 : decode cX7_init 33 = .ok (.iconst 3, 1) := by decide +kernel
theorem dX7_init_34 : decode cX7_init 34 = .ok (.iconst (-1), 1) := by decide +kernel
theorem dX7_init_35 : decode cX7_init 35 = .ok (.iastore, 1) := by decide +kernel
theorem dX7_init_36 : decode cX7_init 36 = .ok (.putfield 16, 3) := by decide +kernel
theorem dX7_init_39 : decode cX7_init 39 = .ok (.aload_n 0, 1) := by decide +kernel
theorem dX7_init_40 : decode cX7_init 40 = .ok (.iconst 4, 1) := by decide +kernel
theorem dX7_init_41 : decode cX7_init 41 = .ok (.newarray .int, 2) := by decide +kernel
theorem dX7_init_43 : decode cX7_init 43 = .ok (.putfield 20, 3) := by decide +kernel
theorem dX7_init_46 : decode cX7_init 46 = .ok (.return_, 1) := by decide +kernel
def m_X6_init : sv_M := (yX6_init, cX6_init, 2, none, 1, 12)
theorem ca_X6_init : sv_cal m_X6_init 1 := ⟨(by decide +kernel), sv_mem 101 (by decide +kernel) (by decide +kernel), sv_mem 53 (by decide +kernel) (by decide +kernel), ⟨(by decide +kernel), (by decide +kernel)⟩, (by decide +kernel)⟩
theorem im_X6_init : Cond.instanceMethod yX6_init ∈ sv_GT := sv_mem 100 (by decide +kernel) (by decide +kernel)
theorem ki_is_X6 : Cond.instantiable RX6 6 ∈ sv_GT := sv_mem 98 (by decide +kernel) (by decide +kernel)
theorem ki_ni_X6 : Cond.initialized RX6 ∈ sv_GT := sv_mem 53 (by decide +kernel) (by decide +kernel)
theorem ki_ob_X6 : Cond.methodLink RX6 1 objectInit ∈ sv_GT := sv_mem 102 (by decide +kernel) (by decide +kernel)
theorem ki_fl_X6_9 : Cond.fieldLink RX6 9 "ScreenVotes$Panel" "kin" "[I" ∈ sv_GT := sv_mem 104 (by decide +kernel) (by decide +kernel)
theorem ki_fl_X6_13 : Cond.fieldLink RX6 13 "ScreenVotes$Panel" "row" "[I" ∈ sv_GT := sv_mem 105 (by decide +kernel) (by decide +kernel)
theorem ki_fl_X6_16 : Cond.fieldLink RX6 16 "ScreenVotes$Panel" "placeInRow" "[I" ∈ sv_GT := sv_mem 109 (by decide +kernel) (by decide +kernel)
theorem ki_fl_X6_19 : Cond.fieldLink RX6 19 "ScreenVotes$Panel" "voting" "I" ∈ sv_GT := sv_mem 116 (by decide +kernel) (by decide +kernel)
theorem ki_fl_X6_23 : Cond.fieldLink RX6 23 "ScreenVotes$Panel" "sheets" "LScreenVotes$Sheets;" ∈ sv_GT := sv_mem 103 (by decide +kernel) (by decide +kernel)
theorem dX6_init_0 : decode cX6_init 0 = .ok (.aload_n 0, 1) := by decide +kernel
theorem dX6_init_1 : decode cX6_init 1 = .ok (.invokespecial 1, 3) := by decide +kernel
theorem dX6_init_4 : decode cX6_init 4 = .ok (.aload_n 0, 1) := by decide +kernel
theorem dX6_init_5 : decode cX6_init 5 = .ok (.bipush 24, 2) := by decide +kernel
theorem dX6_init_7 : decode cX6_init 7 = .ok (.newarray .int, 2) := by decide +kernel
theorem dX6_init_9 : decode cX6_init 9 = .ok (.putfield 9, 3) := by decide +kernel
theorem dX6_init_12 : decode cX6_init 12 = .ok (.aload_n 0, 1) := by decide +kernel
theorem dX6_init_13 : decode cX6_init 13 = .ok (.bipush 24, 2) := by decide +kernel
theorem dX6_init_15 : decode cX6_init 15 = .ok (.newarray .int, 2) := by decide +kernel
theorem dX6_init_17 : decode cX6_init 17 = .ok (.putfield 13, 3) := by decide +kernel
theorem dX6_init_20 : decode cX6_init 20 = .ok (.aload_n 0, 1) := by decide +kernel
theorem dX6_init_21 : decode cX6_init 21 = .ok (.bipush 24, 2) := by decide +kernel
theorem dX6_init_23 : decode cX6_init 23 = .ok (.newarray .int, 2) := by decide +kernel
theorem dX6_init_25 : decode cX6_init 25 = .ok (.putfield 16, 3) := by decide +kernel
theorem dX6_init_28 : decode cX6_init 28 = .ok (.aload_n 0, 1) := by decide +kernel
theorem dX6_init_29 : decode cX6_init 29 = .ok (.iconst 5, 1) := by decide +kernel
theorem dX6_init_30 : decode cX6_init 30 = .ok (.putfield 19, 3) := by decide +kernel
theorem dX6_init_33 : decode cX6_init 33 = .ok (.aload_n 0, 1) := by decide +kernel
theorem dX6_init_34 : decode cX6_init 34 = .ok (.aload_n 1, 1) := by decide +kernel
theorem dX6_init_35 : decode cX6_init 35 = .ok (.putfield 23, 3) := by decide +kernel
theorem dX6_init_38 : decode cX6_init 38 = .ok (.return_, 1) := by decide +kernel
def m_X0_init : sv_M := (yX0_init, cX0_init, 1, none, 1, 12)
theorem ca_X0_init : sv_cal m_X0_init 0 := ⟨(by decide +kernel), sv_mem 135 (by decide +kernel) (by decide +kernel), sv_mem 54 (by decide +kernel) (by decide +kernel), ⟨(by decide +kernel), (by decide +kernel)⟩, (by decide +kernel)⟩
theorem im_X0_init : Cond.instanceMethod yX0_init ∈ sv_GT := sv_mem 134 (by decide +kernel) (by decide +kernel)
theorem ki_is_X0 : Cond.instantiable RX0 9 ∈ sv_GT := sv_mem 132 (by decide +kernel) (by decide +kernel)
theorem ki_ni_X0 : Cond.initialized RX0 ∈ sv_GT := sv_mem 54 (by decide +kernel) (by decide +kernel)
theorem ki_ob_X0 : Cond.methodLink RX0 3 objectInit ∈ sv_GT := sv_mem 136 (by decide +kernel) (by decide +kernel)
theorem ki_fl_X0_11 : Cond.fieldLink RX0 11 "ScreenVotes$Bylaw" "text" "[I" ∈ sv_GT := sv_mem 137 (by decide +kernel) (by decide +kernel)
theorem ki_fl_X0_15 : Cond.fieldLink RX0 15 "ScreenVotes$Bylaw" "hundredths" "[I" ∈ sv_GT := sv_mem 138 (by decide +kernel) (by decide +kernel)
theorem ki_fl_X0_18 : Cond.fieldLink RX0 18 "ScreenVotes$Bylaw" "seats" "[I" ∈ sv_GT := sv_mem 142 (by decide +kernel) (by decide +kernel)
theorem ki_fl_X0_21 : Cond.fieldLink RX0 21 "ScreenVotes$Bylaw" "letters" "[I" ∈ sv_GT := sv_mem 145 (by decide +kernel) (by decide +kernel)
theorem dX0_init_0 : decode cX0_init 0 = .ok (.aload_n 0, 1) := by decide +kernel
theorem dX0_init_1 : decode cX0_init 1 = .ok (.invokespecial 3, 3) := by decide +kernel
theorem dX0_init_4 : decode cX0_init 4 = .ok (.aload_n 0, 1) := by decide +kernel
theorem dX0_init_5 : decode cX0_init 5 = .ok (.bipush 60, 2) := by decide +kernel
theorem dX0_init_7 : decode cX0_init 7 = .ok (.newarray .int, 2) := by decide +kernel
theorem dX0_init_9 : decode cX0_init 9 = .ok (.putfield 11, 3) := by decide +kernel
theorem dX0_init_12 : decode cX0_init 12 = .ok (.aload_n 0, 1) := by decide +kernel
theorem dX0_init_13 : decode cX0_init 13 = .ok (.iconst 4, 1) := by decide +kernel
theorem dX0_init_14 : decode cX0_init 14 = .ok (.newarray .int, 2) := by decide +kernel
theorem dX0_init_16 : decode cX0_init 16 = .ok (.putfield 15, 3) := by decide +kernel
theorem dX0_init_19 : decode cX0_init 19 = .ok (.aload_n 0, 1) := by decide +kernel
theorem dX0_init_20 : decode cX0_init 20 = .ok (.iconst 4, 1) := by decide +kernel
theorem dX0_init_21 : decode cX0_init 21 = .ok (.newarray .int, 2) := by decide +kernel
theorem dX0_init_23 : decode cX0_init 23 = .ok (.putfield 18, 3) := by decide +kernel
theorem dX0_init_26 : decode cX0_init 26 = .ok (.aload_n 0, 1) := by decide +kernel
theorem dX0_init_27 : decode cX0_init 27 = .ok (.iconst 4, 1) := by decide +kernel
theorem dX0_init_28 : decode cX0_init 28 = .ok (.newarray .int, 2) := by decide +kernel
theorem dX0_init_30 : decode cX0_init 30 = .ok (.putfield 21, 3) := by decide +kernel
theorem dX0_init_33 : decode cX0_init 33 = .ok (.return_, 1) := by decide +kernel
def m_X1_init : sv_M := (yX1_init, cX1_init, 3, none, 1, 12)
theorem ca_X1_init : sv_cal m_X1_init 2 := ⟨(by decide +kernel), sv_mem 180 (by decide +kernel) (by decide +kernel), sv_mem 55 (by decide +kernel) (by decide +kernel), ⟨(by decide +kernel), (by decide +kernel)⟩, (by decide +kernel)⟩
theorem im_X1_init : Cond.instanceMethod yX1_init ∈ sv_GT := sv_mem 179 (by decide +kernel) (by decide +kernel)
theorem ki_is_X1 : Cond.instantiable RX1 5 ∈ sv_GT := sv_mem 177 (by decide +kernel) (by decide +kernel)
theorem ki_ni_X1 : Cond.initialized RX1 ∈ sv_GT := sv_mem 55 (by decide +kernel) (by decide +kernel)
theorem ki_ob_X1 : Cond.methodLink RX1 1 objectInit ∈ sv_GT := sv_mem 181 (by decide +kernel) (by decide +kernel)
theorem ki_fl_X1_9 : Cond.fieldLink RX1 9 "ScreenVotes$Contest" "votes" "[I" ∈ sv_GT := sv_mem 184 (by decide +kernel) (by decide +kernel)
theorem ki_fl_X1_15 : Cond.fieldLink RX1 15 "ScreenVotes$Contest" "yes" "[I" ∈ sv_GT := sv_mem 185 (by decide +kernel) (by decide +kernel)
theorem ki_fl_X1_18 : Cond.fieldLink RX1 18 "ScreenVotes$Contest" "yesSoFar" "[I" ∈ sv_GT := sv_mem 186 (by decide +kernel) (by decide +kernel)
theorem ki_fl_X1_21 : Cond.fieldLink RX1 21 "ScreenVotes$Contest" "panel" "LScreenVotes$Panel;" ∈ sv_GT := sv_mem 182 (by decide +kernel) (by decide +kernel)
theorem ki_fl_X1_25 : Cond.fieldLink RX1 25 "ScreenVotes$Contest" "bylaw" "LScreenVotes$Bylaw;" ∈ sv_GT := sv_mem 183 (by decide +kernel) (by decide +kernel)
theorem dX1_init_0 : decode cX1_init 0 = .ok (.aload_n 0, 1) := by decide +kernel
theorem dX1_init_1 : decode cX1_init 1 = .ok (.invokespecial 1, 3) := by decide +kernel
theorem dX1_init_4 : decode cX1_init 4 = .ok (.aload_n 0, 1) := by decide +kernel
theorem dX1_init_5 : decode cX1_init 5 = .ok (.bipush 24, 2) := by decide +kernel
theorem dX1_init_7 : decode cX1_init 7 = .ok (.newarray .int, 2) := by decide +kernel
theorem dX1_init_9 : decode cX1_init 9 = .ok (.putfield 9, 3) := by decide +kernel
theorem dX1_init_12 : decode cX1_init 12 = .ok (.aload_n 0, 1) := by decide +kernel
theorem dX1_init_13 : decode cX1_init 13 = .ok (.bipush 24, 2) := by decide +kernel
theorem dX1_init_15 : decode cX1_init 15 = .ok (.newarray .int, 2) := by decide +kernel
theorem dX1_init_17 : decode cX1_init 17 = .ok (.putfield 15, 3) := by decide +kernel
theorem dX1_init_20 : decode cX1_init 20 = .ok (.aload_n 0, 1) := by decide +kernel
theorem dX1_init_21 : decode cX1_init 21 = .ok (.bipush 24, 2) := by decide +kernel
theorem dX1_init_23 : decode cX1_init 23 = .ok (.newarray .int, 2) := by decide +kernel
theorem dX1_init_25 : decode cX1_init 25 = .ok (.putfield 18, 3) := by decide +kernel
theorem dX1_init_28 : decode cX1_init 28 = .ok (.aload_n 0, 1) := by decide +kernel
theorem dX1_init_29 : decode cX1_init 29 = .ok (.aload_n 1, 1) := by decide +kernel
theorem dX1_init_30 : decode cX1_init 30 = .ok (.putfield 21, 3) := by decide +kernel
theorem dX1_init_33 : decode cX1_init 33 = .ok (.aload_n 0, 1) := by decide +kernel
theorem dX1_init_34 : decode cX1_init 34 = .ok (.aload_n 2, 1) := by decide +kernel
theorem dX1_init_35 : decode cX1_init 35 = .ok (.putfield 25, 3) := by decide +kernel
theorem dX1_init_38 : decode cX1_init 38 = .ok (.return_, 1) := by decide +kernel
def m_X5_init : sv_M := (yX5_init, cX5_init, 3, none, 1, 12)
theorem ca_X5_init : sv_cal m_X5_init 2 := ⟨(by decide +kernel), sv_mem 202 (by decide +kernel) (by decide +kernel), sv_mem 56 (by decide +kernel) (by decide +kernel), ⟨(by decide +kernel), (by decide +kernel)⟩, (by decide +kernel)⟩
theorem im_X5_init : Cond.instanceMethod yX5_init ∈ sv_GT := sv_mem 201 (by decide +kernel) (by decide +kernel)
theorem ki_is_X5 : Cond.instantiable RX5 2 ∈ sv_GT := sv_mem 199 (by decide +kernel) (by decide +kernel)
theorem ki_ni_X5 : Cond.initialized RX5 ∈ sv_GT := sv_mem 56 (by decide +kernel) (by decide +kernel)
theorem ki_ob_X5 : Cond.methodLink RX5 3 objectInit ∈ sv_GT := sv_mem 203 (by decide +kernel) (by decide +kernel)
theorem ki_fl_X5_9 : Cond.fieldLink RX5 9 "ScreenVotes$OtherRules" "panel" "LScreenVotes$Panel;" ∈ sv_GT := sv_mem 204 (by decide +kernel) (by decide +kernel)
theorem ki_fl_X5_15 : Cond.fieldLink RX5 15 "ScreenVotes$OtherRules" "bylaw" "LScreenVotes$Bylaw;" ∈ sv_GT := sv_mem 205 (by decide +kernel) (by decide +kernel)
theorem dX5_init_0 : decode cX5_init 0 = .ok (.aload_n 0, 1) := by decide +kernel
theorem dX5_init_1 : decode cX5_init 1 = .ok (.invokespecial 3, 3) := by decide +kernel
theorem dX5_init_4 : decode cX5_init 4 = .ok (.aload_n 0, 1) := by decide +kernel
theorem dX5_init_5 : decode cX5_init 5 = .ok (.aload_n 1, 1) := by decide +kernel
theorem dX5_init_6 : decode cX5_init 6 = .ok (.putfield 9, 3) := by decide +kernel
theorem dX5_init_9 : decode cX5_init 9 = .ok (.aload_n 0, 1) := by decide +kernel
theorem dX5_init_10 : decode cX5_init 10 = .ok (.aload_n 2, 1) := by decide +kernel
theorem dX5_init_11 : decode cX5_init 11 = .ok (.putfield 15, 3) := by decide +kernel
theorem dX5_init_14 : decode cX5_init 14 = .ok (.return_, 1) := by decide +kernel
def m_X3_init : sv_M := (yX3_init, cX3_init, 3, none, 1, 12)
theorem ca_X3_init : sv_cal m_X3_init 2 := ⟨(by decide +kernel), sv_mem 215 (by decide +kernel) (by decide +kernel), sv_mem 57 (by decide +kernel) (by decide +kernel), ⟨(by decide +kernel), (by decide +kernel)⟩, (by decide +kernel)⟩
theorem im_X3_init : Cond.instanceMethod yX3_init ∈ sv_GT := sv_mem 214 (by decide +kernel) (by decide +kernel)
theorem ki_is_X3 : Cond.instantiable RX3 3 ∈ sv_GT := sv_mem 212 (by decide +kernel) (by decide +kernel)
theorem ki_ni_X3 : Cond.initialized RX3 ∈ sv_GT := sv_mem 57 (by decide +kernel) (by decide +kernel)
theorem ki_ob_X3 : Cond.methodLink RX3 1 objectInit ∈ sv_GT := sv_mem 216 (by decide +kernel) (by decide +kernel)
theorem ki_fl_X3_7 : Cond.fieldLink RX3 7 "ScreenVotes$Mornings" "table" "[I" ∈ sv_GT := sv_mem 219 (by decide +kernel) (by decide +kernel)
theorem ki_fl_X3_13 : Cond.fieldLink RX3 13 "ScreenVotes$Mornings" "panel" "LScreenVotes$Panel;" ∈ sv_GT := sv_mem 217 (by decide +kernel) (by decide +kernel)
theorem ki_fl_X3_17 : Cond.fieldLink RX3 17 "ScreenVotes$Mornings" "bylaw" "LScreenVotes$Bylaw;" ∈ sv_GT := sv_mem 218 (by decide +kernel) (by decide +kernel)
theorem dX3_init_0 : decode cX3_init 0 = .ok (.aload_n 0, 1) := by decide +kernel
theorem dX3_init_1 : decode cX3_init 1 = .ok (.invokespecial 1, 3) := by decide +kernel
theorem dX3_init_4 : decode cX3_init 4 = .ok (.aload_n 0, 1) := by decide +kernel
theorem dX3_init_5 : decode cX3_init 5 = .ok (.iconst 4, 1) := by decide +kernel
theorem dX3_init_6 : decode cX3_init 6 = .ok (.newarray .int, 2) := by decide +kernel
theorem dX3_init_8 : decode cX3_init 8 = .ok (.putfield 7, 3) := by decide +kernel
theorem dX3_init_11 : decode cX3_init 11 = .ok (.aload_n 0, 1) := by decide +kernel
theorem dX3_init_12 : decode cX3_init 12 = .ok (.aload_n 1, 1) := by decide +kernel
theorem dX3_init_13 : decode cX3_init 13 = .ok (.putfield 13, 3) := by decide +kernel
theorem dX3_init_16 : decode cX3_init 16 = .ok (.aload_n 0, 1) := by decide +kernel
theorem dX3_init_17 : decode cX3_init 17 = .ok (.aload_n 2, 1) := by decide +kernel
theorem dX3_init_18 : decode cX3_init 18 = .ok (.putfield 17, 3) := by decide +kernel
theorem dX3_init_21 : decode cX3_init 21 = .ok (.return_, 1) := by decide +kernel
def m_X8_init : sv_M := (yX8_init, cX8_init, 1, none, 1, 12)
theorem ca_X8_init : sv_cal m_X8_init 0 := ⟨(by decide +kernel), sv_mem 231 (by decide +kernel) (by decide +kernel), sv_mem 58 (by decide +kernel) (by decide +kernel), ⟨(by decide +kernel), (by decide +kernel)⟩, (by decide +kernel)⟩
theorem im_X8_init : Cond.instanceMethod yX8_init ∈ sv_GT := sv_mem 230 (by decide +kernel) (by decide +kernel)
theorem ki_is_X8 : Cond.instantiable RX8 4 ∈ sv_GT := sv_mem 228 (by decide +kernel) (by decide +kernel)
theorem ki_ni_X8 : Cond.initialized RX8 ∈ sv_GT := sv_mem 58 (by decide +kernel) (by decide +kernel)
theorem ki_ob_X8 : Cond.methodLink RX8 3 objectInit ∈ sv_GT := sv_mem 232 (by decide +kernel) (by decide +kernel)
theorem ki_fl_X8_11 : Cond.fieldLink RX8 11 "ScreenVotes$Trials" "onTrial" "[I" ∈ sv_GT := sv_mem 234 (by decide +kernel) (by decide +kernel)
theorem ki_fl_X8_15 : Cond.fieldLink RX8 15 "ScreenVotes$Trials" "weeks" "[I" ∈ sv_GT := sv_mem 235 (by decide +kernel) (by decide +kernel)
theorem ki_cl_X8_18 : Cond.classLink RX8 18 "[[I" ∈ sv_GT := sv_mem 233 (by decide +kernel) (by decide +kernel)
theorem ki_fl_X8_20 : Cond.fieldLink RX8 20 "ScreenVotes$Trials" "marks" "[[I" ∈ sv_GT := sv_mem 237 (by decide +kernel) (by decide +kernel)
theorem dX8_init_0 : decode cX8_init 0 = .ok (.aload_n 0, 1) := by decide +kernel
theorem dX8_init_1 : decode cX8_init 1 = .ok (.invokespecial 3, 3) := by decide +kernel
theorem dX8_init_4 : decode cX8_init 4 = .ok (.aload_n 0, 1) := by decide +kernel
theorem dX8_init_5 : decode cX8_init 5 = .ok (.bipush 6, 2) := by decide +kernel
theorem dX8_init_7 : decode cX8_init 7 = .ok (.newarray .int, 2) := by decide +kernel
theorem dX8_init_9 : decode cX8_init 9 = .ok (.putfield 11, 3) := by decide +kernel
theorem dX8_init_12 : decode cX8_init 12 = .ok (.aload_n 0, 1) := by decide +kernel
theorem dX8_init_13 : decode cX8_init 13 = .ok (.bipush 6, 2) := by decide +kernel
theorem dX8_init_15 : decode cX8_init 15 = .ok (.newarray .int, 2) := by decide +kernel
theorem dX8_init_17 : decode cX8_init 17 = .ok (.putfield 15, 3) := by decide +kernel
theorem dX8_init_20 : decode cX8_init 20 = .ok (.aload_n 0, 1) := by decide +kernel
theorem dX8_init_21 : decode cX8_init 21 = .ok (.bipush 6, 2) := by decide +kernel
theorem dX8_init_23 : decode cX8_init 23 = .ok (.bipush 10, 2) := by decide +kernel
theorem dX8_init_25 : decode cX8_init 25 = .ok (.multianewarray 18 2, 4) := by decide +kernel
theorem dX8_init_29 : decode cX8_init 29 = .ok (.putfield 20, 3) := by decide +kernel
theorem dX8_init_32 : decode cX8_init 32 = .ok (.return_, 1) := by decide +kernel
def m_X2_init : sv_M := (yX2_init, cX2_init, 1, none, 1, 12)
theorem ca_X2_init : sv_cal m_X2_init 0 := ⟨(by decide +kernel), sv_mem 253 (by decide +kernel) (by decide +kernel), sv_mem 59 (by decide +kernel) (by decide +kernel), ⟨(by decide +kernel), (by decide +kernel)⟩, (by decide +kernel)⟩
theorem im_X2_init : Cond.instanceMethod yX2_init ∈ sv_GT := sv_mem 252 (by decide +kernel) (by decide +kernel)
theorem ki_is_X2 : Cond.instantiable RX2 4 ∈ sv_GT := sv_mem 250 (by decide +kernel) (by decide +kernel)
theorem ki_ni_X2 : Cond.initialized RX2 ∈ sv_GT := sv_mem 59 (by decide +kernel) (by decide +kernel)
theorem ki_ob_X2 : Cond.methodLink RX2 3 objectInit ∈ sv_GT := sv_mem 254 (by decide +kernel) (by decide +kernel)
theorem ki_fl_X2_11 : Cond.fieldLink RX2 11 "ScreenVotes$Heard" "numbers" "[I" ∈ sv_GT := sv_mem 255 (by decide +kernel) (by decide +kernel)
theorem ki_fl_X2_15 : Cond.fieldLink RX2 15 "ScreenVotes$Heard" "years" "[I" ∈ sv_GT := sv_mem 256 (by decide +kernel) (by decide +kernel)
theorem ki_fl_X2_18 : Cond.fieldLink RX2 18 "ScreenVotes$Heard" "rounds" "[I" ∈ sv_GT := sv_mem 258 (by decide +kernel) (by decide +kernel)
theorem dX2_init_0 : decode cX2_init 0 = .ok (.aload_n 0, 1) := by decide +kernel
theorem dX2_init_1 : decode cX2_init 1 = .ok (.invokespecial 3, 3) := by decide +kernel
theorem dX2_init_4 : decode cX2_init 4 = .ok (.aload_n 0, 1) := by decide +kernel
theorem dX2_init_5 : decode cX2_init 5 = .ok (.bipush 60, 2) := by decide +kernel
theorem dX2_init_7 : decode cX2_init 7 = .ok (.newarray .int, 2) := by decide +kernel
theorem dX2_init_9 : decode cX2_init 9 = .ok (.putfield 11, 3) := by decide +kernel
theorem dX2_init_12 : decode cX2_init 12 = .ok (.aload_n 0, 1) := by decide +kernel
theorem dX2_init_13 : decode cX2_init 13 = .ok (.bipush 60, 2) := by decide +kernel
theorem dX2_init_15 : decode cX2_init 15 = .ok (.newarray .int, 2) := by decide +kernel
theorem dX2_init_17 : decode cX2_init 17 = .ok (.putfield 15, 3) := by decide +kernel
theorem dX2_init_20 : decode cX2_init 20 = .ok (.aload_n 0, 1) := by decide +kernel
theorem dX2_init_21 : decode cX2_init 21 = .ok (.bipush 60, 2) := by decide +kernel
theorem dX2_init_23 : decode cX2_init 23 = .ok (.newarray .int, 2) := by decide +kernel
theorem dX2_init_25 : decode cX2_init 25 = .ok (.putfield 18, 3) := by decide +kernel
theorem dX2_init_28 : decode cX2_init 28 = .ok (.return_, 1) := by decide +kernel
def m_X9_init : sv_M := (yX9_init, cX9_init, 1, none, 2, 34)
theorem ca_X9_init : sv_cal m_X9_init 0 := ⟨(by decide +kernel), sv_mem 69 (by decide +kernel) (by decide +kernel), sv_mem 51 (by decide +kernel) (by decide +kernel), ⟨(by decide +kernel), (by decide +kernel)⟩, (by decide +kernel)⟩
theorem im_X9_init : Cond.instanceMethod yX9_init ∈ sv_GT := sv_mem 68 (by decide +kernel) (by decide +kernel)
theorem ki_is_X9 : Cond.instantiable RX9 9 ∈ sv_GT := sv_mem 66 (by decide +kernel) (by decide +kernel)
theorem ki_ni_X9 : Cond.initialized RX9 ∈ sv_GT := sv_mem 51 (by decide +kernel) (by decide +kernel)
theorem ki_ob_X9 : Cond.methodLink RX9 1 objectInit ∈ sv_GT := sv_mem 70 (by decide +kernel) (by decide +kernel)
theorem ki_cl_X9_7 : Cond.classLink RX9 7 RX7 ∈ sv_GT := sv_mem 73 (by decide +kernel) (by decide +kernel)
theorem ki_mn_X9_9 : Cond.methodLinkNest RX9 9 yX7_init "ScreenVotes" ∈ k_NW := k_memN 75 (by decide +kernel) (by decide +kernel)
theorem ki_fl_X9_10 : Cond.fieldLink RX9 10 "ScreenVotes" "sheets" "LScreenVotes$Sheets;" ∈ sv_GT := sv_mem 271 (by decide +kernel) (by decide +kernel)
theorem ki_cl_X9_16 : Cond.classLink RX9 16 RX6 ∈ sv_GT := sv_mem 97 (by decide +kernel) (by decide +kernel)
theorem ki_ml_X9_18 : Cond.methodLink RX9 18 yX6_init ∈ sv_GT := sv_mem 99 (by decide +kernel) (by decide +kernel)
theorem ki_fl_X9_21 : Cond.fieldLink RX9 21 "ScreenVotes" "panel" "LScreenVotes$Panel;" ∈ sv_GT := sv_mem 272 (by decide +kernel) (by decide +kernel)
theorem ki_cl_X9_25 : Cond.classLink RX9 25 RX0 ∈ sv_GT := sv_mem 131 (by decide +kernel) (by decide +kernel)
theorem ki_mn_X9_27 : Cond.methodLinkNest RX9 27 yX0_init "ScreenVotes" ∈ k_NW := k_memN 133 (by decide +kernel) (by decide +kernel)
theorem ki_fl_X9_28 : Cond.fieldLink RX9 28 "ScreenVotes" "bylaw" "LScreenVotes$Bylaw;" ∈ sv_GT := sv_mem 273 (by decide +kernel) (by decide +kernel)
theorem ki_cl_X9_32 : Cond.classLink RX9 32 RX1 ∈ sv_GT := sv_mem 176 (by decide +kernel) (by decide +kernel)
theorem ki_ml_X9_34 : Cond.methodLink RX9 34 yX1_init ∈ sv_GT := sv_mem 178 (by decide +kernel) (by decide +kernel)
theorem ki_fl_X9_37 : Cond.fieldLink RX9 37 "ScreenVotes" "contest" "LScreenVotes$Contest;" ∈ sv_GT := sv_mem 274 (by decide +kernel) (by decide +kernel)
theorem ki_cl_X9_41 : Cond.classLink RX9 41 RX5 ∈ sv_GT := sv_mem 198 (by decide +kernel) (by decide +kernel)
theorem ki_ml_X9_43 : Cond.methodLink RX9 43 yX5_init ∈ sv_GT := sv_mem 200 (by decide +kernel) (by decide +kernel)
theorem ki_fl_X9_44 : Cond.fieldLink RX9 44 "ScreenVotes" "otherRules" "LScreenVotes$OtherRules;" ∈ sv_GT := sv_mem 275 (by decide +kernel) (by decide +kernel)
theorem ki_cl_X9_48 : Cond.classLink RX9 48 RX3 ∈ sv_GT := sv_mem 211 (by decide +kernel) (by decide +kernel)
theorem ki_ml_X9_50 : Cond.methodLink RX9 50 yX3_init ∈ sv_GT := sv_mem 213 (by decide +kernel) (by decide +kernel)
theorem ki_fl_X9_51 : Cond.fieldLink RX9 51 "ScreenVotes" "mornings" "LScreenVotes$Mornings;" ∈ sv_GT := sv_mem 276 (by decide +kernel) (by decide +kernel)
theorem ki_cl_X9_55 : Cond.classLink RX9 55 RX8 ∈ sv_GT := sv_mem 227 (by decide +kernel) (by decide +kernel)
theorem ki_mn_X9_57 : Cond.methodLinkNest RX9 57 yX8_init "ScreenVotes" ∈ k_NW := k_memN 229 (by decide +kernel) (by decide +kernel)
theorem ki_fl_X9_58 : Cond.fieldLink RX9 58 "ScreenVotes" "trials" "LScreenVotes$Trials;" ∈ sv_GT := sv_mem 277 (by decide +kernel) (by decide +kernel)
theorem ki_cl_X9_62 : Cond.classLink RX9 62 RX2 ∈ sv_GT := sv_mem 249 (by decide +kernel) (by decide +kernel)
theorem ki_mn_X9_64 : Cond.methodLinkNest RX9 64 yX2_init "ScreenVotes" ∈ k_NW := k_memN 251 (by decide +kernel) (by decide +kernel)
theorem ki_fl_X9_65 : Cond.fieldLink RX9 65 "ScreenVotes" "heard" "LScreenVotes$Heard;" ∈ sv_GT := sv_mem 278 (by decide +kernel) (by decide +kernel)
theorem ki_fl_X9_69 : Cond.fieldLink RX9 69 "ScreenVotes" "chances" "[I" ∈ sv_GT := sv_mem 279 (by decide +kernel) (by decide +kernel)
theorem dX9_init_0 : decode cX9_init 0 = .ok (.aload_n 0, 1) := by decide +kernel
theorem dX9_init_1 : decode cX9_init 1 = .ok (.invokespecial 1, 3) := by decide +kernel
theorem dX9_init_4 : decode cX9_init 4 = .ok (.aload_n 0, 1) := by decide +kernel
theorem dX9_init_5 : decode cX9_init 5 = .ok (.new 7, 3) := by decide +kernel
theorem dX9_init_8 : decode cX9_init 8 = .ok (.dup, 1) := by decide +kernel
theorem dX9_init_9 : decode cX9_init 9 = .ok (.invokespecial 9, 3) := by decide +kernel
theorem dX9_init_12 : decode cX9_init 12 = .ok (.putfield 10, 3) := by decide +kernel
theorem dX9_init_15 : decode cX9_init 15 = .ok (.aload_n 0, 1) := by decide +kernel
theorem dX9_init_16 : decode cX9_init 16 = .ok (.new 16, 3) := by decide +kernel
theorem dX9_init_19 : decode cX9_init 19 = .ok (.dup, 1) := by decide +kernel
theorem dX9_init_20 : decode cX9_init 20 = .ok (.aload_n 0, 1) := by decide +kernel
theorem dX9_init_21 : decode cX9_init 21 = .ok (.getfield 10, 3) := by decide +kernel
theorem dX9_init_24 : decode cX9_init 24 = .ok (.invokespecial 18, 3) := by decide +kernel
theorem dX9_init_27 : decode cX9_init 27 = .ok (.putfield 21, 3) := by decide +kernel
theorem dX9_init_30 : decode cX9_init 30 = .ok (.aload_n 0, 1) := by decide +kernel
theorem dX9_init_31 : decode cX9_init 31 = .ok (.new 25, 3) := by decide +kernel
theorem dX9_init_34 : decode cX9_init 34 = .ok (.dup, 1) := by decide +kernel
theorem dX9_init_35 : decode cX9_init 35 = .ok (.invokespecial 27, 3) := by decide +kernel
theorem dX9_init_38 : decode cX9_init 38 = .ok (.putfield 28, 3) := by decide +kernel
theorem dX9_init_41 : decode cX9_init 41 = .ok (.aload_n 0, 1) := by decide +kernel
theorem dX9_init_42 : decode cX9_init 42 = .ok (.new 32, 3) := by decide +kernel
theorem dX9_init_45 : decode cX9_init 45 = .ok (.dup, 1) := by decide +kernel
theorem dX9_init_46 : decode cX9_init 46 = .ok (.aload_n 0, 1) := by decide +kernel
theorem dX9_init_47 : decode cX9_init 47 = .ok (.getfield 21, 3) := by decide +kernel
theorem dX9_init_50 : decode cX9_init 50 = .ok (.aload_n 0, 1) := by decide +kernel
theorem dX9_init_51 : decode cX9_init 51 = .ok (.getfield 28, 3) := by decide +kernel
theorem dX9_init_54 : decode cX9_init 54 = .ok (.invokespecial 34, 3) := by decide +kernel
theorem dX9_init_57 : decode cX9_init 57 = .ok (.putfield 37, 3) := by decide +kernel
theorem dX9_init_60 : decode cX9_init 60 = .ok (.aload_n 0, 1) := by decide +kernel
theorem dX9_init_61 : decode cX9_init 61 = .ok (.new 41, 3) := by decide +kernel
theorem dX9_init_64 : decode cX9_init 64 = .ok (.dup, 1) := by decide +kernel
theorem dX9_init_65 : decode cX9_init 65 = .ok (.aload_n 0, 1) := by decide +kernel
theorem dX9_init_66 : decode cX9_init 66 = .ok (.getfield 21, 3) := by decide +kernel
theorem dX9_init_69 : decode cX9_init 69 = .ok (.aload_n 0, 1) := by decide +kernel
theorem dX9_init_70 : decode cX9_init 70 = .ok (.getfield 28, 3) := by decide +kernel
theorem dX9_init_73 : decode cX9_init 73 = .ok (.invokespecial 43, 3) := by decide +kernel
theorem dX9_init_76 : decode cX9_init 76 = .ok (.putfield 44, 3) := by decide +kernel
theorem dX9_init_79 : decode cX9_init 79 = .ok (.aload_n 0, 1) := by decide +kernel
theorem dX9_init_80 : decode cX9_init 80 = .ok (.new 48, 3) := by decide +kernel
theorem dX9_init_83 : decode cX9_init 83 = .ok (.dup, 1) := by decide +kernel
theorem dX9_init_84 : decode cX9_init 84 = .ok (.aload_n 0, 1) := by decide +kernel
theorem dX9_init_85 : decode cX9_init 85 = .ok (.getfield 21, 3) := by decide +kernel
theorem dX9_init_88 : decode cX9_init 88 = .ok (.aload_n 0, 1) := by decide +kernel
theorem dX9_init_89 : decode cX9_init 89 = .ok (.getfield 28, 3) := by decide +kernel
theorem dX9_init_92 : decode cX9_init 92 = .ok (.invokespecial 50, 3) := by decide +kernel
theorem dX9_init_95 : decode cX9_init 95 = .ok (.putfield 51, 3) := by decide +kernel
theorem dX9_init_98 : decode cX9_init 98 = .ok (.aload_n 0, 1) := by decide +kernel
theorem dX9_init_99 : decode cX9_init 99 = .ok (.new 55, 3) := by decide +kernel
theorem dX9_init_102 : decode cX9_init 102 = .ok (.dup, 1) := by decide +kernel
theorem dX9_init_103 : decode cX9_init 103 = .ok (.invokespecial 57, 3) := by decide +kernel
theorem dX9_init_106 : decode cX9_init 106 = .ok (.putfield 58, 3) := by decide +kernel
theorem dX9_init_109 : decode cX9_init 109 = .ok (.aload_n 0, 1) := by decide +kernel
theorem dX9_init_110 : decode cX9_init 110 = .ok (.new 62, 3) := by decide +kernel
theorem dX9_init_113 : decode cX9_init 113 = .ok (.dup, 1) := by decide +kernel
theorem dX9_init_114 : decode cX9_init 114 = .ok (.invokespecial 64, 3) := by decide +kernel
theorem dX9_init_117 : decode cX9_init 117 = .ok (.putfield 65, 3) := by decide +kernel
theorem dX9_init_120 : decode cX9_init 120 = .ok (.aload_n 0, 1) := by decide +kernel
theorem dX9_init_121 : decode cX9_init 121 = .ok (.iconst 5, 1) := by decide +kernel
theorem dX9_init_122 : decode cX9_init 122 = .ok (.newarray .int, 2) := by decide +kernel
theorem dX9_init_124 : decode cX9_init 124 = .ok (.dup, 1) := by decide +kernel
theorem dX9_init_125 : decode cX9_init 125 = .ok (.iconst 0, 1) := by decide +kernel
theorem dX9_init_126 : decode cX9_init 126 = .ok (.bipush 10, 2) := by decide +kernel
theorem dX9_init_128 : decode cX9_init 128 = .ok (.iastore, 1) := by decide +kernel
theorem dX9_init_129 : decode cX9_init 129 = .ok (.dup, 1) := by decide +kernel
theorem dX9_init_130 : decode cX9_init 130 = .ok (.iconst 1, 1) := by decide +kernel
theorem dX9_init_131 : decode cX9_init 131 = .ok (.bipush 30, 2) := by decide +kernel
theorem dX9_init_133 : decode cX9_init 133 = .ok (.iastore, 1) := by decide +kernel
theorem dX9_init_134 : decode cX9_init 134 = .ok (.dup, 1) := by decide +kernel
theorem dX9_init_135 : decode cX9_init 135 = .ok (.iconst 2, 1) := by decide +kernel
theorem dX9_init_136 : decode cX9_init 136 = .ok (.bipush 50, 2) := by decide +kernel
theorem dX9_init_138 : decode cX9_init 138 = .ok (.iastore, 1) := by decide +kernel
theorem dX9_init_139 : decode cX9_init 139 = .ok (.dup, 1) := by decide +kernel
theorem dX9_init_140 : decode cX9_init 140 = .ok (.iconst 3, 1) := by decide +kernel
theorem dX9_init_141 : decode cX9_init 141 = .ok (.bipush 70, 2) := by decide +kernel
theorem dX9_init_143 : decode cX9_init 143 = .ok (.iastore, 1) := by decide +kernel
theorem dX9_init_144 : decode cX9_init 144 = .ok (.dup, 1) := by decide +kernel
theorem dX9_init_145 : decode cX9_init 145 = .ok (.iconst 4, 1) := by decide +kernel
theorem dX9_init_146 : decode cX9_init 146 = .ok (.bipush 90, 2) := by decide +kernel
theorem dX9_init_148 : decode cX9_init 148 = .ok (.iastore, 1) := by decide +kernel
theorem dX9_init_149 : decode cX9_init 149 = .ok (.putfield 69, 3) := by decide +kernel
theorem dX9_init_152 : decode cX9_init 152 = .ok (.return_, 1) := by decide +kernel
def m_X10_init : sv_M := (yX10_init, cX10_init, 1, none, 1, 12)
theorem ca_X10_init : sv_cal m_X10_init 0 := ⟨(by decide +kernel), sv_mem 729 (by decide +kernel) (by decide +kernel), sv_mem 60 (by decide +kernel) (by decide +kernel), ⟨(by decide +kernel), (by decide +kernel)⟩, (by decide +kernel)⟩
theorem im_X10_init : Cond.instanceMethod yX10_init ∈ sv_GT := sv_mem 728 (by decide +kernel) (by decide +kernel)
theorem ki_is_X10 : Cond.instantiable RX10 28 ∈ sv_GT := sv_mem 726 (by decide +kernel) (by decide +kernel)
theorem ki_ni_X10 : Cond.initialized RX10 ∈ sv_GT := sv_mem 60 (by decide +kernel) (by decide +kernel)
theorem ki_ob_X10 : Cond.methodLink RX10 1 objectInit ∈ sv_GT := sv_mem 730 (by decide +kernel) (by decide +kernel)
theorem ki_fl_X10_7 : Cond.fieldLink RX10 7 "ScreenVotesModel" "kin" "[I" ∈ sv_GT := sv_mem 732 (by decide +kernel) (by decide +kernel)
theorem ki_fl_X10_13 : Cond.fieldLink RX10 13 "ScreenVotesModel" "line" "[I" ∈ sv_GT := sv_mem 733 (by decide +kernel) (by decide +kernel)
theorem ki_fl_X10_16 : Cond.fieldLink RX10 16 "ScreenVotesModel" "jurors" "I" ∈ sv_GT := sv_mem 734 (by decide +kernel) (by decide +kernel)
theorem ki_fl_X10_20 : Cond.fieldLink RX10 20 "ScreenVotesModel" "text" "[I" ∈ sv_GT := sv_mem 736 (by decide +kernel) (by decide +kernel)
theorem ki_fl_X10_23 : Cond.fieldLink RX10 23 "ScreenVotesModel" "shares" "[I" ∈ sv_GT := sv_mem 738 (by decide +kernel) (by decide +kernel)
theorem ki_fl_X10_26 : Cond.fieldLink RX10 26 "ScreenVotesModel" "places" "[I" ∈ sv_GT := sv_mem 739 (by decide +kernel) (by decide +kernel)
theorem ki_fl_X10_29 : Cond.fieldLink RX10 29 "ScreenVotesModel" "letters" "[I" ∈ sv_GT := sv_mem 740 (by decide +kernel) (by decide +kernel)
theorem ki_fl_X10_32 : Cond.fieldLink RX10 32 "ScreenVotesModel" "chances" "[I" ∈ sv_GT := sv_mem 743 (by decide +kernel) (by decide +kernel)
theorem ki_fl_X10_35 : Cond.fieldLink RX10 35 "ScreenVotesModel" "half" "[I" ∈ sv_GT := sv_mem 744 (by decide +kernel) (by decide +kernel)
theorem ki_fl_X10_38 : Cond.fieldLink RX10 38 "ScreenVotesModel" "tried" "[I" ∈ sv_GT := sv_mem 746 (by decide +kernel) (by decide +kernel)
theorem ki_fl_X10_41 : Cond.fieldLink RX10 41 "ScreenVotesModel" "weeks" "[I" ∈ sv_GT := sv_mem 747 (by decide +kernel) (by decide +kernel)
theorem ki_fl_X10_44 : Cond.fieldLink RX10 44 "ScreenVotesModel" "marks" "[I" ∈ sv_GT := sv_mem 748 (by decide +kernel) (by decide +kernel)
theorem ki_fl_X10_47 : Cond.fieldLink RX10 47 "ScreenVotesModel" "numbers" "[I" ∈ sv_GT := sv_mem 750 (by decide +kernel) (by decide +kernel)
theorem ki_fl_X10_50 : Cond.fieldLink RX10 50 "ScreenVotesModel" "years" "[I" ∈ sv_GT := sv_mem 751 (by decide +kernel) (by decide +kernel)
theorem ki_fl_X10_53 : Cond.fieldLink RX10 53 "ScreenVotesModel" "reached" "[I" ∈ sv_GT := sv_mem 752 (by decide +kernel) (by decide +kernel)
theorem ki_fl_X10_56 : Cond.fieldLink RX10 56 "ScreenVotesModel" "isThere" "[Z" ∈ sv_GT := sv_mem 753 (by decide +kernel) (by decide +kernel)
theorem ki_fl_X10_60 : Cond.fieldLink RX10 60 "ScreenVotesModel" "forms" "[I" ∈ sv_GT := sv_mem 754 (by decide +kernel) (by decide +kernel)
theorem ki_fl_X10_63 : Cond.fieldLink RX10 63 "ScreenVotesModel" "sizes" "[I" ∈ sv_GT := sv_mem 755 (by decide +kernel) (by decide +kernel)
theorem ki_fl_X10_66 : Cond.fieldLink RX10 66 "ScreenVotesModel" "items" "[I" ∈ sv_GT := sv_mem 756 (by decide +kernel) (by decide +kernel)
theorem ki_fl_X10_69 : Cond.fieldLink RX10 69 "ScreenVotesModel" "moved" "[I" ∈ sv_GT := sv_mem 757 (by decide +kernel) (by decide +kernel)
theorem dX10_init_0 : decode cX10_init 0 = .ok (.aload_n 0, 1) := by decide +kernel
theorem dX10_init_1 : decode cX10_init 1 = .ok (.invokespecial 1, 3) := by decide +kernel
theorem dX10_init_4 : decode cX10_init 4 = .ok (.aload_n 0, 1) := by decide +kernel
theorem dX10_init_5 : decode cX10_init 5 = .ok (.bipush 24, 2) := by decide +kernel
theorem dX10_init_7 : decode cX10_init 7 = .ok (.newarray .int, 2) := by decide +kernel
theorem dX10_init_9 : decode cX10_init 9 = .ok (.putfield 7, 3) := by decide +kernel
theorem dX10_init_12 : decode cX10_init 12 = .ok (.aload_n 0, 1) := by decide +kernel
theorem dX10_init_13 : decode cX10_init 13 = .ok (.bipush 24, 2) := by decide +kernel
theorem dX10_init_15 : decode cX10_init 15 = .ok (.newarray .int, 2) := by decide +kernel
theorem dX10_init_17 : decode cX10_init 17 = .ok (.putfield 13, 3) := by decide +kernel
theorem dX10_init_20 : decode cX10_init 20 = .ok (.aload_n 0, 1) := by decide +kernel
theorem dX10_init_21 : decode cX10_init 21 = .ok (.iconst 5, 1) := by decide +kernel
theorem dX10_init_22 : decode cX10_init 22 = .ok (.putfield 16, 3) := by decide +kernel
theorem dX10_init_25 : decode cX10_init 25 = .ok (.aload_n 0, 1) := by decide +kernel
theorem dX10_init_26 : decode cX10_init 26 = .ok (.bipush 60, 2) := by decide +kernel
theorem dX10_init_28 : decode cX10_init 28 = .ok (.newarray .int, 2) := by decide +kernel
theorem dX10_init_30 : decode cX10_init 30 = .ok (.putfield 20, 3) := by decide +kernel
theorem dX10_init_33 : decode cX10_init 33 = .ok (.aload_n 0, 1) := by decide +kernel
theorem dX10_init_34 : decode cX10_init 34 = .ok (.iconst 4, 1) := by decide +kernel
theorem dX10_init_35 : decode cX10_init 35 = .ok (.newarray .int, 2) := by decide +kernel
theorem dX10_init_37 : decode cX10_init 37 = .ok (.putfield 23, 3) := by decide +kernel
theorem dX10_init_40 : decode cX10_init 40 = .ok (.aload_n 0, 1) := by decide +kernel
theorem dX10_init_41 : decode cX10_init 41 = .ok (.iconst 4, 1) := by decide +kernel
theorem dX10_init_42 : decode cX10_init 42 = .ok (.newarray .int, 2) := by decide +kernel
theorem dX10_init_44 : decode cX10_init 44 = .ok (.putfield 26, 3) := by decide +kernel
theorem dX10_init_47 : decode cX10_init 47 = .ok (.aload_n 0, 1) := by decide +kernel
theorem dX10_init_48 : decode cX10_init 48 = .ok (.iconst 4, 1) := by decide +kernel
theorem dX10_init_49 : decode cX10_init 49 = .ok (.newarray .int, 2) := by decide +kernel
theorem dX10_init_51 : decode cX10_init 51 = .ok (.putfield 29, 3) := by decide +kernel
theorem dX10_init_54 : decode cX10_init 54 = .ok (.aload_n 0, 1) := by decide +kernel
theorem dX10_init_55 : decode cX10_init 55 = .ok (.iconst 5, 1) := by decide +kernel
theorem dX10_init_56 : decode cX10_init 56 = .ok (.newarray .int, 2) := by decide +kernel
theorem dX10_init_58 : decode cX10_init 58 = .ok (.dup, 1) := by decide +kernel
theorem dX10_init_59 : decode cX10_init 59 = .ok (.iconst 0, 1) := by decide +kernel
theorem dX10_init_60 : decode cX10_init 60 = .ok (.bipush 10, 2) := by decide +kernel
theorem dX10_init_62 : decode cX10_init 62 = .ok (.iastore, 1) := by decide +kernel
theorem dX10_init_63 : decode cX10_init 63 = .ok (.dup, 1) := by decide +kernel
theorem dX10_init_64 : decode cX10_init 64 = .ok (.iconst 1, 1) := by decide +kernel
theorem dX10_init_65 : decode cX10_init 65 = .ok (.bipush 30, 2) := by decide +kernel
theorem dX10_init_67 : decode cX10_init 67 = .ok (.iastore, 1) := by decide +kernel
theorem dX10_init_68 : decode cX10_init 68 = .ok (.dup, 1) := by decide +kernel
theorem dX10_init_69 : decode cX10_init 69 = .ok (.iconst 2, 1) := by decide +kernel
theorem dX10_init_70 : decode cX10_init 70 = .ok (.bipush 50, 2) := by decide +kernel
theorem dX10_init_72 : decode cX10_init 72 = .ok (.iastore, 1) := by decide +kernel
theorem dX10_init_73 : decode cX10_init 73 = .ok (.dup, 1) := by decide +kernel
theorem dX10_init_74 : decode cX10_init 74 = .ok (.iconst 3, 1) := by decide +kernel
theorem dX10_init_75 : decode cX10_init 75 = .ok (.bipush 70, 2) := by decide +kernel
theorem dX10_init_77 : decode cX10_init 77 = .ok (.iastore, 1) := by decide +kernel
theorem dX10_init_78 : decode cX10_init 78 = .ok (.dup, 1) := by decide +kernel
theorem dX10_init_79 : decode cX10_init 79 = .ok (.iconst 4, 1) := by decide +kernel
theorem dX10_init_80 : decode cX10_init 80 = .ok (.bipush 90, 2) := by decide +kernel
theorem dX10_init_82 : decode cX10_init 82 = .ok (.iastore, 1) := by decide +kernel
theorem dX10_init_83 : decode cX10_init 83 = .ok (.putfield 32, 3) := by decide +kernel
theorem dX10_init_86 : decode cX10_init 86 = .ok (.aload_n 0, 1) := by decide +kernel
theorem dX10_init_87 : decode cX10_init 87 = .ok (.iconst 4, 1) := by decide +kernel
theorem dX10_init_88 : decode cX10_init 88 = .ok (.newarray .int, 2) := by decide +kernel
theorem dX10_init_90 : decode cX10_init 90 = .ok (.putfield 35, 3) := by decide +kernel
theorem dX10_init_93 : decode cX10_init 93 = .ok (.aload_n 0, 1) := by decide +kernel
theorem dX10_init_94 : decode cX10_init 94 = .ok (.bipush 6, 2) := by decide +kernel
theorem dX10_init_96 : decode cX10_init 96 = .ok (.newarray .int, 2) := by decide +kernel
theorem dX10_init_98 : decode cX10_init 98 = .ok (.putfield 38, 3) := by decide +kernel
theorem dX10_init_101 : decode cX10_init 101 = .ok (.aload_n 0, 1) := by decide +kernel
theorem dX10_init_102 : decode cX10_init 102 = .ok (.bipush 6, 2) := by decide +kernel
theorem dX10_init_104 : decode cX10_init 104 = .ok (.newarray .int, 2) := by decide +kernel
theorem dX10_init_106 : decode cX10_init 106 = .ok (.putfield 41, 3) := by decide +kernel
theorem dX10_init_109 : decode cX10_init 109 = .ok (.aload_n 0, 1) := by decide +kernel
theorem dX10_init_110 : decode cX10_init 110 = .ok (.bipush 60, 2) := by decide +kernel
theorem dX10_init_112 : decode cX10_init 112 = .ok (.newarray .int, 2) := by decide +kernel
theorem dX10_init_114 : decode cX10_init 114 = .ok (.putfield 44, 3) := by decide +kernel
theorem dX10_init_117 : decode cX10_init 117 = .ok (.aload_n 0, 1) := by decide +kernel
theorem dX10_init_118 : decode cX10_init 118 = .ok (.bipush 60, 2) := by decide +kernel
theorem dX10_init_120 : decode cX10_init 120 = .ok (.newarray .int, 2) := by decide +kernel
theorem dX10_init_122 : decode cX10_init 122 = .ok (.putfield 47, 3) := by decide +kernel
theorem dX10_init_125 : decode cX10_init 125 = .ok (.aload_n 0, 1) := by decide +kernel
theorem dX10_init_126 : decode cX10_init 126 = .ok (.bipush 60, 2) := by decide +kernel
theorem dX10_init_128 : decode cX10_init 128 = .ok (.newarray .int, 2) := by decide +kernel
theorem dX10_init_130 : decode cX10_init 130 = .ok (.putfield 50, 3) := by decide +kernel
theorem dX10_init_133 : decode cX10_init 133 = .ok (.aload_n 0, 1) := by decide +kernel
theorem dX10_init_134 : decode cX10_init 134 = .ok (.bipush 60, 2) := by decide +kernel
theorem dX10_init_136 : decode cX10_init 136 = .ok (.newarray .int, 2) := by decide +kernel
theorem dX10_init_138 : decode cX10_init 138 = .ok (.putfield 53, 3) := by decide +kernel
theorem dX10_init_141 : decode cX10_init 141 = .ok (.aload_n 0, 1) := by decide +kernel
theorem dX10_init_142 : decode cX10_init 142 = .ok (.iconst 4, 1) := by decide +kernel
theorem dX10_init_143 : decode cX10_init 143 = .ok (.newarray .boolean, 2) := by decide +kernel
theorem dX10_init_145 : decode cX10_init 145 = .ok (.putfield 56, 3) := by decide +kernel
theorem dX10_init_148 : decode cX10_init 148 = .ok (.aload_n 0, 1) := by decide +kernel
theorem dX10_init_149 : decode cX10_init 149 = .ok (.iconst 4, 1) := by decide +kernel
theorem dX10_init_150 : decode cX10_init 150 = .ok (.newarray .int, 2) := by decide +kernel
theorem dX10_init_152 : decode cX10_init 152 = .ok (.putfield 60, 3) := by decide +kernel
theorem dX10_init_155 : decode cX10_init 155 = .ok (.aload_n 0, 1) := by decide +kernel
theorem dX10_init_156 : decode cX10_init 156 = .ok (.iconst 4, 1) := by decide +kernel
theorem dX10_init_157 : decode cX10_init 157 = .ok (.newarray .int, 2) := by decide +kernel
theorem dX10_init_159 : decode cX10_init 159 = .ok (.putfield 63, 3) := by decide +kernel
theorem dX10_init_162 : decode cX10_init 162 = .ok (.aload_n 0, 1) := by decide +kernel
theorem dX10_init_163 : decode cX10_init 163 = .ok (.sipush 960, 3) := by decide +kernel
theorem dX10_init_166 : decode cX10_init 166 = .ok (.newarray .int, 2) := by decide +kernel
theorem dX10_init_168 : decode cX10_init 168 = .ok (.putfield 66, 3) := by decide +kernel
theorem dX10_init_171 : decode cX10_init 171 = .ok (.aload_n 0, 1) := by decide +kernel
theorem dX10_init_172 : decode cX10_init 172 = .ok (.sipush 240, 3) := by decide +kernel
theorem dX10_init_175 : decode cX10_init 175 = .ok (.newarray .int, 2) := by decide +kernel
theorem dX10_init_177 : decode cX10_init 177 = .ok (.putfield 69, 3) := by decide +kernel
theorem dX10_init_180 : decode cX10_init 180 = .ok (.return_, 1) := by decide +kernel

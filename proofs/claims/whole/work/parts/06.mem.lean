/-! ===== fields, arrays ===== -/
def sv_cf (ci r0 : Nat) (C : String) (T : u_T) (N : Nat) (sl : List (Option Nat)) : Prop := vwCl[ci]? = some (C, T, N) ∧ (∀ w ∈ u_ws C T N, w ∈ sv_GT) ∧ sv_LT[r0]? = some (.inl (ci, sl)) ∧ ∃ ty0 : Nat → FieldType, (∀ k, k < N → parseFieldDescriptor (T k).2.2.1 = some (ty0 k)) ∧ ∀ a, a < N → ∀ b, b < N → a ≠ b → (T a).2.1 ≠ (T b).2.1
section SVM
variable {M : sv_M} {pc : Nat}
def o_gI (r0 j nx : Nat) : sv_O := fun k _ lv st μ => sv_r1 st (fun r t => bif Nat.beq r r0 then k nx lv (.int (μ r0 j) :: t) μ else False)
def o_gR (r0 q nx : Nat) : sv_O := fun k _ lv st μ => sv_r1 st (fun r t => bif Nat.beq r r0 then k nx lv (.ref q :: t) μ else False)
def o_pI (r0 j nx : Nat) : sv_O := fun k _ lv st μ => match st with
  | .int x :: .ref r :: t => bif Nat.beq r r0 then k nx lv t (sv_up μ r0 j x) else False
  | _ => False
theorem s_getI {ci r0 N j idx : Nat} {C : String} {T : u_T} {sl : List (Option Nat)} (cf : sv_cf ci r0 C T N sl) (hj : j < N) (hs : sl[j]? = some none) (hw : Cond.fieldLink M.1.cls idx (T j).1 (T j).2.1 (T j).2.2.1 ∈ sv_GT) (hd : decode M.2.1 pc = .ok (.getfield idx, 3)) : sv_Snd M pc (o_gI r0 j (pc + 3)) := by
  intro k Q lv st μ hk h
  obtain ⟨r, t, rfl, h⟩ := sv_r1_e h
  obtain ⟨hr, h⟩ := sv_bif h
  have hr := Nat.eq_of_beq_eq_true hr
  subst hr
  intro l p e R s m args below meth c cells slots Z A g CC H locs ls hW hl
  obtain ⟨hc, hin, hLT, -⟩ := cf
  exact va_get (v := .int (μ r j)) CC.1 CC.2.1 CC.2.2.2.2.1 hin CC.2.2.2.1 CC.2.2.2.2.2.2.2.1 hW.1 r (sv_ws_get g μ hLT) hc j hj (CC.2.2.2.2.1 _ hw) (fun _ h9 => h9) (by rw [sv_fl_get, hs]; simp) hd (hk _ _ _ _ h l p e R s m args below meth c cells slots Z A g CC H locs ls hW hl)
theorem s_getR {ci r0 N j q idx : Nat} {C : String} {T : u_T} {sl : List (Option Nat)} (cf : sv_cf ci r0 C T N sl) (hj : j < N) (hs : sl[j]? = some (some q)) (hw : Cond.fieldLink M.1.cls idx (T j).1 (T j).2.1 (T j).2.2.1 ∈ sv_GT) (hd : decode M.2.1 pc = .ok (.getfield idx, 3)) : sv_Snd M pc (o_gR r0 q (pc + 3)) := by
  intro k Q lv st μ hk h
  obtain ⟨r, t, rfl, h0⟩ := sv_r1_e h
  obtain ⟨hr, h1⟩ := sv_bif h0
  have hr := Nat.eq_of_beq_eq_true hr
  subst hr
  intro l p e R s m args below meth c cells slots Z A g CC H locs ls hW hl
  obtain ⟨hc, hin, hLT, -⟩ := cf
  exact va_get (v := .ref (g.2.1 q)) CC.1 CC.2.1 CC.2.2.2.2.1 hin CC.2.2.2.1 CC.2.2.2.2.2.2.2.1 hW.1 r (sv_ws_get g μ hLT) hc j hj (CC.2.2.2.2.1 _ hw) (fun _ h9 => h9) (by rw [sv_fl_get, hs]; simp) hd (hk _ _ _ _ h1 l p e R s m args below meth c cells slots Z A g CC H locs ls hW hl)
theorem s_getIN {ci r0 N j idx : Nat} {C host : String} {T : u_T} {sl : List (Option Nat)} (cf : sv_cf ci r0 C T N sl) (hj : j < N) (hs : sl[j]? = some none) (hw : Cond.fieldLinkNest M.1.cls idx (T j).1 (T j).2.1 (T j).2.2.1 host ∈ sv_NW) (hd : decode M.2.1 pc = .ok (.getfield idx, 3)) : sv_Snd M pc (o_gI r0 j (pc + 3)) := by
  intro k Q lv st μ hk h
  obtain ⟨r, t, rfl, h⟩ := sv_r1_e h
  obtain ⟨hr, h⟩ := sv_bif h
  have hr := Nat.eq_of_beq_eq_true hr
  subst hr
  intro l p e R s m args below meth c cells slots Z A g CC H locs ls hW hl
  obtain ⟨hc, hin, hLT, -⟩ := cf
  exact va_getN (v := .int (μ r j)) CC.1 CC.2.1 CC.2.2.2.2.1 hin CC.2.2.2.1 CC.2.2.2.2.2.2.2.1 hW.1 r (sv_ws_get g μ hLT) hc j hj (va_Nw.use rfl (CC.2.2.2.2.2.1 _ hw)) (fun _ h9 => h9) (by rw [sv_fl_get, hs]; simp) hd (hk _ _ _ _ h l p e R s m args below meth c cells slots Z A g CC H locs ls hW hl)
theorem s_getRN {ci r0 N j q idx : Nat} {C host : String} {T : u_T} {sl : List (Option Nat)} (cf : sv_cf ci r0 C T N sl) (hj : j < N) (hs : sl[j]? = some (some q)) (hw : Cond.fieldLinkNest M.1.cls idx (T j).1 (T j).2.1 (T j).2.2.1 host ∈ sv_NW) (hd : decode M.2.1 pc = .ok (.getfield idx, 3)) : sv_Snd M pc (o_gR r0 q (pc + 3)) := by
  intro k Q lv st μ hk h
  obtain ⟨r, t, rfl, h0⟩ := sv_r1_e h
  obtain ⟨hr, h1⟩ := sv_bif h0
  have hr := Nat.eq_of_beq_eq_true hr
  subst hr
  intro l p e R s m args below meth c cells slots Z A g CC H locs ls hW hl
  obtain ⟨hc, hin, hLT, -⟩ := cf
  exact va_getN (v := .ref (g.2.1 q)) CC.1 CC.2.1 CC.2.2.2.2.1 hin CC.2.2.2.1 CC.2.2.2.2.2.2.2.1 hW.1 r (sv_ws_get g μ hLT) hc j hj (va_Nw.use rfl (CC.2.2.2.2.2.1 _ hw)) (fun _ h9 => h9) (by rw [sv_fl_get, hs]; simp) hd (hk _ _ _ _ h1 l p e R s m args below meth c cells slots Z A g CC H locs ls hW hl)
theorem sv_pI_e {k : sv_K} {Q : sv_Po} {lv : sv_L} {st : List Value} {μ : sv_Mem} {r0 j nx : Nat} (h : o_pI r0 j nx k Q lv st μ) : ∃ x t, st = .int x :: .ref r0 :: t ∧ k nx lv t (sv_up μ r0 j x) := by
  unfold o_pI at h
  split at h
  · obtain ⟨hr, h⟩ := sv_bif h
    have hr := Nat.eq_of_beq_eq_true hr
    subst hr
    exact ⟨_, _, rfl, h⟩
  · exact h.elim
theorem sv_put_w {g : sv_G} {μ : sv_Mem} {r j ci : Nat} {sl : List (Option Nat)} {x : Int32} (hLT : sv_LT[r]? = some (.inl (ci, sl))) (hs : sl[j]? = some none) : (sv_ws g μ).set r (g.2.1 r, .inr (ci, (sv_fl g.2.1 (μ r) 0 sl).set j (.int x))) = sv_ws g (sv_up μ r j x) := by
  rw [sv_fl_set _ _ _ _ _ hs, sv_up_st]
  exact sv_ws_set g μ hLT (upd (μ r) j x)
theorem s_put {ci r0 N j idx : Nat} {C : String} {T : u_T} {sl : List (Option Nat)} (cf : sv_cf ci r0 C T N sl) (hj : j < N) (hs : sl[j]? = some none) (hw : Cond.fieldLink M.1.cls idx (T j).1 (T j).2.1 (T j).2.2.1 ∈ sv_GT) (hfin : (T j).2.2.2 = false) (hp : parseFieldDescriptor (T j).2.2.1 = some .int) (hd : decode M.2.1 pc = .ok (.putfield idx, 3)) : sv_Snd M pc (o_pI r0 j (pc + 3)) := by
  intro k Q lv st μ hk h
  obtain ⟨x, t, rfl, h1⟩ := sv_pI_e h
  intro l p e R s m args below meth c cells slots Z A g CC H locs ls hW hl
  obtain ⟨hc, hin, hLT, ty0, hty, hnm⟩ := cf
  refine va_put (v := .int x) (ty := .int) CC.1 CC.2.1 CC.2.2.2.2.1 hin ty0 hty hnm CC.2.2.2.1 CC.2.2.2.2.2.2.2.1 hW.1 hW.2.1 hW.2.2 r0 (sv_ws_get g μ hLT) hc j hj (CC.2.2.2.2.1 _ hw) (fun _ h9 => h9) hfin hp rfl rfl (by rw [sv_fl_len]; exact (List.getElem?_eq_some_iff.mp hs).1) hd (fun H1 locs1 hP hD hS => ?_)
  rw [sv_put_w hLT hs] at hP hD
  exact hk _ _ _ _ h1 l p e R s m args below meth c cells slots Z A g CC H1 locs1 ls ⟨hP, hD, hS⟩ hl
theorem s_putN {ci r0 N j idx : Nat} {C host : String} {T : u_T} {sl : List (Option Nat)} (cf : sv_cf ci r0 C T N sl) (hj : j < N) (hs : sl[j]? = some none) (hw : Cond.fieldLinkNest M.1.cls idx (T j).1 (T j).2.1 (T j).2.2.1 host ∈ sv_NW) (hfin : (T j).2.2.2 = false) (hp : parseFieldDescriptor (T j).2.2.1 = some .int) (hd : decode M.2.1 pc = .ok (.putfield idx, 3)) : sv_Snd M pc (o_pI r0 j (pc + 3)) := by
  intro k Q lv st μ hk h
  obtain ⟨x, t, rfl, h1⟩ := sv_pI_e h
  intro l p e R s m args below meth c cells slots Z A g CC H locs ls hW hl
  obtain ⟨hc, hin, hLT, ty0, hty, hnm⟩ := cf
  refine va_putN (v := .int x) (ty := .int) CC.1 CC.2.1 CC.2.2.2.2.1 hin ty0 hty hnm CC.2.2.2.1 CC.2.2.2.2.2.2.2.1 hW.1 hW.2.1 hW.2.2 r0 (sv_ws_get g μ hLT) hc j hj (va_Nw.use rfl (CC.2.2.2.2.2.1 _ hw)) (fun _ h9 => h9) hfin hp rfl rfl (by rw [sv_fl_len]; exact (List.getElem?_eq_some_iff.mp hs).1) hd (fun H1 locs1 hP hD hS => ?_)
  rw [sv_put_w hLT hs] at hP hD
  exact hk _ _ _ _ h1 l p e R s m args below meth c cells slots Z A g CC H1 locs1 ls ⟨hP, hD, hS⟩ hl
def sv_ln (r : Nat) (f : Nat → Prop) : Prop := match sv_LT[r]? with
  | some (.inr (0, n, _)) => f n
  | _ => False
def sv_lz (r : Nat) (f : Nat → Prop) : Prop := match sv_LT[r]? with
  | some (.inr (1, n, _)) => f n
  | _ => False
def sv_lg (r : Nat) (f : Nat → Nat → Prop) : Prop := match sv_LT[r]? with
  | some (.inr (2, n, q)) => f n q
  | _ => False
theorem sv_ln_e {r : Nat} {f : Nat → Prop} (h : sv_ln r f) : ∃ n q, sv_LT[r]? = some (.inr (0, n, q)) ∧ f n := by
  unfold sv_ln at h
  split at h
  · exact ⟨_, _, by assumption, h⟩
  · exact h.elim
theorem sv_lz_e {r : Nat} {f : Nat → Prop} (h : sv_lz r f) : ∃ n q, sv_LT[r]? = some (.inr (1, n, q)) ∧ f n := by
  unfold sv_lz at h
  split at h
  · exact ⟨_, _, by assumption, h⟩
  · exact h.elim
theorem sv_lg_e {r : Nat} {f : Nat → Nat → Prop} (h : sv_lg r f) : ∃ n q, sv_LT[r]? = some (.inr (2, n, q)) ∧ f n q := by
  unfold sv_lg at h
  split at h
  · exact ⟨_, _, by assumption, h⟩
  · exact h.elim
def o_ia (nx : Nat) : sv_O := fun k _ lv st μ => sv_ri st (fun r i t => sv_ln r (fun n => vp_in i n ∧ k nx lv (.int (μ r i.toNatClampNeg) :: t) μ))
def o_za (nx : Nat) : sv_O := fun k _ lv st μ => sv_ri st (fun r i t => sv_lz r (fun n => vp_in i n ∧ k nx lv (.int (μ r i.toNatClampNeg) :: t) μ))
def o_aa (nx : Nat) : sv_O := fun k _ lv st μ => sv_ri st (fun r i t => sv_lg r (fun n q => vp_in i n ∧ k nx lv (.ref (q + i.toNatClampNeg) :: t) μ))
def o_is3 (nx : Nat) : sv_O := fun k _ lv st μ => sv_rii st (fun r i x t => sv_ln r (fun n => vp_in i n ∧ k nx lv t (sv_up μ r i.toNatClampNeg x)))
def o_zs (nx : Nat) : sv_O := fun k _ lv st μ => sv_rii st (fun r i x t => sv_lz r (fun n => vp_in i n ∧ k nx lv t (sv_up μ r i.toNatClampNeg (vp_nar .boolean x))))
def o_len (nx : Nat) : sv_O := fun k _ lv st μ => sv_r1 st (fun r t => sv_ln r (fun n => k nx lv (.int (nI n) :: t) μ))
theorem s_iaload (hd : decode M.2.1 pc = .ok (.iaload, 1)) : sv_Snd M pc (o_ia (pc + 1)) := by
  intro k Q lv st μ hk h
  obtain ⟨r, i, t, rfl, h⟩ := sv_ri_e h
  obtain ⟨n, q, hLT, hin, h⟩ := sv_ln_e h
  intro l p e R s m args below meth c cells slots Z A g CC H locs ls hW hl
  exact va_iald CC.1 CC.2.1 CC.2.2.2.2.2.2.2.1 hW.1 r 0 (sv_ws_get g μ hLT) rfl hin hd (hk _ _ _ _ h l p e R s m args below meth c cells slots Z A g CC H locs ls hW hl)
theorem s_baload (hd : decode M.2.1 pc = .ok (.baload, 1)) : sv_Snd M pc (o_za (pc + 1)) := by
  intro k Q lv st μ hk h
  obtain ⟨r, i, t, rfl, h⟩ := sv_ri_e h
  obtain ⟨n, q, hLT, hin, h⟩ := sv_lz_e h
  intro l p e R s m args below meth c cells slots Z A g CC H locs ls hW hl
  exact va_zald CC.1 CC.2.1 CC.2.2.2.2.2.2.2.1 hW.1 r 1 (sv_ws_get g μ hLT) rfl hin hd (hk _ _ _ _ h l p e R s m args below meth c cells slots Z A g CC H locs ls hW hl)
theorem s_aaload (hd : decode M.2.1 pc = .ok (.aaload, 1)) : sv_Snd M pc (o_aa (pc + 1)) := by
  intro k Q lv st μ hk h
  obtain ⟨r, i, t, rfl, h⟩ := sv_ri_e h
  obtain ⟨n, q, hLT, hin, h⟩ := sv_lg_e h
  intro l p e R s m args below meth c cells slots Z A g CC H locs ls hW hl
  have hlt : i.toNatClampNeg < n := Nat.not_le.mp fun z => hin (Or.inr z)
  have ha := sv_ws_get g μ hLT
  have hK := CC.2.2.2.2.2.2.2.1
  have hv : va_rf (if i.toNatClampNeg < n then some (g.2.1 (q + i.toNatClampNeg)) else none) = .ref (g.2.1 (q + i.toNatClampNeg)) := by rw [if_pos hlt]; rfl
  exact W.aald (v := .ref (g.2.1 (q + i.toNatClampNeg))) (ty := .array .int) CC.1 CC.2.1 (hW.1 r _ ha) ((hK.2 2 _ rfl).1 n (fun j => va_rf (if j < n then some (g.2.1 (q + j)) else none))) rfl (fun z => by cases z) (by show ¬ (i < 0 ∨ (arrV _ _ _).slots.size ≤ _); rw [arrV_size]; exact hin) (by show (arrV _ _ _).slots[_]? = _; rw [arrV_read _ _ hlt, hv]) rfl rfl hd (hk _ _ _ _ h l p e R s m args below meth c cells slots Z A g CC H locs ls hW hl)
theorem s_iastore (hd : decode M.2.1 pc = .ok (.iastore, 1)) : sv_Snd M pc (o_is3 (pc + 1)) := by
  intro k Q lv st μ hk h
  obtain ⟨r, i, x, t, rfl, h⟩ := sv_rii_e h
  obtain ⟨n, q, hLT, hin, h⟩ := sv_ln_e h
  intro l p e R s m args below meth c cells slots Z A g CC H locs ls hW hl
  refine va_iast CC.1 CC.2.1 CC.2.2.2.2.2.2.2.1 hW.1 hW.2.1 hW.2.2 r 0 (sv_ws_get g μ hLT) rfl hin hd (fun H1 locs1 hP hD hS => ?_)
  have e1 := sv_ws_set g μ hLT (upd (μ r) i.toNatClampNeg x)
  rw [← sv_up_st] at e1
  exact hk _ _ _ _ h l p e R s m args below meth c cells slots Z A g CC H1 locs1 ls ⟨e1 ▸ hP, e1 ▸ hD, hS⟩ hl
theorem s_bastore (hd : decode M.2.1 pc = .ok (.bastore, 1)) : sv_Snd M pc (o_zs (pc + 1)) := by
  intro k Q lv st μ hk h
  obtain ⟨r, i, x, t, rfl, h⟩ := sv_rii_e h
  obtain ⟨n, q, hLT, hin, h⟩ := sv_lz_e h
  intro l p e R s m args below meth c cells slots Z A g CC H locs ls hW hl
  refine va_zast CC.1 CC.2.1 CC.2.2.2.2.2.2.2.1 hW.1 hW.2.1 hW.2.2 r 1 (sv_ws_get g μ hLT) rfl hin hd (fun H1 locs1 hP hD hS => ?_)
  have e1 := sv_ws_set g μ hLT (upd (μ r) i.toNatClampNeg (vp_nar .boolean x))
  rw [← sv_up_st] at e1
  exact hk _ _ _ _ h l p e R s m args below meth c cells slots Z A g CC H1 locs1 ls ⟨e1 ▸ hP, e1 ▸ hD, hS⟩ hl
theorem s_arraylength (hd : decode M.2.1 pc = .ok (.arraylength, 1)) : sv_Snd M pc (o_len (pc + 1)) := by
  intro k Q lv st μ hk h
  obtain ⟨r, t, rfl, h⟩ := sv_r1_e h
  obtain ⟨n, q, hLT, h⟩ := sv_ln_e h
  intro l p e R s m args below meth c cells slots Z A g CC H locs ls hW hl
  exact va_alen CC.1 CC.2.1 CC.2.2.2.2.2.2.2.1 hW.1 r 0 (sv_ws_get g μ hLT) rfl rfl hd (hk _ _ _ _ h l p e R s m args below meth c cells slots Z A g CC H locs ls hW hl)
/-! ===== returns ===== -/
def sv_zb (x : Int32) : Prop := narrow .boolean (.int x) = .int x
def o_ir : sv_O := fun _ Q _ st μ => match st with
  | [.int x] => Q (.int x) μ
  | _ => False
def o_zr : sv_O := fun _ Q _ st μ => match st with
  | [.int x] => sv_zb x ∧ Q (.int x) μ
  | _ => False
def o_lr : sv_O := fun _ Q _ st μ => match st with
  | [.long x] => Q (.long x) μ
  | _ => False
def o_vr : sv_O := fun _ Q _ st μ => match st with
  | [] => Q .null μ
  | _ => False
theorem s_ireturn (hd : decode M.2.1 pc = .ok (.ireturn, 1)) (hr : M.2.2.2.1 = some .int) : sv_Snd M pc o_ir := by
  intro k Q lv st μ hk h
  unfold o_ir at h
  split at h
  · rename_i x
    intro l p e R s m args below meth c cells slots Z A g CC H locs ls hW hl
    exact CC.2.2.2.2.2.2.2.2.2.2 (.int x) μ H locs pc ls ⟨hd, .int, hr, vp_nar_int x⟩ h hW
  · exact h.elim
theorem s_zreturn (hd : decode M.2.1 pc = .ok (.ireturn, 1)) (hr : M.2.2.2.1 = some .boolean) : sv_Snd M pc o_zr := by
  intro k Q lv st μ hk h
  unfold o_zr at h
  split at h
  · rename_i x
    intro l p e R s m args below meth c cells slots Z A g CC H locs ls hW hl
    exact CC.2.2.2.2.2.2.2.2.2.2 (.int x) μ H locs pc ls ⟨hd, .boolean, hr, h.1⟩ h.2 hW
  · exact h.elim
theorem s_lreturn (hd : decode M.2.1 pc = .ok (.lreturn, 1)) (hr : M.2.2.2.1 = some .long) : sv_Snd M pc o_lr := by
  intro k Q lv st μ hk h
  unfold o_lr at h
  split at h
  · rename_i x
    intro l p e R s m args below meth c cells slots Z A g CC H locs ls hW hl
    exact CC.2.2.2.2.2.2.2.2.2.2 (.long x) μ H locs pc ls ⟨hd, hr⟩ h hW
  · exact h.elim
theorem s_vreturn (hd : decode M.2.1 pc = .ok (.return_, 1)) (hr : M.2.2.2.1 = none) : sv_Snd M pc o_vr := by
  intro k Q lv st μ hk h
  unfold o_vr at h
  split at h
  · intro l p e R s m args below meth c cells slots Z A g CC H locs ls hW hl
    exact CC.2.2.2.2.2.2.2.2.2.2 .null μ H locs pc ls ⟨hd, hr⟩ h hW
  · exact h.elim
/-! ===== calls ===== -/
def sv_QI (K : Int32 → sv_Mem → Prop) : sv_Po := fun v μ => match v with
  | .int x => K x μ
  | _ => False
def sv_QL (K : Int64 → sv_Mem → Prop) : sv_Po := fun v μ => match v with
  | .long x => K x μ
  | _ => False
def sv_QV (K : sv_Mem → Prop) : sv_Po := fun v μ => match v with
  | .null => K μ
  | _ => False
/-- the method answers, and then K of the answer and the memory behind it -/
def sv_cI (M : sv_M) (as : List Value) (μ : sv_Mem) (K : Int32 → sv_Mem → Prop) : Prop := wp M 0 (lv_args 0 as) [] μ (sv_QI K)
def sv_cL (M : sv_M) (as : List Value) (μ : sv_Mem) (K : Int64 → sv_Mem → Prop) : Prop := wp M 0 (lv_args 0 as) [] μ (sv_QL K)
def sv_cV (M : sv_M) (as : List Value) (μ : sv_Mem) (K : sv_Mem → Prop) : Prop := wp M 0 (lv_args 0 as) [] μ (sv_QV K)
def sv_okS (M' : sv_M) (n : Nat) (st : List Value) : Bool := Nat.beq (st.take n).reverse.length n && (Nat.ble (sv_wn (st.take n).reverse) M'.2.2.1 && Nat.ble (sv_wn (st.drop n)) 8)
def sv_okV (M' : sv_M) (n r0 r : Nat) (st rest : List Value) : Bool := Nat.beq r r0 && (Nat.beq (st.take n).reverse.length n && (Nat.ble (sv_wn (.ref r0 :: (st.take n).reverse)) M'.2.2.1 && Nat.ble (sv_wn rest) 8))
def o_sI (M' : sv_M) (n nx : Nat) : sv_O := fun k _ lv st μ => bif sv_okS M' n st then sv_cI M' (st.take n).reverse μ (fun x μ' => k nx lv (.int x :: st.drop n) μ') else False
def o_sL (M' : sv_M) (n nx : Nat) : sv_O := fun k _ lv st μ => bif sv_okS M' n st then sv_cL M' (st.take n).reverse μ (fun x μ' => k nx lv (.long x :: st.drop n) μ') else False
def o_vI (M' : sv_M) (n r0 nx : Nat) : sv_O := fun k _ lv st μ => sv_r1 (st.drop n) (fun r rest => bif sv_okV M' n r0 r st rest then sv_cI M' (.ref r0 :: (st.take n).reverse) μ (fun x μ' => k nx lv (.int x :: rest) μ') else False)
def o_vL (M' : sv_M) (n r0 nx : Nat) : sv_O := fun k _ lv st μ => sv_r1 (st.drop n) (fun r rest => bif sv_okV M' n r0 r st rest then sv_cL M' (.ref r0 :: (st.take n).reverse) μ (fun x μ' => k nx lv (.long x :: rest) μ') else False)
def o_vV (M' : sv_M) (n r0 nx : Nat) : sv_O := fun k _ lv st μ => sv_r1 (st.drop n) (fun r rest => bif sv_okV M' n r0 r st rest then sv_cV M' (.ref r0 :: (st.take n).reverse) μ (fun μ' => k nx lv rest μ') else False)
def sv_in (M M' : sv_M) : Prop := M'.2.2.2.2.1 + 1 ≤ M.2.2.2.2.1 ∧ 8 + (M'.2.2.1 + 11) + M'.2.2.2.2.2 ≤ M.2.2.2.2.2
theorem sv_stS (ad : Nat → Nat) (n : Nat) (st : List Value) : st.map (sv_tr ad) = ((st.take n).reverse.map (sv_tr ad)).reverse ++ (st.drop n).map (sv_tr ad) := by
  rw [List.map_reverse, List.reverse_reverse, ← List.map_append, List.take_append_drop]
theorem sv_stV (ad : Nat → Nat) (n r : Nat) (st rest : List Value) (h : st.drop n = .ref r :: rest) : st.map (sv_tr ad) = ((st.take n).reverse.map (sv_tr ad)).reverse ++ .ref (ad r) :: rest.map (sv_tr ad) := by
  rw [sv_stS ad n st, h]
  rfl
theorem sv_genS {M' : sv_M} {n idx : Nat} {st : List Value} {lv : sv_L} {μ : sv_Mem} {Q Q' : sv_Po} (hc : sv_cal M' n) (h1 : Cond.methodLink M.1.cls idx M'.1 ∈ sv_GT) (h2 : Cond.static M'.1 ∈ sv_GT) (hf : sv_in M M') (hd : decode M.2.1 pc = .ok (.invokestatic idx, 3)) (ok : sv_okS M' n st = true) (hwp : wp M' 0 (lv_args 0 (st.take n).reverse) [] μ Q')
    (hk : ∀ v μ', Q' v μ' → wp M (pc + 3) lv ((sv_ro v).toList ++ st.drop n) μ' Q ∧ ∀ ad, ((sv_ro v).toList).map (sv_tr ad) = (sv_ro v).toList) : wp M pc lv st μ Q := by
  have o1 := (Bool.and_eq_true _ _).mp ok
  have o2 := (Bool.and_eq_true _ _).mp o1.2
  intro l p e R s m args below meth c cells slots Z A g CC H locs ls hW hl
  refine sv_runS (own := M.1.cls) (nL := M.2.2.1) ⟨CC.1, CC.2.1, CC.2.2.1, CC.2.2.2.1, CC.2.2.2.2.1⟩ hc h1 h2 ⟨Nat.le_trans hf.1 CC.2.2.2.2.2.2.1.1, Nat.le_trans hf.2 CC.2.2.2.2.2.2.1.2⟩ CC.2.2.2.2.2.2.2.2.2.1 CC.2.2.2.2.2.2.2.1 CC.2.2.2.2.2.1 CC.2.2.2.2.2.2.2.2.1 hW hl.1 (Nat.eq_of_beq_eq_true o1.1) (sv_stS g.2.1 n st) (by rw [sv_wn_sum]; exact Nat.le_of_ble_eq_true o2.2) (Nat.le_of_ble_eq_true o2.1) hd hwp (fun v μ' H1 locs1 hq hW1 => ?_)
  obtain ⟨h3, h4⟩ := hk v μ' hq
  have h5 := h3 l p e R s m args below meth c cells slots Z A g CC H1 locs1 ls hW1 hl
  rw [List.map_append, h4] at h5
  exact h5
theorem sv_genV {M' : sv_M} {n idx r0 ci : Nat} {sl : List (Option Nat)} {q : vw_C} {st rest : List Value} {lv : sv_L} {μ : sv_Mem} {Q Q' : sv_Po} (hc : sv_cal M' n) (h1 : Cond.methodLink M.1.cls idx M'.1 ∈ sv_GT) (h2 : Cond.instanceMethod M'.1 ∈ sv_GT) (h3 : Cond.selects M'.1.cls M'.1 M'.1 ∈ sv_GT) (hf : sv_in M M') (hLT : sv_LT[r0]? = some (.inl (ci, sl))) (hq : vwCl[ci]? = some q) (hqc : q.1 = M'.1.cls) (hd : decode M.2.1 pc = .ok (.invokevirtual idx, 3)) (hst : st.drop n = .ref r0 :: rest) (ok : sv_okV M' n r0 r0 st rest = true) (hwp : wp M' 0 (lv_args 0 (.ref r0 :: (st.take n).reverse)) [] μ Q')
    (hk : ∀ v μ', Q' v μ' → wp M (pc + 3) lv ((sv_ro v).toList ++ rest) μ' Q ∧ ∀ ad, ((sv_ro v).toList).map (sv_tr ad) = (sv_ro v).toList) : wp M pc lv st μ Q := by
  have o0 := (Bool.and_eq_true _ _).mp ok
  have o1 := (Bool.and_eq_true _ _).mp o0.2
  have o2 := (Bool.and_eq_true _ _).mp o1.2
  intro l p e R s m args below meth c cells slots Z A g CC H locs ls hW hl
  refine sv_runV (own := M.1.cls) (nL := M.2.2.1) ⟨CC.1, CC.2.1, CC.2.2.1, CC.2.2.2.1, CC.2.2.2.2.1⟩ hc h1 h2 h3 ⟨Nat.le_trans hf.1 CC.2.2.2.2.2.2.1.1, Nat.le_trans hf.2 CC.2.2.2.2.2.2.1.2⟩ CC.2.2.2.2.2.2.2.2.2.1 CC.2.2.2.2.2.2.2.1 CC.2.2.2.2.2.1 CC.2.2.2.2.2.2.2.2.1 hW hLT hq hqc hl.1 (Nat.eq_of_beq_eq_true o1.1) (sv_stV g.2.1 n r0 st rest hst) (by rw [sv_wn_sum]; exact Nat.le_of_ble_eq_true o2.2) (Nat.le_of_ble_eq_true o2.1) hd hwp (fun v μ' H1 locs1 hq hW1 => ?_)
  obtain ⟨h3, h4⟩ := hk v μ' hq
  have h5 := h3 l p e R s m args below meth c cells slots Z A g CC H1 locs1 ls hW1 hl
  rw [List.map_append, h4] at h5
  exact h5
theorem s_callSI {M' : sv_M} {n idx : Nat} (hc : sv_cal M' n) (h1 : Cond.methodLink M.1.cls idx M'.1 ∈ sv_GT) (h2 : Cond.static M'.1 ∈ sv_GT) (hf : sv_in M M') (hd : decode M.2.1 pc = .ok (.invokestatic idx, 3)) : sv_Snd M pc (o_sI M' n (pc + 3)) := by
  intro k Q lv st μ hk h
  obtain ⟨ok, h⟩ := sv_bif h
  refine sv_genS hc h1 h2 hf hd ok h (fun v μ' hq => ?_)
  cases v <;> first | exact hq.elim | exact ⟨hk _ _ _ _ hq, fun _ => rfl⟩
theorem s_callSL {M' : sv_M} {n idx : Nat} (hc : sv_cal M' n) (h1 : Cond.methodLink M.1.cls idx M'.1 ∈ sv_GT) (h2 : Cond.static M'.1 ∈ sv_GT) (hf : sv_in M M') (hd : decode M.2.1 pc = .ok (.invokestatic idx, 3)) : sv_Snd M pc (o_sL M' n (pc + 3)) := by
  intro k Q lv st μ hk h
  obtain ⟨ok, h⟩ := sv_bif h
  refine sv_genS hc h1 h2 hf hd ok h (fun v μ' hq => ?_)
  cases v <;> first | exact hq.elim | exact ⟨hk _ _ _ _ hq, fun _ => rfl⟩
theorem s_callVI {M' : sv_M} {n idx r0 ci N : Nat} {sl : List (Option Nat)} {C : String} {T : u_T} (cf : sv_cf ci r0 C T N sl) (hC : C = M'.1.cls) (hc : sv_cal M' n) (h1 : Cond.methodLink M.1.cls idx M'.1 ∈ sv_GT) (h2 : Cond.instanceMethod M'.1 ∈ sv_GT) (h3 : Cond.selects M'.1.cls M'.1 M'.1 ∈ sv_GT) (hf : sv_in M M') (hd : decode M.2.1 pc = .ok (.invokevirtual idx, 3)) : sv_Snd M pc (o_vI M' n r0 (pc + 3)) := by
  intro k Q lv st μ hk h
  obtain ⟨r, rest, hst, h⟩ := sv_r1_e h
  obtain ⟨ok, h⟩ := sv_bif h
  have hr := Nat.eq_of_beq_eq_true ((Bool.and_eq_true _ _).mp ok).1
  subst hr
  refine sv_genV hc h1 h2 h3 hf cf.2.2.1 cf.1 hC hd hst ok h (fun v μ' hq => ?_)
  cases v <;> first | exact hq.elim | exact ⟨hk _ _ _ _ hq, fun _ => rfl⟩
theorem s_callVL {M' : sv_M} {n idx r0 ci N : Nat} {sl : List (Option Nat)} {C : String} {T : u_T} (cf : sv_cf ci r0 C T N sl) (hC : C = M'.1.cls) (hc : sv_cal M' n) (h1 : Cond.methodLink M.1.cls idx M'.1 ∈ sv_GT) (h2 : Cond.instanceMethod M'.1 ∈ sv_GT) (h3 : Cond.selects M'.1.cls M'.1 M'.1 ∈ sv_GT) (hf : sv_in M M') (hd : decode M.2.1 pc = .ok (.invokevirtual idx, 3)) : sv_Snd M pc (o_vL M' n r0 (pc + 3)) := by
  intro k Q lv st μ hk h
  obtain ⟨r, rest, hst, h⟩ := sv_r1_e h
  obtain ⟨ok, h⟩ := sv_bif h
  have hr := Nat.eq_of_beq_eq_true ((Bool.and_eq_true _ _).mp ok).1
  subst hr
  refine sv_genV hc h1 h2 h3 hf cf.2.2.1 cf.1 hC hd hst ok h (fun v μ' hq => ?_)
  cases v <;> first | exact hq.elim | exact ⟨hk _ _ _ _ hq, fun _ => rfl⟩
theorem s_callVV {M' : sv_M} {n idx r0 ci N : Nat} {sl : List (Option Nat)} {C : String} {T : u_T} (cf : sv_cf ci r0 C T N sl) (hC : C = M'.1.cls) (hc : sv_cal M' n) (h1 : Cond.methodLink M.1.cls idx M'.1 ∈ sv_GT) (h2 : Cond.instanceMethod M'.1 ∈ sv_GT) (h3 : Cond.selects M'.1.cls M'.1 M'.1 ∈ sv_GT) (hf : sv_in M M') (hd : decode M.2.1 pc = .ok (.invokevirtual idx, 3)) : sv_Snd M pc (o_vV M' n r0 (pc + 3)) := by
  intro k Q lv st μ hk h
  obtain ⟨r, rest, hst, h⟩ := sv_r1_e h
  obtain ⟨ok, h⟩ := sv_bif h
  have hr := Nat.eq_of_beq_eq_true ((Bool.and_eq_true _ _).mp ok).1
  subst hr
  refine sv_genV hc h1 h2 h3 hf cf.2.2.1 cf.1 hC hd hst ok h (fun v μ' hq => ?_)
  cases v <;> first | exact hq.elim | exact ⟨hk _ _ _ _ hq, fun _ => rfl⟩
/-- System.arraycopy of int arrays -/
def o_cp (nx : Nat) : sv_O := fun k _ lv st μ => match st with
  | .int n :: .int dp :: .ref t :: .int sp :: .ref s :: rest => bif Nat.ble (sv_wn rest) 8 then sv_ln s (fun n0 => sv_ln t (fun n1 => ¬ sp < 0 ∧ ¬ dp < 0 ∧ ¬ n < 0 ∧ sp.toNatClampNeg + n.toNatClampNeg ≤ n0 ∧ dp.toNatClampNeg + n.toNatClampNeg ≤ n1 ∧ k nx lv rest (sv_st μ t (va_cpy (μ s) (μ t) sp.toNatClampNeg dp.toNatClampNeg n.toNatClampNeg)))) else False
  | _ => False
theorem s_copy {idx : Nat} (h1 : Cond.methodLink M.1.cls idx arraycopyName ∈ sv_GT) (h2 : Cond.native arraycopyName ∈ sv_GT) (h3 : Cond.static arraycopyName ∈ sv_GT) (h4 : Cond.initialized "java/lang/System" ∈ sv_GT) (hf : 1 ≤ M.2.2.2.2.1) (hl0 : 8 + (nativeFrameWords "java/lang/System" "arraycopy" 5 + 11) ≤ M.2.2.2.2.2) (hd : decode M.2.1 pc = .ok (.invokestatic idx, 3)) : sv_Snd M pc (o_cp (pc + 3)) := by
  intro k Q lv st μ hk h
  unfold o_cp at h
  split at h
  · rename_i n dp t sp s0 rest
    obtain ⟨hw, h⟩ := sv_bif h
    obtain ⟨n0, q0, hs, h⟩ := sv_ln_e h
    obtain ⟨n1, q1, ht, a1, a2, a3, a4, a5, h⟩ := sv_ln_e h
    intro l p e R s m args below meth c cells slots Z A g CC H locs ls hW hl
    have hts := CC.2.2.2.2.1
    have hsum := sv_wn_sum g.2.1 rest
    have hle := Nat.le_of_ble_eq_true hw
    refine va_copyi CC.1 CC.2.1 (CC.2.2.1.trans hl.1.symm) CC.2.2.2.1 (hts _ h1) (hts _ h2) (hts _ h3) (hts _ h4) CC.2.2.2.2.2.2.2.1 hW.1 hW.2.1 hW.2.2 s0 t 0 0 (sv_ws_get g μ hs) (sv_ws_get g μ ht) rfl rfl rfl a1 a2 a3 a4 a5 (fun _ _ => rfl) (Nat.le_trans hf CC.2.2.2.2.2.2.1.1) (Nat.le_trans (Nat.add_le_add_right (by rw [hsum]; exact hle) _) (Nat.le_trans hl0 CC.2.2.2.2.2.2.1.2)) hd (fun H1 locs1 hP hD hS => ?_)
    have e1 := sv_ws_set g μ ht (va_cpy (μ s0) (μ t) sp.toNatClampNeg dp.toNatClampNeg n.toNatClampNeg)
    exact hk _ _ _ _ h l p e R s m args below meth c cells slots Z A g CC H1 locs1 ls ⟨e1 ▸ hP, e1 ▸ hD, hS⟩ hl
  · exact h.elim
/-! ===== switches ===== -/
def sv_swc : List (Int32 × Nat) → Nat → Int32 → (Nat → Prop) → Prop
  | [], d, _, f => f d
  | q :: r, d, x, f => (x = q.1 → f q.2) ∧ (¬ x = q.1 → sv_swc r d x f)
def sv_tgt : List (Int32 × Nat) → Nat → Int32 → Nat
  | [], d, _ => d
  | q :: r, d, x => if x = q.1 then q.2 else sv_tgt r d x
theorem sv_swc_e {d : Nat} {x : Int32} {f : Nat → Prop} : ∀ {cs : List (Int32 × Nat)}, sv_swc cs d x f → f (sv_tgt cs d x)
  | [], h => h
  | q :: r, h => by
    unfold sv_tgt
    by_cases e : x = q.1
    · rw [if_pos e]; exact h.1 e
    · rw [if_neg e]; exact sv_swc_e (h.2 e)
def o_sw (cs : List (Int32 × Nat)) (d : Nat) : sv_O := fun k _ lv st μ => sv_p1 st (fun x t => sv_swc cs d x (fun pc' => k pc' lv t μ))
theorem s_table {dflt lo hi : Int} {offs : Array Int} {len : Nat} {cs : List (Int32 × Nat)} {d : Nat} (hd : decode M.2.1 pc = .ok (.tableswitch dflt lo hi offs, len))
    (H1 : ∀ x : Int32, x.toInt < lo ∨ hi < x.toInt → (pc : Int) + dflt = (sv_tgt cs d x : Nat)) (H2 : ∀ x : Int32, ¬ x.toInt < lo → ¬ hi < x.toInt → ∃ off, offs[(x.toInt - lo).toNat]? = some off ∧ (pc : Int) + off = (sv_tgt cs d x : Nat)) : sv_Snd M pc (o_sw cs d) := by
  intro k Q lv st μ hk h
  obtain ⟨x, t, rfl, h⟩ := sv_p1_e h
  have h := sv_swc_e h
  by_cases e : x.toInt < lo ∨ hi < x.toInt
  · exact sv_pure (hk _ _ _ _ h) (fun g hx hb _ _ hl K => lv_tableOut hx hb hd e (H1 x e) K)
  · obtain ⟨off, h1, h2⟩ := H2 x (fun z => e (Or.inl z)) (fun z => e (Or.inr z))
    exact sv_pure (hk _ _ _ _ h) (fun g hx hb _ _ hl K => lv_tableIn hx hb hd (fun z => e (Or.inl z)) (fun z => e (Or.inr z)) h1 h2 K)
theorem s_lookup {dflt : Int} {ps : Array (Int × Int)} {len : Nat} {cs : List (Int32 × Nat)} {d : Nat} (hd : decode M.2.1 pc = .ok (.lookupswitch dflt ps, len)) (hp : (ps.toList.zip (ps.toList.drop 1)).all (fun (a, next) => a.1 < next.1) = true)
    (H1 : ∀ x : Int32, (pc : Int) + Op.lookupswitch.offset ps.toList dflt x.toInt = (sv_tgt cs d x : Nat)) : sv_Snd M pc (o_sw cs d) := by
  intro k Q lv st μ hk h
  obtain ⟨x, t, rfl, h⟩ := sv_p1_e h
  have h := sv_swc_e h
  exact sv_pure (hk _ _ _ _ h) (fun g hx hb _ _ hl K => lv_lookup hx hb hd hp rfl (H1 x) K)
end SVM
/-! ===== many instructions at once ===== -/
abbrev sv_Cd : Type := List (Nat × sv_O)
def sv_fe : sv_Cd → Nat → Option sv_O
  | [], _ => none
  | q :: t, i => bif Nat.beq q.1 i then some q.2 else sv_fe t i
theorem sv_fe_mem : ∀ {cd : sv_Cd} {i : Nat} {o : sv_O}, sv_fe cd i = some o → (i, o) ∈ cd
  | [], i, v, h => by simp [sv_fe] at h
  | q :: t, i, v, h => by
    unfold sv_fe at h
    cases hb : Nat.beq q.1 i with
    | true =>
      rw [hb] at h
      have h1 : q.1 = i := Nat.eq_of_beq_eq_true hb
      have h2 : q.2 = v := Option.some.inj h
      rw [← h1, ← h2]
      exact List.mem_cons_self
    | false =>
      rw [hb] at h
      exact List.mem_cons_of_mem _ (sv_fe_mem h)
def sv_ct : List (Nat × Nat) → Nat → Option Nat
  | [], _ => none
  | q :: t, i => bif Nat.beq q.1 i then some q.2 else sv_ct t i
def sv_tk (b : Nat) : sv_L → sv_L
  | [] => []
  | q :: t => bif Nat.blt q.1 b then q :: sv_tk b t else sv_tk b t
theorem sv_tk_mem {b : Nat} : ∀ {lv : sv_L} {q : Nat × Value}, q ∈ sv_tk b lv → q ∈ lv
  | [], q, h => h
  | r :: t, q, h => by
    unfold sv_tk at h
    cases hb : Nat.blt r.1 b with
    | true =>
      rw [hb] at h
      rcases List.mem_cons.mp h with h | h
      · rw [h]; exact List.mem_cons_self
      · exact List.mem_cons_of_mem _ (sv_tk_mem h)
    | false =>
      rw [hb] at h
      exact List.mem_cons_of_mem _ (sv_tk_mem h)
/-- the next of it, or what an instruction asks -/
def sv_1 (cd : sv_Cd) (Q : sv_Po) (k : sv_K) : sv_K := fun pc lv st μ => match sv_fe cd pc with
  | some o => o k Q lv st μ
  | none => False
def sv_2 (M : sv_M) (cuts : List (Nat × Nat)) (Q : sv_Po) (k : sv_K) : sv_K := fun pc lv st μ => match sv_ct cuts pc with
  | some b => wp M pc (sv_tk b lv) st μ Q
  | none => k pc lv st μ
def sv_vc (M : sv_M) (cd : sv_Cd) (cuts : List (Nat × Nat)) (Q : sv_Po) : Nat → sv_K
  | 0 => fun pc lv st μ => wp M pc lv st μ Q
  | n + 1 => sv_2 M cuts Q (sv_1 cd Q (sv_vc M cd cuts Q n))
theorem sv_1_s {M : sv_M} {cd : sv_Cd} {Q : sv_Po} {k : sv_K} (hcd : ∀ q ∈ cd, sv_Snd M q.1 q.2) (hk : ∀ pc' lv' st' μ', k pc' lv' st' μ' → wp M pc' lv' st' μ' Q) {pc : Nat} {lv : sv_L} {st : List Value} {μ : sv_Mem} (h : sv_1 cd Q k pc lv st μ) : wp M pc lv st μ Q := by
  unfold sv_1 at h
  split at h
  · rename_i o ho
    exact hcd _ (sv_fe_mem ho) k Q lv st μ hk h
  · exact h.elim
theorem sv_vc_s {M : sv_M} {cd : sv_Cd} {cuts : List (Nat × Nat)} {Q : sv_Po} (hcd : ∀ q ∈ cd, sv_Snd M q.1 q.2) : ∀ (n : Nat) (pc : Nat) (lv : sv_L) (st : List Value) (μ : sv_Mem), sv_vc M cd cuts Q n pc lv st μ → wp M pc lv st μ Q
  | 0, _, _, _, _, h => h
  | n + 1, pc, lv, st, μ, h => by
    have h : sv_2 M cuts Q (sv_1 cd Q (sv_vc M cd cuts Q n)) pc lv st μ := h
    unfold sv_2 at h
    split at h
    · exact wp_sub h (fun q hq => sv_tk_mem hq)
    · exact sv_1_s hcd (sv_vc_s hcd n) h
/-- from a place of a method on: what the instructions ask, up to the cuts -/
theorem sv_go {M : sv_M} {cd : sv_Cd} {Q : sv_Po} (hcd : ∀ q ∈ cd, sv_Snd M q.1 q.2) (cuts : List (Nat × Nat)) (n : Nat) {pc : Nat} {lv : sv_L} {st : List Value} {μ : sv_Mem} (h : sv_1 cd Q (sv_vc M cd cuts Q n) pc lv st μ) : wp M pc lv st μ Q := sv_1_s hcd (sv_vc_s hcd n) h

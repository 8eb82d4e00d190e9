/-! ===== methods, worlds, the judgement wp ===== -/
/-- name, code, locals, what it returns, frames and locals of its room -/
abbrev sv_M : Type := MethodName × ByteArray × Nat × Option FieldType × Nat × Nat
def sv_tys (g : sv_G) : List (ClassId × FieldType) := [(g.2.2.1, .int), (g.2.2.2.1, .boolean), (g.2.2.2.2, .array .int)]
def sv_rt (M : sv_M) (pc : Nat) (v : Value) : Prop := match v with
  | .int x => decode M.2.1 pc = .ok (.ireturn, 1) ∧ ∃ ty, M.2.2.2.1 = some ty ∧ narrow ty (.int x) = .int x
  | .long _ => decode M.2.1 pc = .ok (.lreturn, 1) ∧ M.2.2.2.1 = some .long
  | .null => decode M.2.1 pc = .ok (.return_, 1) ∧ M.2.2.2.1 = none
  | _ => False
def sv_ro (v : Value) : Option Value := match v with
  | .null => none
  | v => some v
def sv_Wd (g : sv_G) (A : Nat → Prop) (s : State) (H : Heap) (locs : List Loc) (μ : sv_Mem) : Prop := va_P g.1 vwCl (sv_ws g μ) H ∧ va_D A (sv_ws g μ) ∧ va_S A s.heap H locs
def sv_Cx (M : sv_M) (l : Launch) (p : Program) (e : Env) (R : Room) (s : State) (m : MethodId) (args : Array Value) (below : List Frame) (meth : Method) (c : Code) (cells slots : Nat) (Z : State → Prop) (A : Nat → Prop) (g : sv_G) (Q : Value → sv_Mem → Prop) : Prop :=
  p.tables.exec = Jvm.exec ∧ c.code = M.2.1 ∧ c.maxLocals = M.2.2.1 ∧ s.vm.findClass M.1.cls = some m.cls ∧ (∀ w ∈ sv_GT, w.before args s = true) ∧ sv_Nw s ∧ (M.2.2.2.2.1 ≤ R.frames ∧ M.2.2.2.2.2 ≤ R.locals) ∧ va_K g.1 vwCl (sv_tys g) s ∧ (∀ q : Nat, s.heap.size ≤ q → A q) ∧ (cells ≤ R.cells ∧ slots ≤ R.slots) ∧
  (∀ (v : Value) (μ' : sv_Mem) (H' : Heap) (locs' : List Loc) (pc' : Nat) (ls' : Array Slot), sv_rt M pc' v → Q v μ' → sv_Wd g A s H' locs' μ' → W p l e R s m args below meth c H' locs' cells slots Z (F0 m pc' ls' (sv_ro v).toList))
def wp (M : sv_M) (pc : Nat) (lv : sv_L) (st : List Value) (μ : sv_Mem) (Q : Value → sv_Mem → Prop) : Prop :=
  ∀ (l : Launch) (p : Program) (e : Env) (R : Room) (s : State) (m : MethodId) (args : Array Value) (below : List Frame) (meth : Method) (c : Code) (cells slots : Nat) (Z : State → Prop) (A : Nat → Prop) (g : sv_G), sv_Cx M l p e R s m args below meth c cells slots Z A g Q →
    ∀ (H : Heap) (locs : List Loc) (ls : Array Slot), sv_Wd g A s H locs μ → lv_has ls M.2.2.1 (sv_tl g.2.1 lv) → W p l e R s m args below meth c H locs cells slots Z (F0 m pc ls (st.map (sv_tr g.2.1)))
theorem wp_mono {M : sv_M} {pc : Nat} {lv : sv_L} {st : List Value} {μ : sv_Mem} {Q Q' : Value → sv_Mem → Prop} (h : wp M pc lv st μ Q) (hq : ∀ v μ', Q v μ' → Q' v μ') : wp M pc lv st μ Q' := by
  intro l p e R s m args below meth c cells slots Z A g C H locs ls hW hl
  obtain ⟨c1, c2, c3, c4, c5, c6, c7, c8, c9, c10, RH⟩ := C
  exact h l p e R s m args below meth c cells slots Z A g ⟨c1, c2, c3, c4, c5, c6, c7, c8, c9, c10, fun v μ' H' locs' pc' ls' a1 a2 a3 => RH v μ' H' locs' pc' ls' a1 (hq v μ' a2) a3⟩ H locs ls hW hl
theorem wp_sub {M : sv_M} {pc : Nat} {lv lv' : sv_L} {st : List Value} {μ : sv_Mem} {Q : Value → sv_Mem → Prop} (h : wp M pc lv' st μ Q) (hs : ∀ q ∈ lv', q ∈ lv) : wp M pc lv st μ Q :=
  fun l p e R s m args below meth c cells slots Z A g C H locs ls hW hl => h l p e R s m args below meth c cells slots Z A g C H locs ls hW (sv_has_sub hl hs)
/-! ===== a method's contract out of wp at its entry ===== -/
def sv_wd (M : sv_M) : List Cond := Cond.code M.1 M.2.1 M.2.2.1 M.2.2.2.1 :: sv_GT
def sv_rm (M : sv_M) : Room := { frames := M.2.2.2.2.1, cells := 0, slots := 0, locals := M.2.2.2.2.2 }
def sv_B (g : sv_G) (μ : sv_Mem) (sz : Nat) (U : State) : Prop := U.heap.size = sz ∧ va_P g.1 vwCl (sv_ws g μ) U.heap ∧ va_K g.1 vwCl (sv_tys g) U ∧ va_D (fun _ => True) (sv_ws g μ) ∧ sv_Nw U
def sv_Qc (g : sv_G) (A : Nat → Prop) (Q : Value → sv_Mem → Prop) : Array Value → State → Outcome → State → Prop := fun _ st oc t =>
  (∃ (v : Value) (μ' : sv_Mem), oc = .returned (sv_ro v) ∧ Q v μ' ∧ va_P g.1 vwCl (sv_ws g μ') t.heap ∧ va_K g.1 vwCl (sv_tys g) t ∧ va_D A (sv_ws g μ')) ∧ va_F A st t
def sv_wn : List Value → Nat
  | [] => 0
  | v :: t => v.category + sv_wn t
theorem sv_wn_map (ad : Nat → Nat) : ∀ (vs : List Value), (lg_sl (vs.map (sv_tr ad))).length = sv_wn vs
  | [] => rfl
  | v :: t => by
    have ih := sv_wn_map ad t
    unfold lg_sl at ih ⊢
    rw [List.map_cons, List.flatMap_cons, List.length_append, ih, sv_tr_cat]
    rcases lv_cat v with h | h <;> simp [h, sv_wn]
theorem sv_wn_sum (ad : Nat → Nat) : ∀ (vs : List Value), ((vs.map (sv_tr ad)).map fun v => v.category).sum = sv_wn vs
  | [] => rfl
  | v :: t => by
    have ih := sv_wn_sum ad t
    simp only [List.map_cons, List.sum_cons, sv_tr_cat, sv_wn]
    rw [ih]
theorem sv_args_tl (ad : Nat → Nat) : ∀ (vs : List Value) (i : Nat), lv_args i (vs.map (sv_tr ad)) = sv_tl ad (lv_args i vs)
  | [], i => rfl
  | v :: t, i => by
    simp only [List.map_cons, lv_args, sv_tr_cat]
    rw [sv_args_tl ad t]
    rfl
theorem sv_met {l : Launch} {g : sv_G} {M : sv_M} {as : List Value} {μ : sv_Mem} {Q : Value → sv_Mem → Prop} (hwp : wp M 0 (lv_args 0 as) [] μ Q) (hn : plainName M.1.cls = true) (hwn : sv_wn as ≤ M.2.2.1) (sz : Nat) :
    Met l M.1 (sv_wd M) (sv_rm M) (va_Pc (as.map (sv_tr g.2.1)) (sv_B g μ sz)) (sv_Qc g (va_A (sv_ws g μ) sz) Q) 0 0 (va_A (sv_ws g μ) sz) := by
  refine Met.ofW (cc := M.2.1) (maxL := M.2.2.1) (ret := M.2.2.2.1) hn rfl ?_
  intro p e s m args below meth c s₁ B hml hv
  obtain ⟨rfl, hsz, hP, hK, hD0, hN⟩ := hv
  have hx := B.exec
  have hb := B.bytes
  have hr := B.returns
  have hts := atoms_spec (ws := sv_wd M) B.pre
  have hown : s.vm.findClass M.1.cls = some m.cls := findClass_of_methodNamed B.named
  have hlocks := B.notSynchronized
  subst hsz
  have hD := hD0.self (sz := s.heap.size)
  generalize hAe : va_A (sv_ws g μ) s.heap.size = A at hD ⊢
  have hA : ∀ q : Nat, s.heap.size ≤ q → A q := fun q h => by rw [← hAe]; exact Or.inr h
  have hS : va_S A s.heap s.heap [] := va_S.rf
  have hl := lv_entry (as.map (sv_tr g.2.1)) (n := M.2.2.1) (by rw [sv_wn_map]; exact hwn)
  rw [lg_entry_eq]
  generalize (lg_sl (as.map (sv_tr g.2.1)) ++ List.replicate (M.2.2.1 - (lg_sl (as.map (sv_tr g.2.1))).length) Slot.unset).toArray = ls at hl ⊢
  rw [sv_args_tl] at hl
  refine hwp l p e _ s m _ below meth c 0 0 _ A g ⟨hx, hb, hml, hown, fun w h => hts w (List.mem_cons_of_mem _ h), hN, ⟨Nat.le_refl _, Nat.le_refl _⟩, hK, hA, ⟨Nat.zero_le _, Nat.zero_le _⟩, ?_⟩ _ _ ls ⟨hP, hD, hS⟩ hl
  intro v μ' H' locs' pc' ls' hrt hq hWd
  obtain ⟨hP', hD', hS'⟩ := hWd
  have fin : ∀ t : State, t.heap = H' → s.WarmedH t.vm → sv_Qc g A Q (as.map (sv_tr g.2.1)).toArray s (.returned (sv_ro v)) t := fun t ht hW => ⟨⟨v, μ', rfl, hq, by rw [ht]; exact hP', va_K.moved hW.alike hK, hD'⟩, hS'.F ht⟩
  cases v with
  | int x =>
    obtain ⟨h1, ty, h2, h3⟩ := hrt
    exact W.zret hx hb (hr.trans h2) h3 fin hS'.2.2 h1
  | long x =>
    obtain ⟨h1, h2⟩ := hrt
    exact W.lret hx hb (hr.trans h2) fin hS'.2.2 h1
  | null =>
    obtain ⟨h1, h2⟩ := hrt
    exact W.vret hx hb (hr.trans h2) fin hS'.2.2 h1
  | _ => exact hrt.elim
/-! ===== behind a call ===== -/
section SVC
variable {p : Program} {l : Launch} {e : Env} {R : Room} {s : State} {m : MethodId} {args : Array Value} {below : List Frame} {meth : Method} {c : Code} {H : Heap} {locs : List Loc} {cells slots : Nat} {Z : State → Prop}
theorem sv_call {g : sv_G} {A A1 : Nat → Prop} {Q : Value → sv_Mem → Prop} {a : Array Value} {pc : Nat} {ls : Array Slot} {st0 rest : List Value}
    (hr : va_Run p l e R s m args below meth c H locs cells slots 0 0 (F0 m pc ls st0) rest (sv_Qc g A1 Q a) A1) (hS : va_S A s.heap H locs) (hF : ∀ q, A1 q → A q)
    (kk : ∀ (v : Value) (μ' : sv_Mem) (H1 : Heap) (locs1 : List Loc), Q v μ' → sv_Wd g A s H1 locs1 μ' → W p l e R s m args below meth c H1 locs1 cells slots Z (F0 m (pc + 3) ls ((sv_ro v).toList ++ rest))) : W p l e R s m args below meth c H locs cells slots Z (F0 m pc ls st0) := by
  intro T hT X
  obtain ⟨w, st₀, t, T', L, h0, X', hL, e1, e2, ⟨⟨v, μ', hv, hq, hP, hK, hD⟩, hz, hk⟩, st⟩ := hr T hT X
  cases hv
  rw [h0] at hz hk
  obtain ⟨t2, a1, b1⟩ := kk v μ' T'.heap (locs ++ L) hq ⟨by rw [e1]; exact hP, hD.weaken (fun _ q _ h => hF q.1 h), ⟨Nat.le_trans hS.1 (by rw [e1]; exact hz), fun q h1 h2 => by rw [e1, hk q (Nat.lt_of_lt_of_le h1 hS.1) (fun z => h2 (hF q z))]; exact hS.2.1 q h1 h2, fun q hq => by
      rcases List.mem_append.mp hq with h | h
      · exact hS.2.2 q h
      · exact hF _ (hL q h)⟩⟩ T' rfl X'
  exact ⟨t2, st t2 a1, b1⟩
theorem sv_free {g : sv_G} {A : Nat → Prop} {μ : sv_Mem} (hD : va_D A (sv_ws g μ)) (hS : va_S A s.heap H locs) (hA : ∀ q, s.heap.size ≤ q → A q) : ∀ q, va_A (sv_ws g μ) H.size q → A q := by
  intro q h
  rcases h with ⟨k, e, h⟩ | h
  · exact hD.2 k (q, e) h
  · exact hA q (Nat.le_trans hS.1 h)
theorem sv_blind {g : sv_G} {μ : sv_Mem} {sz : Nat} {as : List Value} : FrameBlind (va_Pc as (sv_B g μ sz)) :=
  fun a U gg mk q => ⟨q.1, q.2.1, q.2.2.1, va_K.moved (u := U) (U := U.calling gg mk a) (Vm.Alike.refl U.vm) q.2.2.2.1, q.2.2.2.2.1, sv_Nw.same (u := U) (U := U.calling gg mk a) rfl q.2.2.2.2.2⟩
theorem sv_pre {g : sv_G} {A : Nat → Prop} {μ : sv_Mem} {as : List Value} (hP : va_P g.1 vwCl (sv_ws g μ) H) (hK : va_K g.1 vwCl (sv_tys g) s) (hD : va_D A (sv_ws g μ)) (hN : sv_Nw s) : ∀ U : State, U.heap = H → s.WarmedH U.vm → va_Pc as (sv_B g μ H.size) as.toArray U :=
  fun U hU hW => ⟨rfl, by rw [hU], by rw [hU]; exact hP, va_K.moved hW.alike hK, hD.weaken (fun _ _ _ _ => trivial), hN.warm hW⟩
end SVC
theorem sv_good {w : Cond} (h : w ∈ sv_GT) : w ∈ sv_GT ∧ ((w.onTables && w.keeps) = true ∨ ∃ ty, w = .arrayClass ty) := ⟨h, good_of_word (List.mem_filter.mp h).2⟩
theorem sv_goodM {M : sv_M} (h : Cond.code M.1 M.2.1 M.2.2.1 M.2.2.2.1 ∈ sv_GT) : GoodIn sv_GT (sv_wd M) := fun w hw => by
  rcases List.mem_cons.mp hw with h1 | h1
  · rw [h1]; exact sv_good h
  · exact sv_good h1
/-- what is asked once of a method that is called: its words -/
def sv_cal (M : sv_M) (n : Nat) : Prop := plainName M.1.cls = true ∧ Cond.code M.1 M.2.1 M.2.2.1 M.2.2.2.1 ∈ sv_GT ∧ Cond.initialized M.1.cls ∈ sv_GT ∧ (M.1.cls ≠ "java/lang/invoke/MethodHandle" ∧ M.1.cls ≠ "java/lang/invoke/VarHandle") ∧ (parseMethodDescriptor M.1.desc).map (fun d => d.parameters.length) = some n
theorem sv_goodS {M : sv_M} {own : String} {idx n : Nat} (h : sv_cal M n) (h1 : Cond.methodLink own idx M.1 ∈ sv_GT) (h2 : Cond.static M.1 ∈ sv_GT) : GoodIn sv_GT (va_wsS own idx M.1 (sv_wd M)) := fun w hw => by
  rcases List.mem_append.mp hw with hw | hw
  · simp only [List.mem_cons, List.not_mem_nil, or_false] at hw
    rcases hw with rfl | rfl | rfl
    · exact sv_good h1
    · exact sv_good h2
    · exact sv_good h.2.2.1
  · exact sv_goodM h.2.1 w hw
theorem sv_goodV {M : sv_M} {own : String} {idx n : Nat} (h : sv_cal M n) (h1 : Cond.methodLink own idx M.1 ∈ sv_GT) (h2 : Cond.instanceMethod M.1 ∈ sv_GT) (h3 : Cond.selects M.1.cls M.1 M.1 ∈ sv_GT) : GoodIn sv_GT (wsV own idx M.1.cls M.1 (sv_wd M)) := fun w hw => by
  rcases List.mem_append.mp hw with hw | hw
  · simp only [List.mem_cons, List.not_mem_nil, or_false] at hw
    rcases hw with rfl | rfl | rfl | rfl
    · exact sv_good h1
    · exact sv_good h2
    · exact sv_good h3
    · exact sv_good h.2.2.1
  · exact sv_goodM h.2.1 w hw
/-- room for a call -/
def sv_fit (M : sv_M) (R : Room) : Prop := M.2.2.2.2.1 + 1 ≤ R.frames ∧ 8 + (M.2.2.1 + 11) + M.2.2.2.2.2 ≤ R.locals
section SVR
variable {p : Program} {l : Launch} {e : Env} {R : Room} {s : State} {m : MethodId} {args : Array Value} {below : List Frame} {meth : Method} {c : Code} {H : Heap} {locs : List Loc} {cells slots : Nat} {Z : State → Prop}
/-- a static call, at the machine -/
theorem sv_runS {own : String} {cc : ByteArray} {nL idx n pc : Nat} {ls : Array Slot} {M : sv_M} {as rest : List Value} {g : sv_G} {A : Nat → Prop} {μ : sv_Mem} {Q : Value → sv_Mem → Prop} {st0 : List Value}
    (F : CallFix p m c cc nL s args sv_GT own) (hc : sv_cal M n) (h1 : Cond.methodLink own idx M.1 ∈ sv_GT) (h2 : Cond.static M.1 ∈ sv_GT) (hR : sv_fit M R) (hcs : cells ≤ R.cells ∧ slots ≤ R.slots) (hK : va_K g.1 vwCl (sv_tys g) s) (hN : sv_Nw s) (hA : ∀ q, s.heap.size ≤ q → A q) (hW : sv_Wd g A s H locs μ)
    (hls : ls.size = nL) (hn : as.length = n) (hst : st0 = (as.map (sv_tr g.2.1)).reverse ++ rest) (hrm : (rest.map fun v => v.category).sum ≤ 8) (hw : sv_wn as ≤ M.2.2.1) (hd : decode cc pc = .ok (.invokestatic idx, 3)) (hwp : wp M 0 (lv_args 0 as) [] μ Q)
    (kk : ∀ (v : Value) (μ' : sv_Mem) (H1 : Heap) (locs1 : List Loc), Q v μ' → sv_Wd g A s H1 locs1 μ' → W p l e R s m args below meth c H1 locs1 cells slots Z (F0 m (pc + 3) ls ((sv_ro v).toList ++ rest))) : W p l e R s m args below meth c H locs cells slots Z (F0 m pc ls st0) := by
  obtain ⟨hP, hD, hS⟩ := hW
  exact sv_call (va_runS F (sv_met (l := l) (g := g) hwp hc.1 hw H.size) (va_cwS n F.2.2.2.2 (sv_goodS hc h1 h2) rfl rfl rfl ⟨hc.2.2.2.1.1, hc.2.2.2.1.2, hc.2.2.2.2⟩ hR) ⟨sv_blind, sv_pre hP hK hD hN⟩ rfl (by rw [List.length_map]; exact hn) hls hst (lv_room hrm) hd hcs) hS (sv_free hD hS hA) kk
/-- a virtual call, at the machine -/
theorem sv_runV {own : String} {cc : ByteArray} {nL idx n pc : Nat} {ls : Array Slot} {M : sv_M} {as rest : List Value} {g : sv_G} {A : Nat → Prop} {μ : sv_Mem} {Q : Value → sv_Mem → Prop} {st0 : List Value} {r ci : Nat} {sl : List (Option Nat)} {q : vw_C}
    (F : CallFix p m c cc nL s args sv_GT own) (hc : sv_cal M n) (h1 : Cond.methodLink own idx M.1 ∈ sv_GT) (h2 : Cond.instanceMethod M.1 ∈ sv_GT) (h3 : Cond.selects M.1.cls M.1 M.1 ∈ sv_GT) (hR : sv_fit M R) (hcs : cells ≤ R.cells ∧ slots ≤ R.slots) (hK : va_K g.1 vwCl (sv_tys g) s) (hN : sv_Nw s) (hA : ∀ q, s.heap.size ≤ q → A q) (hW : sv_Wd g A s H locs μ)
    (hr : sv_LT[r]? = some (.inl (ci, sl))) (hq : vwCl[ci]? = some q) (hqc : q.1 = M.1.cls) (hls : ls.size = nL) (hn : as.length = n) (hst : st0 = (as.map (sv_tr g.2.1)).reverse ++ .ref (g.2.1 r) :: rest) (hrm : (rest.map fun v => v.category).sum ≤ 8) (hw : sv_wn (.ref r :: as) ≤ M.2.2.1) (hd : decode cc pc = .ok (.invokevirtual idx, 3)) (hwp : wp M 0 (lv_args 0 (.ref r :: as)) [] μ Q)
    (kk : ∀ (v : Value) (μ' : sv_Mem) (H1 : Heap) (locs1 : List Loc), Q v μ' → sv_Wd g A s H1 locs1 μ' → W p l e R s m args below meth c H1 locs1 cells slots Z (F0 m (pc + 3) ls ((sv_ro v).toList ++ rest))) : W p l e R s m args below meth c H locs cells slots Z (F0 m pc ls st0) := by
  obtain ⟨hP, hD, hS⟩ := hW
  have hrv := va_recv hK hP hq (q0 := r) (sv_ws_get g μ hr)
  rw [hqc] at hrv
  exact sv_call (va_runV F (sv_met (l := l) (g := g) hwp hc.1 hw H.size) (cwV n F.2.2.2.2 (sv_goodV hc h1 h2 h3) rfl rfl rfl ⟨rfl, hc.2.2.2.1.1, hc.2.2.2.1.2, hc.2.2.2.2⟩ hR) ⟨sv_blind, hrv, sv_pre hP hK hD hN⟩ rfl (by rw [List.length_map]; exact hn) hls hst (lv_room hrm) hd hcs) hS (sv_free hD hS hA) kk
end SVR

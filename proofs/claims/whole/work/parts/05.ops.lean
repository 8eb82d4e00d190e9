/-! ===== what an instruction asks: predicate transformers; sv_Snd: they are sound ===== -/
abbrev sv_K : Type := Nat → sv_L → List Value → sv_Mem → Prop
abbrev sv_Po : Type := Value → sv_Mem → Prop
abbrev sv_O : Type := sv_K → sv_Po → sv_L → List Value → sv_Mem → Prop
def sv_Snd (M : sv_M) (pc : Nat) (o : sv_O) : Prop := ∀ (k : sv_K) (Q : sv_Po) (lv : sv_L) (st : List Value) (μ : sv_Mem), (∀ pc' lv' st' μ', k pc' lv' st' μ' → wp M pc' lv' st' μ' Q) → o k Q lv st μ → wp M pc lv st μ Q
def sv_p1 (st : List Value) (f : Int32 → List Value → Prop) : Prop := match st with
  | .int x :: t => f x t
  | _ => False
def sv_p2 (st : List Value) (f : Int32 → Int32 → List Value → Prop) : Prop := match st with
  | .int y :: .int x :: t => f x y t
  | _ => False
def sv_l1 (st : List Value) (f : Int64 → List Value → Prop) : Prop := match st with
  | .long x :: t => f x t
  | _ => False
def sv_l2 (st : List Value) (f : Int64 → Int64 → List Value → Prop) : Prop := match st with
  | .long y :: .long x :: t => f x y t
  | _ => False
def sv_r1 (st : List Value) (f : Nat → List Value → Prop) : Prop := match st with
  | .ref r :: t => f r t
  | _ => False
def sv_ri (st : List Value) (f : Nat → Int32 → List Value → Prop) : Prop := match st with
  | .int i :: .ref r :: t => f r i t
  | _ => False
def sv_rii (st : List Value) (f : Nat → Int32 → Int32 → List Value → Prop) : Prop := match st with
  | .int x :: .int i :: .ref r :: t => f r i x t
  | _ => False
def sv_v1 (st : List Value) (f : Value → List Value → Prop) : Prop := match st with
  | v :: t => bif Nat.beq v.category 1 then f v t else False
  | _ => False
def sv_v2 (st : List Value) (f : Value → Value → List Value → Prop) : Prop := match st with
  | v :: w :: t => bif Nat.beq v.category 1 && Nat.beq w.category 1 then f v w t else False
  | _ => False
def sv_gi (o : Option Value) (f : Int32 → Prop) : Prop := match o with
  | some (.int x) => f x
  | _ => False
def sv_gl (o : Option Value) (f : Int64 → Prop) : Prop := match o with
  | some (.long x) => f x
  | _ => False
def sv_gr (o : Option Value) (f : Nat → Prop) : Prop := match o with
  | some (.ref x) => f x
  | _ => False
theorem sv_p1_e {st : List Value} {f : Int32 → List Value → Prop} (h : sv_p1 st f) : ∃ x t, st = .int x :: t ∧ f x t := by
  unfold sv_p1 at h
  split at h
  · exact ⟨_, _, rfl, h⟩
  · exact h.elim
theorem sv_p2_e {st : List Value} {f : Int32 → Int32 → List Value → Prop} (h : sv_p2 st f) : ∃ x y t, st = .int y :: .int x :: t ∧ f x y t := by
  unfold sv_p2 at h
  split at h
  · exact ⟨_, _, _, rfl, h⟩
  · exact h.elim
theorem sv_l1_e {st : List Value} {f : Int64 → List Value → Prop} (h : sv_l1 st f) : ∃ x t, st = .long x :: t ∧ f x t := by
  unfold sv_l1 at h
  split at h
  · exact ⟨_, _, rfl, h⟩
  · exact h.elim
theorem sv_l2_e {st : List Value} {f : Int64 → Int64 → List Value → Prop} (h : sv_l2 st f) : ∃ x y t, st = .long y :: .long x :: t ∧ f x y t := by
  unfold sv_l2 at h
  split at h
  · exact ⟨_, _, _, rfl, h⟩
  · exact h.elim
theorem sv_r1_e {st : List Value} {f : Nat → List Value → Prop} (h : sv_r1 st f) : ∃ r t, st = .ref r :: t ∧ f r t := by
  unfold sv_r1 at h
  split at h
  · exact ⟨_, _, rfl, h⟩
  · exact h.elim
theorem sv_ri_e {st : List Value} {f : Nat → Int32 → List Value → Prop} (h : sv_ri st f) : ∃ r i t, st = .int i :: .ref r :: t ∧ f r i t := by
  unfold sv_ri at h
  split at h
  · exact ⟨_, _, _, rfl, h⟩
  · exact h.elim
theorem sv_rii_e {st : List Value} {f : Nat → Int32 → Int32 → List Value → Prop} (h : sv_rii st f) : ∃ r i x t, st = .int x :: .int i :: .ref r :: t ∧ f r i x t := by
  unfold sv_rii at h
  split at h
  · exact ⟨_, _, _, _, rfl, h⟩
  · exact h.elim
theorem sv_bif {b : Bool} {A : Prop} (h : bif b then A else False) : b = true ∧ A := by
  cases b
  · exact h.elim
  · exact ⟨rfl, h⟩
theorem sv_v1_e {st : List Value} {f : Value → List Value → Prop} (h : sv_v1 st f) : ∃ v t, st = v :: t ∧ v.category = 1 ∧ f v t := by
  unfold sv_v1 at h
  split at h
  · obtain ⟨h1, h2⟩ := sv_bif h
    exact ⟨_, _, rfl, Nat.eq_of_beq_eq_true h1, h2⟩
  · exact h.elim
theorem sv_v2_e {st : List Value} {f : Value → Value → List Value → Prop} (h : sv_v2 st f) : ∃ v w t, st = v :: w :: t ∧ v.category = 1 ∧ w.category = 1 ∧ f v w t := by
  unfold sv_v2 at h
  split at h
  · obtain ⟨h1, h2⟩ := sv_bif h
    have h3 := (Bool.and_eq_true _ _).mp h1
    exact ⟨_, _, _, rfl, Nat.eq_of_beq_eq_true h3.1, Nat.eq_of_beq_eq_true h3.2, h2⟩
  · exact h.elim
theorem sv_gi_e {o : Option Value} {f : Int32 → Prop} (h : sv_gi o f) : ∃ x, o = some (.int x) ∧ f x := by
  unfold sv_gi at h
  split at h
  · exact ⟨_, rfl, h⟩
  · exact h.elim
theorem sv_gl_e {o : Option Value} {f : Int64 → Prop} (h : sv_gl o f) : ∃ x, o = some (.long x) ∧ f x := by
  unfold sv_gl at h
  split at h
  · exact ⟨_, rfl, h⟩
  · exact h.elim
theorem sv_gr_e {o : Option Value} {f : Nat → Prop} (h : sv_gr o f) : ∃ x, o = some (.ref x) ∧ f x := by
  unfold sv_gr at h
  split at h
  · exact ⟨_, rfl, h⟩
  · exact h.elim
/-- a step that touches the stack alone -/
theorem sv_pure {M : sv_M} {pc pc' : Nat} {lv : sv_L} {st st' : List Value} {μ : sv_Mem} {Q : sv_Po} (hw : wp M pc' lv st' μ Q)
    (hs : ∀ {l : Launch} {p : Program} {e : Env} {R : Room} {s : State} {m : MethodId} {args : Array Value} {below : List Frame} {meth : Method} {c : Code} {cells slots : Nat} {Z : State → Prop} {H : Heap} {locs : List Loc} {ls : Array Slot} (g : sv_G), p.tables.exec = Jvm.exec → c.code = M.2.1 → s.vm.findClass M.1.cls = some m.cls → (∀ w ∈ sv_GT, w.before args s = true) → lv_has ls M.2.2.1 (sv_tl g.2.1 lv) →
      W p l e R s m args below meth c H locs cells slots Z (F0 m pc' ls (st'.map (sv_tr g.2.1))) → W p l e R s m args below meth c H locs cells slots Z (F0 m pc ls (st.map (sv_tr g.2.1)))) : wp M pc lv st μ Q := by
  intro l p e R s m args below meth c cells slots Z A g C H locs ls hW hl
  exact hs g C.1 C.2.1 C.2.2.2.1 C.2.2.2.2.1 hl (hw l p e R s m args below meth c cells slots Z A g C H locs ls hW hl)
section SVO
variable {M : sv_M} {pc : Nat}
def o_il (i nx : Nat) : sv_O := fun k _ lv st μ => sv_gi (sv_get lv i) (fun x => k nx lv (.int x :: st) μ)
def o_ll (i nx : Nat) : sv_O := fun k _ lv st μ => sv_gl (sv_get lv i) (fun x => k nx lv (.long x :: st) μ)
def o_al (i nx : Nat) : sv_O := fun k _ lv st μ => sv_gr (sv_get lv i) (fun x => k nx lv (.ref x :: st) μ)
theorem s_iload_n {n : Fin 4} {i : Nat} (hd : decode M.2.1 pc = .ok (.iload_n n, 1)) (hi : (n : Nat) = i) : sv_Snd M pc (o_il i (pc + 1)) := by
  intro k Q lv st μ hk h
  obtain ⟨x, hg, h⟩ := sv_gi_e h
  exact sv_pure (hk _ _ _ _ h) (fun g hx hb _ _ hl K => lv_iload_n hx hb hd hi (sv_ld hl hg) K)
theorem s_iload {i : Nat} (hd : decode M.2.1 pc = .ok (.iload i, 2)) : sv_Snd M pc (o_il i (pc + 2)) := by
  intro k Q lv st μ hk h
  obtain ⟨x, hg, h⟩ := sv_gi_e h
  exact sv_pure (hk _ _ _ _ h) (fun g hx hb _ _ hl K => lv_iload hx hb hd (sv_ld hl hg) K)
theorem s_lload_n {n : Fin 4} {i : Nat} (hd : decode M.2.1 pc = .ok (.lload_n n, 1)) (hi : (n : Nat) = i) : sv_Snd M pc (o_ll i (pc + 1)) := by
  intro k Q lv st μ hk h
  obtain ⟨x, hg, h⟩ := sv_gl_e h
  exact sv_pure (hk _ _ _ _ h) (fun g hx hb _ _ hl K => lv_lload_n hx hb hd hi (sv_ld hl hg) K)
theorem s_lload {i : Nat} (hd : decode M.2.1 pc = .ok (.lload i, 2)) : sv_Snd M pc (o_ll i (pc + 2)) := by
  intro k Q lv st μ hk h
  obtain ⟨x, hg, h⟩ := sv_gl_e h
  exact sv_pure (hk _ _ _ _ h) (fun g hx hb _ _ hl K => lv_lload hx hb hd (sv_ld hl hg) K)
theorem s_aload_n {n : Fin 4} {i : Nat} (hd : decode M.2.1 pc = .ok (.aload_n n, 1)) (hi : (n : Nat) = i) : sv_Snd M pc (o_al i (pc + 1)) := by
  intro k Q lv st μ hk h
  obtain ⟨x, hg, h⟩ := sv_gr_e h
  exact sv_pure (hk _ _ _ _ h) (fun g hx hb _ _ hl K => lv_aload_n hx hb hd hi (sv_ld hl hg) K)
theorem s_aload {i : Nat} (hd : decode M.2.1 pc = .ok (.aload i, 2)) : sv_Snd M pc (o_al i (pc + 2)) := by
  intro k Q lv st μ hk h
  obtain ⟨x, hg, h⟩ := sv_gr_e h
  exact sv_pure (hk _ _ _ _ h) (fun g hx hb _ _ hl K => lv_aload hx hb hd (sv_ld hl hg) K)
def o_is (i nx : Nat) : sv_O := fun k _ lv st μ => sv_p1 st (fun x t => k nx (sv_set i 1 (.int x) lv) t μ)
def o_ls (i nx : Nat) : sv_O := fun k _ lv st μ => sv_l1 st (fun x t => k nx (sv_set i 2 (.long x) lv) t μ)
def o_in (i : Nat) (v : Int32) (nx : Nat) : sv_O := fun k _ lv st μ => sv_gi (sv_get lv i) (fun x => k nx (sv_set i 1 (.int (x + v)) lv) st μ)
theorem s_istore_n {n : Fin 4} {i : Nat} (hd : decode M.2.1 pc = .ok (.istore_n n, 1)) (hi : (n : Nat) = i) (hn : i < M.2.2.1) : sv_Snd M pc (o_is i (pc + 1)) := by
  intro k Q lv st μ hk h
  obtain ⟨x, t, rfl, h⟩ := sv_p1_e h
  intro l p e R s m args below meth c cells slots Z A g C H locs ls hW hl
  exact lv_istore_n C.1 C.2.1 hd hi hl hn rfl (fun ls hl => hk _ _ _ _ h l p e R s m args below meth c cells slots Z A g C H locs ls hW (sv_tl_set1 (v := .int x) hl))
theorem s_istore {i : Nat} (hd : decode M.2.1 pc = .ok (.istore i, 2)) (hn : i < M.2.2.1) : sv_Snd M pc (o_is i (pc + 2)) := by
  intro k Q lv st μ hk h
  obtain ⟨x, t, rfl, h⟩ := sv_p1_e h
  intro l p e R s m args below meth c cells slots Z A g C H locs ls hW hl
  exact lv_istore C.1 C.2.1 hd hl hn rfl (fun ls hl => hk _ _ _ _ h l p e R s m args below meth c cells slots Z A g C H locs ls hW (sv_tl_set1 (v := .int x) hl))
theorem s_lstore_n {n : Fin 4} {i : Nat} (hd : decode M.2.1 pc = .ok (.lstore_n n, 1)) (hi : (n : Nat) = i) (hn : i + 1 < M.2.2.1) : sv_Snd M pc (o_ls i (pc + 1)) := by
  intro k Q lv st μ hk h
  obtain ⟨x, t, rfl, h⟩ := sv_l1_e h
  intro l p e R s m args below meth c cells slots Z A g C H locs ls hW hl
  exact lv_lstore_n C.1 C.2.1 hd hi hl hn rfl (fun ls hl => hk _ _ _ _ h l p e R s m args below meth c cells slots Z A g C H locs ls hW (sv_tl_set2 (v := .long x) hl))
theorem s_lstore {i : Nat} (hd : decode M.2.1 pc = .ok (.lstore i, 2)) (hn : i + 1 < M.2.2.1) : sv_Snd M pc (o_ls i (pc + 2)) := by
  intro k Q lv st μ hk h
  obtain ⟨x, t, rfl, h⟩ := sv_l1_e h
  intro l p e R s m args below meth c cells slots Z A g C H locs ls hW hl
  exact lv_lstore C.1 C.2.1 hd hl hn rfl (fun ls hl => hk _ _ _ _ h l p e R s m args below meth c cells slots Z A g C H locs ls hW (sv_tl_set2 (v := .long x) hl))
theorem s_iinc {i : Nat} {n : Int} {v : Int32} (hd : decode M.2.1 pc = .ok (.iinc i n, 3)) (hv : Int32.ofInt n = v) (hn : i < M.2.2.1) : sv_Snd M pc (o_in i v (pc + 3)) := by
  intro k Q lv st μ hk h
  obtain ⟨x, hg, h⟩ := sv_gi_e h
  intro l p e R s m args below meth c cells slots Z A g C H locs ls hW hl
  have hm : (i, Value.int x) ∈ sv_tl g.2.1 lv := List.mem_map.mpr ⟨(i, .int x), sv_get_mem hg, rfl⟩
  obtain ⟨j, hj⟩ := List.getElem?_of_mem hm
  subst hv
  exact lv_iinc C.1 C.2.1 hd hl hj rfl hn rfl (fun ls hl => hk _ _ _ _ h l p e R s m args below meth c cells slots Z A g C H locs ls hW (sv_tl_set1 (v := .int (x + Int32.ofInt n)) hl))
def o_ic (v : Int32) (nx : Nat) : sv_O := fun k _ lv st μ => k nx lv (.int v :: st) μ
def o_lc (v : Int64) (nx : Nat) : sv_O := fun k _ lv st μ => k nx lv (.long v :: st) μ
theorem s_iconst {n : Int} {v : Int32} (hd : decode M.2.1 pc = .ok (.iconst n, 1)) (hv : Int32.ofInt n = v) : sv_Snd M pc (o_ic v (pc + 1)) :=
  fun k Q lv st μ hk h => sv_pure (hk _ _ _ _ h) (fun g hx hb _ _ hl K => lv_iconst hx hb hd hv K)
theorem s_bipush {n : Int} {v : Int32} (hd : decode M.2.1 pc = .ok (.bipush n, 2)) (hv : (Int8.ofInt n).toInt32 = v) : sv_Snd M pc (o_ic v (pc + 2)) :=
  fun k Q lv st μ hk h => sv_pure (hk _ _ _ _ h) (fun g hx hb _ _ hl K => lv_bipush hx hb hd hv K)
theorem s_sipush {n : Int} {v : Int32} (hd : decode M.2.1 pc = .ok (.sipush n, 3)) (hv : (Int16.ofInt n).toInt32 = v) : sv_Snd M pc (o_ic v (pc + 3)) :=
  fun k Q lv st μ hk h => sv_pure (hk _ _ _ _ h) (fun g hx hb _ _ hl K => lv_sipush hx hb hd hv K)
theorem s_lconst {n : Fin 2} {v : Int64} (hd : decode M.2.1 pc = .ok (.lconst n, 1)) (hv : Int64.ofNat (n : Nat) = v) : sv_Snd M pc (o_lc v (pc + 1)) :=
  fun k Q lv st μ hk h => sv_pure (hk _ _ _ _ h) (fun g hx hb _ _ hl K => lv_lconst hx hb hd hv K)
theorem s_ldc {i : Nat} {v : Int32} (hd : decode M.2.1 pc = .ok (.ldc i, 2)) (hc : Cond.constant M.1.cls i v ∈ sv_GT) : sv_Snd M pc (o_ic v (pc + 2)) :=
  fun k Q lv st μ hk h => sv_pure (hk _ _ _ _ h) (fun g hx hb ho ht hl K => lv_ldc hx hb ho (ht _ hc) hd K)
theorem s_ldcw {i : Nat} {v : Int32} (hd : decode M.2.1 pc = .ok (.ldc_w i, 3)) (hc : Cond.constant M.1.cls i v ∈ sv_GT) : sv_Snd M pc (o_ic v (pc + 3)) :=
  fun k Q lv st μ hk h => sv_pure (hk _ _ _ _ h) (fun g hx hb ho ht hl K => lv_ldcw hx hb ho (ht _ hc) hd K)
theorem s_ldc2 {i : Nat} {v : Int64} (hd : decode M.2.1 pc = .ok (.ldc2_w i, 3)) (hc : Cond.constantLong M.1.cls i v ∈ sv_GT) : sv_Snd M pc (o_lc v (pc + 3)) :=
  fun k Q lv st μ hk h => sv_pure (hk _ _ _ _ h) (fun g hx hb ho ht hl K => lv_ldc2 hx hb ho (ht _ hc) hd K)
def o_b (f : Int32 → Int32 → Int32) (nx : Nat) : sv_O := fun k _ lv st μ => sv_p2 st (fun x y t => k nx lv (.int (f x y) :: t) μ)
def o_bd (f : Int32 → Int32 → Int32) (nx : Nat) : sv_O := fun k _ lv st μ => sv_p2 st (fun x y t => ¬ y = 0 ∧ k nx lv (.int (f x y) :: t) μ)
def o_u (f : Int32 → Int32) (nx : Nat) : sv_O := fun k _ lv st μ => sv_p1 st (fun x t => k nx lv (.int (f x) :: t) μ)
def o_lb (f : Int64 → Int64 → Int64) (nx : Nat) : sv_O := fun k _ lv st μ => sv_l2 st (fun x y t => k nx lv (.long (f x y) :: t) μ)
def o_ld (f : Int64 → Int64 → Int64) (nx : Nat) : sv_O := fun k _ lv st μ => sv_l2 st (fun x y t => ¬ y = 0 ∧ k nx lv (.long (f x y) :: t) μ)
def o_i2l (nx : Nat) : sv_O := fun k _ lv st μ => sv_p1 st (fun x t => k nx lv (.long x.toInt64 :: t) μ)
def o_l2i (nx : Nat) : sv_O := fun k _ lv st μ => sv_l1 st (fun x t => k nx lv (.int x.toInt32 :: t) μ)
def o_lcmp (nx : Nat) : sv_O := fun k _ lv st μ => sv_l2 st (fun x y t => k nx lv (.int (lg_cmp x y) :: t) μ)
def o_dup (nx : Nat) : sv_O := fun k _ lv st μ => sv_v1 st (fun v t => k nx lv (v :: v :: t) μ)
def o_pop (nx : Nat) : sv_O := fun k _ lv st μ => sv_v1 st (fun _ t => k nx lv t μ)
def o_dup2 (nx : Nat) : sv_O := fun k _ lv st μ => sv_v2 st (fun v w t => k nx lv (v :: w :: v :: w :: t) μ)
theorem s_iadd (hd : decode M.2.1 pc = .ok (.iadd, 1)) : sv_Snd M pc (o_b (fun x y => x + y) (pc + 1)) := by
  intro k Q lv st μ hk h
  obtain ⟨x, y, t, rfl, h⟩ := sv_p2_e h
  exact sv_pure (hk _ _ _ _ h) (fun g hx hb _ _ hl K => lv_iadd hx hb hd K)
theorem s_isub (hd : decode M.2.1 pc = .ok (.isub, 1)) : sv_Snd M pc (o_b (fun x y => x - y) (pc + 1)) := by
  intro k Q lv st μ hk h
  obtain ⟨x, y, t, rfl, h⟩ := sv_p2_e h
  exact sv_pure (hk _ _ _ _ h) (fun g hx hb _ _ hl K => lv_isub hx hb hd K)
theorem s_imul (hd : decode M.2.1 pc = .ok (.imul, 1)) : sv_Snd M pc (o_b (fun x y => x * y) (pc + 1)) := by
  intro k Q lv st μ hk h
  obtain ⟨x, y, t, rfl, h⟩ := sv_p2_e h
  exact sv_pure (hk _ _ _ _ h) (fun g hx hb _ _ hl K => lv_imul hx hb hd K)
theorem s_iand (hd : decode M.2.1 pc = .ok (.iand, 1)) : sv_Snd M pc (o_b (fun x y => x &&& y) (pc + 1)) := by
  intro k Q lv st μ hk h
  obtain ⟨x, y, t, rfl, h⟩ := sv_p2_e h
  exact sv_pure (hk _ _ _ _ h) (fun g hx hb _ _ hl K => lv_iand hx hb hd K)
theorem s_ior (hd : decode M.2.1 pc = .ok (.ior, 1)) : sv_Snd M pc (o_b (fun x y => x ||| y) (pc + 1)) := by
  intro k Q lv st μ hk h
  obtain ⟨x, y, t, rfl, h⟩ := sv_p2_e h
  exact sv_pure (hk _ _ _ _ h) (fun g hx hb _ _ hl K => lv_ior hx hb hd K)
theorem s_ishl (hd : decode M.2.1 pc = .ok (.ishl, 1)) : sv_Snd M pc (o_b (fun x y => x <<< (y &&& 31)) (pc + 1)) := by
  intro k Q lv st μ hk h
  obtain ⟨x, y, t, rfl, h⟩ := sv_p2_e h
  exact sv_pure (hk _ _ _ _ h) (fun g hx hb _ _ hl K => lv_ishl hx hb hd K)
theorem s_ishr (hd : decode M.2.1 pc = .ok (.ishr, 1)) : sv_Snd M pc (o_b (fun x y => x >>> (y &&& 31)) (pc + 1)) := by
  intro k Q lv st μ hk h
  obtain ⟨x, y, t, rfl, h⟩ := sv_p2_e h
  exact sv_pure (hk _ _ _ _ h) (fun g hx hb _ _ hl K => lv_ishr hx hb hd K)
theorem s_iushr (hd : decode M.2.1 pc = .ok (.iushr, 1)) : sv_Snd M pc (o_b (fun x y => (x.toUInt32 >>> (y.toUInt32 &&& Int32.toUInt32 31)).toInt32) (pc + 1)) := by
  intro k Q lv st μ hk h
  obtain ⟨x, y, t, rfl, h⟩ := sv_p2_e h
  exact sv_pure (hk _ _ _ _ h) (fun g hx hb _ _ hl K => lv_iushr hx hb hd rfl K)
theorem s_idiv (hd : decode M.2.1 pc = .ok (.idiv, 1)) : sv_Snd M pc (o_bd (fun x y => x / y) (pc + 1)) := by
  intro k Q lv st μ hk h
  obtain ⟨x, y, t, rfl, h0, h⟩ := sv_p2_e h
  exact sv_pure (hk _ _ _ _ h) (fun g hx hb _ _ hl K => lv_idiv hx hb hd h0 K)
theorem s_irem (hd : decode M.2.1 pc = .ok (.irem, 1)) : sv_Snd M pc (o_bd (fun x y => x - x / y * y) (pc + 1)) := by
  intro k Q lv st μ hk h
  obtain ⟨x, y, t, rfl, h0, h⟩ := sv_p2_e h
  exact sv_pure (hk _ _ _ _ h) (fun g hx hb _ _ hl K => lv_irem hx hb hd h0 K)
theorem s_ineg (hd : decode M.2.1 pc = .ok (.ineg, 1)) : sv_Snd M pc (o_u (fun x => -x) (pc + 1)) := by
  intro k Q lv st μ hk h
  obtain ⟨x, t, rfl, h⟩ := sv_p1_e h
  exact sv_pure (hk _ _ _ _ h) (fun g hx hb _ _ hl K => lv_ineg hx hb hd K)
theorem s_i2b (hd : decode M.2.1 pc = .ok (.i2b, 1)) : sv_Snd M pc (o_u (fun x => x.toInt8.toInt32) (pc + 1)) := by
  intro k Q lv st μ hk h
  obtain ⟨x, t, rfl, h⟩ := sv_p1_e h
  exact sv_pure (hk _ _ _ _ h) (fun g hx hb _ _ hl K => lv_i2b hx hb hd rfl K)
theorem s_i2s (hd : decode M.2.1 pc = .ok (.i2s, 1)) : sv_Snd M pc (o_u (fun x => x.toInt16.toInt32) (pc + 1)) := by
  intro k Q lv st μ hk h
  obtain ⟨x, t, rfl, h⟩ := sv_p1_e h
  exact sv_pure (hk _ _ _ _ h) (fun g hx hb _ _ hl K => lv_i2s hx hb hd rfl K)
theorem s_ladd (hd : decode M.2.1 pc = .ok (.ladd, 1)) : sv_Snd M pc (o_lb (fun x y => x + y) (pc + 1)) := by
  intro k Q lv st μ hk h
  obtain ⟨x, y, t, rfl, h⟩ := sv_l2_e h
  exact sv_pure (hk _ _ _ _ h) (fun g hx hb _ _ hl K => lv_ladd hx hb hd K)
theorem s_lmul (hd : decode M.2.1 pc = .ok (.lmul, 1)) : sv_Snd M pc (o_lb (fun x y => x * y) (pc + 1)) := by
  intro k Q lv st μ hk h
  obtain ⟨x, y, t, rfl, h⟩ := sv_l2_e h
  exact sv_pure (hk _ _ _ _ h) (fun g hx hb _ _ hl K => lv_lmul hx hb hd K)
theorem s_lsub (hd : decode M.2.1 pc = .ok (.lsub, 1)) : sv_Snd M pc (o_lb (fun x y => x - y) (pc + 1)) := by
  intro k Q lv st μ hk h
  obtain ⟨x, y, t, rfl, h⟩ := sv_l2_e h
  exact sv_pure (hk _ _ _ _ h) (fun g hx hb _ _ hl K => lv_lsub hx hb hd K)
theorem s_ldiv (hd : decode M.2.1 pc = .ok (.ldiv, 1)) : sv_Snd M pc (o_ld (fun x y => x / y) (pc + 1)) := by
  intro k Q lv st μ hk h
  obtain ⟨x, y, t, rfl, h0, h⟩ := sv_l2_e h
  exact sv_pure (hk _ _ _ _ h) (fun g hx hb _ _ hl K => lv_ldiv hx hb hd h0 K)
theorem s_lrem (hd : decode M.2.1 pc = .ok (.lrem, 1)) : sv_Snd M pc (o_ld (fun x y => x - x / y * y) (pc + 1)) := by
  intro k Q lv st μ hk h
  obtain ⟨x, y, t, rfl, h0, h⟩ := sv_l2_e h
  exact sv_pure (hk _ _ _ _ h) (fun g hx hb _ _ hl K => lv_lrem hx hb hd h0 K)
theorem s_i2l (hd : decode M.2.1 pc = .ok (.i2l, 1)) : sv_Snd M pc (o_i2l (pc + 1)) := by
  intro k Q lv st μ hk h
  obtain ⟨x, t, rfl, h⟩ := sv_p1_e h
  exact sv_pure (hk _ _ _ _ h) (fun g hx hb _ _ hl K => lv_i2l hx hb hd rfl K)
theorem s_l2i (hd : decode M.2.1 pc = .ok (.l2i, 1)) : sv_Snd M pc (o_l2i (pc + 1)) := by
  intro k Q lv st μ hk h
  obtain ⟨x, t, rfl, h⟩ := sv_l1_e h
  exact sv_pure (hk _ _ _ _ h) (fun g hx hb _ _ hl K => lv_l2i hx hb hd rfl K)
theorem s_lcmp (hd : decode M.2.1 pc = .ok (.lcmp, 1)) : sv_Snd M pc (o_lcmp (pc + 1)) := by
  intro k Q lv st μ hk h
  obtain ⟨x, y, t, rfl, h⟩ := sv_l2_e h
  exact sv_pure (hk _ _ _ _ h) (fun g hx hb _ _ hl K => W.lcmp hx hb hd K)
theorem s_dup (hd : decode M.2.1 pc = .ok (.dup, 1)) : sv_Snd M pc (o_dup (pc + 1)) := by
  intro k Q lv st μ hk h
  obtain ⟨v, t, rfl, hv, h⟩ := sv_v1_e h
  exact sv_pure (hk _ _ _ _ h) (fun g hx hb _ _ hl K => lv_dup hx hb hd ((sv_tr_cat _ v).trans hv) K)
theorem s_pop (hd : decode M.2.1 pc = .ok (.pop, 1)) : sv_Snd M pc (o_pop (pc + 1)) := by
  intro k Q lv st μ hk h
  obtain ⟨v, t, rfl, hv, h⟩ := sv_v1_e h
  exact sv_pure (hk _ _ _ _ h) (fun g hx hb _ _ hl K => lv_pop hx hb hd ((sv_tr_cat _ v).trans hv) K)
theorem s_dup2 (hd : decode M.2.1 pc = .ok (.dup2, 1)) : sv_Snd M pc (o_dup2 (pc + 1)) := by
  intro k Q lv st μ hk h
  obtain ⟨v, w, t, rfl, hv, hw, h⟩ := sv_v2_e h
  exact sv_pure (hk _ _ _ _ h) (fun g hx hb _ _ hl K => lv_dup2_11 hx hb hd ((sv_tr_cat _ v).trans hv) ((sv_tr_cat _ w).trans hw) K)
def o_if (q : Int32 → Prop) (t e : Nat) : sv_O := fun k _ lv st μ => sv_p1 st (fun x r => (q x → k t lv r μ) ∧ (¬ q x → k e lv r μ))
def o_ic2 (q : Int32 → Int32 → Prop) (t e : Nat) : sv_O := fun k _ lv st μ => sv_p2 st (fun x y r => (q x y → k t lv r μ) ∧ (¬ q x y → k e lv r μ))
def o_go (t : Nat) : sv_O := fun k _ lv st μ => k t lv st μ
theorem s_goto {off : Int} {t : Nat} (hd : decode M.2.1 pc = .ok (.goto off, 3)) (ht : (pc : Int) + off = (t : Int)) : sv_Snd M pc (o_go t) :=
  fun k Q lv st μ hk h => sv_pure (hk _ _ _ _ h) (fun g hx hb _ _ hl K => lv_goto hx hb hd ht K)
theorem s_if_eq {off : Int} {t : Nat} (hd : decode M.2.1 pc = .ok (.ifCond .eq off, 3)) (ht : (pc : Int) + off = (t : Int)) : sv_Snd M pc (o_if (fun x => x = 0) t (pc + 3)) := by
  intro k Q lv st μ hk h
  obtain ⟨x, r, rfl, h1, h2⟩ := sv_p1_e h
  intro l p e R s m args below meth c cells slots Z A g C H locs ls hW hl
  exact lv_if_eq C.1 C.2.1 hd ht (fun q => hk _ _ _ _ (h1 q) l p e R s m args below meth c cells slots Z A g C H locs ls hW hl) (fun q => hk _ _ _ _ (h2 q) l p e R s m args below meth c cells slots Z A g C H locs ls hW hl)
theorem s_icmp_eq {off : Int} {t : Nat} (hd : decode M.2.1 pc = .ok (.if_icmp .eq off, 3)) (ht : (pc : Int) + off = (t : Int)) : sv_Snd M pc (o_ic2 (fun x y => x = y) t (pc + 3)) := by
  intro k Q lv st μ hk h
  obtain ⟨x, y, r, rfl, h1, h2⟩ := sv_p2_e h
  intro l p e R s m args below meth c cells slots Z A g C H locs ls hW hl
  exact lv_icmp_eq C.1 C.2.1 hd ht (fun q => hk _ _ _ _ (h1 q) l p e R s m args below meth c cells slots Z A g C H locs ls hW hl) (fun q => hk _ _ _ _ (h2 q) l p e R s m args below meth c cells slots Z A g C H locs ls hW hl)
theorem s_if_lt {off : Int} {t : Nat} (hd : decode M.2.1 pc = .ok (.ifCond .lt off, 3)) (ht : (pc : Int) + off = (t : Int)) : sv_Snd M pc (o_if (fun x => x < 0) t (pc + 3)) := by
  intro k Q lv st μ hk h
  obtain ⟨x, r, rfl, h1, h2⟩ := sv_p1_e h
  intro l p e R s m args below meth c cells slots Z A g C H locs ls hW hl
  exact lv_if_lt C.1 C.2.1 hd ht (fun q => hk _ _ _ _ (h1 q) l p e R s m args below meth c cells slots Z A g C H locs ls hW hl) (fun q => hk _ _ _ _ (h2 q) l p e R s m args below meth c cells slots Z A g C H locs ls hW hl)
theorem s_icmp_lt {off : Int} {t : Nat} (hd : decode M.2.1 pc = .ok (.if_icmp .lt off, 3)) (ht : (pc : Int) + off = (t : Int)) : sv_Snd M pc (o_ic2 (fun x y => x < y) t (pc + 3)) := by
  intro k Q lv st μ hk h
  obtain ⟨x, y, r, rfl, h1, h2⟩ := sv_p2_e h
  intro l p e R s m args below meth c cells slots Z A g C H locs ls hW hl
  exact lv_icmp_lt C.1 C.2.1 hd ht (fun q => hk _ _ _ _ (h1 q) l p e R s m args below meth c cells slots Z A g C H locs ls hW hl) (fun q => hk _ _ _ _ (h2 q) l p e R s m args below meth c cells slots Z A g C H locs ls hW hl)
theorem s_if_ge {off : Int} {t : Nat} (hd : decode M.2.1 pc = .ok (.ifCond .ge off, 3)) (ht : (pc : Int) + off = (t : Int)) : sv_Snd M pc (o_if (fun x => 0 ≤ x) t (pc + 3)) := by
  intro k Q lv st μ hk h
  obtain ⟨x, r, rfl, h1, h2⟩ := sv_p1_e h
  intro l p e R s m args below meth c cells slots Z A g C H locs ls hW hl
  exact lv_if_ge C.1 C.2.1 hd ht (fun q => hk _ _ _ _ (h1 q) l p e R s m args below meth c cells slots Z A g C H locs ls hW hl) (fun q => hk _ _ _ _ (h2 q) l p e R s m args below meth c cells slots Z A g C H locs ls hW hl)
theorem s_icmp_ge {off : Int} {t : Nat} (hd : decode M.2.1 pc = .ok (.if_icmp .ge off, 3)) (ht : (pc : Int) + off = (t : Int)) : sv_Snd M pc (o_ic2 (fun x y => y ≤ x) t (pc + 3)) := by
  intro k Q lv st μ hk h
  obtain ⟨x, y, r, rfl, h1, h2⟩ := sv_p2_e h
  intro l p e R s m args below meth c cells slots Z A g C H locs ls hW hl
  exact lv_icmp_ge C.1 C.2.1 hd ht (fun q => hk _ _ _ _ (h1 q) l p e R s m args below meth c cells slots Z A g C H locs ls hW hl) (fun q => hk _ _ _ _ (h2 q) l p e R s m args below meth c cells slots Z A g C H locs ls hW hl)
theorem s_if_gt {off : Int} {t : Nat} (hd : decode M.2.1 pc = .ok (.ifCond .gt off, 3)) (ht : (pc : Int) + off = (t : Int)) : sv_Snd M pc (o_if (fun x => 0 < x) t (pc + 3)) := by
  intro k Q lv st μ hk h
  obtain ⟨x, r, rfl, h1, h2⟩ := sv_p1_e h
  intro l p e R s m args below meth c cells slots Z A g C H locs ls hW hl
  exact lv_if_gt C.1 C.2.1 hd ht (fun q => hk _ _ _ _ (h1 q) l p e R s m args below meth c cells slots Z A g C H locs ls hW hl) (fun q => hk _ _ _ _ (h2 q) l p e R s m args below meth c cells slots Z A g C H locs ls hW hl)
theorem s_icmp_gt {off : Int} {t : Nat} (hd : decode M.2.1 pc = .ok (.if_icmp .gt off, 3)) (ht : (pc : Int) + off = (t : Int)) : sv_Snd M pc (o_ic2 (fun x y => y < x) t (pc + 3)) := by
  intro k Q lv st μ hk h
  obtain ⟨x, y, r, rfl, h1, h2⟩ := sv_p2_e h
  intro l p e R s m args below meth c cells slots Z A g C H locs ls hW hl
  exact lv_icmp_gt C.1 C.2.1 hd ht (fun q => hk _ _ _ _ (h1 q) l p e R s m args below meth c cells slots Z A g C H locs ls hW hl) (fun q => hk _ _ _ _ (h2 q) l p e R s m args below meth c cells slots Z A g C H locs ls hW hl)
theorem s_if_le {off : Int} {t : Nat} (hd : decode M.2.1 pc = .ok (.ifCond .le off, 3)) (ht : (pc : Int) + off = (t : Int)) : sv_Snd M pc (o_if (fun x => x ≤ 0) t (pc + 3)) := by
  intro k Q lv st μ hk h
  obtain ⟨x, r, rfl, h1, h2⟩ := sv_p1_e h
  intro l p e R s m args below meth c cells slots Z A g C H locs ls hW hl
  exact lv_if_le C.1 C.2.1 hd ht (fun q => hk _ _ _ _ (h1 q) l p e R s m args below meth c cells slots Z A g C H locs ls hW hl) (fun q => hk _ _ _ _ (h2 q) l p e R s m args below meth c cells slots Z A g C H locs ls hW hl)
theorem s_icmp_le {off : Int} {t : Nat} (hd : decode M.2.1 pc = .ok (.if_icmp .le off, 3)) (ht : (pc : Int) + off = (t : Int)) : sv_Snd M pc (o_ic2 (fun x y => x ≤ y) t (pc + 3)) := by
  intro k Q lv st μ hk h
  obtain ⟨x, y, r, rfl, h1, h2⟩ := sv_p2_e h
  intro l p e R s m args below meth c cells slots Z A g C H locs ls hW hl
  exact lv_icmp_le C.1 C.2.1 hd ht (fun q => hk _ _ _ _ (h1 q) l p e R s m args below meth c cells slots Z A g C H locs ls hW hl) (fun q => hk _ _ _ _ (h2 q) l p e R s m args below meth c cells slots Z A g C H locs ls hW hl)
theorem s_if_ne {off : Int} {t : Nat} (hd : decode M.2.1 pc = .ok (.ifCond .ne off, 3)) (ht : (pc : Int) + off = (t : Int)) : sv_Snd M pc (o_if (fun x => x = 0) (pc + 3) t) := by
  intro k Q lv st μ hk h
  obtain ⟨x, r, rfl, h1, h2⟩ := sv_p1_e h
  intro l p e R s m args below meth c cells slots Z A g C H locs ls hW hl
  exact lv_if_ne C.1 C.2.1 hd ht (fun q => hk _ _ _ _ (h2 q) l p e R s m args below meth c cells slots Z A g C H locs ls hW hl) (fun q => hk _ _ _ _ (h1 q) l p e R s m args below meth c cells slots Z A g C H locs ls hW hl)
theorem s_icmp_ne {off : Int} {t : Nat} (hd : decode M.2.1 pc = .ok (.if_icmp .ne off, 3)) (ht : (pc : Int) + off = (t : Int)) : sv_Snd M pc (o_ic2 (fun x y => x = y) (pc + 3) t) := by
  intro k Q lv st μ hk h
  obtain ⟨x, y, r, rfl, h1, h2⟩ := sv_p2_e h
  intro l p e R s m args below meth c cells slots Z A g C H locs ls hW hl
  exact lv_icmp_ne C.1 C.2.1 hd ht (fun q => hk _ _ _ _ (h2 q) l p e R s m args below meth c cells slots Z A g C H locs ls hW hl) (fun q => hk _ _ _ _ (h1 q) l p e R s m args below meth c cells slots Z A g C H locs ls hW hl)
end SVO

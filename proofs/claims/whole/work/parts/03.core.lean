/-! ===== the words that every method may use; the nest words ride in the world ===== -/
def sv_GT : List Cond := lw_tbl.filter goodWord
theorem sv_mem {w : Cond} (i : Nat) (h : lw_tbl[i]? = some w) (hg : goodWord w = true) : w ∈ sv_GT := List.mem_filter.mpr ⟨List.mem_of_getElem? h, hg⟩
/-- the nest links of fields: they aren't among the good words -/
def sv_isN (w : Cond) : Bool := match w with
  | .fieldLinkNest _ _ _ _ _ _ => true
  | _ => false
def sv_NW : List Cond := lw_tbl.filter sv_isN
theorem sv_memN {w : Cond} (i : Nat) (h : lw_tbl[i]? = some w) (hg : sv_isN w = true) : w ∈ sv_NW := List.mem_filter.mpr ⟨List.mem_of_getElem? h, hg⟩
def sv_Nw (U : State) : Prop := ∀ w ∈ sv_NW, va_Nw w U
theorem sv_Nw.warm {s U : State} (hW : s.WarmedH U.vm) (h : sv_Nw s) : sv_Nw U := by
  intro w hw
  have h1 := h w hw
  have h2 := (List.mem_filter.mp hw).2
  cases w <;> first | (exact va_Nw.warmF hW h1) | (exact absurd h2 (by decide)) | (simp [sv_isN] at h2)
theorem sv_Nw.same {u U : State} (hv : u.vm = U.vm) (h : sv_Nw u) : sv_Nw U := by
  intro w hw
  have h1 := h w hw
  have h2 := (List.mem_filter.mp hw).2
  cases w <;> first | (exact va_Nw.same rfl hv h1) | (exact absurd h2 (by decide)) | (simp [sv_isN] at h2)
/-! ===== the memory: ints by place and index; what is at a place is fixed ===== -/
abbrev sv_Mem : Type := Nat → Nat → Int32
/-- what stands at a place: an object (its class's number, its slots: none an int, some r the place r), or an array (kind: 0 int, 1 boolean, 2 rows; length; a grid's first row's place) -/
abbrev sv_D : Type := (Nat × List (Option Nat)) ⊕ (Nat × Nat × Nat)
abbrev sv_G : Type := va_G × (Nat → Nat) × ClassId × ClassId × ClassId
def sv_up (μ : sv_Mem) (a i : Nat) (x : Int32) : sv_Mem := fun b => if b = a then upd (μ b) i x else μ b
def sv_st (μ : sv_Mem) (a : Nat) (f : Nat → Int32) : sv_Mem := fun b => if b = a then f else μ b
theorem sv_up_st (μ : sv_Mem) (a i : Nat) (x : Int32) : sv_up μ a i x = sv_st μ a (upd (μ a) i x) := by
  funext b
  unfold sv_up sv_st
  by_cases h : b = a
  · subst h; simp
  · simp [h]
def sv_fl (ad : Nat → Nat) (f : Nat → Int32) : Nat → List (Option Nat) → List Value
  | _, [] => []
  | j, none :: t => .int (f j) :: sv_fl ad f (j + 1) t
  | j, some r :: t => .ref (ad r) :: sv_fl ad f (j + 1) t
def sv_ce (g : sv_G) (f : Nat → Int32) (d : sv_D) : va_E := match d with
  | .inl o => .inr (o.1, sv_fl g.2.1 f 0 o.2)
  | .inr (0, n, _) => .inl (g.2.2.1, n, .inl f)
  | .inr (1, n, _) => .inl (g.2.2.2.1, n, .inl f)
  | .inr (_, n, r) => .inl (g.2.2.2.2, n, .inr (.inr (.inr (.inr (fun i => if i < n then some (g.2.1 (r + i)) else none)))))
def sv_wl (g : sv_G) (μ : sv_Mem) : Nat → List sv_D → va_W
  | _, [] => []
  | k, d :: t => (g.2.1 k, sv_ce g (μ k) d) :: sv_wl g μ (k + 1) t
theorem sv_wl_get (g : sv_G) (μ : sv_Mem) : ∀ (L : List sv_D) (b k : Nat), (sv_wl g μ b L)[k]? = (L[k]?).map (fun d => (g.2.1 (b + k), sv_ce g (μ (b + k)) d))
  | [], b, k => by simp [sv_wl]
  | d :: t, b, 0 => by simp [sv_wl]
  | d :: t, b, k + 1 => by
    simp only [sv_wl, List.getElem?_cons_succ]
    rw [sv_wl_get g μ t (b + 1) k]
    simp only [show b + 1 + k = b + (k + 1) by omega]
theorem sv_fl_get (ad : Nat → Nat) (f : Nat → Int32) : ∀ (L : List (Option Nat)) (j k : Nat), (sv_fl ad f j L)[k]? = (L[k]?).map (fun o => match o with | none => .int (f (j + k)) | some r => .ref (ad r))
  | [], j, k => by simp [sv_fl]
  | none :: t, j, 0 => by simp [sv_fl]
  | some r :: t, j, 0 => by simp [sv_fl]
  | none :: t, j, k + 1 => by
    simp only [sv_fl, List.getElem?_cons_succ]
    rw [sv_fl_get ad f t (j + 1) k]
    simp only [show j + 1 + k = j + (k + 1) by omega]
  | some r :: t, j, k + 1 => by
    simp only [sv_fl, List.getElem?_cons_succ]
    rw [sv_fl_get ad f t (j + 1) k]
    simp only [show j + 1 + k = j + (k + 1) by omega]
theorem sv_fl_len (ad : Nat → Nat) (f : Nat → Int32) : ∀ (L : List (Option Nat)) (j : Nat), (sv_fl ad f j L).length = L.length
  | [], j => rfl
  | none :: t, j => by simp [sv_fl, sv_fl_len ad f t]
  | some r :: t, j => by simp [sv_fl, sv_fl_len ad f t]
theorem sv_fl_set (ad : Nat → Nat) (f : Nat → Int32) (L : List (Option Nat)) (k : Nat) (x : Int32) (h : L[k]? = some none) : (sv_fl ad f 0 L).set k (.int x) = sv_fl ad (upd f k x) 0 L := by
  apply List.ext_getElem?
  intro i
  have hl : k < L.length := (List.getElem?_eq_some_iff.mp h).1
  by_cases e : i = k
  · subst e
    rw [List.getElem?_set_self (by rw [sv_fl_len]; exact hl), sv_fl_get, h]
    simp [upd]
  · rw [List.getElem?_set_ne (Ne.symm e), sv_fl_get, sv_fl_get]
    cases L[i]? with
    | none => rfl
    | some o => cases o <;> simp [upd, e]
/-- the places -/
def sv_LT : List sv_D := [
  .inl (8, [some 1, some 9, some 13, some 18, some 22, some 23, some 25, some 35, some 39]),
  .inl (6, [some 2, some 7, some 8, none]), .inr (2, 4, 3), .inr (0, 240, 0), .inr (0, 240, 0), .inr (0, 240, 0), .inr (0, 240, 0), .inr (0, 4, 0), .inr (0, 4, 0),
  .inl (5, [some 1, some 10, some 11, some 12, none, none]), .inr (0, 24, 0), .inr (0, 24, 0), .inr (0, 24, 0),
  .inl (0, [some 14, some 15, some 16, some 17, none, none, none, none, none]), .inr (0, 60, 0), .inr (0, 4, 0), .inr (0, 4, 0), .inr (0, 4, 0),
  .inl (1, [some 9, some 13, some 19, some 20, some 21]), .inr (0, 24, 0), .inr (0, 24, 0), .inr (0, 24, 0),
  .inl (4, [some 9, some 13]),
  .inl (3, [some 9, some 13, some 24]), .inr (0, 4, 0),
  .inl (7, [some 26, some 27, some 28, none]), .inr (0, 6, 0), .inr (0, 6, 0), .inr (2, 6, 29), .inr (0, 10, 0), .inr (0, 10, 0), .inr (0, 10, 0), .inr (0, 10, 0), .inr (0, 10, 0), .inr (0, 10, 0),
  .inl (2, [some 36, some 37, some 38, none]), .inr (0, 60, 0), .inr (0, 60, 0), .inr (0, 60, 0),
  .inr (0, 5, 0),
  .inl (9, [none, some 41, some 42, none, none, some 43, none, some 44, some 45, some 46, none, none, some 47, some 48, none, some 49, some 50, some 51, none, some 52, some 53, some 54, some 55, some 56, some 57, some 58, some 59, none]),
  .inr (0, 24, 0), .inr (0, 24, 0), .inr (0, 60, 0), .inr (0, 4, 0), .inr (0, 4, 0), .inr (0, 4, 0), .inr (0, 5, 0), .inr (0, 4, 0), .inr (0, 6, 0), .inr (0, 6, 0), .inr (0, 60, 0), .inr (0, 60, 0), .inr (0, 60, 0), .inr (0, 60, 0), .inr (1, 4, 0), .inr (0, 4, 0), .inr (0, 4, 0), .inr (0, 960, 0), .inr (0, 240, 0)]
def sv_ws (g : sv_G) (μ : sv_Mem) : va_W := sv_wl g μ 0 sv_LT
theorem sv_ws_get (g : sv_G) (μ : sv_Mem) {k : Nat} {d : sv_D} (h : sv_LT[k]? = some d) : (sv_ws g μ)[k]? = some (g.2.1 k, sv_ce g (μ k) d) := by
  unfold sv_ws
  rw [sv_wl_get, h]
  simp
theorem sv_ws_set (g : sv_G) (μ : sv_Mem) {k : Nat} {d : sv_D} (h : sv_LT[k]? = some d) (f : Nat → Int32) : (sv_ws g μ).set k (g.2.1 k, sv_ce g f d) = sv_ws g (sv_st μ k f) := by
  apply List.ext_getElem?
  intro i
  unfold sv_ws
  by_cases e : i = k
  · subst e
    have hl : i < (sv_wl g μ 0 sv_LT).length := by
      have h1 : (sv_wl g μ 0 sv_LT)[i]? = some (g.2.1 i, sv_ce g (μ i) d) := sv_ws_get g μ h
      exact (List.getElem?_eq_some_iff.mp h1).1
    rw [List.getElem?_set_self hl, sv_wl_get, h]
    simp [sv_st]
  · rw [List.getElem?_set_ne (Ne.symm e), sv_wl_get, sv_wl_get]
    simp [sv_st, e]
/-! ===== values, locals ===== -/
abbrev sv_L : Type := List (Nat × Value)
def sv_tr (ad : Nat → Nat) (v : Value) : Value := match v with
  | .ref k => .ref (ad k)
  | v => v
theorem sv_tr_cat (ad : Nat → Nat) (v : Value) : (sv_tr ad v).category = v.category := by cases v <;> rfl
def sv_tl (ad : Nat → Nat) (lv : sv_L) : sv_L := lv.map (fun q => (q.1, sv_tr ad q.2))
def sv_get : sv_L → Nat → Option Value
  | [], _ => none
  | q :: t, i => bif Nat.beq q.1 i then some q.2 else sv_get t i
theorem sv_get_mem : ∀ {lv : sv_L} {i : Nat} {v : Value}, sv_get lv i = some v → (i, v) ∈ lv
  | [], i, v, h => by simp [sv_get] at h
  | q :: t, i, v, h => by
    unfold sv_get at h
    cases hb : Nat.beq q.1 i with
    | true =>
      rw [hb] at h
      have h1 : q.1 = i := Nat.eq_of_beq_eq_true hb
      have h2 : q.2 = v := Option.some.inj h
      rw [← h1, ← h2]
      exact List.mem_cons_self
    | false =>
      rw [hb] at h
      exact List.mem_cons_of_mem _ (sv_get_mem h)
theorem sv_ld {ls : Array Slot} {nL : Nat} {ad : Nat → Nat} {lv : sv_L} {i : Nat} {v : Value} (h : lv_has ls nL (sv_tl ad lv)) (hg : sv_get lv i = some v) : ls[i]? = some (.val (sv_tr ad v)) :=
  h.2.2 (i, sv_tr ad v) (List.mem_map.mpr ⟨(i, v), sv_get_mem hg, rfl⟩)
/-- may q stay when a value of category c is put at i -/
def sv_ok (i c : Nat) (q : Nat × Value) : Bool := !(Nat.beq q.1 i) && (!(Nat.beq q.1 (i + 1) && Nat.beq c 2) && !(Nat.beq (q.1 + 1) i && Nat.beq q.2.category 2))
def sv_set (i c : Nat) (v : Value) : sv_L → sv_L
  | [] => [(i, v)]
  | q :: t => bif Nat.beq q.1 i then (i, v) :: t.filter (sv_ok i c) else bif sv_ok i c q then q :: sv_set i c v t else sv_set i c v t
theorem sv_set_mem {i c : Nat} {v : Value} : ∀ {lv : sv_L} {q : Nat × Value}, q ∈ sv_set i c v lv → q = (i, v) ∨ (q ∈ lv ∧ sv_ok i c q = true)
  | [], q, h => by
    simp [sv_set] at h
    exact Or.inl h
  | r :: t, q, h => by
    unfold sv_set at h
    cases hb : Nat.beq r.1 i with
    | true =>
      rw [hb] at h
      rcases List.mem_cons.mp h with h | h
      · exact Or.inl h
      · have h2 := List.mem_filter.mp h
        exact Or.inr ⟨List.mem_cons_of_mem _ h2.1, h2.2⟩
    | false =>
      rw [hb] at h
      cases ho : sv_ok i c r with
      | true =>
        rw [ho] at h
        rcases List.mem_cons.mp h with h | h
        · exact Or.inr ⟨by rw [h]; exact List.mem_cons_self, by rw [h]; exact ho⟩
        · rcases sv_set_mem h with h | h
          · exact Or.inl h
          · exact Or.inr ⟨List.mem_cons_of_mem _ h.1, h.2⟩
      | false =>
        rw [ho] at h
        rcases sv_set_mem h with h | h
        · exact Or.inl h
        · exact Or.inr ⟨List.mem_cons_of_mem _ h.1, h.2⟩
theorem sv_bf {a b : Nat} (h : Nat.beq a b = false) : ¬ a = b := fun e => by
  rw [e] at h
  simp at h
theorem sv_ok_spec {i c : Nat} {q : Nat × Value} (h : sv_ok i c q = true) : ¬ q.1 = i ∧ (c = 2 → ¬ q.1 = i + 1) ∧ (q.1 + 1 = i → ¬ q.2.category = 2) := by
  unfold sv_ok at h
  cases h1 : Nat.beq q.1 i with
  | true => rw [h1] at h; simp at h
  | false =>
    refine ⟨sv_bf h1, fun hc e => ?_, fun e hc => ?_⟩
    · rw [e, hc] at h
      simp at h
    · rw [e, hc] at h
      simp at h
theorem sv_tl_set1 {ls : Array Slot} {nL : Nat} {ad : Nat → Nat} {lv : sv_L} {i : Nat} {v : Value} (h : lv_has ls nL ((i, sv_tr ad v) :: (sv_tl ad lv).filter (fun q => !(q.1 == i) && !(q.1 + 1 == i && q.2.category == 2)))) : lv_has ls nL (sv_tl ad (sv_set i 1 v lv)) := by
  refine ⟨h.1, h.2.1, fun q hq => ?_⟩
  obtain ⟨r, hr, rfl⟩ := List.mem_map.mp hq
  rcases sv_set_mem hr with e | ⟨hm, ho⟩
  · subst e
    exact h.2.2 _ List.mem_cons_self
  · refine h.2.2 _ (List.mem_cons_of_mem _ (List.mem_filter.mpr ⟨List.mem_map.mpr ⟨r, hm, rfl⟩, ?_⟩))
    obtain ⟨h1, -, h3⟩ := sv_ok_spec ho
    by_cases e : r.1 + 1 = i
    · have h4 := h3 e
      simp [sv_tr_cat, h1, h4]
    · simp [h1, e]
theorem sv_tl_set2 {ls : Array Slot} {nL : Nat} {ad : Nat → Nat} {lv : sv_L} {i : Nat} {v : Value} (h : lv_has ls nL ((i, sv_tr ad v) :: (sv_tl ad lv).filter (fun q => !(q.1 == i) && (!(q.1 == i + 1) && !(q.1 + 1 == i && q.2.category == 2))))) : lv_has ls nL (sv_tl ad (sv_set i 2 v lv)) := by
  refine ⟨h.1, h.2.1, fun q hq => ?_⟩
  obtain ⟨r, hr, rfl⟩ := List.mem_map.mp hq
  rcases sv_set_mem hr with e | ⟨hm, ho⟩
  · subst e
    exact h.2.2 _ List.mem_cons_self
  · refine h.2.2 _ (List.mem_cons_of_mem _ (List.mem_filter.mpr ⟨List.mem_map.mpr ⟨r, hm, rfl⟩, ?_⟩))
    obtain ⟨h1, h2, h3⟩ := sv_ok_spec ho
    have h2 := h2 rfl
    by_cases e : r.1 + 1 = i
    · have h4 := h3 e
      simp [sv_tr_cat, h1, h2, h4]
    · simp [h1, h2, e]
theorem sv_has_sub {ls : Array Slot} {nL : Nat} {ad : Nat → Nat} {lv lv' : sv_L} (h : lv_has ls nL (sv_tl ad lv)) (hs : ∀ q ∈ lv', q ∈ lv) : lv_has ls nL (sv_tl ad lv') := by
  refine ⟨h.1, h.2.1, fun q hq => ?_⟩
  obtain ⟨r, hr, rfl⟩ := List.mem_map.mp hq
  exact h.2.2 _ (List.mem_map.mpr ⟨r, hs r hr, rfl⟩)

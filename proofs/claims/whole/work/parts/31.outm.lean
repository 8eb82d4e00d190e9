/-! ===== the contest, the reference's side ===== -/
theorem sub_0 {a b : Nat} (ha : a < 1000) (hb : b < 1000) : nI a - nI b = 0 ↔ a = b := by
  rw [← Int32.toInt_inj, pk_sub_toInt (by omega) (by omega)]
  show (a : Int) - b = 0 ↔ a = b
  omega
theorem sub_le {a b : Nat} (ha : a < 1000) (hb : b < 1000) : nI a - nI b ≤ 0 ↔ a ≤ b := by
  rw [Int32.le_iff_toInt_le, pk_sub_toInt (by omega) (by omega)]
  show (a : Int) - b ≤ 0 ↔ a ≤ b
  omega
theorem cntI_t {Q : Nat → Bool} {i : Nat} (h : Q i = true) : nI (cnt Q i) + 1 = nI (cnt Q (i + 1)) := by rw [nI_1, cnt_t h]
theorem cntI_f {Q : Nat → Bool} {i : Nat} (h : ¬ Q i = true) : nI (cnt Q i) + 0 = nI (cnt Q (i + 1)) := by rw [Int32.add_zero, cnt_f h]
theorem orI_f {Q : Nat → Bool} {i : Nat} (h : ¬ Q i = true) : nI (bN Q i) ||| 0 = nI (bN Q (i + 1)) := by rw [Int32.or_zero, or_f h]
theorem bfB_pp {u : Bool} {ys pos : Nat → Nat} (p : Nat) : ¬ bfB u ys pos p p = true := by
  unfold bfB
  simp
section OM
variable {μ : sv_Mem} {K : Int32 → sv_Mem → Prop}
theorem yesSoFar_l (I : Inv μ) {p r : Nat} (hp : p < 24) (hr : r < 4) (h : K (nI (cYs μ (r + 1) p)) μ) : ∀ (m k : Nat), k + m = r + 1 → wp m_X10_yesSoFar 5 [(0, .ref 40), (1, .int (nI p)), (2, .int (nI r)), (3, .int (nI (cYs μ k p))), (4, .int (nI k))] [] μ (sv_QI K)
  | 0, k, hk => by
    have e : k = r + 1 := by omega
    subst e
    exact g_X10_yesSoFar_5 _ _ _ _ μ K (br_t (nI_lt (by omega) (by omega)) h)
  | m + 1, k, hk => by
    refine g_X10_yesSoFar_5 _ _ _ _ μ K (br_f (nI_nlt (by omega) (by omega)) (yes_s I hp (by omega) ?_))
    rw [nI_1, nI_add]
    exact yesSoFar_l I hp hr h m (k + 1) (by omega)
theorem yesSoFar_s (I : Inv μ) {p r : Nat} (hp : p < 24) (hr : r < 4) (h : K (nI (cYs μ (r + 1) p)) μ) : sv_cI m_X10_yesSoFar [.ref 40, .int (nI p), .int (nI r)] μ K := e_X10_yesSoFar _ _ μ K (yesSoFar_l I hp hr h (r + 1) 0 (by omega))
theorem placeOf_l (I : Inv μ) {n p : Nat} (hn : n ≤ 24) (he : μ 40 0 = nI n) (hp : p < n) (h : K (nI (cPo μ p)) μ) : ∀ (m k : Nat), k + m = cPo μ p → wp m_X10_placeOf 2 [(0, .ref 40), (1, .int (nI p)), (2, .int (nI k))] [] μ (sv_QI K)
  | 0, k, hk => by
    obtain ⟨p1, p2, p3, p4⟩ := pos_c I hn he hp
    have e : k = cPo μ p := by omega
    subst e
    refine g_X10_placeOf_2 _ _ μ K ⟨vp_in_nI (by omega) (by omega), br_t ?_ h⟩
    rw [nI_cl (by omega)]
    exact p3
  | m + 1, k, hk => by
    obtain ⟨p1, p2, p3, p4⟩ := pos_c I hn he hp
    refine g_X10_placeOf_2 _ _ μ K ⟨vp_in_nI (by omega) (by omega), br_f ?_ ?_⟩
    · rw [nI_cl (by omega)]
      intro z
      have := p4 k (by omega) z
      omega
    · rw [nI_1]
      exact placeOf_l I hn he hp h m (k + 1) (by omega)
theorem placeOf_s (I : Inv μ) {n p : Nat} (hn : n ≤ 24) (he : μ 40 0 = nI n) (hp : p < n) (h : K (nI (cPo μ p)) μ) : sv_cI m_X10_placeOf [.ref 40, .int (nI p)] μ K := e_X10_placeOf _ μ K (placeOf_l I hn he hp h (cPo μ p) 0 (by omega))
theorem isAhead_s (I : Inv μ) {n q p r : Nat} {l : Int32} (hn : n ≤ 24) (he : μ 40 0 = nI n) (hq : q < n) (hp : p < n) (hr : r < 4) (e46 : μ 46 r = l) (h1 : bfB (decide (l = 115)) (cYs μ (r + 1)) (cPo μ) q p = true → K 1 μ) (h0 : ¬ bfB (decide (l = 115)) (cYs μ (r + 1)) (cPo μ) q p = true → K 0 μ) : sv_cI m_X10_isAhead [.ref 40, .int (nI q), .int (nI p), .int (nI r)] μ K := by
  obtain ⟨p1, p2, p3, p4⟩ := pos_c I hn he hp
  obtain ⟨q1, q2, q3, q4⟩ := pos_c I hn he hq
  have y1 := cYs_le μ q (r + 1)
  have y2 := cYs_le μ p (r + 1)
  unfold bfB at h1 h0
  have byPos : ¬ (decide (l = 115) = true ∧ ¬ cYs μ (r + 1) q = cYs μ (r + 1) p) → ((nI (cPo μ p) ≤ nI (cPo μ q) → sv_zb 0 ∧ K 0 μ) ∧ (¬ nI (cPo μ p) ≤ nI (cPo μ q) → sv_zb 1 ∧ K 1 μ)) := by
    intro z
    rw [if_neg z] at h1 h0
    refine br_c (fun k => ⟨zb0, h0 ?_⟩) (fun k => ⟨zb1, h1 ?_⟩)
    · have k := (nI_leI (by omega) (by omega)).mp k
      simp; omega
    · have k : ¬ cPo μ p ≤ cPo μ q := fun j => k (nI_le j (by omega))
      simp; omega
  refine e_X10_isAhead _ _ _ μ K ⟨vp_in_nI hr (by omega), ?_⟩
  rw [nI_cl (show r < 2 ^ 31 by omega), e46]
  refine br_c (fun z => yesSoFar_s I (by omega) hr (yesSoFar_s I (by omega) hr (br_c (fun e => ?_) (fun e => ?_)))) (fun z => br_t rfl (placeOf_s I hn he hq (placeOf_s I hn he hp (byPos (by simp [z])))))
  · have e := (sub_0 (by omega) (by omega)).mp e
    exact placeOf_s I hn he hq (placeOf_s I hn he hp (byPos (by simp [e])))
  · have e : ¬ cYs μ (r + 1) q = cYs μ (r + 1) p := fun j => e ((sub_0 (by omega) (by omega)).mpr j)
    rw [if_pos ⟨by simp [z], e⟩] at h1 h0
    refine br_c (fun k => ⟨zb0, h0 ?_⟩) (fun k => ⟨zb1, h1 ?_⟩)
    · have k := (sub_le (by omega) (by omega)).mp k
      simp; omega
    · have k : ¬ cYs μ (r + 1) q ≤ cYs μ (r + 1) p := fun j => k ((sub_le (by omega) (by omega)).mpr j)
      simp; omega
theorem dearer_s (I : Inv μ) {q p r : Nat} (hq : q < 24) (hp : p < 24) (hr : r < 4) (h : K (nI (yN μ q r * cN μ p r) - nI (yN μ p r * cN μ q r)) μ) : sv_cI m_X10_dearer [.ref 40, .int (nI q), .int (nI p), .int (nI r)] μ K := by
  refine e_X10_dearer _ _ _ μ K (yes_s I hq hr (counted_s I hp hr (yes_s I hp hr (counted_s I hq hr ?_))))
  rw [pk_mul, pk_mul]
  exact h
theorem one_if {b : Bool} : ((if b = true then 1 else 0 : Int32) = 1) ↔ b = true := by cases b <;> decide
variable {n r S : Nat} {l : Int32} {P : Nat → Bool}
theorem adv88 (I : Inv μ) (hn : n ≤ 24) (he : μ 40 0 = nI n) (hr : r < 4) (e46 : μ 46 r = l) (hP : ∀ q, q < n → P q = true → 1 ≤ cN μ q r) {p : Nat} (hp : p < n) (h1 : P p = true) {x1 x4 : Int32} (A B C : Nat → Bool) (hA : A = fun q => P q && decide (cW μ r p < cW μ r q)) (hB : B = fun q => P q && decide (cW μ r q = cW μ r p)) (hC : C = fun q => P q && decide (cW μ r q = cW μ r p) && bfB (decide (l = 115)) (cYs μ (r + 1)) (cPo μ) q p)
    (h : vp_in (nI r) 4 ∧ ((μ 45 r < nI (cnt A n) + nI (cnt B n) → wp m_X10_advances 207 [(0, .ref 40), (1, .int x1), (2, .int (nI r)), (3, .int (nI (bN P n))), (4, .int x4), (5, .int (nI p)), (6, .int (nI (cnt A n))), (7, .int (nI (cnt B n))), (8, .int (nI (cnt C n))), (9, .int (nI n))] [.int 0] μ (sv_QI K)) ∧ (¬ μ 45 r < nI (cnt A n) + nI (cnt B n) → wp m_X10_advances 207 [(0, .ref 40), (1, .int x1), (2, .int (nI r)), (3, .int (nI (bN P n))), (4, .int x4), (5, .int (nI p)), (6, .int (nI (cnt A n))), (7, .int (nI (cnt B n))), (8, .int (nI (cnt C n))), (9, .int (nI n))] [.int 1] μ (sv_QI K)))) :
    ∀ (m i : Nat), i + m = n → wp m_X10_advances 88 [(0, .ref 40), (1, .int x1), (2, .int (nI r)), (3, .int (nI (bN P n))), (4, .int x4), (5, .int (nI p)), (6, .int (nI (cnt A i))), (7, .int (nI (cnt B i))), (8, .int (nI (cnt C i))), (9, .int (nI i))] [] μ (sv_QI K)
  | 0, i, hi => by
    have e : i = n := by omega
    subst e
    refine g_X10_advances_88 _ _ _ _ _ _ _ _ _ μ K (br_t (by rw [he]; exact nI_le (by omega) (by omega)) ?_)
    rw [nI_cl (show r < 2 ^ 31 by omega)]
    exact h
  | m + 1, i, hi => by
    have ih := adv88 I hn he hr e46 hP hp h1 (x1 := x1) (x4 := x4) A B C hA hB hC h m (i + 1) (by omega)
    have bp := cN_le μ p r
    have bi := cN_le μ i r
    have eA : A i = (P i && decide (cW μ r p < cW μ r i)) := by rw [hA]
    have eB : B i = (P i && decide (cW μ r i = cW μ r p)) := by rw [hB]
    have eC : C i = (P i && decide (cW μ r i = cW μ r p) && bfB (decide (l = 115)) (cYs μ (r + 1)) (cPo μ) i p) := by rw [hC]
    refine g_X10_advances_88 _ _ _ _ _ _ _ _ _ μ K (br_f (by rw [he]; exact nI_ge (by omega) (by omega)) ?_)
    rw [has_v hn (show i < n by omega), one_if]
    refine br_c (fun q => dearer_s I (by omega) (by omega) hr ?_) (fun q => ?_)
    · have w1 : (yN μ p r * cN μ i r < yN μ i r * cN μ p r ↔ cW μ r p < cW μ r i) := (wS_lt (hP p hp h1) bp.2 (hP i (by omega) q) bi.2).1
      have w2 : (yN μ i r * cN μ p r = yN μ p r * cN μ i r ↔ cW μ r i = cW μ r p) := (wS_lt (hP i (by omega) q) bi.2 (hP p hp h1) bp.2).2
      have k1 := prod9 (Nat.le_trans bi.1 bi.2) bp.2
      have k2 := prod9 (Nat.le_trans bp.1 bp.2) bi.2
      have s1 := sub_le k1 k2
      have s2 := sub_0 k1 k2
      refine br_c (fun a => g_X10_advances_130 _ _ _ _ _ _ _ _ _ _ _ _ μ K (br_c (fun b => g_X10_advances_145 _ _ _ _ _ _ _ _ _ _ _ _ μ K (br_t b (br_c (fun c => ?_) (fun c => isAhead_s I hn he (by omega) hp hr e46 (fun d => br_f t01 ?_) (fun d => br_t rfl ?_))))) (fun b => g_X10_advances_145 _ _ _ _ _ _ _ _ _ _ _ _ μ K (br_f b ?_)))) (fun a => g_X10_advances_130 _ _ _ _ _ _ _ _ _ _ _ _ μ K (br_f (fun b => a (by rw [b]; exact Int32.le_refl _)) (g_X10_advances_145 _ _ _ _ _ _ _ _ _ _ _ _ μ K (br_f (fun b => a (by rw [b]; exact Int32.le_refl _)) ?_))))
      · have a := s1.mp a
        have b := w2.mp (s2.mp b)
        have c : i = p := (nI_eq (by omega) (by omega)).mp c
        refine g_X10_advances_179 _ _ _ _ _ _ _ _ _ _ _ _ μ K ?_
        rw [cntI_f (Q := A) (by rw [eA]; simp; omega), cntI_t (Q := B) (by rw [eB]; simp [q, b]), cntI_f (Q := C) (by rw [eC, c]; simp [bfB_pp]), nI_1]
        exact ih
      · have b := w2.mp (s2.mp b)
        refine g_X10_advances_179 _ _ _ _ _ _ _ _ _ _ _ _ μ K ?_
        rw [cntI_f (Q := A) (by rw [eA]; simp; omega), cntI_t (Q := B) (by rw [eB]; simp [q, b]), cntI_t (Q := C) (by rw [eC]; simp [q, b, d]), nI_1]
        exact ih
      · have b := w2.mp (s2.mp b)
        refine g_X10_advances_179 _ _ _ _ _ _ _ _ _ _ _ _ μ K ?_
        rw [cntI_f (Q := A) (by rw [eA]; simp; omega), cntI_t (Q := B) (by rw [eB]; simp [q, b]), cntI_f (Q := C) (by rw [eC]; simp [d]), nI_1]
        exact ih
      · have a := s1.mp a
        have b : ¬ cW μ r i = cW μ r p := fun z => b (s2.mpr (w2.mpr z))
        have a2 : ¬ cW μ r p < cW μ r i := fun z => by have := w1.mpr z; omega
        refine g_X10_advances_179 _ _ _ _ _ _ _ _ _ _ _ _ μ K ?_
        rw [cntI_f (Q := A) (by rw [eA]; simp; omega), cntI_f (Q := B) (by rw [eB]; simp [b]), cntI_f (Q := C) (by rw [eC]; simp [b]), nI_1]
        exact ih
      · have a : ¬ yN μ i r * cN μ p r ≤ yN μ p r * cN μ i r := fun z => a (s1.mpr z)
        have a2 : cW μ r p < cW μ r i := w1.mp (by omega)
        have b : ¬ cW μ r i = cW μ r p := by omega
        refine g_X10_advances_179 _ _ _ _ _ _ _ _ _ _ _ _ μ K ?_
        rw [cntI_t (Q := A) (by rw [eA]; simp [q, a2]), cntI_f (Q := B) (by rw [eB]; simp [b]), cntI_f (Q := C) (by rw [eC]; simp [b]), nI_1]
        exact ih
    · rw [cnt_f (P := A) (by rw [eA]; simp [q]), cnt_f (P := B) (by rw [eB]; simp [q]), cnt_f (P := C) (by rw [eC]; simp [q]), nI_1]
      exact ih
theorem adv57 (I : Inv μ) (hn : n ≤ 24) (he : μ 40 0 = nI n) (hr : r < 4) (hS : S ≤ 24) (e45 : μ 45 r = nI S) (e46 : μ 46 r = l) (hP : ∀ q, q < n → P q = true → 1 ≤ cN μ q r) {x1 : Int32} {D : Nat → Bool} (hD : D = t_do n P (cW μ r) S l (bfB (decide (l = 115)) (cYs μ (r + 1)) (cPo μ))) (h : K (nI (bN D n)) μ) :
    ∀ (m i : Nat), i + m = n → wp m_X10_advances 57 [(0, .ref 40), (1, .int x1), (2, .int (nI r)), (3, .int (nI (bN P n))), (4, .int (nI (bN D i))), (5, .int (nI i))] [] μ (sv_QI K)
  | 0, i, hi => by
    have e : i = n := by omega
    subst e
    exact g_X10_advances_57 _ _ _ _ _ μ K (br_t (by rw [he]; exact nI_le (by omega) (by omega)) h)
  | m + 1, i, hi => by
    have ih := adv57 I hn he hr hS e45 e46 hP (x1 := x1) hD h m (i + 1) (by omega)
    have eD : D i = t_do n P (cW μ r) S l (bfB (decide (l = 115)) (cYs μ (r + 1)) (cPo μ)) i := by rw [hD]
    unfold t_do at eD
    refine g_X10_advances_57 _ _ _ _ _ μ K (br_f (by rw [he]; exact nI_ge (by omega) (by omega)) ?_)
    rw [has_v hn (show i < n by omega), one_if]
    refine br_c (fun q => ?_) (fun q => ?_)
    · have vr : vp_in (nI r) 4 := vp_in_nI hr (by omega)
      have b1 : t_ab n P (cW μ r) i ≤ n := cnt_le _ n
      have b2 : t_al n P (cW μ r) i ≤ n := cnt_le _ n
      have b3 : t_ah n P (cW μ r) (bfB (decide (l = 115)) (cYs μ (r + 1)) (cPo μ)) i ≤ n := cnt_le _ n
      have yes : ∀ x6 x7 x8 x9 x10 x11 y0, ¬ y0 = 0 → D i = true → wp m_X10_advances 278 [(0, .ref 40), (1, .int x1), (2, .int (nI r)), (3, .int (nI (bN P n))), (4, .int (nI (bN D i))), (5, .int (nI i)), (6, .int x6), (7, .int x7), (8, .int x8), (9, .int x9), (10, .int x10), (11, .int x11)] [.int y0] μ (sv_QI K) := fun x6 x7 x8 x9 x10 x11 y0 hy d =>
        g_X10_advances_278 _ _ _ _ _ _ _ _ _ _ _ _ μ K (br_f hy (g_X10_advances_295 _ _ _ _ _ _ _ _ _ _ _ _ _ _ μ K (by rw [or_t (by omega) d, nI_1]; exact ih)))
      have no : ∀ x6 x7 x8 x9 x10 x11 y0, y0 = 0 → ¬ D i = true → wp m_X10_advances 278 [(0, .ref 40), (1, .int x1), (2, .int (nI r)), (3, .int (nI (bN P n))), (4, .int (nI (bN D i))), (5, .int (nI i)), (6, .int x6), (7, .int x7), (8, .int x8), (9, .int x9), (10, .int x10), (11, .int x11)] [.int y0] μ (sv_QI K) := fun x6 x7 x8 x9 x10 x11 y0 hy d =>
        g_X10_advances_278 _ _ _ _ _ _ _ _ _ _ _ _ μ K (br_t hy (g_X10_advances_295 _ _ _ _ _ _ _ _ _ _ _ _ _ _ μ K (by rw [orI_f d, nI_1]; exact ih)))
      refine adv88 I hn he hr e46 hP (by omega) q _ _ _ rfl rfl rfl ⟨vr, ?_⟩ n 0 (by omega)
      show (μ 45 r < nI (t_ab n P (cW μ r) i) + nI (t_al n P (cW μ r) i) → _) ∧ (¬ μ 45 r < nI (t_ab n P (cW μ r) i) + nI (t_al n P (cW μ r) i) → _)
      rw [e45, nI_add]
      have go : ∀ z9 : Int32, (z9 = 0 ∧ ¬ t_ab n P (cW μ r) i + t_al n P (cW μ r) i ≤ S) ∨ (¬ z9 = 0 ∧ t_ab n P (cW μ r) i + t_al n P (cW μ r) i ≤ S) → wp m_X10_advances 207 [(0, .ref 40), (1, .int x1), (2, .int (nI r)), (3, .int (nI (bN P n))), (4, .int (nI (bN D i))), (5, .int (nI i)), (6, .int (nI (t_ab n P (cW μ r) i))), (7, .int (nI (t_al n P (cW μ r) i))), (8, .int (nI (t_ah n P (cW μ r) (bfB (decide (l = 115)) (cYs μ (r + 1)) (cPo μ)) i))), (9, .int (nI n))] [.int z9] μ (sv_QI K) := by
        intro z9 hz
        refine g_X10_advances_207 _ _ _ _ _ _ _ _ _ _ μ K ⟨vr, ?_⟩
        rw [nI_cl (show r < 2 ^ 31 by omega), e45]
        refine br_c (fun a => g_X10_advances_225 _ _ _ _ _ _ _ _ _ _ μ K ⟨vr, ?_⟩) (fun a => g_X10_advances_225 _ _ _ _ _ _ _ _ _ _ μ K ⟨vr, ?_⟩)
        · have a := (nI_leI (by omega) (by omega)).mp a
          rcases hz with ⟨z, y⟩ | ⟨z, y⟩
          · exact br_t z (br_t rfl (no _ _ _ _ _ _ _ rfl (by rw [eD]; simp [y]; omega)))
          · exact br_f z (yes _ _ _ _ _ _ _ (by decide) (by rw [eD]; simp [y, q]))
        · have a : ¬ S ≤ t_ab n P (cW μ r) i := fun k => a (nI_le k (by omega))
          rcases hz with ⟨z, y⟩ | ⟨z, y⟩
          · have a2 : t_ab n P (cW μ r) i < S := by omega
            refine br_t z (br_f t01 ?_)
            rw [nI_cl (show r < 2 ^ 31 by omega), e46]
            refine br_c (fun k => yes _ _ _ _ _ _ _ (by decide) (by rw [eD]; simp [q, y, a2, k])) (fun k => br_c (fun j => no _ _ _ _ _ _ _ rfl (by rw [eD]; simp [y, k, j])) (fun j => ⟨vr, ?_⟩))
            rw [e45, nI_add]
            refine br_c (fun x => no _ _ _ _ _ _ _ rfl ?_) (fun x => yes _ _ _ _ _ _ _ (by decide) ?_)
            · have x := (nI_leI (by omega) (by omega)).mp x
              rw [eD]; simp [y, k, j]; omega
            · have x : ¬ S ≤ t_ab n P (cW μ r) i + t_ah n P (cW μ r) (bfB (decide (l = 115)) (cYs μ (r + 1)) (cPo μ)) i := fun k => x (nI_le k (by omega))
              rw [eD]; simp [q, y, k, j, a2]; omega
          · exact br_f z (yes _ _ _ _ _ _ _ (by decide) (by rw [eD]; simp [y, q]))
      refine br_c (fun z => go 0 (Or.inl ⟨rfl, ?_⟩)) (fun z => go 1 (Or.inr ⟨by decide, ?_⟩))
      · have z := (nI_ltI (by omega) (by omega)).mp z
        omega
      · have z : ¬ S < t_ab n P (cW μ r) i + t_al n P (cW μ r) i := fun k => z (nI_lt k (by omega))
        omega
    · rw [or_f (P := D) (by rw [eD]; simp [q]), nI_1]
      exact ih
theorem adv5 (I : Inv μ) (hn : n ≤ 24) (he : μ 40 0 = nI n) (hr : r < 4) {s : Nat} (hs : s ≤ 100) (e44 : μ 44 r = nI s) {ins : Nat → Bool} (hP : P = fun p => ins p && (decide (0 < cN μ p r) && decide (s * cN μ p r ≤ 100 * yN μ p r))) (h : wp m_X10_advances 57 [(0, .ref 40), (1, .int (nI (bN ins n))), (2, .int (nI r)), (3, .int (nI (bN P n))), (4, .int 0), (5, .int 0)] [] μ (sv_QI K)) :
    ∀ (m i : Nat), i + m = n → wp m_X10_advances 5 [(0, .ref 40), (1, .int (nI (bN ins n))), (2, .int (nI r)), (3, .int (nI (bN P i))), (4, .int (nI i))] [] μ (sv_QI K)
  | 0, i, hi => by
    have e : i = n := by omega
    subst e
    exact g_X10_advances_5 _ _ _ _ μ K (br_t (by rw [he]; exact nI_le (by omega) (by omega)) h)
  | m + 1, i, hi => by
    have ih := adv5 I hn he hr hs e44 hP h m (i + 1) (by omega)
    have b := cN_le μ i r
    have eP : P i = (ins i && (decide (0 < cN μ i r) && decide (s * cN μ i r ≤ 100 * yN μ i r))) := by rw [hP]
    have b1 : s * cN μ i r ≤ 100 * 9 := Nat.mul_le_mul hs b.2
    have m1 : (100 : Int32) * nI (yN μ i r) = nI (100 * yN μ i r) := pk_mul 100 _
    refine g_X10_advances_5 _ _ _ _ μ K (br_f (by rw [he]; exact nI_ge (by omega) (by omega)) ?_)
    rw [has_v hn (show i < n by omega), one_if]
    refine br_c (fun q => passesIn_s I (by omega) hr (fun z x => br_f t01 (g_X10_advances_43 _ _ _ _ _ _ μ K ?_)) (fun x => br_t rfl (g_X10_advances_43 _ _ _ _ _ _ μ K ?_))) (fun q => g_X10_advances_43 _ _ _ _ _ _ μ K ?_)
    · rw [e44, m1, pk_mul] at x
      have x : ¬ 100 * yN μ i r < s * cN μ i r := fun k => x (nI_lt k (by omega))
      rw [or_t (P := P) (by omega) (by rw [eP]; simp [q]; omega), nI_1]
      exact ih
    · rw [e44, m1, pk_mul] at x
      rw [orI_f (Q := P), nI_1]
      · exact ih
      · rw [eP]
        rcases x with x | x
        · simp [x]
        · have x := (nI_ltI (by omega) (by omega)).mp x
          simp [show ¬ s * cN μ i r ≤ 100 * yN μ i r by omega]
    · rw [orI_f (Q := P) (by rw [eP]; simp [q]), nI_1]
      exact ih
theorem advances_s (I : Inv μ) (hn : n ≤ 24) (he : μ 40 0 = nI n) (hr : r < 4) {s : Nat} (hs : s ≤ 100) (hS : S ≤ 24) (e15 : μ 15 r = nI s) (e16 : μ 16 r = nI S) (e44 : μ 44 r = nI s) (e45 : μ 45 r = nI S) (e46 : μ 46 r = μ 17 r) {ins : Nat → Bool} (h : K (nI (bN (cSt μ n r ins) n)) μ) : sv_cI m_X10_advances [.ref 40, .int (nI (bN ins n)), .int (nI r)] μ K := by
  refine e_X10_advances _ _ μ K (adv5 I hn he hr hs e44 (ins := ins) rfl (adv57 I hn he hr hS e45 e46 (fun q _ z => ?_) rfl ?_ n 0 (by omega)) n 0 (by omega))
  · simp only [Bool.and_eq_true, decide_eq_true_eq] at z
    exact z.2.1
  · unfold cSt at h
    rw [e16, nI_cl (show S < 2 ^ 31 by omega)] at h
    have e1 : cPs μ r ins = fun p => ins p && (decide (0 < cN μ p r) && decide (s * cN μ p r ≤ 100 * yN μ p r)) := by
      funext p
      unfold cPs
      rw [e15, nI_cl (by omega)]
    rw [e1] at h
    exact h
end OM
theorem out_l {μ : sv_Mem} {K : Int32 → sv_Mem → Prop} (I : Inv μ) {n R : Nat} (hn : n ≤ 24) (he : μ 40 0 = nI n) (hR : R < 4) (hrd : ∀ r, r ≤ R → ∃ s S, s ≤ 100 ∧ S ≤ 24 ∧ μ 15 r = nI s ∧ μ 16 r = nI S ∧ μ 44 r = nI s ∧ μ 45 r = nI S ∧ μ 46 r = μ 17 r) (h : K (nI (bN (cOut μ n (R + 1)) n)) μ) : ∀ (m r : Nat), r + m = R + 1 → wp m_X10_out 22 [(0, .ref 40), (1, .int (nI R)), (2, .int (nI (bN (cOut μ n r) n))), (3, .int (nI r))] [] μ (sv_QI K)
  | 0, r, hi => by
    have e : r = R + 1 := by omega
    subst e
    exact g_X10_out_22 _ _ _ μ K (br_t (nI_lt (by omega) (by omega)) h)
  | m + 1, r, hi => by
    obtain ⟨s, S, s1, s2, s3, s4, s5, s6, s7⟩ := hrd r (by omega)
    refine g_X10_out_22 _ _ _ μ K (br_f (nI_nlt (by omega) (by omega)) (advances_s I hn he (by omega) s1 s2 s3 s4 s5 s6 s7 ?_))
    rw [nI_1]
    exact out_l I hn he hR hrd h m (r + 1) (by omega)
theorem out_s {μ : sv_Mem} {K : Int32 → sv_Mem → Prop} (I : Inv μ) {n R : Nat} (hn : n ≤ 24) (he : μ 40 0 = nI n) (hR : R < 4) (hrd : ∀ r, r ≤ R → ∃ s S, s ≤ 100 ∧ S ≤ 24 ∧ μ 15 r = nI s ∧ μ 16 r = nI S ∧ μ 44 r = nI s ∧ μ 45 r = nI S ∧ μ 46 r = μ 17 r) (h : K (nI (bN (cOut μ n (R + 1)) n)) μ) : sv_cI m_X10_out [.ref 40, .int (nI R)] μ K := by
  have g := out_l I hn he hR hrd h (R + 1) 0 (by omega)
  refine e_X10_out _ μ K ?_
  rw [he]
  refine br_c (fun z => ?_) (fun z => ?_)
  · have e : n = 0 := (nI_eq (b := 0) (by omega) (by omega)).mp z
    subst e
    exact g
  · rw [every_v hn]
    exact g

/-! ===== what may change without harm; votes ===== -/
def scrP (b : Nat) : Prop := b = 13 ∨ (19 ≤ b ∧ b ≤ 21) ∨ b = 24 ∨ b = 40 ∨ (44 ≤ b ∧ b ≤ 46) ∨ b = 48 ∨ b = 59
def Scr (μ μ' : sv_Mem) : Prop := (∀ b, ¬ scrP b → μ' b = μ b) ∧ (∀ j, j ≠ 7 → j ≠ 8 → μ' 13 j = μ 13 j) ∧ ∀ j, j ≠ 6 → j ≠ 10 → j ≠ 11 → μ' 40 j = μ 40 j
theorem Scr.rf {μ : sv_Mem} : Scr μ μ := ⟨fun _ _ => rfl, fun _ _ _ => rfl, fun _ _ _ _ => rfl⟩
theorem Scr.tr {μ μ' μ'' : sv_Mem} (h : Scr μ μ') (g : Scr μ' μ'') : Scr μ μ'' := ⟨fun b hb => (g.1 b hb).trans (h.1 b hb), fun j a b => (g.2.1 j a b).trans (h.2.1 j a b), fun j a b c => (g.2.2 j a b c).trans (h.2.2 j a b c)⟩
theorem Inv_scr {μ μ' : sv_Mem} (I : Inv μ) (S : Scr μ μ') : Inv μ' := by
  obtain ⟨h, h13, h40⟩ := S
  obtain ⟨i1, i2, i3, i4, i5, i6, i7, i8⟩ := I
  have g : ∀ b, ¬ scrP b → μ' b = μ b := h
  refine ⟨?_, ?_, ?_, ?_, ?_, ?_, ?_, ?_⟩
  · rw [g 9 (by unfold scrP; omega), h40 0 (by omega) (by omega) (by omega), g 10 (by unfold scrP; omega), g 41 (by unfold scrP; omega), g 11 (by unfold scrP; omega), g 42 (by unfold scrP; omega), g 12 (by unfold scrP; omega)]; exact i1
  · rw [g 9 (by unfold scrP; omega), h40 3 (by omega) (by omega) (by omega)]; exact i2
  · rw [h13 4 (by omega) (by omega), h40 4 (by omega) (by omega) (by omega), g 14 (by unfold scrP; omega), g 43 (by unfold scrP; omega), h13 5 (by omega) (by omega), h13 6 (by omega) (by omega), g 15 (by unfold scrP; omega), g 16 (by unfold scrP; omega), g 17 (by unfold scrP; omega)]; exact i3
  · rw [g 39 (by unfold scrP; omega), g 47 (by unfold scrP; omega)]; exact i4
  · rw [g 25 (by unfold scrP; omega), h40 14 (by omega) (by omega) (by omega), g 26 (by unfold scrP; omega), g 49 (by unfold scrP; omega), g 27 (by unfold scrP; omega), g 50 (by unfold scrP; omega), g 29 (by unfold scrP; omega), g 30 (by unfold scrP; omega), g 31 (by unfold scrP; omega), g 32 (by unfold scrP; omega), g 33 (by unfold scrP; omega), g 34 (by unfold scrP; omega), g 51 (by unfold scrP; omega)]; exact i5
  · rw [g 35 (by unfold scrP; omega), h40 18 (by omega) (by omega) (by omega), g 36 (by unfold scrP; omega), g 52 (by unfold scrP; omega), g 37 (by unfold scrP; omega), g 53 (by unfold scrP; omega), g 38 (by unfold scrP; omega), g 54 (by unfold scrP; omega)]; exact i6
  · rw [g 7 (by unfold scrP; omega), g 8 (by unfold scrP; omega), g 55 (by unfold scrP; omega), g 56 (by unfold scrP; omega), g 57 (by unfold scrP; omega), g 3 (by unfold scrP; omega), g 4 (by unfold scrP; omega), g 5 (by unfold scrP; omega), g 6 (by unfold scrP; omega), g 58 (by unfold scrP; omega)]; exact i7
  · rw [g 1 (by unfold scrP; omega), h40 27 (by omega) (by omega) (by omega)]; exact i8
def vv (v : Int32) : Int32 := if v ≤ 0 then (if v = 0 then 0 else -1) else 1
/-- juror j's vote on player p in round r: 1, 0, or -1 where none counts -/
def vt (μ : sv_Mem) (p r j : Nat) : Int32 := if j < (μ 40 3).toNatClampNeg ∧ ((μ 41 p >>> (nI j &&& 31)) &&& 1) = 0 ∧ ¬ μ 55 r = 0 ∧ 9 * p + j < (μ 57 r).toNatClampNeg then vv (μ 58 (240 * r + (9 * p + j))) else -1
theorem vt_scr {μ μ' : sv_Mem} (S : Scr μ μ') (p r j : Nat) : vt μ' p r j = vt μ p r j := by
  unfold vt
  rw [S.2.2 3 (by omega) (by omega) (by omega), S.1 41 (by unfold scrP; omega), S.1 55 (by unfold scrP; omega), S.1 57 (by unfold scrP; omega), S.1 58 (by unfold scrP; omega)]
theorem m9 (p j : Nat) : (9 : Int32) * nI p + nI j = nI (9 * p + j) := by
  rw [show (9 : Int32) = nI 9 from rfl, pk_mul, nI_add]
theorem vv_c {v : Int32} {K : Int32 → Prop} (h : K (vv v)) : (v ≤ 0 → (v = 0 → K 0) ∧ (¬ v = 0 → K (-1))) ∧ (¬ v ≤ 0 → K 1) := by
  unfold vv at h
  refine br_c (fun a => br_c (fun b => ?_) (fun b => ?_)) (fun a => ?_)
  · rw [if_pos a, if_pos b] at h; exact h
  · rw [if_pos a, if_neg b] at h; exact h
  · rw [if_neg a] at h; exact h
theorem vote_s {μ : sv_Mem} {K : Int32 → sv_Mem → Prop} (I : Inv μ) {p r j : Nat} (hp : p < 24) (hr : r < 4) (hj : j < 9) (h : K (vt μ p r j) μ) : sv_cI m_X10_vote [.ref 40, .int (nI p), .int (nI r), .int (nI j)] μ K := by
  obtain ⟨ju, u1, u2, u3, u4⟩ := I.2.1
  have no : K (-1) μ → wp m_X10_vote 54 [(0, .ref 40), (1, .int (nI p)), (2, .int (nI r)), (3, .int (nI j)), (4, .int (9 * nI p + nI j))] [.int 0] μ (sv_QI K) := fun k => g_X10_vote_54 _ _ _ _ _ μ K (br_t rfl (g_X10_vote_78 _ _ _ _ _ _ μ K (br_t (by decide) (br_f (by decide) k))))
  have vr : vp_in (nI r) 4 := vp_in_nI hr (by omega)
  unfold vt at h
  rw [u4, nI_cl (by omega)] at h
  refine e_X10_vote _ _ _ μ K ?_
  rw [u4, nI_cl (show p < 2 ^ 31 by omega), nI_cl (show r < 2 ^ 31 by omega)]
  refine br_c (fun z => ?_) (fun z => ⟨vp_in_nI hp (by omega), br_c (fun y => ⟨vr, br_c (fun x => ?_) (fun x => ⟨vr, br_c (fun w => ?_) (fun w => ?_)⟩)⟩) (fun y => ?_)⟩)
  · rw [if_neg (fun q => absurd z (nI_ge q.1 (by omega)))] at h; exact no h
  · rw [if_neg (fun q => q.2.2.1 x)] at h; exact no h
  · rcases sh_get I.2.2.2.2.2.2.1 r hr with ⟨q1, -⟩ | ⟨q1, q2, q3, n, q5, q6, q7, q8⟩
    · exact absurd q1 x
    · rw [q7, m9] at w
      rw [q7, nI_cl (by omega), if_neg (fun q => absurd w (nI_ge q.2.2.2 (by omega)))] at h
      exact no h
  · rcases sh_get I.2.2.2.2.2.2.1 r hr with ⟨q1, -⟩ | ⟨q1, q2, q3, n, q5, q6, q7, q8⟩
    · exact absurd q1 x
    · rw [q7, m9] at w
      have hl : 9 * p + j < n := by
        rcases Nat.lt_or_ge (9 * p + j) n with q | q
        · exact q
        · exact absurd (nI_le q (by omega)) w
      have hz : j < ju := by
        rcases Nat.lt_or_ge j ju with q | q
        · exact q
        · exact absurd (nI_le q (by omega)) z
      rw [q7, nI_cl (by omega), if_pos ⟨hz, y, x, hl⟩] at h
      rw [m9]
      refine g_X10_vote_54 _ _ _ _ _ μ K (br_f t01 ?_)
      rw [m240, nI_cl (show 240 * r + (9 * p + j) < 2 ^ 31 by omega)]
      exact ⟨vp_in_nI (by omega) (by omega), g_X10_vote_78 _ _ _ _ _ _ μ K (vv_c (K := fun x => K x μ) h)⟩
  · rw [if_neg (fun q => y q.2.1)] at h; exact no h
theorem countingVote_s {μ : sv_Mem} {K : Int32 → sv_Mem → Prop} (I : Inv μ) {n p r j : Nat} (hn : n ≤ 24) (he : μ 40 0 = nI n) (hp : p < n) (hr : r < 4) (hj : nI j < μ 9 5) (h9 : j < 9) (h : K (vt μ p r j) μ) : sv_cI m_X6_countingVote [.ref 9, .int (nI p), .int (nI j), .int (nI r)] μ K := by
  obtain ⟨n', n1, n2, n3, n4, -⟩ := I.1
  have en : n' = n := (nI_eq (by omega) (by omega)).mp (n3.symm.trans he)
  subst en
  obtain ⟨ju, u1, u2, u3, u4⟩ := I.2.1
  rw [u3] at hj
  have hju : j < ju := (nI_ltI (by omega) (by omega)).mp hj
  have vr : vp_in (nI r) 4 := vp_in_nI hr (by omega)
  unfold vt at h
  rw [u4, nI_cl (by omega)] at h
  refine e_X6_countingVote _ _ _ μ K ⟨vp_in_nI (by omega) (by omega), ?_⟩
  rw [nI_cl (show p < 2 ^ 31 by omega), n4 p hp, m9]
  refine br_c (fun y => e_X7_voteAt _ _ μ _ ⟨vr, ?_⟩) (fun y => ?_)
  · rw [nI_cl (show r < 2 ^ 31 by omega)]
    rcases sh_get I.2.2.2.2.2.2.1 r hr with ⟨q1, q2, q3⟩ | ⟨q1, q2, -, n, q5, q6, q7, q8⟩
    · rw [if_neg (fun q => q.2.2.1 q1)] at h
      exact br_t (by rw [q3]; exact nI_pos' (by omega)) h
    · rw [q6]
      have nz : ¬ μ 55 r = 0 := by rw [q1]; decide
      rw [q7, nI_cl (by omega)] at h
      refine br_c (fun w => ?_) (fun w => ⟨vr, row_ln hr ⟨?_, ?_⟩⟩)
      · rw [if_neg (fun q => absurd w (nI_ge q.2.2.2 (by omega)))] at h; exact h
      · have hl : 9 * p + j < n := by
          rcases Nat.lt_or_ge (9 * p + j) n with q | q
          · exact q
          · exact absurd (nI_le q (by omega)) w
        exact vp_in_nI (by omega) (by omega)
      · have hl : 9 * p + j < n := by
          rcases Nat.lt_or_ge (9 * p + j) n with q | q
          · exact q
          · exact absurd (nI_le q (by omega)) w
        rw [if_pos ⟨hju, y, nz, hl⟩] at h
        rw [nI_cl (show 9 * p + j < 2 ^ 31 by omega), q8 _ hl]
        have vi : vp_in (nI (9 * p + j)) 240 := vp_in_nI (by omega) (by omega)
        generalize μ 58 (240 * r + (9 * p + j)) = v at h ⊢
        unfold vv at h
        refine br_c (fun a => ⟨vr, row_ln hr ⟨vi, br_c (fun b => ?_) (fun b => ?_)⟩⟩) (fun a => ?_)
        · rw [if_pos b, if_pos (Int32.le_antisymm b a)] at h; exact h
        · rw [if_neg b] at h; exact h
        · have a' : v < 0 := Int32.not_le.mp a
          rw [if_pos (Int32.le_of_lt a'), if_neg (fun q => by rw [q] at a'; exact absurd a' (by decide))] at h; exact h
  · rw [if_neg (fun q => y q.2.1)] at h; exact h
def cF (μ : sv_Mem) (p r : Nat) : Nat → Nat → Nat := fun j a => if vt μ p r j = -1 then a else a + 1
def yF (μ : sv_Mem) (p r : Nat) : Nat → Nat → Nat := fun j a => if vt μ p r j = 1 then a + 1 else a
/-- how many votes count, how many are yes -/
def cN (μ : sv_Mem) (p r : Nat) : Nat := lp (cF μ p r) 9 0 0
def yN (μ : sv_Mem) (p r : Nat) : Nat := lp (yF μ p r) 9 0 0
theorem lp_add {α : Type} (f : Nat → α → α) : ∀ (m k i : Nat) (a : α), lp f (m + k) i a = lp f k (i + m) (lp f m i a)
  | 0, k, i, a => by simp [lp]
  | m + 1, k, i, a => by
    rw [show m + 1 + k = (m + k) + 1 by omega]
    show lp f (m + k) (i + 1) (f i a) = lp f k (i + (m + 1)) (lp f m (i + 1) (f i a))
    rw [lp_add f m k (i + 1), show i + 1 + m = i + (m + 1) by omega]
theorem lp_id {α : Type} {f : Nat → α → α} : ∀ (m i : Nat) (a : α), (∀ j a, i ≤ j → f j a = a) → lp f m i a = a
  | 0, _, _, _ => rfl
  | m + 1, i, a, h => by
    show lp f m (i + 1) (f i a) = a
    rw [h i a (Nat.le_refl i)]
    exact lp_id m (i + 1) a (fun j a hj => h j a (by omega))
theorem cN_le (μ : sv_Mem) (p r : Nat) : yN μ p r ≤ cN μ p r ∧ cN μ p r ≤ 9 :=
  lp_rel (fun i a b => a ≤ b ∧ b ≤ i) 9 0 0 0 ⟨Nat.le_refl 0, Nat.le_refl 0⟩ (fun j a b _ _ h => by
    unfold yF cF
    by_cases e : vt μ p r j = 1
    · rw [if_pos e, if_neg (fun z => by rw [z] at e; exact absurd e (by decide))]; omega
    · rw [if_neg e]
      by_cases g : vt μ p r j = -1
      · rw [if_pos g]; omega
      · rw [if_neg g]; omega)
theorem cN_scr {μ μ' : sv_Mem} (S : Scr μ μ') (p r : Nat) : cN μ' p r = cN μ p r := lp_congr (fun j a _ _ => by unfold cF; rw [vt_scr S])
theorem yN_scr {μ μ' : sv_Mem} (S : Scr μ μ') (p r : Nat) : yN μ' p r = yN μ p r := lp_congr (fun j a _ _ => by unfold yF; rw [vt_scr S])
theorem vt_out {μ : sv_Mem} {ju : Nat} (h9 : ju ≤ 9) (he : μ 40 3 = nI ju) {p r j : Nat} (h : ju ≤ j) : vt μ p r j = -1 := by
  unfold vt
  rw [he, nI_cl (by omega), if_neg (fun q => by omega)]
theorem countingVotes_l {μ : sv_Mem} {K : Int32 → sv_Mem → Prop} (I : Inv μ) {n p r ju : Nat} (hn : n ≤ 24) (he : μ 40 0 = nI n) (hp : p < n) (hr : r < 4) (h9 : ju ≤ 9) (hu : μ 9 5 = nI ju) : ∀ (m i a : Nat), i + m = ju → K (nI (lp (cF μ p r) m i a)) μ → wp m_X6_countingVotes 5 [(0, .ref 9), (1, .int (nI p)), (2, .int (nI r)), (3, .int (nI a)), (4, .int (nI i))] [] μ (sv_QI K)
  | 0, i, a, hi, h => g_X6_countingVotes_5 _ _ _ _ μ K (br_t (by rw [hu]; exact nI_le (by omega) (by omega)) h)
  | m + 1, i, a, hi, h => by
    refine g_X6_countingVotes_5 _ _ _ _ μ K (br_f (by rw [hu]; exact nI_ge (by omega) (by omega)) ?_)
    rw [nI_1, nI_1]
    have h1 : K (nI (lp (cF μ p r) m (i + 1) (cF μ p r i a))) μ := h
    refine countingVote_s I hn he hp hr (by rw [hu]; exact nI_lt (by omega) (by omega)) (by omega) (br_c (fun z => countingVotes_l I hn he hp hr h9 hu m (i + 1) _ (by omega) ?_) (fun z => countingVotes_l I hn he hp hr h9 hu m (i + 1) _ (by omega) ?_))
    · rw [show cF μ p r i a = a from if_pos z] at h1; exact h1
    · rw [show cF μ p r i a = a + 1 from if_neg z] at h1; exact h1
theorem yesVotes_l {μ : sv_Mem} {K : Int32 → sv_Mem → Prop} (I : Inv μ) {n p r ju : Nat} (hn : n ≤ 24) (he : μ 40 0 = nI n) (hp : p < n) (hr : r < 4) (h9 : ju ≤ 9) (hu : μ 9 5 = nI ju) : ∀ (m i a : Nat), i + m = ju → K (nI (lp (yF μ p r) m i a)) μ → wp m_X6_yesVotes 5 [(0, .ref 9), (1, .int (nI p)), (2, .int (nI r)), (3, .int (nI a)), (4, .int (nI i))] [] μ (sv_QI K)
  | 0, i, a, hi, h => g_X6_yesVotes_5 _ _ _ _ μ K (br_t (by rw [hu]; exact nI_le (by omega) (by omega)) h)
  | m + 1, i, a, hi, h => by
    refine g_X6_yesVotes_5 _ _ _ _ μ K (br_f (by rw [hu]; exact nI_ge (by omega) (by omega)) ?_)
    rw [nI_1, nI_1]
    have h1 : K (nI (lp (yF μ p r) m (i + 1) (yF μ p r i a))) μ := h
    refine countingVote_s I hn he hp hr (by rw [hu]; exact nI_lt (by omega) (by omega)) (by omega) (br_c (fun z => yesVotes_l I hn he hp hr h9 hu m (i + 1) _ (by omega) ?_) (fun z => yesVotes_l I hn he hp hr h9 hu m (i + 1) _ (by omega) ?_))
    · rw [show yF μ p r i a = a + 1 from if_pos z] at h1; exact h1
    · rw [show yF μ p r i a = a from if_neg z] at h1; exact h1
theorem countingVotes_s {μ : sv_Mem} {K : Int32 → sv_Mem → Prop} (I : Inv μ) {n p r : Nat} (hn : n ≤ 24) (he : μ 40 0 = nI n) (hp : p < n) (hr : r < 4) (h : K (nI (cN μ p r)) μ) : sv_cI m_X6_countingVotes [.ref 9, .int (nI p), .int (nI r)] μ K := by
  obtain ⟨ju, u1, u2, u3, u4⟩ := I.2.1
  refine e_X6_countingVotes _ _ μ K (countingVotes_l I hn he hp hr u2 u3 ju 0 0 (by omega) ?_)
  have e : cN μ p r = lp (cF μ p r) ju 0 0 := by
    unfold cN
    rw [show 9 = ju + (9 - ju) by omega, lp_add]
    exact lp_id (f := cF μ p r) _ _ _ (fun j a hj => if_pos (vt_out u2 u4 (by omega)))
  rw [← e]
  exact h
theorem yesVotes_s {μ : sv_Mem} {K : Int32 → sv_Mem → Prop} (I : Inv μ) {n p r : Nat} (hn : n ≤ 24) (he : μ 40 0 = nI n) (hp : p < n) (hr : r < 4) (h : K (nI (yN μ p r)) μ) : sv_cI m_X6_yesVotes [.ref 9, .int (nI p), .int (nI r)] μ K := by
  obtain ⟨ju, u1, u2, u3, u4⟩ := I.2.1
  refine e_X6_yesVotes _ _ μ K (yesVotes_l I hn he hp hr u2 u3 ju 0 0 (by omega) ?_)
  have e : yN μ p r = lp (yF μ p r) ju 0 0 := by
    unfold yN
    rw [show 9 = ju + (9 - ju) by omega, lp_add]
    exact lp_id (f := yF μ p r) _ _ _ (fun j a hj => if_neg (by rw [vt_out u2 u4 (by omega)]; decide))
  rw [← e]
  exact h
theorem counted_l {μ : sv_Mem} {K : Int32 → sv_Mem → Prop} (I : Inv μ) {p r : Nat} (hp : p < 24) (hr : r < 4) : ∀ (m i a : Nat), i + m = 9 → K (nI (lp (cF μ p r) m i a)) μ → wp m_X10_counted 5 [(0, .ref 40), (1, .int (nI p)), (2, .int (nI r)), (3, .int (nI a)), (4, .int (nI i))] [] μ (sv_QI K)
  | 0, i, a, hi, h => g_X10_counted_5 _ _ _ _ μ K (br_t (nI_le (a := 9) (by omega) (by omega)) h)
  | m + 1, i, a, hi, h => by
    refine g_X10_counted_5 _ _ _ _ μ K (br_f (nI_ge (b := 9) (by omega) (by omega)) ?_)
    rw [nI_1, nI_1, Int32.add_zero]
    have h1 : K (nI (lp (cF μ p r) m (i + 1) (cF μ p r i a))) μ := h
    refine vote_s I hp hr (by omega) (br_c (fun z => counted_l I hp hr m (i + 1) _ (by omega) ?_) (fun z => counted_l I hp hr m (i + 1) _ (by omega) ?_))
    · rw [show cF μ p r i a = a from if_pos z] at h1; exact h1
    · rw [show cF μ p r i a = a + 1 from if_neg z] at h1; exact h1
theorem yes_l {μ : sv_Mem} {K : Int32 → sv_Mem → Prop} (I : Inv μ) {p r : Nat} (hp : p < 24) (hr : r < 4) : ∀ (m i a : Nat), i + m = 9 → K (nI (lp (yF μ p r) m i a)) μ → wp m_X10_yes 5 [(0, .ref 40), (1, .int (nI p)), (2, .int (nI r)), (3, .int (nI a)), (4, .int (nI i))] [] μ (sv_QI K)
  | 0, i, a, hi, h => g_X10_yes_5 _ _ _ _ μ K (br_t (nI_le (a := 9) (by omega) (by omega)) h)
  | m + 1, i, a, hi, h => by
    refine g_X10_yes_5 _ _ _ _ μ K (br_f (nI_ge (b := 9) (by omega) (by omega)) ?_)
    rw [nI_1, nI_1, Int32.add_zero]
    have h1 : K (nI (lp (yF μ p r) m (i + 1) (yF μ p r i a))) μ := h
    refine vote_s I hp hr (by omega) (br_c (fun z => yes_l I hp hr m (i + 1) _ (by omega) ?_) (fun z => yes_l I hp hr m (i + 1) _ (by omega) ?_))
    · rw [show yF μ p r i a = a + 1 from if_pos z] at h1; exact h1
    · rw [show yF μ p r i a = a from if_neg z] at h1; exact h1
theorem counted_s {μ : sv_Mem} {K : Int32 → sv_Mem → Prop} (I : Inv μ) {p r : Nat} (hp : p < 24) (hr : r < 4) (h : K (nI (cN μ p r)) μ) : sv_cI m_X10_counted [.ref 40, .int (nI p), .int (nI r)] μ K := e_X10_counted _ _ μ K (counted_l I hp hr 9 0 0 (by omega) h)
theorem yes_s {μ : sv_Mem} {K : Int32 → sv_Mem → Prop} (I : Inv μ) {p r : Nat} (hp : p < 24) (hr : r < 4) (h : K (nI (yN μ p r)) μ) : sv_cI m_X10_yes [.ref 40, .int (nI p), .int (nI r)] μ K := e_X10_yes _ _ μ K (yes_l I hp hr 9 0 0 (by omega) h)
theorem L_votes (a b c : Int32) {μ : sv_Mem} (I : Inv μ) : Both m_X9_votes m_X10_votes [.int a, .int b, .int c] μ := by
  obtain ⟨n, hn, e1, e2, -⟩ := id I.1
  refine e_X9_votes a b c μ _ (isPlayer_s (fun h => br_f t01 ?_) (fun h => br_t rfl ?_))
  · have h' : rg a 0 (μ 40 0 - 1) := by rw [e2]; rw [e1] at h; exact h
    refine isRound_s (fun h2 => br_f t01 ?_) (fun h2 => br_t rfl ?_)
    · refine within_s (fun h3 => br_f t01 ?_) (fun h3 => br_t rfl ?_)
      · rw [e1] at h
        obtain ⟨p, hp, ea⟩ := rg_lt (by omega) h
        obtain ⟨r, hr, eb⟩ := rg_nat (n := 3) rfl h2
        subst ea eb
        refine br_c (fun z => countingVotes_s I hn e2 hp (by omega) ?_) (fun z => yesVotes_s I hn e2 hp (by omega) ?_)
        · exact e_X10_votes _ _ c _ _ (isPlayerM_s (fun _ => br_f t01 (in_s (fun _ => br_f t01 (in_s (fun _ => br_f t01 (br_t z (counted_s I (by omega) (by omega) ⟨rfl, I⟩))) (fun z => absurd h3 z))) (fun z => absurd h2 z))) (fun z => absurd h' z))
        · exact e_X10_votes _ _ c _ _ (isPlayerM_s (fun _ => br_f t01 (in_s (fun _ => br_f t01 (in_s (fun _ => br_f t01 (br_f z (yes_s I (by omega) (by omega) ⟨rfl, I⟩))) (fun z => absurd h3 z))) (fun z => absurd h2 z))) (fun z => absurd h' z))
      · exact e_X10_votes a b c _ _ (isPlayerM_s (fun _ => br_f t01 (in_s (fun _ => br_f t01 (in_s (fun z => absurd z h3) (fun _ => br_t rfl ⟨rfl, I⟩))) (fun z => absurd h2 z))) (fun z => absurd h' z))
    · exact e_X10_votes a b c _ _ (isPlayerM_s (fun _ => br_f t01 (in_s (fun z => absurd z h2) (fun _ => br_t rfl ⟨rfl, I⟩))) (fun z => absurd h' z))
  · exact e_X10_votes a b c _ _ (isPlayerM_s (fun z => absurd (by rw [e1]; rw [e2] at z; exact z) h) (fun _ => br_t rfl ⟨rfl, I⟩))

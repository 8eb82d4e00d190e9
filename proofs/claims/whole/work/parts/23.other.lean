/-! ===== other rules ===== -/
def yA (μ : sv_Mem) (R p : Nat) : Nat := lp (fun r a => a + yN μ p r) R 0 0
def cA (μ : sv_Mem) (R p : Nat) : Nat := lp (fun r a => a + cN μ p r) R 0 0
theorem yA_scr {μ μ' : sv_Mem} (S : Scr μ μ') (R p : Nat) : yA μ' R p = yA μ R p := lp_congr (fun r a _ _ => by rw [yN_scr S])
theorem cA_scr {μ μ' : sv_Mem} (S : Scr μ μ') (R p : Nat) : cA μ' R p = cA μ R p := lp_congr (fun r a _ _ => by rw [cN_scr S])
theorem yA_le (μ : sv_Mem) (R p : Nat) : yA μ R p ≤ 9 * R := by
  have h := lp_rel (f := fun r a => a + yN μ p r) (g := fun _ (_ : Unit) => ()) (fun i a _ => a ≤ 9 * i) R 0 0 () (by omega) (fun j a b _ _ h => by have := cN_le μ p j; omega)
  rw [Nat.zero_add] at h
  exact h
theorem cA_le (μ : sv_Mem) (R p : Nat) : cA μ R p ≤ 9 * R := by
  have h := lp_rel (f := fun r a => a + cN μ p r) (g := fun _ (_ : Unit) => ()) (fun i a _ => a ≤ 9 * i) R 0 0 () (by omega) (fun j a b _ _ h => by have := cN_le μ p j; omega)
  rw [Nat.zero_add] at h
  exact h
theorem yesInAll_l {μ : sv_Mem} {K : Int32 → sv_Mem → Prop} (I : Inv μ) {n p R : Nat} (hn : n ≤ 24) (he : μ 40 0 = nI n) (hp : p < n) (hR : R ≤ 4) (h5 : μ 13 5 = nI R) : ∀ (m r a : Nat), r + m = R → K (nI (lp (fun r a => a + yN μ p r) m r a)) μ → wp m_X5_yesInAll 4 [(0, .ref 22), (1, .int (nI p)), (2, .int (nI a)), (3, .int (nI r))] [] μ (sv_QI K)
  | 0, r, a, hr, h => g_X5_yesInAll_4 _ _ _ μ K (br_t (by rw [h5]; exact nI_le (by omega) (by omega)) h)
  | m + 1, r, a, hr, h => by
    refine g_X5_yesInAll_4 _ _ _ μ K (br_f (by rw [h5]; exact nI_ge (by omega) (by omega)) (yesVotes_s I hn he hp (by omega) ?_))
    rw [nI_1, nI_add]
    exact yesInAll_l I hn he hp hR h5 m (r + 1) _ (by omega) h
theorem votesInAll_l {μ : sv_Mem} {K : Int32 → sv_Mem → Prop} (I : Inv μ) {n p R : Nat} (hn : n ≤ 24) (he : μ 40 0 = nI n) (hp : p < n) (hR : R ≤ 4) (h5 : μ 13 5 = nI R) : ∀ (m r a : Nat), r + m = R → K (nI (lp (fun r a => a + cN μ p r) m r a)) μ → wp m_X5_votesInAll 4 [(0, .ref 22), (1, .int (nI p)), (2, .int (nI a)), (3, .int (nI r))] [] μ (sv_QI K)
  | 0, r, a, hr, h => g_X5_votesInAll_4 _ _ _ μ K (br_t (by rw [h5]; exact nI_le (by omega) (by omega)) h)
  | m + 1, r, a, hr, h => by
    refine g_X5_votesInAll_4 _ _ _ μ K (br_f (by rw [h5]; exact nI_ge (by omega) (by omega)) (countingVotes_s I hn he hp (by omega) ?_))
    rw [nI_1, nI_add]
    exact votesInAll_l I hn he hp hR h5 m (r + 1) _ (by omega) h
theorem yesInAll_s {μ : sv_Mem} {K : Int32 → sv_Mem → Prop} (I : Inv μ) {n p R : Nat} (hn : n ≤ 24) (he : μ 40 0 = nI n) (hp : p < n) (hR : R ≤ 4) (h5 : μ 13 5 = nI R) (h : K (nI (yA μ R p)) μ) : sv_cI m_X5_yesInAll [.ref 22, .int (nI p)] μ K := e_X5_yesInAll _ μ K (yesInAll_l I hn he hp hR h5 R 0 0 (by omega) h)
theorem votesInAll_s {μ : sv_Mem} {K : Int32 → sv_Mem → Prop} (I : Inv μ) {n p R : Nat} (hn : n ≤ 24) (he : μ 40 0 = nI n) (hp : p < n) (hR : R ≤ 4) (h5 : μ 13 5 = nI R) (h : K (nI (cA μ R p)) μ) : sv_cI m_X5_votesInAll [.ref 22, .int (nI p)] μ K := e_X5_votesInAll _ μ K (votesInAll_l I hn he hp hR h5 R 0 0 (by omega) h)
theorem allVotes1_l {μ : sv_Mem} {K : Int32 → sv_Mem → Prop} (I : Inv μ) {p R : Nat} (hp : p < 24) (hR : R ≤ 4) (h6 : μ 40 6 = nI R) : ∀ (m r a : Nat), r + m = R → K (nI (lp (fun r a => a + yN μ p r) m r a)) μ → wp m_X10_allVotes 5 [(0, .ref 40), (1, .int (nI p)), (2, .int 1), (3, .int (nI a)), (4, .int (nI r))] [] μ (sv_QI K)
  | 0, r, a, hr, h => g_X10_allVotes_5 _ _ _ _ μ K (br_t (by rw [h6]; exact nI_le (by omega) (by omega)) h)
  | m + 1, r, a, hr, h => by
    refine g_X10_allVotes_5 _ _ _ _ μ K (br_f (by rw [h6]; exact nI_ge (by omega) (by omega)) (br_f t01 (yes_s I hp (by omega) ?_)))
    rw [nI_1, nI_add]
    exact allVotes1_l I hp hR h6 m (r + 1) _ (by omega) h
theorem allVotes0_l {μ : sv_Mem} {K : Int32 → sv_Mem → Prop} (I : Inv μ) {p R : Nat} (hp : p < 24) (hR : R ≤ 4) (h6 : μ 40 6 = nI R) : ∀ (m r a : Nat), r + m = R → K (nI (lp (fun r a => a + cN μ p r) m r a)) μ → wp m_X10_allVotes 5 [(0, .ref 40), (1, .int (nI p)), (2, .int 0), (3, .int (nI a)), (4, .int (nI r))] [] μ (sv_QI K)
  | 0, r, a, hr, h => g_X10_allVotes_5 _ _ _ _ μ K (br_t (by rw [h6]; exact nI_le (by omega) (by omega)) h)
  | m + 1, r, a, hr, h => by
    refine g_X10_allVotes_5 _ _ _ _ μ K (br_f (by rw [h6]; exact nI_ge (by omega) (by omega)) (br_t rfl (counted_s I hp (by omega) ?_)))
    rw [nI_1, nI_add]
    exact allVotes0_l I hp hR h6 m (r + 1) _ (by omega) h
theorem allVotes1_s {μ : sv_Mem} {K : Int32 → sv_Mem → Prop} (I : Inv μ) {p R : Nat} (hp : p < 24) (hR : R ≤ 4) (h6 : μ 40 6 = nI R) (h : K (nI (yA μ R p)) μ) : sv_cI m_X10_allVotes [.ref 40, .int (nI p), .int 1] μ K := e_X10_allVotes _ _ μ K (allVotes1_l I hp hR h6 R 0 0 (by omega) h)
theorem allVotes0_s {μ : sv_Mem} {K : Int32 → sv_Mem → Prop} (I : Inv μ) {p R : Nat} (hp : p < 24) (hR : R ≤ 4) (h6 : μ 40 6 = nI R) (h : K (nI (cA μ R p)) μ) : sv_cI m_X10_allVotes [.ref 40, .int (nI p), .int 0] μ K := e_X10_allVotes _ _ μ K (allVotes0_l I hp hR h6 R 0 0 (by omega) h)
def oI (b : Option Nat) : Int32 := match b with
  | none => -1
  | some p => nI p
def lnP (μ : sv_Mem) (i : Nat) : Nat := (μ 42 i).toNatClampNeg
def mF (μ : sv_Mem) (R : Nat) : Nat → Option Nat → Option Nat := fun i b => match b with
  | none => some (lnP μ i)
  | some q => if yA μ R q < yA μ R (lnP μ i) then some (lnP μ i) else some q
def gF (μ : sv_Mem) (R : Nat) : Nat → Option Nat → Option Nat := fun i b => if cA μ R (lnP μ i) = 0 then b else match b with
  | none => some (lnP μ i)
  | some q => if yA μ R q * cA μ R (lnP μ i) < yA μ R (lnP μ i) * cA μ R q then some (lnP μ i) else some q
/-- the order's i-th: a player's number -/
theorem ln_p {μ : sv_Mem} (I : Inv μ) {n : Nat} (hn : n ≤ 24) (he : μ 40 0 = nI n) {i : Nat} (hi : i < n) : lnP μ i < n ∧ μ 42 i = nI (lnP μ i) ∧ μ 11 i = nI (lnP μ i) := by
  obtain ⟨n', n1, n2, n3, n4, n5, n6, n7⟩ := I.1
  have en : n' = n := (nI_eq (by omega) (by omega)).mp (n3.symm.trans he)
  subst en
  obtain ⟨p, p1, p2, p3⟩ := n6 i hi
  have e : lnP μ i = p := by unfold lnP; rw [p2, nI_cl (by omega)]
  rw [e]
  exact ⟨p1, p2, (n5 i hi).trans p2⟩
theorem pl9 {μ : sv_Mem} (I : Inv μ) {n : Nat} (hn : n ≤ 24) (he : μ 40 0 = nI n) : μ 9 4 = nI n := by
  obtain ⟨n', n1, n2, n3, -⟩ := I.1
  exact n2.trans (n3.symm.trans he)
theorem mostYes_l {μ : sv_Mem} {K : Int32 → sv_Mem → Prop} (I : Inv μ) {n R : Nat} (hn : n ≤ 24) (he : μ 40 0 = nI n) (hR : R ≤ 4) (h5 : μ 13 5 = nI R) : ∀ (m i : Nat) (b : Option Nat) (x : Int32), i + m = n → (match b with | none => x = -1 | some q => q < n ∧ x = nI (yA μ R q)) → K (oI (lp (mF μ R) m i b)) μ → wp m_X5_mostYes 6 [(0, .ref 22), (1, .int (oI b)), (2, .int x), (3, .int (nI i))] [] μ (sv_QI K)
  | 0, i, b, x, hi, hx, h => g_X5_mostYes_6 _ _ _ μ K (br_t (by rw [pl9 I hn he]; exact nI_le (by omega) (by omega)) h)
  | m + 1, i, b, x, hi, hx, h => by
    obtain ⟨p1, p2, p3⟩ := ln_p I hn he (i := i) (by omega)
    have v : vp_in (nI i) 24 := vp_in_nI (by omega) (by omega)
    have ub := yA_le μ R (lnP μ i)
    refine g_X5_mostYes_6 _ _ _ μ K (br_f (by rw [pl9 I hn he]; exact nI_ge (by omega) (by omega)) ⟨v, ?_⟩)
    rw [nI_cl (by omega), p3, nI_1]
    refine yesInAll_s I hn he p1 hR h5 ?_
    have h1 : K (oI (lp (mF μ R) m (i + 1) (mF μ R i b))) μ := h
    cases b with
    | none =>
      dsimp only at hx
      subst hx
      refine br_f ?_ ⟨v, ?_⟩
      · rw [Int32.le_iff_toInt_le, nI_toInt (by omega)]
        have : (-1 : Int32).toInt = -1 := by decide
        omega
      · rw [p3]
        exact mostYes_l I hn he hR h5 m (i + 1) (some (lnP μ i)) _ (by omega) ⟨p1, rfl⟩ h1
    | some q =>
      obtain ⟨hq, hx⟩ := hx
      subst hx
      have uq := yA_le μ R q
      refine br_c (fun z => ?_) (fun z => ⟨v, ?_⟩)
      · have z' := (nI_leI (by omega) (by omega)).mp z
        rw [show mF μ R i (some q) = some q from if_neg (by omega)] at h1
        exact mostYes_l I hn he hR h5 m (i + 1) (some q) _ (by omega) ⟨hq, rfl⟩ h1
      · have z' : yA μ R q < yA μ R (lnP μ i) := by
          rcases Nat.lt_or_ge (yA μ R q) (yA μ R (lnP μ i)) with w | w
          · exact w
          · exact absurd (nI_le w (by omega)) z
        rw [show mF μ R i (some q) = some (lnP μ i) from if_pos z'] at h1
        rw [p3]
        exact mostYes_l I hn he hR h5 m (i + 1) (some (lnP μ i)) _ (by omega) ⟨p1, rfl⟩ h1
theorem greatestShare_l {μ : sv_Mem} {K : Int32 → sv_Mem → Prop} (I : Inv μ) {n R : Nat} (hn : n ≤ 24) (he : μ 40 0 = nI n) (hR : R ≤ 4) (h5 : μ 13 5 = nI R) : ∀ (m i : Nat) (b : Option Nat) (x y : Int32), i + m = n → (match b with | none => True | some q => q < n ∧ x = nI (yA μ R q) ∧ y = nI (cA μ R q)) → K (oI (lp (gF μ R) m i b)) μ → wp m_X5_greatestShare 9 [(0, .ref 22), (1, .int (oI b)), (2, .int x), (3, .int y), (4, .int (nI i))] [] μ (sv_QI K)
  | 0, i, b, x, y, hi, hx, h => g_X5_greatestShare_9 _ _ _ _ μ K (br_t (by rw [pl9 I hn he]; exact nI_le (by omega) (by omega)) h)
  | m + 1, i, b, x, y, hi, hx, h => by
    obtain ⟨p1, p2, p3⟩ := ln_p I hn he (i := i) (by omega)
    have v : vp_in (nI i) 24 := vp_in_nI (by omega) (by omega)
    have ub := yA_le μ R (lnP μ i)
    have uc := cA_le μ R (lnP μ i)
    refine g_X5_greatestShare_9 _ _ _ _ μ K (br_f (by rw [pl9 I hn he]; exact nI_ge (by omega) (by omega)) ⟨v, ?_⟩)
    rw [nI_cl (by omega), p3, nI_1]
    refine yesInAll_s I hn he p1 hR h5 ⟨v, ?_⟩
    rw [p3]
    refine votesInAll_s I hn he p1 hR h5 ?_
    have h1 : K (oI (lp (gF μ R) m (i + 1) (gF μ R i b))) μ := h
    by_cases c0 : cA μ R (lnP μ i) = 0
    · rw [show gF μ R i b = b from if_pos c0] at h1
      have z : nI (cA μ R (lnP μ i)) ≤ 0 := by rw [c0]; decide
      have go := greatestShare_l I hn he hR h5 m (i + 1) b x y (by omega) hx h1
      exact br_c (fun _ => br_t z go) (fun _ => br_c (fun _ => br_t z go) (fun _ => br_t z go))
    · have z : ¬ nI (cA μ R (lnP μ i)) ≤ 0 := nI_nle (by omega) (by omega)
      cases b with
      | none =>
        rw [show gF μ R i none = some (lnP μ i) from if_neg c0] at h1
        rw [p3]
        exact br_t rfl (br_f z (br_f t01 ⟨v, greatestShare_l I hn he hR h5 m (i + 1) (some (lnP μ i)) _ _ (by omega) ⟨p1, rfl, rfl⟩ h1⟩))
      | some q =>
        obtain ⟨hq, hx, hy⟩ := hx
        subst hx hy
        have uq := yA_le μ R q
        have wq := cA_le μ R q
        have b1 : yA μ R (lnP μ i) * cA μ R q ≤ 36 * 36 := Nat.mul_le_mul (by omega) (by omega)
        have b2 : yA μ R q * cA μ R (lnP μ i) ≤ 36 * 36 := Nat.mul_le_mul (by omega) (by omega)
        refine br_f (nI_m1 (by omega)) ?_
        rw [pk_mul, pk_mul, p3]
        refine br_c (fun w => br_f z (br_t rfl ?_)) (fun w => br_f z (br_f t01 ⟨v, ?_⟩))
        · have w' := (nI_leI (by omega) (by omega)).mp w
          rw [show gF μ R i (some q) = some q from (if_neg c0).trans (if_neg (by omega))] at h1
          exact greatestShare_l I hn he hR h5 m (i + 1) (some q) _ _ (by omega) ⟨hq, rfl, rfl⟩ h1
        · have w' : yA μ R q * cA μ R (lnP μ i) < yA μ R (lnP μ i) * cA μ R q := by
            rcases Nat.lt_or_ge (yA μ R q * cA μ R (lnP μ i)) (yA μ R (lnP μ i) * cA μ R q) with u | u
            · exact u
            · exact absurd (nI_le u (by omega)) w
          rw [show gF μ R i (some q) = some (lnP μ i) from (if_neg c0).trans (if_pos w')] at h1
          exact greatestShare_l I hn he hR h5 m (i + 1) (some (lnP μ i)) _ _ (by omega) ⟨p1, rfl, rfl⟩ h1
theorem otherM1_l {μ : sv_Mem} {K : Int32 → sv_Mem → Prop} (I : Inv μ) {n R : Nat} (hn : n ≤ 24) (he : μ 40 0 = nI n) (hR : R ≤ 4) (h6 : μ 40 6 = nI R) : ∀ (m i : Nat) (b : Option Nat), i + m = n → (match b with | none => True | some q => q < n) → K (oI (lp (mF μ R) m i b)) μ → wp m_X10_other 36 [(0, .ref 40), (1, .int 1), (2, .int (oI b)), (3, .int (nI i))] [] μ (sv_QI K)
  | 0, i, b, hi, hx, h => g_X10_other_36 _ _ _ μ K (br_t (by rw [he]; exact nI_le (by omega) (by omega)) h)
  | m + 1, i, b, hi, hx, h => by
    obtain ⟨p1, p2, p3⟩ := ln_p I hn he (i := i) (by omega)
    have v : vp_in (nI i) 24 := vp_in_nI (by omega) (by omega)
    have ub := yA_le μ R (lnP μ i)
    refine g_X10_other_36 _ _ _ μ K (br_f (by rw [he]; exact nI_ge (by omega) (by omega)) ⟨v, br_f (by decide) (br_t rfl ?_)⟩)
    rw [nI_cl (by omega), p2, nI_1]
    have h1 : K (oI (lp (mF μ R) m (i + 1) (mF μ R i b))) μ := h
    cases b with
    | none => exact br_t rfl (otherM1_l I hn he hR h6 m (i + 1) (some (lnP μ i)) (by omega) p1 h1)
    | some q =>
      dsimp only at hx
      have uq := yA_le μ R q
      refine br_f (nI_m1 (by omega)) (allVotes1_s I (by omega) hR h6 (allVotes1_s I (by omega) hR h6 (br_c (fun w => ?_) (fun w => ?_))))
      · have z' := (nI_leI (by omega) (by omega)).mp w
        rw [show mF μ R i (some q) = some q from if_neg (by omega)] at h1
        exact otherM1_l I hn he hR h6 m (i + 1) (some q) (by omega) hx h1
      · have z' : yA μ R q < yA μ R (lnP μ i) := by
          rcases Nat.lt_or_ge (yA μ R q) (yA μ R (lnP μ i)) with u | u
          · exact u
          · exact absurd (nI_le u (by omega)) w
        rw [show mF μ R i (some q) = some (lnP μ i) from if_pos z'] at h1
        exact otherM1_l I hn he hR h6 m (i + 1) (some (lnP μ i)) (by omega) p1 h1
theorem otherM2_l {μ : sv_Mem} {K : Int32 → sv_Mem → Prop} (I : Inv μ) {n R : Nat} (hn : n ≤ 24) (he : μ 40 0 = nI n) (hR : R ≤ 4) (h6 : μ 40 6 = nI R) : ∀ (m i : Nat) (b : Option Nat), i + m = n → (match b with | none => True | some q => q < n) → K (oI (lp (gF μ R) m i b)) μ → wp m_X10_other 36 [(0, .ref 40), (1, .int 2), (2, .int (oI b)), (3, .int (nI i))] [] μ (sv_QI K)
  | 0, i, b, hi, hx, h => g_X10_other_36 _ _ _ μ K (br_t (by rw [he]; exact nI_le (by omega) (by omega)) h)
  | m + 1, i, b, hi, hx, h => by
    obtain ⟨p1, p2, p3⟩ := ln_p I hn he (i := i) (by omega)
    have v : vp_in (nI i) 24 := vp_in_nI (by omega) (by omega)
    have ub := yA_le μ R (lnP μ i)
    have uc := cA_le μ R (lnP μ i)
    refine g_X10_other_36 _ _ _ μ K (br_f (by rw [he]; exact nI_ge (by omega) (by omega)) ⟨v, br_f (by decide) (br_f (by decide) ?_)⟩)
    rw [nI_cl (by omega), p2, nI_1]
    refine allVotes0_s I (by omega) hR h6 ?_
    have h1 : K (oI (lp (gF μ R) m (i + 1) (gF μ R i b))) μ := h
    by_cases c0 : cA μ R (lnP μ i) = 0
    · rw [show gF μ R i b = b from if_pos c0] at h1
      exact br_t (by rw [c0]; decide) (otherM2_l I hn he hR h6 m (i + 1) b (by omega) hx h1)
    · refine br_f (nI_nle (by omega) (by omega)) ?_
      cases b with
      | none =>
        rw [show gF μ R i none = some (lnP μ i) from if_neg c0] at h1
        exact br_t rfl (br_f t01 (otherM2_l I hn he hR h6 m (i + 1) (some (lnP μ i)) (by omega) p1 h1))
      | some q =>
        dsimp only at hx
        have uq := yA_le μ R q
        have wq := cA_le μ R q
        have b1 : yA μ R (lnP μ i) * cA μ R q ≤ 36 * 36 := Nat.mul_le_mul (by omega) (by omega)
        have b2 : yA μ R q * cA μ R (lnP μ i) ≤ 36 * 36 := Nat.mul_le_mul (by omega) (by omega)
        refine br_f (nI_m1 (by omega)) (allVotes1_s I (by omega) hR h6 (allVotes0_s I (by omega) hR h6 (allVotes1_s I (by omega) hR h6 (allVotes0_s I (by omega) hR h6 ?_))))
        rw [pk_mul, pk_mul]
        refine br_c (fun w => br_t rfl ?_) (fun w => br_f t01 ?_)
        · have w' := (nI_leI (by omega) (by omega)).mp w
          rw [show gF μ R i (some q) = some q from (if_neg c0).trans (if_neg (by omega))] at h1
          exact otherM2_l I hn he hR h6 m (i + 1) (some q) (by omega) hx h1
        · have w' : yA μ R q * cA μ R (lnP μ i) < yA μ R (lnP μ i) * cA μ R q := by
            rcases Nat.lt_or_ge (yA μ R q * cA μ R (lnP μ i)) (yA μ R (lnP μ i) * cA μ R q) with u | u
            · exact u
            · exact absurd (nI_le u (by omega)) w
          rw [show gF μ R i (some q) = some (lnP μ i) from (if_neg c0).trans (if_pos w')] at h1
          exact otherM2_l I hn he hR h6 m (i + 1) (some (lnP μ i)) (by omega) p1 h1
/-! rule 3 -/
def pF (μ : sv_Mem) (p q : Nat) : Nat → Nat → Nat := fun j a => if vt μ p 0 j = 1 ∧ vt μ q 0 j = 0 then a + 1 else a
def pt (μ : sv_Mem) (p q : Nat) : Nat := lp (pF μ p q) 9 0 0
theorem pt_le (μ : sv_Mem) (p q : Nat) : pt μ p q ≤ 9 := lp_rel (f := pF μ p q) (g := fun _ (_ : Unit) => ()) (fun i a _ => a ≤ i) 9 0 0 () (by omega) (fun j a b _ _ h => by unfold pF; by_cases e : vt μ p 0 j = 1 ∧ vt μ q 0 j = 0 <;> simp only [e, if_true, if_false, and_self] <;> omega)
theorem jurorsOnPart_l {μ : sv_Mem} {K : Int32 → sv_Mem → Prop} (I : Inv μ) {n p q ju : Nat} (hn : n ≤ 24) (he : μ 40 0 = nI n) (hp : p < n) (hq : q < n) (h9 : ju ≤ 9) (hu : μ 9 5 = nI ju) : ∀ (m i a : Nat), i + m = ju → K (nI (lp (pF μ p q) m i a)) μ → wp m_X6_jurorsOnPart 6 [(0, .ref 9), (1, .int (nI p)), (2, .int (nI q)), (3, .int 0), (4, .int (nI a)), (5, .int (nI i))] [] μ (sv_QI K)
  | 0, i, a, hi, h => g_X6_jurorsOnPart_6 _ _ _ _ _ μ K (br_t (by rw [hu]; exact nI_le (by omega) (by omega)) h)
  | m + 1, i, a, hi, h => by
    refine g_X6_jurorsOnPart_6 _ _ _ _ _ μ K (br_f (by rw [hu]; exact nI_ge (by omega) (by omega)) ?_)
    rw [nI_1, nI_1]
    have hj : nI i < μ 9 5 := by rw [hu]; exact nI_lt (by omega) (by omega)
    have h1 : K (nI (lp (pF μ p q) m (i + 1) (pF μ p q i a))) μ := h
    refine countingVote_s (r := 0) I hn he hp (by omega) hj (by omega) (br_c (fun z => br_f t01 (countingVote_s (r := 0) I hn he hq (by omega) hj (by omega) (br_c (fun y => jurorsOnPart_l I hn he hp hq h9 hu m (i + 1) _ (by omega) ?_) (fun y => jurorsOnPart_l I hn he hp hq h9 hu m (i + 1) _ (by omega) ?_)))) (fun z => br_t rfl (jurorsOnPart_l I hn he hp hq h9 hu m (i + 1) _ (by omega) ?_)))
    · rw [show pF μ p q i a = a + 1 from if_pos ⟨z, y⟩] at h1; exact h1
    · rw [show pF μ p q i a = a from if_neg (fun w => y w.2)] at h1; exact h1
    · rw [show pF μ p q i a = a from if_neg (fun w => z w.1)] at h1; exact h1
theorem jurorsOnPart_s {μ : sv_Mem} {K : Int32 → sv_Mem → Prop} (I : Inv μ) {n p q : Nat} (hn : n ≤ 24) (he : μ 40 0 = nI n) (hp : p < n) (hq : q < n) (h : K (nI (pt μ p q)) μ) : sv_cI m_X6_jurorsOnPart [.ref 9, .int (nI p), .int (nI q), .int 0] μ K := by
  obtain ⟨ju, u1, u2, u3, u4⟩ := I.2.1
  refine e_X6_jurorsOnPart _ _ _ μ K (jurorsOnPart_l I hn he hp hq u2 u3 ju 0 0 (by omega) ?_)
  have e : pt μ p q = lp (pF μ p q) ju 0 0 := by
    unfold pt
    rw [show 9 = ju + (9 - ju) by omega, lp_add]
    exact lp_id (f := pF μ p q) _ _ _ (fun j a hj => if_neg (fun z => by rw [vt_out u2 u4 (by omega)] at z; exact absurd z.1 (by decide)))
  rw [← e]
  exact h
theorem parts_l {μ : sv_Mem} {K : Int32 → sv_Mem → Prop} (I : Inv μ) {p q : Nat} (hp : p < 24) (hq : q < 24) : ∀ (m i a : Nat), i + m = 9 → K (nI (lp (pF μ p q) m i a)) μ → wp m_X10_parts 5 [(0, .ref 40), (1, .int (nI p)), (2, .int (nI q)), (3, .int (nI a)), (4, .int (nI i))] [] μ (sv_QI K)
  | 0, i, a, hi, h => g_X10_parts_5 _ _ _ _ μ K (br_t (nI_le (a := 9) (by omega) (by omega)) h)
  | m + 1, i, a, hi, h => by
    refine g_X10_parts_5 _ _ _ _ μ K (br_f (nI_ge (b := 9) (by omega) (by omega)) ?_)
    rw [nI_1, nI_1, Int32.add_zero]
    have h1 : K (nI (lp (pF μ p q) m (i + 1) (pF μ p q i a))) μ := h
    refine vote_s (r := 0) I hp (by omega) (by omega) (br_c (fun z => vote_s (r := 0) I hq (by omega) (by omega) (br_c (fun y => parts_l I hp hq m (i + 1) _ (by omega) ?_) (fun y => parts_l I hp hq m (i + 1) _ (by omega) ?_))) (fun z => parts_l I hp hq m (i + 1) _ (by omega) ?_))
    · rw [show pF μ p q i a = a + 1 from if_pos ⟨z, y⟩] at h1; exact h1
    · rw [show pF μ p q i a = a from if_neg (fun w => y w.2)] at h1; exact h1
    · rw [show pF μ p q i a = a from if_neg (fun w => z w.1)] at h1; exact h1
theorem parts_s {μ : sv_Mem} {K : Int32 → sv_Mem → Prop} (I : Inv μ) {p q : Nat} (hp : p < 24) (hq : q < 24) (h : K (nI (pt μ p q)) μ) : sv_cI m_X10_parts [.ref 40, .int (nI p), .int (nI q)] μ K := e_X10_parts _ _ μ K (parts_l I hp hq 9 0 0 (by omega) h)
def wA (μ : sv_Mem) (n p : Nat) : Prop := ∀ q, q < n → q ≠ p → pt μ q p < pt μ p q
theorem winsAllPairs_l {μ : sv_Mem} {K : Int32 → sv_Mem → Prop} (I : Inv μ) {n p : Nat} (hn : n ≤ 24) (he : μ 40 0 = nI n) (hp : p < n) (h1 : wA μ n p → K 1 μ) (h0 : ¬ wA μ n p → K 0 μ) : ∀ (m i : Nat), i + m = n → (∀ q, q < i → q ≠ p → pt μ q p < pt μ p q) → wp m_X5_winsAllPairs 2 [(0, .ref 22), (1, .int (nI p)), (2, .int (nI i))] [] μ (sv_QI K)
  | 0, i, hi, h => g_X5_winsAllPairs_2 _ _ μ K (br_t (by rw [pl9 I hn he]; exact nI_le (by omega) (by omega)) ⟨zb1, h1 (fun q hq => h q (by omega))⟩)
  | m + 1, i, hi, h => by
    have b1 := pt_le μ p i
    have b2 := pt_le μ i p
    refine g_X5_winsAllPairs_2 _ _ μ K (br_f (by rw [pl9 I hn he]; exact nI_ge (by omega) (by omega)) ?_)
    rw [nI_1]
    refine br_c (fun e => ?_) (fun e => jurorsOnPart_s I hn he hp (by omega) (jurorsOnPart_s I hn he (by omega) hp (br_c (fun z => ?_) (fun z => ⟨zb0, h0 (fun w => z (nI_lt (w i (by omega) (fun y => e (by rw [y]))) (by omega)))⟩))))
    · have e := (nI_eq (by omega) (by omega)).mp e
      exact winsAllPairs_l I hn he hp h1 h0 m (i + 1) (by omega) (fun q hq hne => h q (by omega) hne)
    · have z' := (nI_ltI (by omega) (by omega)).mp z
      refine winsAllPairs_l I hn he hp h1 h0 m (i + 1) (by omega) (fun q hq hne => ?_)
      by_cases y : q = i
      · subst y; exact z'
      · exact h q (by omega) hne
theorem beatsAll_l {μ : sv_Mem} {K : Int32 → sv_Mem → Prop} (I : Inv μ) {n p : Nat} (hn : n ≤ 24) (he : μ 40 0 = nI n) (hp : p < n) (h1 : wA μ n p → K 1 μ) (h0 : ¬ wA μ n p → K 0 μ) : ∀ (m i : Nat), i + m = n → (∀ q, q < i → q ≠ p → pt μ q p < pt μ p q) → wp m_X10_beatsAll 2 [(0, .ref 40), (1, .int (nI p)), (2, .int (nI i))] [] μ (sv_QI K)
  | 0, i, hi, h => g_X10_beatsAll_2 _ _ μ K (br_t (by rw [he]; exact nI_le (by omega) (by omega)) ⟨zb1, h1 (fun q hq => h q (by omega))⟩)
  | m + 1, i, hi, h => by
    have b1 := pt_le μ p i
    have b2 := pt_le μ i p
    refine g_X10_beatsAll_2 _ _ μ K (br_f (by rw [he]; exact nI_ge (by omega) (by omega)) ?_)
    rw [nI_1]
    refine br_c (fun e => ?_) (fun e => parts_s I (by omega) (by omega) (parts_s I (by omega) (by omega) (br_c (fun z => ?_) (fun z => ⟨zb0, h0 (fun w => z (nI_lt (w i (by omega) (fun y => e (by rw [y]))) (by omega)))⟩))))
    · have e := (nI_eq (by omega) (by omega)).mp e
      exact beatsAll_l I hn he hp h1 h0 m (i + 1) (by omega) (fun q hq hne => h q (by omega) hne)
    · have z' := (nI_ltI (by omega) (by omega)).mp z
      refine beatsAll_l I hn he hp h1 h0 m (i + 1) (by omega) (fun q hq hne => ?_)
      by_cases y : q = i
      · subst y; exact z'
      · exact h q (by omega) hne
/-- the answer of rule 3: its one winner, or -1 -/
def W3 (μ : sv_Mem) (n : Nat) (r : Int32) : Prop := (r = -1 ∧ ∀ p, p < n → ¬ wA μ n p) ∨ ∃ p, p < n ∧ wA μ n p ∧ r = nI p
theorem W3_one {μ : sv_Mem} {n : Nat} {r r' : Int32} (h : W3 μ n r) (g : W3 μ n r') : r = r' := by
  rcases h with ⟨a, b⟩ | ⟨p, p1, p2, p3⟩ <;> rcases g with ⟨c, d⟩ | ⟨q, q1, q2, q3⟩
  · rw [a, c]
  · exact absurd q2 (b q q1)
  · exact absurd p2 (d p p1)
  · by_cases e : p = q
    · subst e; rw [p3, q3]
    · have x := p2 q q1 (fun z => e z.symm)
      have y := q2 p p1 e
      omega
theorem winner_l {μ : sv_Mem} {K : Int32 → sv_Mem → Prop} (I : Inv μ) {n : Nat} (hn : n ≤ 24) (he : μ 40 0 = nI n) (h : ∀ r, W3 μ n r → K r μ) : ∀ (m i : Nat), i + m = n → (∀ p, p < i → ¬ wA μ n p) → wp m_X5_winnerOfAllPairs 2 [(0, .ref 22), (1, .int (nI i))] [] μ (sv_QI K)
  | 0, i, hi, g => g_X5_winnerOfAllPairs_2 _ μ K (br_t (by rw [pl9 I hn he]; exact nI_le (by omega) (by omega)) (h _ (Or.inl ⟨rfl, fun p hp => g p (by omega)⟩)))
  | m + 1, i, hi, g => by
    refine g_X5_winnerOfAllPairs_2 _ μ K (br_f (by rw [pl9 I hn he]; exact nI_ge (by omega) (by omega)) ?_)
    rw [nI_1]
    refine e_X5_winsAllPairs _ μ _ (winsAllPairs_l I hn he (by omega) (fun z => br_f t01 (h _ (Or.inr ⟨i, by omega, z, rfl⟩))) (fun z => br_t rfl (winner_l I hn he h m (i + 1) (by omega) (fun p hp => ?_))) n 0 (by omega) (fun q hq => by omega))
    by_cases y : p = i
    · subst y; exact z
    · exact g p (by omega)
theorem otherM3_l {μ : sv_Mem} {K : Int32 → sv_Mem → Prop} (I : Inv μ) {n : Nat} (hn : n ≤ 24) (he : μ 40 0 = nI n) (h : ∀ r, W3 μ n r → K r μ) : ∀ (m i : Nat) (x : Int32), i + m = n → ((x = -1 ∧ ∀ j, j < i → ¬ wA μ n (lnP μ j)) ∨ ∃ p, p < n ∧ wA μ n p ∧ x = nI p) → wp m_X10_other 36 [(0, .ref 40), (1, .int 3), (2, .int x), (3, .int (nI i))] [] μ (sv_QI K)
  | 0, i, x, hi, g => by
    refine g_X10_other_36 _ _ _ μ K (br_t (by rw [he]; exact nI_le (by omega) (by omega)) (h _ ?_))
    rcases g with ⟨a, b⟩ | g
    · refine Or.inl ⟨a, fun p hp => ?_⟩
      obtain ⟨n', n1, n2, n3, n4, n5, n6, n7⟩ := I.1
      have en : n' = n := (nI_eq (by omega) (by omega)).mp (n3.symm.trans he)
      subst en
      obtain ⟨j, j1, j2, j3⟩ := n7 p hp
      have e : lnP μ j = p := by unfold lnP; rw [j3, nI_cl (by omega)]
      have := b j (by omega)
      rw [e] at this
      exact this
    · exact Or.inr g
  | m + 1, i, x, hi, g => by
    obtain ⟨p1, p2, p3⟩ := ln_p I hn he (i := i) (by omega)
    refine g_X10_other_36 _ _ _ μ K (br_f (by rw [he]; exact nI_ge (by omega) (by omega)) ⟨vp_in_nI (by omega) (by omega), br_t rfl ?_⟩)
    rw [nI_cl (by omega), p2, nI_1]
    refine e_X10_beatsAll _ μ _ (beatsAll_l I hn he p1 (fun z => br_f t01 (otherM3_l I hn he h m (i + 1) _ (by omega) (Or.inr ⟨_, p1, z, rfl⟩))) (fun z => br_t rfl (otherM3_l I hn he h m (i + 1) _ (by omega) ?_)) n 0 (by omega) (fun q hq => by omega))
    rcases g with ⟨a, b⟩ | g
    · refine Or.inl ⟨a, fun j hj => ?_⟩
      by_cases y : j = i
      · subst y; exact z
      · exact b j (by omega)
    · exact Or.inr g
theorem pt_scr {μ μ' : sv_Mem} (S : Scr μ μ') (p q : Nat) : pt μ' p q = pt μ p q := lp_congr (fun j a _ _ => by unfold pF; rw [vt_scr S, vt_scr S])
theorem lnP_scr {μ μ' : sv_Mem} (S : Scr μ μ') (i : Nat) : lnP μ' i = lnP μ i := by unfold lnP; rw [S.1 42 (by unfold scrP; omega)]
theorem W3_scr {μ μ' : sv_Mem} (S : Scr μ μ') {n : Nat} {r : Int32} (h : W3 μ' n r) : W3 μ n r := by
  have e : ∀ p, wA μ' n p ↔ wA μ n p := fun p => by unfold wA; simp only [pt_scr S]
  unfold W3 at h ⊢
  simp only [e] at h
  exact h
theorem L_other (a : Int32) {μ : sv_Mem} (I : Inv μ) : Both m_X9_other m_X10_other [.int a] μ := by
  obtain ⟨n, hn, e1, e2, -⟩ := id I.1
  refine e_X9_other a μ _ (within_s (fun h => br_f t01 ?_) (fun h => br_t rfl ?_))
  · obtain ⟨k, hk, ea⟩ := rg_nat (n := 3) rfl ⟨fun z => h.1 (Int32.lt_trans z (by decide)), h.2⟩
    have k1 : 1 ≤ k := by
      cases k with
      | zero => exact absurd (by rw [ea]; decide) h.1
      | succ k => omega
    subst ea
    have inr : rg (nI k) 1 3 := h
    by_cases k3 : k = 3
    · subst k3
      refine br_t rfl (e_X5_winnerOfAllPairs μ _ (winner_l I hn e2 (fun r hr => ?_) n 0 (by omega) (fun p hp => by omega)))
      refine e_X10_other _ μ _ (in_s (fun _ => br_f t01 (readI_s I (fun μ' f I' R => br_t (by decide) ?_))) (fun z => absurd inr z))
      have he' : μ' 40 0 = nI n := (f.2 0 (by omega) (by omega) (by omega)).trans e2
      exact otherM3_l I' hn he' (fun r' hr' => ⟨W3_one hr (W3_scr f.scr hr'), I'⟩) n 0 (-1) (by omega) (Or.inl ⟨rfl, fun j hj => by omega⟩)
    · have n3 : ¬ nI k = 3 := fun z => k3 ((nI_eq (b := 3) (by omega) (by omega)).mp z)
      have n3' : ¬ (3 : Int32) ≤ nI k := nI_ge (b := 3) (by omega) (by omega)
      refine br_f n3 ?_
      have ref : ∀ (K : Int32 → sv_Mem → Prop), (∀ μ', FR μ μ' → Inv μ' → RD μ' → (μ' 40 11 = -1 → wp m_X10_other 36 [(0, .ref 40), (1, .int (nI k)), (2, .int (-1)), (3, .int 0)] [] μ' (sv_QI K)) ∧ (¬ μ' 40 11 = -1 → K (-3) μ')) → sv_cI m_X10_other [.ref 40, .int (nI k)] μ K := fun K hk => e_X10_other _ μ K (in_s (fun _ => br_f t01 (readI_s I (fun μ' f I' R => br_f n3' (hk μ' f I' R)))) (fun z => absurd inr z))
      refine br_c (fun z => ?_) (fun z => ?_)
      · refine ref _ (fun μ' f I' R => ?_)
        have e13 : μ' 13 = μ 13 := f.1 13 (by omega) (by omega) (by omega) (by omega)
        rcases R with ⟨b1, b2, b3⟩ | ⟨R, b1, b2, b3, b4, b5, b6, b7⟩
        · exact br_f b3 ⟨rfl, I'⟩
        · exfalso
          rw [e13, z] at b3
          have := (nI_eq (a := 0) (by omega) (by omega)).mp b3
          omega
      · obtain ⟨R, r1, r2, r3⟩ : ∃ R, 1 ≤ R ∧ R ≤ 4 ∧ μ 13 5 = nI R := by
          obtain ⟨l, l1, l2, l3, l4, l5⟩ := I.2.2.1
          generalize pT (μ 43) l = P at l5
          cases P with
          | inl q => exact absurd l5.2.2 z
          | inr L => exact ⟨L.length, l5.2.2.1, l5.2.2.2.1, l5.2.1⟩
        have both : ∀ μ', FR μ μ' → RD μ' → μ' 40 11 = -1 ∧ μ' 40 6 = nI R ∧ μ' 40 0 = nI n := fun μ' f rd => by
          have e13 : μ' 13 = μ 13 := f.1 13 (by omega) (by omega) (by omega) (by omega)
          rcases rd with ⟨b1, b2, b3⟩ | ⟨R', b1, b2, b3, b4, b5, b6, b7⟩
          · exact absurd (by rw [← e13]; exact b1) z
          · have eR : R' = R := (nI_eq (by omega) (by omega)).mp (b3.symm.trans (by rw [e13]; exact r3))
            subst eR
            exact ⟨b5, b4, (f.2 0 (by omega) (by omega) (by omega)).trans e2⟩
        by_cases k1' : k = 1
        · subst k1'
          refine br_t rfl (e_X5_mostYes μ _ (mostYes_l I hn e2 r2 r3 n 0 none (-1) (by omega) rfl ?_))
          refine ref _ (fun μ' f I' rd => ?_)
          obtain ⟨c1, c2, c3⟩ := both μ' f rd
          refine br_t c1 (otherM1_l I' hn c3 r2 c2 n 0 none (by omega) trivial ⟨?_, I'⟩)
          congr 1
          exact lp_congr (fun i b _ _ => by unfold mF; simp only [lnP_scr f.scr, yA_scr f.scr])
        · have k2 : k = 2 := by omega
          subst k2
          refine br_f (by decide) (e_X5_greatestShare μ _ (greatestShare_l I hn e2 r2 r3 n 0 none 0 0 (by omega) trivial ?_))
          refine ref _ (fun μ' f I' rd => ?_)
          obtain ⟨c1, c2, c3⟩ := both μ' f rd
          refine br_t c1 (otherM2_l I' hn c3 r2 c2 n 0 none (by omega) trivial ⟨?_, I'⟩)
          congr 1
          exact lp_congr (fun i b _ _ => by unfold gF; simp only [lnP_scr f.scr, yA_scr f.scr, cA_scr f.scr])
  · exact e_X10_other a _ _ (in_s (fun z => absurd z h) (fun _ => br_t rfl ⟨rfl, I⟩))

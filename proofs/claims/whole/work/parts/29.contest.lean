/-! ===== the contest, the class's side ===== -/
def bfB (u : Bool) (ys pos : Nat → Nat) (q p : Nat) : Bool := if u = true ∧ ¬ ys q = ys p then decide (ys p < ys q) else decide (pos q < pos p)
def cW (μ : sv_Mem) (r p : Nat) : Nat := wS (yN μ p r) (cN μ p r)
def cYs (μ : sv_Mem) (r p : Nat) : Nat := su (fun k => yN μ p k) r
def cPo (μ : sv_Mem) (p : Nat) : Nat := (μ 12 p).toNatClampNeg
def cPs (μ : sv_Mem) (r : Nat) (ins : Nat → Bool) (p : Nat) : Bool := ins p && (decide (0 < cN μ p r) && decide ((μ 15 r).toNatClampNeg * cN μ p r ≤ 100 * yN μ p r))
def cB (μ : sv_Mem) (r : Nat) : Nat → Nat → Bool := bfB (decide (μ 17 r = 115)) (cYs μ (r + 1)) (cPo μ)
def cSt (μ : sv_Mem) (n r : Nat) (ins : Nat → Bool) : Nat → Bool := t_do n (cPs μ r ins) (cW μ r) (μ 16 r).toNatClampNeg (μ 17 r) (cB μ r)
def cOut (μ : sv_Mem) (n : Nat) : Nat → Nat → Bool
  | 0 => fun _ => true
  | r + 1 => cSt μ n r (cOut μ n r)
theorem cOut_scr {μ μ' : sv_Mem} (S : Scr μ μ') (n : Nat) : ∀ r, cOut μ' n r = cOut μ n r
  | 0 => rfl
  | r + 1 => by
    show cSt μ' n r (cOut μ' n r) = cSt μ n r (cOut μ n r)
    rw [cOut_scr S n r]
    have e1 : cPs μ' r = cPs μ r := by
      funext ins p
      unfold cPs
      rw [cN_scr S, yN_scr S, S.1 15 (by unfold scrP; omega)]
    have e2 : cW μ' r = cW μ r := by
      funext p
      unfold cW
      rw [cN_scr S, yN_scr S]
    have e3 : cYs μ' (r + 1) = cYs μ (r + 1) := by
      funext p
      unfold cYs
      exact su_c _ (fun k _ => yN_scr S _ _)
    have e4 : cPo μ' = cPo μ := by
      funext p
      unfold cPo
      rw [S.1 12 (by unfold scrP; omega)]
    unfold cSt cB
    rw [e1, e2, e3, e4, S.1 16 (by unfold scrP; omega), S.1 17 (by unfold scrP; omega)]
theorem hasC_s {P : Nat → Bool} {n p : Nat} {μ : sv_Mem} {K : Int32 → sv_Mem → Prop} (hn : n ≤ 24) (hp : p < n) (h1 : P p = true → K 1 μ) (h0 : ¬ P p = true → K 0 μ) : sv_cI m_X1_has [.int (nI (bN P n)), .int (nI p)] μ K := by
  refine e_X1_has _ _ μ K ?_
  rw [has_v hn hp]
  by_cases q : P p = true
  · rw [if_pos q]; exact br_f t01 ⟨zb1, h1 q⟩
  · rw [if_neg q]; exact br_t rfl ⟨zb0, h0 q⟩
/-- the tallies of a round, as the contest keeps them -/
def Tl (μ : sv_Mem) (n : Nat) (c y ys pos : Nat → Nat) : Prop := n ≤ 24 ∧ μ 9 4 = nI n ∧ ∀ p, p < n → μ 19 p = nI (c p) ∧ μ 20 p = nI (y p) ∧ μ 21 p = nI (ys p) ∧ μ 12 p = nI (pos p) ∧ y p ≤ 9 ∧ c p ≤ 9 ∧ ys p ≤ 36 ∧ pos p < 24
section CO
variable {μ : sv_Mem} {n : Nat} {c y ys pos : Nat → Nat}
theorem whoPass_l {K : Int32 → sv_Mem → Prop} (T : Tl μ n c y ys pos) {r s : Nat} (hr : r < 4) (hs : s ≤ 100) (e15 : μ 15 r = nI s) {ins Q : Nat → Bool} (hQ : Q = fun p => ins p && (decide (0 < c p) && decide (s * c p ≤ 100 * y p))) (h : K (nI (bN Q n)) μ) : ∀ (m i : Nat), i + m = n → wp m_X1_whoPass 5 [(0, .ref 18), (1, .int (nI r)), (2, .int (nI (bN ins n))), (3, .int (nI (bN Q i))), (4, .int (nI i))] [] μ (sv_QI K)
  | 0, i, hi => by
    have e : i = n := by omega
    subst e
    exact g_X1_whoPass_5 _ _ _ _ μ K (br_t (by rw [T.2.1]; exact nI_le (by omega) (by have := T.1; omega)) h)
  | m + 1, i, hi => by
    have hn := T.1
    obtain ⟨a1, a2, a3, a4, a5, a6, a7, a8⟩ := T.2.2 i (by omega)
    have v : vp_in (nI i) 24 := vp_in_nI (by omega) (by omega)
    have ih := whoPass_l T hr hs e15 hQ h m (i + 1) (by omega)
    have no : ¬ Q i = true → wp m_X1_whoPass 5 [(0, .ref 18), (1, .int (nI r)), (2, .int (nI (bN ins n))), (3, .int (nI (bN Q i))), (4, .int (nI i + 1))] [] μ (sv_QI K) := fun z => by
      rw [or_f z, nI_1]; exact ih
    have qe : Q i = (ins i && (decide (0 < c i) && decide (s * c i ≤ 100 * y i))) := by rw [hQ]
    have b1 : s * c i ≤ 100 * 9 := Nat.mul_le_mul hs a6
    refine g_X1_whoPass_5 _ _ _ _ μ K (br_f (by rw [T.2.1]; exact nI_ge (by omega) (by omega)) (hasC_s hn (by omega) (fun q => br_f t01 ⟨v, ?_⟩) (fun q => br_t rfl (br_t rfl (no (by rw [qe]; simp [q]))))))
    rw [nI_cl (show i < 2 ^ 31 by omega), nI_cl (show r < 2 ^ 31 by omega), a1, a2, e15, show (100 : Int32) = nI 100 from rfl, pk_mul, pk_mul]
    refine br_c (fun z => br_t rfl (no ?_)) (fun z => br_f t01 ⟨v, vp_in_nI hr (by omega), v, br_c (fun x => no ?_) (fun x => ?_)⟩)
    · have z : c i ≤ 0 := (nI_leI (b := 0) (by omega) (by omega)).mp z
      rw [qe]; simp [show ¬ 0 < c i by omega]
    · have x := (nI_ltI (by omega) (by omega)).mp x
      rw [qe]; simp [show ¬ s * c i ≤ 100 * y i by omega]
    · have z : ¬ c i ≤ 0 := fun k => z (nI_le (b := 0) k (by omega))
      have x : ¬ 100 * y i < s * c i := fun k => x (nI_lt k (by omega))
      rw [or_t (P := Q) (by omega) (by rw [qe]; simp [q]; omega), nI_1]
      exact ih
theorem whoPass_s {K : Int32 → sv_Mem → Prop} (T : Tl μ n c y ys pos) {r s : Nat} (hr : r < 4) (hs : s ≤ 100) (e15 : μ 15 r = nI s) {ins : Nat → Bool} (h : K (nI (bN (fun p => ins p && (decide (0 < c p) && decide (s * c p ≤ 100 * y p))) n)) μ) : sv_cI m_X1_whoPass [.ref 18, .int (nI r), .int (nI (bN ins n))] μ K :=
  e_X1_whoPass _ _ μ K (whoPass_l T hr hs e15 rfl h n 0 (by omega))
theorem cmp_1 {a b : Nat} (ha : a < 1000) (hb : b < 1000) : cmpI (nI a) (nI b) = 1 ↔ b < a := by
  unfold cmpI
  by_cases h : nI b ≤ nI a
  · rw [if_pos h]
    have h' := (nI_leI (by omega) (by omega)).mp h
    by_cases e : nI a = nI b
    · rw [if_pos e]
      have e' := (nI_eq (by omega) (by omega)).mp e
      exact ⟨fun z => absurd z (by decide), fun z => by omega⟩
    · rw [if_neg e]
      have e' : a ≠ b := fun z => e (by rw [z])
      exact ⟨fun _ => by omega, fun _ => rfl⟩
  · rw [if_neg h]
    have h' : ¬ b ≤ a := fun z => h (nI_le z (by omega))
    exact ⟨fun z => absurd z (by decide), fun z => by omega⟩
theorem cmp_0 {a b : Nat} (ha : a < 1000) (hb : b < 1000) : cmpI (nI a) (nI b) = 0 ↔ a = b := by
  unfold cmpI
  by_cases h : nI b ≤ nI a
  · rw [if_pos h]
    by_cases e : nI a = nI b
    · rw [if_pos e]
      have e' := (nI_eq (by omega) (by omega)).mp e
      exact ⟨fun _ => e', fun _ => rfl⟩
    · rw [if_neg e]
      exact ⟨fun z => absurd z (by decide), fun z => absurd (by rw [z]) e⟩
  · rw [if_neg h]
    exact ⟨fun z => absurd z (by decide), fun z => absurd (by rw [z]; exact Int32.le_refl _) h⟩
theorem withShare_l {K : Int32 → sv_Mem → Prop} (T : Tl μ n c y ys pos) {P Q : Nat → Bool} {p : Nat} {sg : Int32} (hp : p < n) (hQ : Q = fun q => P q && decide (cmpI (nI (y q * c p)) (nI (y p * c q)) = sg)) (h : K (nI (cnt Q n)) μ) : ∀ (m i : Nat), i + m = n → wp m_X1_withShare 6 [(0, .ref 18), (1, .int (nI (bN P n))), (2, .int (nI p)), (3, .int sg), (4, .int (nI (cnt Q i))), (5, .int (nI i))] [] μ (sv_QI K)
  | 0, i, hi => by
    have e : i = n := by omega
    subst e
    exact g_X1_withShare_6 _ _ _ _ _ μ K (br_t (by rw [T.2.1]; exact nI_le (by omega) (by have := T.1; omega)) h)
  | m + 1, i, hi => by
    have hn := T.1
    obtain ⟨a1, a2, -⟩ := T.2.2 i (by omega)
    obtain ⟨b1, b2, -⟩ := T.2.2 p hp
    have v : vp_in (nI i) 24 := vp_in_nI (by omega) (by omega)
    have vp : vp_in (nI p) 24 := vp_in_nI (by omega) (by omega)
    have ih := withShare_l T hp hQ h m (i + 1) (by omega)
    have qe : Q i = (P i && decide (cmpI (nI (y i * c p)) (nI (y p * c i)) = sg)) := by rw [hQ]
    refine g_X1_withShare_6 _ _ _ _ _ μ K (br_f (by rw [T.2.1]; exact nI_ge (by omega) (by omega)) (hasC_s hn (by omega) (fun q => br_f t01 (e_X1_compareShares _ _ μ _ ⟨v, vp, vp, v, compare_s ?_⟩)) (fun q => br_t rfl ?_)))
    · rw [nI_cl (show i < 2 ^ 31 by omega), nI_cl (show p < 2 ^ 31 by omega), a1, a2, b1, b2, pk_mul, pk_mul, nI_1, nI_1]
      refine br_c (fun z => ?_) (fun z => ?_)
      · rw [cnt_t (P := Q) (by rw [qe]; simp [q, z])]; exact ih
      · rw [cnt_f (P := Q) (by rw [qe]; simp [z])]; exact ih
    · rw [cnt_f (P := Q) (by rw [qe]; simp [q]), nI_1]; exact ih
theorem withShare_s {K : Int32 → sv_Mem → Prop} (T : Tl μ n c y ys pos) {P : Nat → Bool} {p : Nat} {sg : Int32} (hp : p < n) (h : K (nI (cnt (fun q => P q && decide (cmpI (nI (y q * c p)) (nI (y p * c q)) = sg)) n)) μ) : sv_cI m_X1_withShare [.ref 18, .int (nI (bN P n)), .int (nI p), .int sg] μ K :=
  e_X1_withShare _ _ _ μ K (withShare_l T hp rfl h n 0 (by omega))
theorem prod9 {a b : Nat} (ha : a ≤ 9) (hb : b ≤ 9) : a * b < 1000 := Nat.lt_of_le_of_lt (Nat.mul_le_mul ha hb) (by omega)
theorem above_s {K : Int32 → sv_Mem → Prop} (T : Tl μ n c y ys pos) {P : Nat → Bool} {p : Nat} (hp : p < n) (hP : ∀ q, q < n → P q = true → 1 ≤ c q) (h1 : P p = true) (h : K (nI (t_ab n P (fun q => wS (y q) (c q)) p)) μ) : sv_cI m_X1_withShare [.ref 18, .int (nI (bN P n)), .int (nI p), .int 1] μ K := by
  refine withShare_s T hp ?_
  have e : cnt (fun q => P q && decide (cmpI (nI (y q * c p)) (nI (y p * c q)) = 1)) n = t_ab n P (fun q => wS (y q) (c q)) p := by
    unfold t_ab
    refine cnt_c n (fun q hq => ?_)
    cases z : P q
    · rfl
    · obtain ⟨-, -, -, -, a5, a6, -⟩ := T.2.2 q hq
      obtain ⟨-, -, -, -, b5, b6, -⟩ := T.2.2 p hp
      rw [Bool.true_and, Bool.true_and]
      congr 1
      exact propext ((cmp_1 (prod9 a5 b6) (prod9 b5 a6)).trans (wS_lt (hP p hp h1) b6 (hP q hq z) a6).1)
  rw [e]
  exact h
theorem alike_s {K : Int32 → sv_Mem → Prop} (T : Tl μ n c y ys pos) {P : Nat → Bool} {p : Nat} (hp : p < n) (hP : ∀ q, q < n → P q = true → 1 ≤ c q) (h1 : P p = true) (h : K (nI (t_al n P (fun q => wS (y q) (c q)) p)) μ) : sv_cI m_X1_withShare [.ref 18, .int (nI (bN P n)), .int (nI p), .int 0] μ K := by
  refine withShare_s T hp ?_
  have e : cnt (fun q => P q && decide (cmpI (nI (y q * c p)) (nI (y p * c q)) = 0)) n = t_al n P (fun q => wS (y q) (c q)) p := by
    unfold t_al
    refine cnt_c n (fun q hq => ?_)
    cases z : P q
    · rfl
    · obtain ⟨-, -, -, -, a5, a6, -⟩ := T.2.2 q hq
      obtain ⟨-, -, -, -, b5, b6, -⟩ := T.2.2 p hp
      rw [Bool.true_and, Bool.true_and]
      congr 1
      exact propext ((cmp_0 (prod9 a5 b6) (prod9 b5 a6)).trans (wS_lt (hP q hq z) a6 (hP p hp h1) b6).2)
  rw [e]
  exact h
theorem isBefore_s {K : Int32 → sv_Mem → Prop} (T : Tl μ n c y ys pos) {q p : Nat} {b : Int32} {u : Bool} (hb : (b = 0 ∧ u = false) ∨ (b = 1 ∧ u = true)) (hq : q < n) (hp : p < n) (h1 : bfB u ys pos q p = true → K 1 μ) (h0 : ¬ bfB u ys pos q p = true → K 0 μ) : sv_cI m_X1_isBefore [.ref 18, .int (nI q), .int (nI p), .int b] μ K := by
  have hn := T.1
  obtain ⟨-, -, a3, a4, -, -, a7, a8⟩ := T.2.2 q hq
  obtain ⟨-, -, b3, b4, -, -, b7, b8⟩ := T.2.2 p hp
  have vq : vp_in (nI q) 24 := vp_in_nI (by omega) (by omega)
  have vp : vp_in (nI p) 24 := vp_in_nI (by omega) (by omega)
  refine e_X1_isBefore _ _ _ μ K ?_
  rw [nI_cl (show q < 2 ^ 31 by omega), nI_cl (show p < 2 ^ 31 by omega), a3, a4, b3, b4]
  unfold bfB at h1 h0
  have byPos : ¬ (u = true ∧ ¬ ys q = ys p) → ((nI (pos p) ≤ nI (pos q) → sv_zb 0 ∧ K 0 μ) ∧ (¬ nI (pos p) ≤ nI (pos q) → sv_zb 1 ∧ K 1 μ)) := by
    intro z
    rw [if_neg z] at h1 h0
    refine br_c (fun k => ⟨zb0, h0 ?_⟩) (fun k => ⟨zb1, h1 ?_⟩)
    · have k := (nI_leI (by omega) (by omega)).mp k
      simp; omega
    · have k : ¬ pos p ≤ pos q := fun j => k (nI_le j (by omega))
      simp; omega
  rcases hb with ⟨rfl, rfl⟩ | ⟨rfl, rfl⟩
  · exact br_t rfl ⟨vq, vp, byPos (by simp)⟩
  · refine br_f t01 ⟨vq, vp, br_c (fun e => ⟨vq, vp, byPos ?_⟩) (fun e => ⟨vq, vp, ?_⟩)⟩
    · have e := (nI_eq (by omega) (by omega)).mp e
      simp [e]
    · have e : ¬ ys q = ys p := fun j => e (by rw [j])
      rw [if_pos ⟨rfl, e⟩] at h1 h0
      refine br_c (fun k => ⟨zb0, h0 ?_⟩) (fun k => ⟨zb1, h1 ?_⟩)
      · have k := (nI_leI (by omega) (by omega)).mp k
        simp; omega
      · have k : ¬ ys q ≤ ys p := fun j => k (nI_le j (by omega))
        simp; omega
theorem ahead_l {K : Int32 → sv_Mem → Prop} (T : Tl μ n c y ys pos) {P Q : Nat → Bool} {p : Nat} {b : Int32} {u : Bool} (hb : (b = 0 ∧ u = false) ∨ (b = 1 ∧ u = true)) (hp : p < n) (hQ : Q = fun q => P q && bfB u ys pos q p) (h : K (nI (cnt Q n)) μ) : ∀ (m i : Nat), i + m = n → wp m_X1_ahead 6 [(0, .ref 18), (1, .int (nI (bN P n))), (2, .int (nI p)), (3, .int b), (4, .int (nI (cnt Q i))), (5, .int (nI i))] [] μ (sv_QI K)
  | 0, i, hi => by
    have e : i = n := by omega
    subst e
    exact g_X1_ahead_6 _ _ _ _ _ μ K (br_t (by rw [T.2.1]; exact nI_le (by omega) (by have := T.1; omega)) h)
  | m + 1, i, hi => by
    have hn := T.1
    have ih := ahead_l T hb hp hQ h m (i + 1) (by omega)
    have qe : Q i = (P i && bfB u ys pos i p) := by rw [hQ]
    refine g_X1_ahead_6 _ _ _ _ _ μ K (br_f (by rw [T.2.1]; exact nI_ge (by omega) (by omega)) (hasC_s hn (by omega) (fun q => br_f t01 (isBefore_s T hb (by omega) hp (fun z => br_f t01 ?_) (fun z => br_t rfl ?_))) (fun q => br_t rfl ?_)))
    · rw [nI_1, nI_1, cnt_t (P := Q) (by rw [qe]; simp [q, z])]; exact ih
    · rw [nI_1, cnt_f (P := Q) (by rw [qe]; simp [z])]; exact ih
    · rw [nI_1, cnt_f (P := Q) (by rw [qe]; simp [q])]; exact ih
theorem ahead_s {K : Int32 → sv_Mem → Prop} (T : Tl μ n c y ys pos) {P : Nat → Bool} {p : Nat} {b : Int32} {u : Bool} (hb : (b = 0 ∧ u = false) ∨ (b = 1 ∧ u = true)) (hp : p < n) (h : K (nI (cnt (fun q => P q && bfB u ys pos q p) n)) μ) : sv_cI m_X1_ahead [.ref 18, .int (nI (bN P n)), .int (nI p), .int b] μ K :=
  e_X1_ahead _ _ _ μ K (ahead_l T hb hp rfl h n 0 (by omega))
theorem firstOf_l {K : Int32 → sv_Mem → Prop} (T : Tl μ n c y ys pos) {P Q : Nat → Bool} {L : Nat} (hL : L < 100) {b : Int32} {u : Bool} (hb : (b = 0 ∧ u = false) ∨ (b = 1 ∧ u = true)) (hQ : Q = fun p => P p && decide (cnt (fun q => P q && bfB u ys pos q p) n < L)) (h : K (nI (bN Q n)) μ) : ∀ (m i : Nat), i + m = n → wp m_X1_firstOf 6 [(0, .ref 18), (1, .int (nI (bN P n))), (2, .int (nI L)), (3, .int b), (4, .int (nI (bN Q i))), (5, .int (nI i))] [] μ (sv_QI K)
  | 0, i, hi => by
    have e : i = n := by omega
    subst e
    exact g_X1_firstOf_6 _ _ _ _ _ μ K (br_t (by rw [T.2.1]; exact nI_le (by omega) (by have := T.1; omega)) h)
  | m + 1, i, hi => by
    have hn := T.1
    have ih := firstOf_l T hL hb hQ h m (i + 1) (by omega)
    have qe : Q i = (P i && decide (cnt (fun q => P q && bfB u ys pos q i) n < L)) := by rw [hQ]
    have cl := cnt_le (fun q => P q && bfB u ys pos q i) n
    refine g_X1_firstOf_6 _ _ _ _ _ μ K (br_f (by rw [T.2.1]; exact nI_ge (by omega) (by omega)) (hasC_s hn (by omega) (fun q => br_f t01 (ahead_s T hb (by omega) (br_c (fun z => ?_) (fun z => ?_)))) (fun q => br_t rfl ?_)))
    · have z := (nI_leI (by omega) (by omega)).mp z
      rw [nI_1, or_f (P := Q) (by rw [qe]; simp; omega)]; exact ih
    · have z : ¬ L ≤ cnt (fun q => P q && bfB u ys pos q i) n := fun k => z (nI_le k (by omega))
      rw [nI_1, or_t (P := Q) (by omega) (by rw [qe]; simp [q]; omega)]; exact ih
    · rw [nI_1, or_f (P := Q) (by rw [qe]; simp [q])]; exact ih
theorem firstOf_s {K : Int32 → sv_Mem → Prop} (T : Tl μ n c y ys pos) {P : Nat → Bool} {L : Nat} (hL : L < 100) {b : Int32} {u : Bool} (hb : (b = 0 ∧ u = false) ∨ (b = 1 ∧ u = true)) (h : K (nI (bN (fun p => P p && decide (cnt (fun q => P q && bfB u ys pos q p) n < L)) n)) μ) : sv_cI m_X1_firstOf [.ref 18, .int (nI (bN P n)), .int (nI L), .int b] μ K :=
  e_X1_firstOf _ _ _ μ K (firstOf_l T hL hb rfl h n 0 (by omega))
theorem lf_le {n : Nat} {P : Nat → Bool} {w : Nat → Nat} {S : Nat} : ∀ i, t_lf n P w S i ≤ S
  | 0 => Nat.zero_le _
  | i + 1 => by
    unfold t_lf
    split
    · omega
    · exact lf_le i
theorem outOfTie_s {K : Int32 → sv_Mem → Prop} (T : Tl μ n c y ys pos) {P : Nat → Bool} {w : Nat → Nat} {S : Nat} {l : Int32} (hS : S ≤ 24) (h : K (nI (bN (t_ot n P w S l (bfB (decide (l = 115)) ys pos)) n)) μ) : sv_cI m_X1_outOfTie [.ref 18, .int l, .int (nI (bN (t_ti n P w S) n)), .int (nI (t_lf n P w S n))] μ K := by
  have lf : t_lf n P w S n ≤ S := lf_le n
  refine e_X1_outOfTie _ _ _ μ K (br_c (fun a => ?_) (fun a => br_c (fun b => ?_) (fun b => br_c (fun d => ?_) (fun d => ?_))))
  · rw [bN_c (Q := t_ti n P w S) n (fun i _ => by unfold t_ot; rw [if_pos a])] at h
    exact h
  · refine firstOf_s T (by omega) (u := false) (Or.inl ⟨rfl, rfl⟩) ?_
    rw [bN_c (Q := t_fi n P w S (bfB false ys pos)) n (fun i _ => by unfold t_ot; rw [if_neg a, if_pos (Or.inl b), b]; rfl)] at h
    exact h
  · refine firstOf_s T (by omega) (u := true) (Or.inr ⟨rfl, rfl⟩) ?_
    rw [bN_c (Q := t_fi n P w S (bfB true ys pos)) n (fun i _ => by unfold t_ot; rw [if_neg a, if_pos (Or.inr d), d]; rfl)] at h
    exact h
  · rw [bN_c (Q := fun _ => false) n (fun i _ => by unfold t_ot; rw [if_neg a, if_neg (by rintro (z | z); exact b z; exact d z)]), bN_no] at h
    exact h
theorem whoAdvance_l {K : Int32 → sv_Mem → Prop} (T : Tl μ n c y ys pos) {P : Nat → Bool} {r S : Nat} (hr : r < 4) (hS : S ≤ 24) (e16 : μ 16 r = nI S) (hP : ∀ q, q < n → P q = true → 1 ≤ c q) (h : K (nI (bN (fun p => t_su n P (fun q => wS (y q) (c q)) S p || t_ot n P (fun q => wS (y q) (c q)) S (μ 17 r) (bfB (decide (μ 17 r = 115)) ys pos) p) n)) μ) : ∀ (m i : Nat), i + m = n → wp m_X1_whoAdvance 11 [(0, .ref 18), (1, .int (nI r)), (2, .int (nI (bN P n))), (3, .int (nI (bN (t_su n P (fun q => wS (y q) (c q)) S) i))), (4, .int (nI (bN (t_ti n P (fun q => wS (y q) (c q)) S) i))), (5, .int (nI (t_lf n P (fun q => wS (y q) (c q)) S i))), (6, .int (nI i))] [] μ (sv_QI K)
  | 0, i, hi => by
    have e : i = n := by omega
    subst e
    refine g_X1_whoAdvance_11 _ _ _ _ _ _ μ K (br_t (by rw [T.2.1]; exact nI_le (by omega) (by have := T.1; omega)) ⟨vp_in_nI hr (by omega), ?_⟩)
    rw [nI_cl (show r < 2 ^ 31 by omega)]
    refine outOfTie_s T hS ?_
    rw [bN_or]
    exact h
  | m + 1, i, hi => by
    have hn := T.1
    have ih := whoAdvance_l T hr hS e16 hP h m (i + 1) (by omega)
    have vr : vp_in (nI r) 4 := vp_in_nI hr (by omega)
    have b1 := cnt_le (fun q => P q && decide (wS (y i) (c i) < wS (y q) (c q))) n
    have b2 := cnt_le (fun q => P q && decide (wS (y q) (c q) = wS (y i) (c i))) n
    have b1 : t_ab n P (fun q => wS (y q) (c q)) i ≤ n := b1
    have b2 : t_al n P (fun q => wS (y q) (c q)) i ≤ n := b2
    refine g_X1_whoAdvance_11 _ _ _ _ _ _ μ K (br_f (by rw [T.2.1]; exact nI_ge (by omega) (by omega)) (hasC_s hn (by omega) (fun q => br_f t01 (above_s T (by omega) hP q (alike_s T (by omega) hP q ⟨vr, ?_⟩))) (fun q => br_t rfl ?_)))
    · rw [nI_cl (show r < 2 ^ 31 by omega), e16, nI_add, nI_1]
      refine br_c (fun z => ⟨vr, br_c (fun x => ?_) (fun x => ⟨vr, ?_⟩)⟩) (fun z => ?_)
      · have z := (nI_ltI (by omega) (by omega)).mp z
        have x := (nI_leI (by omega) (by omega)).mp x
        have su0 : ¬ t_su n P (fun q => wS (y q) (c q)) S i = true := by unfold t_su; simp; omega
        have ti0 : ¬ t_ti n P (fun q => wS (y q) (c q)) S i = true := by unfold t_ti; simp; omega
        have lf0 : t_lf n P (fun q => wS (y q) (c q)) S i = t_lf n P (fun q => wS (y q) (c q)) S (i + 1) := (if_neg ti0).symm
        rw [or_f su0, or_f ti0, lf0]; exact ih
      · have z := (nI_ltI (by omega) (by omega)).mp z
        have x : ¬ S ≤ t_ab n P (fun q => wS (y q) (c q)) i := fun k => x (nI_le k (by omega))
        have su0 : ¬ t_su n P (fun q => wS (y q) (c q)) S i = true := by unfold t_su; simp; omega
        have ti1 : t_ti n P (fun q => wS (y q) (c q)) S i = true := ti_e.mpr ⟨q, by omega, by omega⟩
        have lf1 : S - t_ab n P (fun q => wS (y q) (c q)) i = t_lf n P (fun q => wS (y q) (c q)) S (i + 1) := (if_pos ti1).symm
        rw [or_f su0, or_t (by omega) ti1, pk_sub (by omega), lf1]; exact ih
      · have z : ¬ S < t_ab n P (fun q => wS (y q) (c q)) i + t_al n P (fun q => wS (y q) (c q)) i := fun k => z (nI_lt k (by omega))
        have su1 : t_su n P (fun q => wS (y q) (c q)) S i = true := by unfold t_su; simp [q]; omega
        have ti0 : ¬ t_ti n P (fun q => wS (y q) (c q)) S i = true := by unfold t_ti; simp; omega
        have lf0 : t_lf n P (fun q => wS (y q) (c q)) S i = t_lf n P (fun q => wS (y q) (c q)) S (i + 1) := (if_neg ti0).symm
        rw [or_t (by omega) su1, or_f ti0, lf0]; exact ih
    · have su0 : ¬ t_su n P (fun q => wS (y q) (c q)) S i = true := by unfold t_su; simp [q]
      have ti0 : ¬ t_ti n P (fun q => wS (y q) (c q)) S i = true := by unfold t_ti; simp [q]
      have lf0 : t_lf n P (fun q => wS (y q) (c q)) S i = t_lf n P (fun q => wS (y q) (c q)) S (i + 1) := (if_neg ti0).symm
      rw [or_f su0, or_f ti0, lf0, nI_1]; exact ih
theorem whoAdvance_s {K : Int32 → sv_Mem → Prop} (T : Tl μ n c y ys pos) {P : Nat → Bool} {r S : Nat} (hr : r < 4) (hS : S ≤ 24) (e16 : μ 16 r = nI S) (hP : ∀ q, q < n → P q = true → 1 ≤ c q) (hl : μ 17 r = 97 ∨ μ 17 r = 110 ∨ μ 17 r = 100 ∨ μ 17 r = 115) (h : K (nI (bN (t_do n P (fun q => wS (y q) (c q)) S (μ 17 r) (bfB (decide (μ 17 r = 115)) ys pos)) n)) μ) : sv_cI m_X1_whoAdvance [.ref 18, .int (nI r), .int (nI (bN P n))] μ K := by
  refine e_X1_whoAdvance _ _ μ K (whoAdvance_l T hr hS e16 hP ?_ n 0 (by omega))
  rw [bN_c n (fun i hi => tie_e hi hl)]
  exact h
end CO

/-! ===== passes, all ===== -/
def cF64 (n k : Nat) : Nat → Int64 → Int64 := fun i x => (x * (nI n - nI k + nI i).toInt64) / (nI i).toInt64
def chI (n k : Nat) : Int64 := lp (cF64 n k) k 1 1
def pwI (b : Int64) (e : Nat) : Int64 := lp (fun _ x => x * b) e 0 1
theorem nz64 {i : Nat} (h1 : 1 ≤ i) (h : i < 2 ^ 31) : ¬ (nI i).toInt64 = 0 := fun z => by
  rw [nI_l h] at z
  have := (pk_lEQ (a := i) (b := 0) (by omega) (by omega)).mp z
  omega
theorem chC_l {n k : Nat} (hk : k ≤ 60) {μ : sv_Mem} {K : Int64 → sv_Mem → Prop} : ∀ (m i : Nat) (x : Int64), i + m = k + 1 → 1 ≤ i → K (lp (cF64 n k) m i x) μ → wp m_X4_choose 16 [(0, .int (nI n)), (1, .int (nI k)), (2, .long x), (4, .int (nI i))] [] μ (sv_QL K)
  | 0, i, x, hi, h1, h => g_X4_choose_16 _ _ _ _ μ K (br_t (nI_lt (by omega) (by omega)) h)
  | m + 1, i, x, hi, h1, h => by
    refine g_X4_choose_16 _ _ _ _ μ K (br_f (nI_nlt (by omega) (by omega)) ⟨nz64 h1 (by omega), ?_⟩)
    rw [nI_1]
    exact chC_l hk m (i + 1) _ (by omega) (by omega) h
theorem chM_l {n k : Nat} (hk : k ≤ 60) {μ : sv_Mem} {K : Int64 → sv_Mem → Prop} : ∀ (m i : Nat) (x : Int64), i + m = k + 1 → 1 ≤ i → K (lp (cF64 n k) m i x) μ → wp m_X10_choose 5 [(0, .int (nI n)), (1, .int (nI k)), (2, .long x), (4, .int (nI i))] [] μ (sv_QL K)
  | 0, i, x, hi, h1, h => g_X10_choose_5 _ _ _ _ μ K (br_t (nI_lt (by omega) (by omega)) h)
  | m + 1, i, x, hi, h1, h => by
    refine g_X10_choose_5 _ _ _ _ μ K (br_f (nI_nlt (by omega) (by omega)) ⟨nz64 h1 (by omega), ?_⟩)
    rw [nI_1]
    exact chM_l hk m (i + 1) _ (by omega) (by omega) h
theorem chC_s {n k : Nat} (hk : k ≤ n) (hn : n ≤ 60) {μ : sv_Mem} {K : Int64 → sv_Mem → Prop} (h : K (chI n k) μ) : sv_cL m_X4_choose [.int (nI n), .int (nI k)] μ K :=
  e_X4_choose _ _ μ K (br_f (nI_pos (by omega)) (br_t (nI_le (by omega) (by omega)) (chC_l (by omega) k 1 1 (by omega) (by omega) h)))
theorem chC_0 {n k : Nat} (hk : n < k) (hn : k ≤ 60) {μ : sv_Mem} {K : Int64 → sv_Mem → Prop} (h : K 0 μ) : sv_cL m_X4_choose [.int (nI n), .int (nI k)] μ K :=
  e_X4_choose _ _ μ K (br_f (nI_pos (by omega)) (br_f (nI_ge (by omega) (by omega)) h))
theorem chM_s {n k : Nat} (hk : k ≤ n) (hn : n ≤ 60) {μ : sv_Mem} {K : Int64 → sv_Mem → Prop} (h : K (chI n k) μ) : sv_cL m_X10_choose [.int (nI n), .int (nI k)] μ K :=
  e_X10_choose _ _ μ K (chM_l (by omega) k 1 1 (by omega) (by omega) h)
theorem pwC_l {b : Int32} {e : Nat} (he : e ≤ 60) {μ : sv_Mem} {K : Int64 → sv_Mem → Prop} : ∀ (m i : Nat) (x : Int64), i + m = e → K (lp (fun _ x => x * b.toInt64) m i x) μ → wp m_X4_power 5 [(0, .int b), (1, .int (nI e)), (2, .long x), (4, .int (nI i))] [] μ (sv_QL K)
  | 0, i, x, hi, h => g_X4_power_5 _ _ _ _ μ K (br_t (nI_le (by omega) (by omega)) h)
  | m + 1, i, x, hi, h => by
    refine g_X4_power_5 _ _ _ _ μ K (br_f (nI_ge (by omega) (by omega)) ?_)
    rw [nI_1]
    exact pwC_l he m (i + 1) _ (by omega) h
theorem pwM_l {b : Int64} {e : Nat} (he : e ≤ 60) {μ : sv_Mem} {K : Int64 → sv_Mem → Prop} : ∀ (m i : Nat) (x : Int64), i + m = e → K (lp (fun _ x => x * b) m i x) μ → wp m_X10_toThe 5 [(0, .long b), (2, .int (nI e)), (3, .long x), (5, .int (nI i))] [] μ (sv_QL K)
  | 0, i, x, hi, h => g_X10_toThe_5 _ _ _ _ μ K (br_t (nI_le (by omega) (by omega)) h)
  | m + 1, i, x, hi, h => by
    refine g_X10_toThe_5 _ _ _ _ μ K (br_f (nI_ge (by omega) (by omega)) ?_)
    rw [nI_1]
    exact pwM_l he m (i + 1) _ (by omega) h
theorem pwC_s {b : Int32} {e : Nat} (he : e ≤ 60) {μ : sv_Mem} {K : Int64 → sv_Mem → Prop} (h : K (pwI b.toInt64 e) μ) : sv_cL m_X4_power [.int b, .int (nI e)] μ K := e_X4_power _ _ μ K (pwC_l he e 0 1 (by omega) h)
theorem pwM_s {b : Int64} {e : Nat} (he : e ≤ 60) {μ : sv_Mem} {K : Int64 → sv_Mem → Prop} (h : K (pwI b e) μ) : sv_cL m_X10_toThe [.long b, .int (nI e)] μ K := e_X10_toThe _ _ μ K (pwM_l he e 0 1 (by omega) h)
def oF (ju : Nat) (c x : Int32) : Nat → Int64 → Int64 := fun k s => if 100 * nI k < x * nI ju then s else s + (chI ju k * pwI c.toInt64 k) * pwI (100 - c).toInt64 (ju - k)
def oS (ju : Nat) (c x : Int32) : Int64 := lp (oF ju c x) (ju + 1) 0 0
/-- the ways, in millionths -/
def oP (ju : Nat) (c x : Int32) : Int32 := if 3 ≤ ju then (oS ju c x / pwI 100 (ju - 3)).toInt32 else (oS ju c x * pwI 100 (3 - ju)).toInt32
theorem pw100 : ∀ m, m ≤ 6 → ¬ pwI 100 m = 0 := by decide
theorem comes_l {μ : sv_Mem} {K : Int32 → sv_Mem → Prop} {ju s : Nat} {x c : Int32} (h1 : 1 ≤ ju) (h9 : ju ≤ 9) (hu : μ 40 3 = nI ju) (hs : s < 5) (hc : μ 47 s = c) (h : K (oP ju c x) μ) : ∀ (m k : Nat) (y : Int64), k + m = ju + 1 → lp (oF ju c x) m k y = oS ju c x → wp m_X10_comes 5 [(0, .ref 40), (1, .int (nI s)), (2, .int x), (3, .long y), (5, .int (nI k))] [] μ (sv_QI K)
  | 0, k, y, hk, hy => by
    have hy : y = oS ju c x := hy
    refine g_X10_comes_5 _ _ _ _ μ K (br_t (by rw [hu]; exact nI_lt (by omega) (by omega)) ?_)
    rw [hu, hy]
    unfold oP at h
    by_cases g : 3 ≤ ju
    · rw [if_pos g] at h
      refine br_t (nI_le (a := 3) g (by omega)) ?_
      rw [show (3 : Int32) = nI 3 from rfl, pk_sub g]
      exact pwM_s (by omega) ⟨pw100 _ (by omega), h⟩
    · rw [if_neg g] at h
      refine br_f (nI_ge (b := 3) (by omega) (by omega)) ?_
      rw [show (3 : Int32) = nI 3 from rfl, pk_sub (by omega)]
      exact pwM_s (by omega) h
  | m + 1, k, y, hk, hy => by
    have vs : vp_in (nI s) 5 := vp_in_nI hs (by omega)
    refine g_X10_comes_5 _ _ _ _ μ K (br_f (by rw [hu]; exact nI_nlt (by omega) (by omega)) ?_)
    rw [hu, nI_1, nI_cl (by omega)]
    have hy1 : lp (oF ju c x) m (k + 1) (oF ju c x k y) = oS ju c x := hy
    refine br_c (fun z => comes_l h1 h9 hu hs hc h m (k + 1) _ (by omega) ?_) (fun z => chM_s (by omega) (by omega) ⟨vs, ?_⟩)
    · rw [show oF ju c x k y = y from if_pos z] at hy1; exact hy1
    · rw [hc]
      refine pwM_s (by omega) ⟨vs, ?_⟩
      rw [hc, hu, pk_sub (by omega)]
      refine pwM_s (by omega) (comes_l h1 h9 hu hs hc h m (k + 1) _ (by omega) ?_)
      rw [show oF ju c x k y = y + (chI ju k * pwI c.toInt64 k) * pwI (100 - c).toInt64 (ju - k) from if_neg z] at hy1; exact hy1
theorem comes_s {μ : sv_Mem} {K : Int32 → sv_Mem → Prop} {ju s : Nat} {x : Int32} (h1 : 1 ≤ ju) (h9 : ju ≤ 9) (hu : μ 40 3 = nI ju) (hs : s < 5) (h : K (oP ju (μ 47 s) x) μ) : sv_cI m_X10_comes [.ref 40, .int (nI s), .int x] μ K := e_X10_comes _ _ μ K (comes_l h1 h9 hu hs rfl h (ju + 1) 0 0 (by omega) rfl)
def dvs : Nat → Int64 → Int64
  | 0, y => y
  | m + 1, y => dvs m (y / 100)
def mls : Nat → Int64 → Int64
  | 0, y => y
  | m + 1, y => mls m (y * 100)
theorem tdd (a : Int) (b c : Nat) : (a.tdiv b).tdiv c = a.tdiv ((b * c : Nat) : Int) := by
  have key : ∀ m k : Nat, ((m : Int).tdiv k) = ((m / k : Nat) : Int) := fun _ _ => rfl
  rcases Int.le_total 0 a with h | h
  · obtain ⟨n, rfl⟩ := Int.eq_ofNat_of_zero_le h
    rw [key, key, key, Nat.div_div_eq_div_mul]
  · obtain ⟨n, hn⟩ := Int.eq_ofNat_of_zero_le (show 0 ≤ -a by omega)
    have ha : a = -(n : Int) := by omega
    subst ha
    rw [Int.neg_tdiv, Int.neg_tdiv, Int.neg_tdiv, key, key, key, Nat.div_div_eq_div_mul]
theorem div_toInt {a : Int64} {b : Nat} (h0 : 0 < b) (h : b < 2 ^ 62) : (a / lN b).toInt = a.toInt.tdiv b := by
  have hb : (lN b).toInt = (b : Int) := pk_lT (by omega)
  rw [Int64.toInt_div, hb]
  have h1 := Int64.le_toInt a
  have h2 := Int64.toInt_lt a
  have h3 : (a.toInt.tdiv b).natAbs ≤ a.toInt.natAbs := by rw [Int.natAbs_tdiv]; exact Nat.div_le_self _ _
  by_cases hb1 : b = 1
  · subst hb1
    rw [show ((1 : Nat) : Int) = 1 from rfl, Int.tdiv_one]
    exact Int.bmod_eq_of_le (by omega) (by omega)
  · have h4 : (a.toInt.tdiv b).natAbs ≤ 2 ^ 62 := by
      rw [Int.natAbs_tdiv, Int.natAbs_natCast]
      show a.toInt.natAbs / b ≤ 2 ^ 62
      have : a.toInt.natAbs / b ≤ a.toInt.natAbs / 2 := Nat.div_le_div_left (by omega) (by omega)
      omega
    exact Int.bmod_eq_of_le (by omega) (by omega)
theorem dv100 (y : Int64) {b : Nat} (h0 : 0 < b) (h : b * 100 < 2 ^ 62) : y / 100 / lN b = y / lN (100 * b) := by
  apply Int64.toInt_inj.mp
  rw [div_toInt h0 (by omega), show (100 : Int64) = lN 100 from rfl, div_toInt (by omega) (by omega), div_toInt (by omega) (by omega), tdd]
theorem dvs_e : ∀ m, m ≤ 6 → ∀ y : Int64, dvs m y = y / pwI 100 m := by
  have base : ∀ m, m ≤ 6 → pwI 100 m = lN (100 ^ m) := by decide
  intro m
  induction m with
  | zero =>
    intro _ y
    rw [base 0 (by omega)]
    apply Int64.toInt_inj.mp
    rw [div_toInt (by omega) (by omega)]
    show y.toInt = y.toInt.tdiv 1
    rw [Int.tdiv_one]
  | succ m ih =>
    intro hm y
    show dvs m (y / 100) = _
    rw [ih (by omega), base m (by omega), base (m + 1) hm]
    have hp : 100 ^ m ≤ 100 ^ 5 := Nat.pow_le_pow_right (by omega) (by omega)
    rw [dv100 y (Nat.pow_pos (by omega)) (by have : (100 : Nat) ^ 5 = 10000000000 := by decide
                                             omega)]
    congr 2
    rw [Nat.pow_succ]; omega
theorem mls_e : ∀ m, m ≤ 2 → ∀ y : Int64, mls m y = y * pwI 100 m
  | 0, _, y => by show y = y * 1; rw [Int64.mul_one]
  | 1, _, y => by show y * 100 = y * (1 * 100); rw [Int64.one_mul]
  | 2, _, y => by show y * 100 * 100 = y * (1 * 100 * 100); rw [Int64.one_mul, Int64.mul_assoc]
  | m + 3, h, _ => by omega
theorem ofP80 {μ : sv_Mem} {K : Int32 → sv_Mem → Prop} {x0 x1 x2 : Int32} : ∀ (m : Nat) (y : Int64), m ≤ 60 → K (dvs m y).toInt32 μ → wp m_X4_ofPassing 80 [(0, .int x0), (1, .int x1), (2, .int x2), (3, .long y), (5, .int (nI (3 + m)))] [] μ (sv_QI K)
  | 0, y, hm, h => g_X4_ofPassing_80 _ _ _ _ _ μ K (br_t (by decide) h)
  | m + 1, y, hm, h => by
    refine g_X4_ofPassing_80 _ _ _ _ _ μ K (br_f (fun z => ?_) ⟨by decide, ?_⟩)
    · have := (nI_leI (b := 3) (by omega) (by omega)).mp z; omega
    · rw [show 3 + (m + 1) = (3 + m) + 1 by omega, pk_m1]
      exact ofP80 m (y / 100) (by omega) h
theorem ofP80s {μ : sv_Mem} {K : Int32 → sv_Mem → Prop} {x0 x1 x2 : Int32} {j : Nat} (hj : j ≤ 3) {y : Int64} (h : K y.toInt32 μ) : wp m_X4_ofPassing 80 [(0, .int x0), (1, .int x1), (2, .int x2), (3, .long y), (5, .int (nI j))] [] μ (sv_QI K) := g_X4_ofPassing_80 _ _ _ _ _ μ K (br_t (nI_le (b := 3) hj (by omega)) h)
theorem ofP59 {μ : sv_Mem} {K : Int32 → sv_Mem → Prop} {x0 x1 x2 : Int32} : ∀ (m j : Nat) (y : Int64), j + m = 3 → wp m_X4_ofPassing 80 [(0, .int x0), (1, .int x1), (2, .int x2), (3, .long (mls m y)), (5, .int x0)] [] μ (sv_QI K) → wp m_X4_ofPassing 59 [(0, .int x0), (1, .int x1), (2, .int x2), (3, .long y), (5, .int (nI j))] [] μ (sv_QI K)
  | 0, j, y, hj, h => g_X4_ofPassing_59 _ _ _ _ _ μ K (br_t (nI_le (a := 3) (by omega) (by omega)) h)
  | m + 1, j, y, hj, h => by
    refine g_X4_ofPassing_59 _ _ _ _ _ μ K (br_f (nI_ge (b := 3) (by omega) (by omega)) ?_)
    rw [nI_1]
    exact ofP59 m (j + 1) (y * 100) (by omega) h
theorem ofP5 {μ : sv_Mem} {K : Int32 → sv_Mem → Prop} {ju : Nat} {c x : Int32} (h1 : 1 ≤ ju) (h9 : ju ≤ 9) (h : K (oP ju c x) μ) : ∀ (m k : Nat) (y : Int64), k + m = ju + 1 → lp (oF ju c x) m k y = oS ju c x → wp m_X4_ofPassing 5 [(0, .int (nI ju)), (1, .int c), (2, .int x), (3, .long y), (5, .int (nI k))] [] μ (sv_QI K)
  | 0, k, y, hk, hy => by
    have hy : y = oS ju c x := hy
    subst hy
    refine g_X4_ofPassing_5 _ _ _ _ _ μ K (br_t (nI_lt (by omega) (by omega)) ?_)
    unfold oP at h
    by_cases g : 3 ≤ ju
    · rw [if_pos g, ← dvs_e (ju - 3) (by omega)] at h
      refine g_X4_ofPassing_59 _ _ _ _ _ μ K (br_t (nI_le (a := 3) g (by omega)) ?_)
      have := ofP80 (x0 := nI ju) (x1 := c) (x2 := x) (K := K) (ju - 3) (oS ju c x) (by omega) h
      rw [show 3 + (ju - 3) = ju by omega] at this
      exact this
    · rw [if_neg g, ← mls_e (3 - ju) (by omega)] at h
      exact ofP59 (3 - ju) ju _ (by omega) (ofP80s (by omega) h)
  | m + 1, k, y, hk, hy => by
    refine g_X4_ofPassing_5 _ _ _ _ _ μ K (br_f (nI_nlt (by omega) (by omega)) ?_)
    rw [nI_1]
    have hy1 : lp (oF ju c x) m (k + 1) (oF ju c x k y) = oS ju c x := hy
    refine br_c (fun z => ofP5 h1 h9 h m (k + 1) _ (by omega) ?_) (fun z => chC_s (by omega) (by omega) (pwC_s (by omega) ?_))
    · rw [show oF ju c x k y = y from if_pos z] at hy1; exact hy1
    · rw [pk_sub (by omega)]
      refine pwC_s (by omega) (ofP5 h1 h9 h m (k + 1) _ (by omega) ?_)
      rw [show oF ju c x k y = y + (chI ju k * pwI c.toInt64 k) * pwI (100 - c).toInt64 (ju - k) from if_neg z] at hy1; exact hy1
theorem ofPassing_s {μ : sv_Mem} {K : Int32 → sv_Mem → Prop} {ju : Nat} {c x : Int32} (h1 : 1 ≤ ju) (h9 : ju ≤ 9) (h : K (oP ju c x) μ) : sv_cI m_X4_ofPassing [.int (nI ju), .int c, .int x] μ K := e_X4_ofPassing _ _ _ μ K (ofP5 h1 h9 h (ju + 1) 0 0 (by omega) rfl)
theorem L_passes (a b : Int32) {μ : sv_Mem} (I : Inv μ) : Both m_X9_passes m_X10_passes [.int a, .int b] μ := by
  obtain ⟨ju, u1, u2, u3, u4⟩ := I.2.1
  refine e_X9_passes a b μ _ (isSkill_s (fun h => br_f t01 ?_) (fun h => br_t rfl ?_))
  · refine within_s (fun h2 => br_f t01 ?_) (fun h2 => br_t rfl ?_)
    · obtain ⟨s, hs, ea⟩ := rg_nat (n := 4) rfl h
      subst ea
      refine ⟨vp_in_nI (by omega) (by omega), ?_⟩
      rw [u3, nI_cl (by omega), (I.2.2.2.1 s (by omega)).1]
      refine ofPassing_s u1 u2 ?_
      exact e_X10_passes _ b _ _ (in_s (fun _ => br_f t01 (in_s (fun _ => br_f t01 (comes_s u1 u2 u4 (by omega) ⟨rfl, I⟩)) (fun z => absurd h2 z))) (fun z => absurd h z))
    · exact e_X10_passes a b _ _ (in_s (fun _ => br_f t01 (in_s (fun z => absurd z h2) (fun _ => br_t rfl ⟨rfl, I⟩))) (fun z => absurd h z))
  · exact e_X10_passes a b _ _ (in_s (fun z => absurd z h) (fun _ => br_t rfl ⟨rfl, I⟩))
def aF (ju : Nat) (c : Int32) (sh : Nat → Int32) : Nat → Int64 → Int64 := fun r y => (y * (oP ju c (sh r)).toInt64) / 1000000
theorem allC_l {μ : sv_Mem} {K : Int32 → sv_Mem → Prop} {ju s R : Nat} {c : Int32} (h1 : 1 ≤ ju) (h9 : ju ≤ 9) (hu : μ 9 5 = nI ju) (hs : s < 5) (hc : μ 39 s = c) (hR : R ≤ 4) (h5 : μ 13 5 = nI R) : ∀ (m r : Nat) (y : Int64), r + m = R → K (lp (aF ju c (μ 15)) m r y).toInt32 μ → wp m_X9_all 31 [(0, .ref 0), (1, .int (nI s)), (2, .long y), (4, .int (nI r))] [] μ (sv_QI K)
  | 0, r, y, hr, h => g_X9_all_31 _ _ _ μ K (br_t (by rw [h5]; exact nI_le (by omega) (by omega)) h)
  | m + 1, r, y, hr, h => by
    refine g_X9_all_31 _ _ _ μ K (br_f (by rw [h5]; exact nI_ge (by omega) (by omega)) ⟨vp_in_nI hs (by omega), vp_in_nI (by omega) (by omega), ?_⟩)
    rw [hu, nI_cl (show s < 2 ^ 31 by omega), nI_cl (show r < 2 ^ 31 by omega), hc, nI_1]
    exact ofPassing_s h1 h9 ⟨by decide, allC_l h1 h9 hu hs hc hR h5 m (r + 1) _ (by omega) h⟩
theorem allM_l {μ : sv_Mem} {K : Int32 → sv_Mem → Prop} {ju s R : Nat} {c : Int32} (h1 : 1 ≤ ju) (h9 : ju ≤ 9) (hu : μ 40 3 = nI ju) (hs : s < 5) (hc : μ 47 s = c) (hR : R ≤ 4) (h6 : μ 40 6 = nI R) : ∀ (m r : Nat) (y : Int64), r + m = R → K (lp (aF ju c (μ 44)) m r y).toInt32 μ → wp m_X10_all 34 [(0, .ref 40), (1, .int (nI s)), (2, .long y), (4, .int (nI r))] [] μ (sv_QI K)
  | 0, r, y, hr, h => g_X10_all_34 _ _ _ μ K (br_t (by rw [h6]; exact nI_le (by omega) (by omega)) h)
  | m + 1, r, y, hr, h => by
    refine g_X10_all_34 _ _ _ μ K (br_f (by rw [h6]; exact nI_ge (by omega) (by omega)) ⟨vp_in_nI (by omega) (by omega), ?_⟩)
    rw [nI_cl (show r < 2 ^ 31 by omega), nI_1]
    refine comes_s h1 h9 hu hs ?_
    rw [hc]
    exact ⟨by decide, allM_l h1 h9 hu hs hc hR h6 m (r + 1) _ (by omega) h⟩
/-- the class's number of rounds: none, or 1 to 4 -/
theorem rounds_c {μ : sv_Mem} (I : Inv μ) : μ 13 5 = 0 ∨ ∃ R, 1 ≤ R ∧ R ≤ 4 ∧ μ 13 5 = nI R := by
  obtain ⟨l, l1, l2, l3, l4, l5⟩ := I.2.2.1
  generalize pT (μ 43) l = P at l5
  cases P with
  | inl q => exact Or.inl l5.2.2
  | inr L => exact Or.inr ⟨L.length, l5.2.2.1, l5.2.2.2.1, l5.2.1⟩
theorem rd_0 {μ μ' : sv_Mem} (f : FR μ μ') (rd : RD μ') (h : μ 13 5 = 0) : ¬ μ' 40 11 = -1 := by
  have e13 : μ' 13 = μ 13 := f.1 13 (by omega) (by omega) (by omega) (by omega)
  rcases rd with ⟨b1, b2, b3⟩ | ⟨R, b1, b2, b3, b4, b5, b6, b7⟩
  · exact b3
  · exfalso
    rw [e13, h] at b3
    have := (nI_eq (a := 0) (by omega) (by omega)).mp b3
    omega
theorem rd_R {μ μ' : sv_Mem} (f : FR μ μ') (rd : RD μ') {R : Nat} (r1 : 1 ≤ R) (r2 : R ≤ 4) (h : μ 13 5 = nI R) : μ' 40 11 = -1 ∧ μ' 40 6 = nI R ∧ ∀ r, r < R → μ' 44 r = μ 15 r ∧ μ' 45 r = μ 16 r ∧ μ' 46 r = μ 17 r ∧ rg (μ 15 r) 1 100 ∧ rg (μ 16 r) 1 24 := by
  have e13 : μ' 13 = μ 13 := f.1 13 (by omega) (by omega) (by omega) (by omega)
  rcases rd with ⟨b1, b2, b3⟩ | ⟨R', b1, b2, b3, b4, b5, b6, b7⟩
  · exact absurd (by rw [← h, ← e13]; exact b1) (nI_ne0 (n := R) (by omega) (by omega))
  · have eR : R' = R := (nI_eq (by omega) (by omega)).mp (b3.symm.trans (by rw [e13]; exact h))
    subst eR
    rw [f.1 15 (by omega) (by omega) (by omega) (by omega), f.1 16 (by omega) (by omega) (by omega) (by omega), f.1 17 (by omega) (by omega) (by omega) (by omega)] at b7
    exact ⟨b5, b4, b7⟩
theorem L_all (a : Int32) {μ : sv_Mem} (I : Inv μ) : Both m_X9_all m_X10_all [.int a] μ := by
  obtain ⟨ju, u1, u2, u3, u4⟩ := I.2.1
  refine e_X9_all a μ _ (isSkill_s (fun h => br_f t01 ?_) (fun h => br_t rfl ?_))
  · obtain ⟨s, hs, ea⟩ := rg_nat (n := 4) rfl h
    subst ea
    rcases rounds_c I with h0 | ⟨R, r1, r2, r3⟩
    · exact br_t h0 (e_X10_all _ _ _ (in_s (fun _ => br_f t01 (readI_s I (fun μ' f I' rd => br_f (rd_0 f rd h0) ⟨rfl, I'⟩))) (fun z => absurd h z)))
    · refine br_f (by rw [r3]; exact nI_ne0 (by omega) (by omega)) (allC_l u1 u2 u3 (by omega) (I.2.2.2.1 s (by omega)).1 r2 r3 R 0 1000000 (by omega) ?_)
      refine e_X10_all _ _ _ (in_s (fun _ => br_f t01 (readI_s I (fun μ' f I' rd => ?_))) (fun z => absurd h z))
      obtain ⟨b1, b2, b3⟩ := rd_R f rd r1 r2 r3
      refine br_t b1 (allM_l u1 u2 ((f.2 3 (by omega) (by omega) (by omega)).trans u4) (by omega) (by rw [f.1 47 (by omega) (by omega) (by omega) (by omega)]) r2 b2 R 0 1000000 (by omega) ⟨?_, I'⟩)
      congr 1
      exact lp_congr (fun r y _ hr => by unfold aF; rw [(b3 r (by omega)).1])
  · exact e_X10_all a _ _ (in_s (fun z => absurd z h) (fun _ => br_t rfl ⟨rfl, I⟩))

/-! ===== binomials; doubt ===== -/
def bin : Nat → Nat → Nat
  | _, 0 => 1
  | 0, _ + 1 => 0
  | n + 1, k + 1 => bin n k + bin n (k + 1)
theorem bin_0 (n : Nat) : bin n 0 = 1 := by cases n <;> rfl
theorem bin_gt : ∀ (n k : Nat), n < k → bin n k = 0
  | 0, 0, h => by omega
  | 0, k + 1, _ => rfl
  | n + 1, 0, h => by omega
  | n + 1, k + 1, h => by
    show bin n k + bin n (k + 1) = 0
    rw [bin_gt n k (by omega), bin_gt n (k + 1) (by omega)]
theorem bin_pos : ∀ (n k : Nat), k ≤ n → 0 < bin n k
  | n, 0, _ => by rw [bin_0]; omega
  | 0, k + 1, h => by omega
  | n + 1, k + 1, h => by
    have := bin_pos n k (by omega)
    show 0 < bin n k + bin n (k + 1)
    omega
theorem bin_mono (n k : Nat) : bin n k ≤ bin (n + 1) k := by
  cases k with
  | zero => rw [bin_0, bin_0]; exact Nat.le_refl 1
  | succ k => show bin n (k + 1) ≤ bin n k + bin n (k + 1); omega
theorem bin_up (k : Nat) : ∀ (d n : Nat), bin n k ≤ bin (n + d) k
  | 0, n => Nat.le_refl _
  | d + 1, n => Nat.le_trans (bin_up k d n) (bin_mono (n + d) k)
theorem bin_sm : ∀ (n k : Nat), (n + 1) * bin n k = bin (n + 1) (k + 1) * (k + 1)
  | 0, 0 => rfl
  | 0, k + 1 => by
    show 1 * 0 = (bin 0 (k + 1) + bin 0 (k + 2)) * (k + 2)
    show 1 * 0 = (0 + 0) * (k + 2)
    omega
  | n + 1, 0 => by
    have h : (n + 1) * 1 = bin (n + 1) 1 * 1 := by
      have h := bin_sm n 0
      rw [bin_0] at h
      exact h
    show (n + 2) * bin (n + 1) 0 = (bin (n + 1) 0 + bin (n + 1) 1) * 1
    rw [bin_0]
    omega
  | n + 1, k + 1 => by
    have h1 := bin_sm n k
    have h2 : (n + 1) * bin n (k + 1) = bin (n + 1) (k + 2) * (k + 2) := bin_sm n (k + 1)
    have e2 : bin (n + 1) (k + 1) = bin n k + bin n (k + 1) := rfl
    show (n + 2) * bin (n + 1) (k + 1) = (bin (n + 1) (k + 1) + bin (n + 1) (k + 2)) * (k + 2)
    have e3 : (bin (n + 1) (k + 1) + bin (n + 1) (k + 2)) * (k + 2) = bin (n + 1) (k + 1) * (k + 1) + bin (n + 1) (k + 1) + bin (n + 1) (k + 2) * (k + 2) := by
      rw [Nat.add_mul, Nat.mul_succ (bin (n + 1) (k + 1)) (k + 1)]
    have e4 : (n + 2) * bin (n + 1) (k + 1) = (n + 1) * bin n k + (n + 1) * bin n (k + 1) + bin (n + 1) (k + 1) := by
      rw [Nat.succ_mul, e2, Nat.mul_add]
    omega
/-- by steps, as the programs do -/
def bmF (n k : Nat) : Nat → Nat → Nat := fun i x => (x * (n - k + i)) / i
theorem bm_step {d i : Nat} (hi : 1 ≤ i) : bin (d + (i - 1)) (i - 1) * (d + i) / i = bin (d + i) i := by
  obtain ⟨j, rfl⟩ : ∃ j, i = j + 1 := ⟨i - 1, by omega⟩
  have h := bin_sm (d + j) j
  rw [show j + 1 - 1 = j by omega, show d + (j + 1) = d + j + 1 by omega, Nat.mul_comm, h]
  exact Nat.mul_div_cancel _ (by omega)
theorem bm_lp {n k : Nat} (hk : k ≤ n) : ∀ (m i : Nat), 1 ≤ i → i + m = k + 1 → lp (bmF n k) m i (bin (n - k + (i - 1)) (i - 1)) = bin n k
  | 0, i, h1, h => by
    have : i = k + 1 := by omega
    subst this
    show bin (n - k + (k + 1 - 1)) (k + 1 - 1) = bin n k
    rw [show k + 1 - 1 = k by omega, show n - k + k = n by omega]
  | m + 1, i, h1, h => by
    show lp (bmF n k) m (i + 1) (bmF n k i (bin (n - k + (i - 1)) (i - 1))) = bin n k
    have e : bmF n k i (bin (n - k + (i - 1)) (i - 1)) = bin (n - k + (i + 1 - 1)) (i + 1 - 1) := by
      unfold bmF
      rw [bm_step h1, show i + 1 - 1 = i by omega]
    rw [e]
    exact bm_lp hk m (i + 1) (by omega) (by omega)
theorem bin_bm {n k : Nat} (hk : k ≤ n) : bin n k = lp (bmF n k) k 1 1 := by
  have h := bm_lp hk k 1 (by omega) (by omega)
  rw [bin_0] at h
  exact h.symm
theorem b60 : ∀ i, i ≤ 30 → lp (bmF 60 i) i 1 1 ≤ 118264581564861424 := by decide +kernel
theorem bin_le {n k : Nat} (hn : n ≤ 60) (hk : k ≤ 30) : bin n k ≤ 118264581564861424 := by
  have h := bin_up k (60 - n) n
  rw [show n + (60 - n) = 60 by omega, bin_bm (n := 60) (by omega)] at h
  exact Nat.le_trans h (b60 k hk)
theorem chI_lp {n k : Nat} (hk : k ≤ n) (hn : n ≤ 60) (h30 : k ≤ 30) : ∀ (m i : Nat), 1 ≤ i → i + m = k + 1 → lp (cF64 n k) m i (lN (bin (n - k + (i - 1)) (i - 1))) = lN (bin n k)
  | 0, i, h1, h => by
    have : i = k + 1 := by omega
    subst this
    show lN (bin (n - k + (k + 1 - 1)) (k + 1 - 1)) = lN (bin n k)
    rw [show k + 1 - 1 = k by omega, show n - k + k = n by omega]
  | m + 1, i, h1, h => by
    show lp (cF64 n k) m (i + 1) (cF64 n k i (lN (bin (n - k + (i - 1)) (i - 1)))) = lN (bin n k)
    have e : cF64 n k i (lN (bin (n - k + (i - 1)) (i - 1))) = lN (bin (n - k + (i + 1 - 1)) (i + 1 - 1)) := by
      unfold cF64
      have hs := bin_sm (n - k + (i - 1)) (i - 1)
      rw [show n - k + (i - 1) + 1 = n - k + i by omega, show i - 1 + 1 = i by omega] at hs
      have hb := bin_le (n := n - k + i) (k := i) (by omega) (by omega)
      have hb2 : bin (n - k + i) i * i ≤ 118264581564861424 * 30 := Nat.mul_le_mul hb (by omega)
      rw [pk_sub hk, nI_add, nI_l (by omega), nI_l (by omega), lN_mul, pk_lDiv (by rw [Nat.mul_comm, hs]; omega) (by omega) (by omega), bm_step h1, show i + 1 - 1 = i by omega]
    rw [e]
    exact chI_lp hk hn h30 m (i + 1) (by omega) (by omega)
theorem chI_e {n k : Nat} (hk : k ≤ n) (hn : n ≤ 60) (h30 : k ≤ 30) : chI n k = lN (bin n k) := by
  have h := chI_lp hk hn h30 k 1 (by omega) (by omega)
  rw [bin_0] at h
  exact h
/-! sums -/
def su (f : Nat → Nat) : Nat → Nat
  | 0 => 0
  | m + 1 => su f m + f m
theorem su_c {f g : Nat → Nat} : ∀ m, (∀ i, i < m → f i = g i) → su f m = su g m
  | 0, _ => rfl
  | m + 1, h => by
    show su f m + f m = su g m + g m
    rw [su_c m (fun i hi => h i (by omega)), h m (by omega)]
theorem su_le {f g : Nat → Nat} : ∀ m, (∀ i, i < m → f i ≤ g i) → su f m ≤ su g m
  | 0, _ => Nat.le_refl 0
  | m + 1, h => by
    have h1 := su_le m (fun i hi => h i (by omega))
    have h2 := h m (by omega)
    show su f m + f m ≤ su g m + g m
    omega
theorem su_p {f g : Nat → Nat} : ∀ m, su (fun i => f i + g i) m = su f m + su g m
  | 0 => rfl
  | m + 1 => by
    have := su_p (f := f) (g := g) m
    show su (fun i => f i + g i) m + (f m + g m) = su f m + f m + (su g m + g m)
    omega
theorem su_0 {f : Nat → Nat} : ∀ m, su f (m + 1) = f 0 + su (fun i => f (i + 1)) m
  | 0 => by show 0 + f 0 = f 0 + 0; omega
  | m + 1 => by
    have := su_0 (f := f) m
    show su f (m + 1) + f (m + 1) = f 0 + (su (fun i => f (i + 1)) m + f (m + 1))
    omega
theorem su_z : ∀ m, su (fun _ => 0) m = 0
  | 0 => rfl
  | m + 1 => by show su (fun _ => 0) m + 0 = 0; rw [su_z m]
theorem vander : ∀ (c r k : Nat), su (fun i => bin c i * bin r (k - i)) (k + 1) = bin (c + r) k
  | 0, r, k => by
    rw [su_0, su_c (g := fun _ => 0) k (fun i _ => by show bin 0 (i + 1) * _ = 0; rw [show bin 0 (i + 1) = 0 from rfl, Nat.zero_mul]), su_z, bin_0, Nat.zero_add, Nat.sub_zero]
    omega
  | c + 1, r, 0 => by
    show 0 + bin (c + 1) 0 * bin r (0 - 0) = bin (c + 1 + r) 0
    rw [bin_0, bin_0, bin_0]
  | c + 1, r, k + 1 => by
    have h1 := vander c r k
    have h2 := vander c r (k + 1)
    rw [su_0] at h2
    rw [su_0]
    have e : su (fun i => bin (c + 1) (i + 1) * bin r (k + 1 - (i + 1))) (k + 1) = su (fun i => bin c i * bin r (k - i)) (k + 1) + su (fun i => bin c (i + 1) * bin r (k + 1 - (i + 1))) (k + 1) := by
      rw [← su_p]
      exact su_c _ (fun i _ => by
        show (bin c i + bin c (i + 1)) * bin r (k + 1 - (i + 1)) = _
        rw [Nat.add_mul, show k + 1 - (i + 1) = k - i by omega])
    rw [e, h1, bin_0]
    rw [bin_0] at h2
    rw [show c + 1 + r = c + r + 1 by omega]
    show _ = bin (c + r) k + bin (c + r) (k + 1)
    omega
/-! the doubt's value -/
def upB (a b c d : Nat) : Bool := if a + b = 0 then decide (c = 0) else decide (c * (a + b) ≤ a * (c + d))
def slB (u : Bool) (a i : Nat) : Bool := if u = true then decide (a ≤ i) else decide (i ≤ a)
def tmN (a b c d i : Nat) : Nat := bin (a + c) i * bin (b + d) (a + b - i)
def fN (a b c d i : Nat) : Nat := if slB (upB a b c d) a i = true then tmN a b c d i else 0
def dF (a b c d : Nat) : Nat := su (fN a b c d) (a + b + 1)
def dT (a b c d : Nat) : Nat := bin (a + c + (b + d)) (a + b)
theorem dT_e (a b c d : Nat) : su (tmN a b c d) (a + b + 1) = dT a b c d := vander (a + c) (b + d) (a + b)
theorem dF_le (a b c d : Nat) : dF a b c d ≤ dT a b c d := by
  rw [← dT_e]
  exact su_le _ (fun i _ => by unfold fN; by_cases h : slB (upB a b c d) a i = true <;> simp [h])
def dg (T : Nat) : Nat → Nat × Nat → Nat × Nat := fun _ z => (10 * z.1 + z.2 * 10 / T, z.2 * 10 % T)
def dV (a b c d : Nat) : Nat := (lp (dg (dT a b c d)) 6 0 (0, dF a b c d)).1
theorem dg_1 (F T : Nat) (hT : 0 < T) : lp (dg T) 6 0 (0, F) = lp (dg T) 6 0 (F / T, F % T) := by
  show lp (dg T) 5 1 (dg T 0 (0, F)) = lp (dg T) 5 1 (dg T 0 (F / T, F % T))
  congr 1
  unfold dg
  have h := Nat.div_add_mod F T
  have e : F * 10 = T * (10 * (F / T)) + F % T * 10 := by
    have : T * (10 * (F / T)) = 10 * (T * (F / T)) := by rw [Nat.mul_left_comm]
    omega
  dsimp only
  rw [e, Nat.mul_add_div hT, Nat.mul_add_mod]
  simp
theorem millionths_l {μ : sv_Mem} {K : Int32 → sv_Mem → Prop} {T : Nat} {p : Int64} (h0 : 0 < T) (hT : T ≤ 118264581564861424) : ∀ (m i : Nat) (z : Nat × Nat), i + m = 6 → z.2 < T → K (lN (lp (dg T) m i z).1).toInt32 μ → wp m_X4_millionths 21 [(0, .long p), (2, .long (lN T)), (4, .long (lN z.1)), (6, .long (lN z.2)), (8, .int (nI i))] [] μ (sv_QI K)
  | 0, i, z, hi, hz, h => g_X4_millionths_21 _ _ _ _ _ μ K (br_t (nI_le (a := 6) (by omega) (by omega)) h)
  | m + 1, i, z, hi, hz, h => by
    have nz : ¬ lN T = 0 := fun q => by
      have := (pk_lEQ (a := T) (b := 0) (by omega) (by omega)).mp q
      omega
    refine g_X4_millionths_21 _ _ _ _ _ μ K (br_f (nI_ge (b := 6) (by omega) (by omega)) ⟨nz, nz, ?_⟩)
    rw [show (10 : Int64) = lN 10 from rfl, lN_mul, lN_mul, pk_lRem (by omega) h0 (by omega), pk_lDiv (by omega) h0 (by omega), lN_add, nI_1]
    exact millionths_l h0 hT m (i + 1) (dg T i z) (by omega) (Nat.mod_lt _ h0) h
theorem millionths_s {μ : sv_Mem} {K : Int32 → sv_Mem → Prop} {F T : Nat} (h0 : 0 < T) (hT : T ≤ 118264581564861424) (hF : F ≤ T) (h : K (lN (lp (dg T) 6 0 (0, F)).1).toInt32 μ) : sv_cI m_X4_millionths [.long (lN F), .long (lN T)] μ K := by
  have nz : ¬ lN T = 0 := fun q => by
    have := (pk_lEQ (a := T) (b := 0) (by omega) (by omega)).mp q
    omega
  have ps : 0 < lg_cmp (lN T) 0 := by
    have : lN T > 0 := (pk_lLT (a := 0) (b := T) (by omega) (by omega)).mpr h0
    unfold lg_cmp
    rw [if_pos this]
    decide
  refine e_X4_millionths _ _ μ K (br_t ps ⟨nz, nz, ?_⟩)
  rw [pk_lRem (by omega) h0 (by omega), pk_lDiv (by omega) h0 (by omega)]
  rw [dg_1 F T h0] at h
  exact millionths_l h0 hT 6 0 (F / T, F % T) (by omega) (Nat.mod_lt _ h0) h
theorem isNotBelow_s {a b c d : Nat} (ha : a ≤ 15) (hb : b ≤ 15) (hc : c ≤ 15) (hd : d ≤ 15) {μ : sv_Mem} {K : Int32 → sv_Mem → Prop} (h1 : upB a b c d = true → K 1 μ) (h0 : upB a b c d = false → K 0 μ) : sv_cI m_X4_isNotBelow [.int (nI a), .int (nI b), .int (nI c), .int (nI d)] μ K := by
  have m1 : a * (c + d) ≤ 15 * 30 := Nat.mul_le_mul ha (by omega)
  have m2 : c * (a + b) ≤ 15 * 30 := Nat.mul_le_mul hc (by omega)
  refine e_X4_isNotBelow _ _ _ _ μ K ?_
  rw [nI_add, nI_add, pk_mul, pk_mul]
  unfold upB at h1 h0
  refine br_c (fun z => ?_) (fun z => ?_)
  · have z' : a + b = 0 := (nI_eq (b := 0) (by omega) (by omega)).mp z
    rw [if_pos z'] at h1 h0
    refine br_c (fun y => ⟨zb1, h1 ?_⟩) (fun y => ⟨zb0, h0 ?_⟩)
    · exact decide_eq_true ((nI_eq (b := 0) (by omega) (by omega)).mp y)
    · exact decide_eq_false (fun q => y (by rw [q]; rfl))
  · have z' : ¬ a + b = 0 := fun q => z (by rw [q]; rfl)
    rw [if_neg z'] at h1 h0
    refine br_c (fun y => ⟨zb0, h0 ?_⟩) (fun y => ⟨zb1, h1 ?_⟩)
    · have := (nI_ltI (by omega) (by omega)).mp y
      exact decide_eq_false (by omega)
    · have : ¬ a * (c + d) < c * (a + b) := fun q => y (nI_lt q (by omega))
      exact decide_eq_true (by omega)
theorem chCb {n k : Nat} (hn : n ≤ 30) (hk : k ≤ 30) {μ : sv_Mem} {K : Int64 → sv_Mem → Prop} (h : K (lN (bin n k)) μ) : sv_cL m_X4_choose [.int (nI n), .int (nI k)] μ K := by
  by_cases g : k ≤ n
  · exact chC_s g (by omega) (by rw [chI_e g (by omega) hk]; exact h)
  · rw [bin_gt n k (by omega)] at h
    exact chC_0 (by omega) (by omega) h
theorem fsC_l {a b c d : Nat} (ha : a ≤ 15) (hb : b ≤ 15) (hc : c ≤ 15) (hd : d ≤ 15) {μ : sv_Mem} {K : Int32 → sv_Mem → Prop} {u : Int32} (hu : (u = 1 ∧ upB a b c d = true) ∨ (u = 0 ∧ upB a b c d = false)) (h : K (lN (dV a b c d)).toInt32 μ) : ∀ (m i : Nat), i + m = a + b + 1 → wp m_X4_falseShare 18 [(0, .int (nI a)), (1, .int (nI b)), (2, .int (nI c)), (3, .int (nI d)), (4, .int u), (5, .long (lN (su (fN a b c d) i))), (7, .long (lN (su (tmN a b c d) i))), (9, .int (nI i))] [] μ (sv_QI K)
  | 0, i, hi => by
    have : i = a + b + 1 := by omega
    subst this
    refine g_X4_falseShare_18 _ _ _ _ _ _ _ _ μ K (br_t (by rw [nI_add]; exact nI_lt (by omega) (by omega)) ?_)
    rw [dT_e]
    exact millionths_s (bin_pos _ _ (by omega)) (bin_le (by omega) (by omega)) (dF_le a b c d) h
  | m + 1, i, hi => by
    refine g_X4_falseShare_18 _ _ _ _ _ _ _ _ μ K (br_f (by rw [nI_add]; exact nI_nlt (by omega) (by omega)) ?_)
    rw [nI_add, nI_add, nI_add, pk_sub (by omega), nI_1]
    refine chCb (by omega) (by omega) (chCb (by omega) (by omega) ?_)
    rw [lN_mul, lN_add, lN_add]
    have ih := fsC_l ha hb hc hd hu h m (i + 1) (by omega)
    have e1 : su (tmN a b c d) (i + 1) = su (tmN a b c d) i + bin (a + c) i * bin (b + d) (a + b - i) := rfl
    have e2 : su (fN a b c d) (i + 1) = su (fN a b c d) i + fN a b c d i := rfl
    rw [e1, e2] at ih
    have yes : slB (upB a b c d) a i = true → fN a b c d i = bin (a + c) i * bin (b + d) (a + b - i) := fun q => if_pos q
    have no : slB (upB a b c d) a i = false → fN a b c d i = 0 := fun q => if_neg (by rw [q]; decide)
    rcases hu with ⟨rfl, hu⟩ | ⟨rfl, hu⟩
    · rw [hu] at yes no
      refine br_f t01 (br_c (fun z => ?_) (fun z => ?_))
      · have z' := (nI_ltI (by omega) (by omega)).mp z
        rw [no (by unfold slB; rw [if_pos rfl]; exact decide_eq_false (by omega)), Nat.add_zero] at ih
        exact ih
      · have z' : ¬ i < a := fun q => z (nI_lt q (by omega))
        rw [yes (by unfold slB; rw [if_pos rfl]; exact decide_eq_true (by omega))] at ih
        exact ih
    · rw [hu] at yes no
      refine br_t rfl (br_c (fun z => ?_) (fun z => ?_))
      · have z' := (nI_ltI (by omega) (by omega)).mp z
        rw [no (by unfold slB; rw [if_neg (by decide)]; exact decide_eq_false (by omega)), Nat.add_zero] at ih
        exact ih
      · have z' : ¬ a < i := fun q => z (nI_lt q (by omega))
        rw [yes (by unfold slB; rw [if_neg (by decide)]; exact decide_eq_true (by omega))] at ih
        exact ih
theorem falseShare_s {a b c d : Nat} (ha : a ≤ 15) (hb : b ≤ 15) (hc : c ≤ 15) (hd : d ≤ 15) {μ : sv_Mem} {K : Int32 → sv_Mem → Prop} (h : K (nI (dV a b c d)) μ) : sv_cI m_X4_falseShare [.int (nI a), .int (nI b), .int (nI c), .int (nI d)] μ K := by
  have h' : K (lN (dV a b c d)).toInt32 μ := by rw [lN_i]; exact h
  exact e_X4_falseShare _ _ _ _ μ K (isNotBelow_s ha hb hc hd (fun q => fsC_l ha hb hc hd (Or.inl ⟨rfl, q⟩) h' (a + b + 1) 0 (by omega)) (fun q => fsC_l ha hb hc hd (Or.inr ⟨rfl, q⟩) h' (a + b + 1) 0 (by omega)))
/-! the reference's -/
theorem dg_le (T : Nat) : ∀ (m i : Nat) (z : Nat × Nat), (lp (dg T) m i z).1 = (lp (dg T) m i z).1 := fun _ _ _ => rfl
theorem fsM_182 {μ : sv_Mem} {K : Int32 → sv_Mem → Prop} {T : Nat} {x0 x1 x2 x3 x4 x5 x6 x7 x8 : Int32} (h0 : 0 < T) (hT : T ≤ 118264581564861424) : ∀ (m i : Nat) (z : Nat × Nat), i + m = 6 → z.2 ≤ T → K (nI (lp (dg T) m i z).1) μ → wp m_X10_falseShare 182 [(0, .int x0), (1, .int x1), (2, .int x2), (3, .int x3), (4, .int x4), (5, .int x5), (6, .int x6), (7, .int x7), (8, .int x8), (9, .long (lN z.2)), (11, .long (lN T)), (13, .int (nI z.1)), (14, .int (nI i))] [] μ (sv_QI K)
  | 0, i, z, hi, hz, h => g_X10_falseShare_182 _ _ _ _ _ _ _ _ _ _ _ _ _ μ K (br_t (nI_le (a := 6) (by omega) (by omega)) h)
  | m + 1, i, z, hi, hz, h => by
    have nz : ¬ lN T = 0 := fun q => by
      have := (pk_lEQ (a := T) (b := 0) (by omega) (by omega)).mp q
      omega
    refine g_X10_falseShare_182 _ _ _ _ _ _ _ _ _ _ _ _ _ μ K (br_f (nI_ge (b := 6) (by omega) (by omega)) ⟨nz, nz, ?_⟩)
    rw [show (10 : Int64) = lN 10 from rfl, lN_mul, pk_lRem (by omega) h0 (by omega), pk_lDiv (by omega) h0 (by omega), lN_i, show (10 : Int32) = nI 10 from rfl, pk_mul, nI_add, nI_1]
    exact fsM_182 h0 hT m (i + 1) (dg T i z) (by omega) (Nat.le_of_lt (Nat.mod_lt _ h0)) h
theorem fsM_l {a b c d : Nat} (ha : a ≤ 15) (hb : b ≤ 15) (hc : c ≤ 15) (hd : d ≤ 15) {μ : sv_Mem} {K : Int32 → sv_Mem → Prop} {u : Int32} (hu : (¬ u < 0 ∧ upB a b c d = true) ∨ (u < 0 ∧ upB a b c d = false)) (h : K (nI (dV a b c d)) μ) : ∀ (m i : Nat), i + m = a + b + 1 → wp m_X10_falseShare 67 [(0, .int (nI a)), (1, .int (nI b)), (2, .int (nI c)), (3, .int (nI d)), (4, .int (nI (a + b))), (5, .int (nI (c + d))), (6, .int (nI (a + c))), (7, .int (nI (a + b + (c + d)))), (8, .int u), (9, .long (lN (su (fN a b c d) i))), (11, .int (nI i))] [] μ (sv_QI K)
  | 0, i, hi => by
    have : i = a + b + 1 := by omega
    subst this
    refine g_X10_falseShare_67 _ _ _ _ _ _ _ _ _ _ _ μ K (br_t (nI_lt (by omega) (by omega)) (chM_s (by omega) (by omega) ?_))
    rw [chI_e (by omega) (by omega) (by omega)]
    have eT : bin (a + b + (c + d)) (a + b) = dT a b c d := by unfold dT; rw [show a + b + (c + d) = a + c + (b + d) by omega]
    rw [eT]
    exact fsM_182 (bin_pos _ _ (by omega)) (bin_le (by omega) (by omega)) 6 0 (0, dF a b c d) (by omega) (dF_le a b c d) h
  | m + 1, i, hi => by
    refine g_X10_falseShare_67 _ _ _ _ _ _ _ _ _ _ _ μ K (br_f (nI_nlt (by omega) (by omega)) ?_)
    rw [pk_sub (by omega), pk_sub (by omega), nI_1, Int64.add_zero, show a + b + (c + d) - (a + c) = b + d by omega]
    have ih := fsM_l ha hb hc hd hu h m (i + 1) (by omega)
    have e2 : su (fN a b c d) (i + 1) = su (fN a b c d) i + fN a b c d i := rfl
    rw [e2] at ih
    have yes : slB (upB a b c d) a i = true → fN a b c d i = bin (a + c) i * bin (b + d) (a + b - i) := fun q => if_pos q
    have no : slB (upB a b c d) a i = false → fN a b c d i = 0 := fun q => if_neg (by rw [q]; decide)
    have good : slB (upB a b c d) a i = true → (nI (a + c) < nI i → wp m_X10_falseShare 67 [(0, .int (nI a)), (1, .int (nI b)), (2, .int (nI c)), (3, .int (nI d)), (4, .int (nI (a + b))), (5, .int (nI (c + d))), (6, .int (nI (a + c))), (7, .int (nI (a + b + (c + d)))), (8, .int u), (9, .long (lN (su (fN a b c d) i))), (11, .int (nI (i + 1)))] [] μ (sv_QI K)) ∧ (¬ nI (a + c) < nI i → (nI (b + d) < nI (a + b - i) → wp m_X10_falseShare 67 [(0, .int (nI a)), (1, .int (nI b)), (2, .int (nI c)), (3, .int (nI d)), (4, .int (nI (a + b))), (5, .int (nI (c + d))), (6, .int (nI (a + c))), (7, .int (nI (a + b + (c + d)))), (8, .int u), (9, .long (lN (su (fN a b c d) i))), (11, .int (nI (i + 1)))] [] μ (sv_QI K)) ∧ (¬ nI (b + d) < nI (a + b - i) → sv_cL m_X10_choose [.int (nI (a + c)), .int (nI i)] μ (fun r4 μ3 => sv_cL m_X10_choose [.int (nI (b + d)), .int (nI (a + b - i))] μ3 (fun r6 μ5 => wp m_X10_falseShare 67 [(0, .int (nI a)), (1, .int (nI b)), (2, .int (nI c)), (3, .int (nI d)), (4, .int (nI (a + b))), (5, .int (nI (c + d))), (6, .int (nI (a + c))), (7, .int (nI (a + b + (c + d)))), (8, .int u), (9, .long (lN (su (fN a b c d) i) + (r4 * r6))), (11, .int (nI (i + 1)))] [] μ5 (sv_QI K))))) := by
      intro q
      rw [yes q] at ih
      refine br_c (fun z => ?_) (fun z => br_c (fun y => ?_) (fun y => ?_))
      · rw [bin_gt (a + c) i ((nI_ltI (by omega) (by omega)).mp z), Nat.zero_mul, Nat.add_zero] at ih
        exact ih
      · rw [bin_gt (b + d) (a + b - i) ((nI_ltI (by omega) (by omega)).mp y), Nat.mul_zero, Nat.add_zero] at ih
        exact ih
      · have z' : ¬ a + c < i := fun q => z (nI_lt q (by omega))
        have y' : ¬ b + d < a + b - i := fun q => y (nI_lt q (by omega))
        refine chM_s (by omega) (by omega) (chM_s (by omega) (by omega) ?_)
        rw [chI_e (by omega) (by omega) (by omega), chI_e (by omega) (by omega) (by omega), lN_mul, lN_add]
        exact ih
    rcases hu with ⟨hv, hu⟩ | ⟨hv, hu⟩
    · refine br_f hv (br_c (fun z => br_t rfl ?_) (fun z => br_f t01 (good ?_)))
      · have z' := (nI_ltI (by omega) (by omega)).mp z
        rw [no (by rw [hu]; unfold slB; rw [if_pos rfl]; exact decide_eq_false (by omega)), Nat.add_zero] at ih
        exact ih
      · have z' : ¬ i < a := fun q => z (nI_lt q (by omega))
        rw [hu]; unfold slB; rw [if_pos rfl]; exact decide_eq_true (by omega)
    · refine br_t hv (br_c (fun z => br_t rfl ?_) (fun z => br_f t01 (good ?_)))
      · have z' := (nI_ltI (by omega) (by omega)).mp z
        rw [no (by rw [hu]; unfold slB; rw [if_neg (by decide)]; exact decide_eq_false (by omega)), Nat.add_zero] at ih
        exact ih
      · have z' : ¬ a < i := fun q => z (nI_lt q (by omega))
        rw [hu]; unfold slB; rw [if_neg (by decide)]; exact decide_eq_true (by omega)
theorem falseShareM_s {a b c d : Nat} (ha : a ≤ 15) (hb : b ≤ 15) (hc : c ≤ 15) (hd : d ≤ 15) {μ : sv_Mem} {K : Int32 → sv_Mem → Prop} (h : K (nI (dV a b c d)) μ) : sv_cI m_X10_falseShare [.int (nI a), .int (nI b), .int (nI c), .int (nI d)] μ K := by
  have m1 : a * (c + d) ≤ 15 * 30 := Nat.mul_le_mul ha (by omega)
  have m2 : c * (a + b) ≤ 15 * 30 := Nat.mul_le_mul hc (by omega)
  have go : ∀ u : Int32, ((¬ u < 0 ∧ upB a b c d = true) ∨ (u < 0 ∧ upB a b c d = false)) → _ := fun u hu => fsM_l ha hb hc hd (u := u) hu h (a + b + 1) 0 (by omega)
  refine e_X10_falseShare _ _ _ _ μ K ?_
  rw [nI_add, nI_add, nI_add, nI_add, pk_mul, pk_mul]
  refine br_c (fun z => br_c (fun y => go 0 ?_) (fun y => go (-nI c) ?_)) (fun z => br_c (fun y => go (nI a) ?_) (fun y => go (nI (a * (c + d)) - nI (c * (a + b))) ?_))
  · have z' : a + b = 0 := (nI_eq (b := 0) (by omega) (by omega)).mp z
    have y' : c + d = 0 := (nI_eq (b := 0) (by omega) (by omega)).mp y
    refine Or.inl ⟨by decide, ?_⟩
    unfold upB; rw [if_pos z']; exact decide_eq_true (by omega)
  · have z' : a + b = 0 := (nI_eq (b := 0) (by omega) (by omega)).mp z
    by_cases c0 : c = 0
    · subst c0
      refine Or.inl ⟨by decide, ?_⟩
      unfold upB; rw [if_pos z']; rfl
    · refine Or.inr ⟨?_, ?_⟩
      · rw [Int32.lt_iff_toInt_lt, sb_negT (by omega)]
        have : (0 : Int32).toInt = 0 := rfl
        omega
      · unfold upB; rw [if_pos z']; exact decide_eq_false c0
  · have z' : ¬ a + b = 0 := fun q => z (by rw [q]; rfl)
    have y' : c + d = 0 := (nI_eq (b := 0) (by omega) (by omega)).mp y
    refine Or.inl ⟨nI_pos (by omega), ?_⟩
    unfold upB; rw [if_neg z']
    have : c = 0 := by omega
    subst this
    exact decide_eq_true (by rw [Nat.zero_mul]; omega)
  · have z' : ¬ a + b = 0 := fun q => z (by rw [q]; rfl)
    have ti : (nI (a * (c + d)) - nI (c * (a + b))).toInt = ((a * (c + d) : Nat) : Int) - ((c * (a + b) : Nat) : Int) := pk_sub_toInt (by omega) (by omega)
    have t0 : (0 : Int32).toInt = 0 := rfl
    by_cases q : c * (a + b) ≤ a * (c + d)
    · refine Or.inl ⟨?_, ?_⟩
      · rw [Int32.lt_iff_toInt_lt, ti, t0]; omega
      · unfold upB; rw [if_neg z']; exact decide_eq_true q
    · refine Or.inr ⟨?_, ?_⟩
      · rw [Int32.lt_iff_toInt_lt, ti, t0]; omega
      · unfold upB; rw [if_neg z']; exact decide_eq_false q
theorem L_doubt (a b c d : Int32) {μ : sv_Mem} (I : Inv μ) : Both m_X9_doubt m_X10_doubt [.int a, .int b, .int c, .int d] μ := by
  refine e_X9_doubt a b c d μ _ (inTable_s (fun h => br_f t01 ?_) (fun h => br_t rfl ?_))
  · refine inTable_s (fun h2 => br_f t01 ?_) (fun h2 => br_t rfl ?_)
    · refine inTable_s (fun h3 => br_f t01 ?_) (fun h3 => br_t rfl ?_)
      · refine inTable_s (fun h4 => br_f t01 ?_) (fun h4 => br_t rfl ?_)
        · obtain ⟨x, hx, ex⟩ := rg_nat (n := 15) rfl h
          obtain ⟨y, hy, ey⟩ := rg_nat (n := 15) rfl h2
          obtain ⟨z, hz, ez⟩ := rg_nat (n := 15) rfl h3
          obtain ⟨w, hw, ew⟩ := rg_nat (n := 15) rfl h4
          subst ex ey ez ew
          refine falseShare_s hx hy hz hw ?_
          exact e_X10_doubt _ _ _ _ _ _ (in_s (fun _ => br_f t01 (in_s (fun _ => br_f t01 (in_s (fun _ => br_f t01 (in_s (fun _ => br_f t01 (falseShareM_s hx hy hz hw ⟨rfl, I⟩)) (fun z => absurd h4 z))) (fun z => absurd h3 z))) (fun z => absurd h2 z))) (fun z => absurd h z))
        · exact e_X10_doubt _ _ _ _ _ _ (in_s (fun _ => br_f t01 (in_s (fun _ => br_f t01 (in_s (fun _ => br_f t01 (in_s (fun z => absurd z h4) (fun _ => br_t rfl ⟨rfl, I⟩))) (fun z => absurd h3 z))) (fun z => absurd h2 z))) (fun z => absurd h z))
      · exact e_X10_doubt _ _ _ _ _ _ (in_s (fun _ => br_f t01 (in_s (fun _ => br_f t01 (in_s (fun z => absurd z h3) (fun _ => br_t rfl ⟨rfl, I⟩))) (fun z => absurd h2 z))) (fun z => absurd h z))
    · exact e_X10_doubt _ _ _ _ _ _ (in_s (fun _ => br_f t01 (in_s (fun z => absurd z h2) (fun _ => br_t rfl ⟨rfl, I⟩))) (fun z => absurd h z))
  · exact e_X10_doubt _ _ _ _ _ _ (in_s (fun z => absurd z h) (fun _ => br_t rfl ⟨rfl, I⟩))

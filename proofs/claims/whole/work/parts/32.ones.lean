/-! ===== the ones of a number ===== -/
def onB (x : Nat) : Nat := su (fun i => x / 2 ^ i % 2) 24
theorem ones_l {μ : sv_Mem} {K : Int32 → sv_Mem → Prop} {x : Nat} (hx : x < 2 ^ 31) (h : K (nI (onB x)) μ) : ∀ (m i : Nat), i + m = 24 → wp m_X10_ones 4 [(0, .int (nI x)), (1, .int (nI (su (fun i => x / 2 ^ i % 2) i))), (2, .int (nI i))] [] μ (sv_QI K)
  | 0, i, hi => by
    have e : i = 24 := by omega
    subst e
    exact g_X10_ones_4 _ _ _ μ K (br_t (nI_le (a := 24) (by omega) (by omega)) h)
  | m + 1, i, hi => by
    refine g_X10_ones_4 _ _ _ μ K (br_f (nI_ge (b := 24) (by omega) (by omega)) ?_)
    rw [bit_v hx (by omega), nI_add, nI_1]
    exact ones_l hx h m (i + 1) (by omega)
theorem ones_s {μ : sv_Mem} {K : Int32 → sv_Mem → Prop} {x : Nat} (hx : x < 2 ^ 31) (h : K (nI (onB x)) μ) : sv_cI m_X10_ones [.int (nI x)] μ K := e_X10_ones _ μ K (ones_l hx h 24 0 (by omega))
theorem ush_v {x k : Nat} (hx : x < 2 ^ 32) {K : UInt32} (hk : K.toNat % 32 = k) : ((nI x).toUInt32 >>> K).toInt32 = nI (x / 2 ^ k) := by
  have e2 : UInt32.ofNat x >>> K = UInt32.ofNat (x / 2 ^ k) := by
    apply UInt32.toNat_inj.1
    have hs : x / 2 ^ k ≤ x := Nat.div_le_self _ _
    have h1 : (UInt32.ofNat x).toNat = x := Nat.mod_eq_of_lt hx
    have h2 : (UInt32.ofNat (x / 2 ^ k)).toNat = x / 2 ^ k := Nat.mod_eq_of_lt (Nat.lt_of_le_of_lt hs hx)
    rw [UInt32.toNat_shiftRight, hk, h1, h2, Nat.shiftRight_eq_div_pow]
  show (UInt32.ofNat x >>> K).toInt32 = _
  rw [e2]
  rfl
theorem and_sp {a b m k : Nat} (ha : a < 256) (hm : m < 256) : (256 * b + a) &&& (256 * k + m) = 256 * (b &&& k) + (a &&& m) := by
  have e : ∀ (b a : Nat), a < 256 → ∀ j, (256 * b + a).testBit j = if j < 8 then a.testBit j else b.testBit (j - 8) := fun b a h j => Nat.testBit_two_pow_mul_add (i := 8) b h j
  have hl : a &&& m < 256 := Nat.lt_of_le_of_lt Nat.and_le_left ha
  apply Nat.eq_of_testBit_eq
  intro j
  rw [Nat.testBit_and, e b a ha, e k m hm, e _ _ hl]
  split
  · rw [Nat.testBit_and]
  · rw [Nat.testBit_and]
theorem and_3 {a b c m k e : Nat} (ha : a < 256) (hb : b < 256) (hm : m < 256) (hk : k < 256) : (256 * (256 * c + b) + a) &&& (256 * (256 * e + k) + m) = 256 * (256 * (c &&& e) + (b &&& k)) + (a &&& m) := by
  rw [and_sp ha hm, and_sp hb hk]
def f1 (a : Nat) : Nat := a - (a / 2 &&& 85)
def f2 (a : Nat) : Nat := (a &&& 51) + (a / 4 &&& 51)
def f3 (a : Nat) : Nat := (a + a / 16) % 16
theorem k1 : ∀ a, a < 256 → ∀ t, t < 2 → (a / 2 + 128 * t) &&& 85 = a / 2 &&& 85 := by decide +kernel
theorem k1c : ∀ a, a < 256 → a / 2 &&& 21845 = a / 2 &&& 85 := by decide +kernel
theorem k1l : ∀ a, a < 256 → (a / 2 &&& 85) ≤ a := by decide +kernel
theorem k2 : ∀ a, a < 256 → ∀ t, t < 4 → (a / 4 + 64 * t) &&& 51 = a / 4 &&& 51 := by decide +kernel
theorem k2c : ∀ a, a < 256 → a / 4 &&& 13107 = a / 4 &&& 51 := by decide +kernel
theorem k2d : ∀ a, a < 256 → a &&& 13107 = a &&& 51 := by decide +kernel
theorem k2l : ∀ a, a < 256 → f2 (f1 a) ≤ 68 ∧ f2 (f1 a) % 16 ≤ 4 := by decide +kernel
theorem k3 : ∀ a, a < 256 → a &&& 15 = a % 16 := by decide +kernel
theorem k3c : ∀ a, a < 256 → a &&& 3855 = a % 16 := by decide +kernel
theorem k4 : ∀ a, a < 256 → f3 (f2 (f1 a)) = su (fun i => a / 2 ^ i % 2) 8 ∧ f3 (f2 (f1 a)) ≤ 8 := by decide +kernel
theorem k5 (h a : Nat) : ∀ i, i < 8 → (256 * h + a) / 2 ^ i % 2 = a / 2 ^ i % 2 := by
  intro i hi
  have : i = 0 ∨ i = 1 ∨ i = 2 ∨ i = 3 ∨ i = 4 ∨ i = 5 ∨ i = 6 ∨ i = 7 := by omega
  rcases this with e | e | e | e | e | e | e | e <;> subst e <;> omega
theorem su_add {f : Nat → Nat} (a : Nat) : ∀ b, su f (a + b) = su f a + su (fun i => f (a + i)) b
  | 0 => rfl
  | b + 1 => by
    have := su_add (f := f) a b
    show su f (a + b) + f (a + b) = su f a + (su (fun i => f (a + i)) b + f (a + b))
    omega
theorem on3 {a b c : Nat} (ha : a < 256) (hb : b < 256) (hc : c < 256) : onB (256 * (256 * c + b) + a) = f3 (f2 (f1 a)) + (f3 (f2 (f1 b)) + f3 (f2 (f1 c))) := by
  have e8 : ∀ h a i, a < 256 → (256 * h + a) / 2 ^ (8 + i) = h / 2 ^ i := by
    intro h a i ha
    rw [Nat.pow_add, ← Nat.div_div_eq_div_mul]
    congr 1
    omega
  unfold onB
  rw [show 24 = 8 + (8 + 8) from rfl, su_add, su_add, (k4 a ha).1, (k4 b hb).1, (k4 c hc).1]
  congr 1
  · exact su_c _ (fun i hi => k5 _ _ i hi)
  · congr 1
    · refine su_c _ (fun i hi => ?_)
      rw [e8 _ _ _ ha]
      exact k5 _ _ i hi
    · refine su_c _ (fun i hi => ?_)
      rw [e8 _ _ _ ha, e8 _ _ _ hb]
theorem f1_lt {a : Nat} (h : a < 256) : f1 a < 256 := by unfold f1; omega
theorem bitCount_s {μ : sv_Mem} {K : Int32 → sv_Mem → Prop} {x : Nat} (hx : x < 2 ^ 24) (h : K (nI (onB x)) μ) : sv_cI m_J6_bitCount_0f7a4 [.int (nI x)] μ K := by
  obtain ⟨a, b, c, ha, hb, hc, rfl⟩ : ∃ a b c, a < 256 ∧ b < 256 ∧ c < 256 ∧ x = 256 * (256 * c + b) + a := ⟨x % 256, x / 256 % 256, x / 65536, by omega, by omega, by omega, by omega⟩
  rw [on3 ha hb hc] at h
  refine e_J6_bitCount_0f7a4 _ μ K ?_
  have e1 : nI (256 * (256 * c + b) + a) - ((((nI (256 * (256 * c + b) + a)).toUInt32 >>> ((1 : Int32).toUInt32 &&& Int32.toUInt32 31)).toInt32) &&& (1431655765 : Int32)) = nI (256 * (256 * f1 c + f1 b) + f1 a) := by
    rw [ush_v (k := 1) (by omega) (by decide +kernel), show (1431655765 : Int32) = nI (256 * (256 * 21845 + 85) + 85) from by decide +kernel, nx_and]
    have q : (256 * (256 * c + b) + a) / 2 ^ 1 = 256 * (256 * (c / 2) + (b / 2 + 128 * (c % 2))) + (a / 2 + 128 * (b % 2)) := by omega
    rw [q, and_3 (by omega) (by omega) (by omega) (by omega), k1 a ha _ (by omega), k1 b hb _ (by omega), k1c c hc]
    have l1 := k1l a ha
    have l2 := k1l b hb
    have l3 := k1l c hc
    rw [pk_sub (by omega)]
    congr 1
    unfold f1
    omega
  rw [e1]
  have A := f1_lt ha
  have B := f1_lt hb
  have C := f1_lt hc
  have e2 : (nI (256 * (256 * f1 c + f1 b) + f1 a) &&& (858993459 : Int32)) + ((((nI (256 * (256 * f1 c + f1 b) + f1 a)).toUInt32 >>> ((2 : Int32).toUInt32 &&& Int32.toUInt32 31)).toInt32) &&& (858993459 : Int32)) = nI (256 * (256 * f2 (f1 c) + f2 (f1 b)) + f2 (f1 a)) := by
    rw [ush_v (k := 2) (by omega) (by decide +kernel), show (858993459 : Int32) = nI (256 * (256 * 13107 + 51) + 51) from by decide +kernel, nx_and, nx_and]
    have q : (256 * (256 * f1 c + f1 b) + f1 a) / 2 ^ 2 = 256 * (256 * (f1 c / 4) + (f1 b / 4 + 64 * (f1 c % 4))) + (f1 a / 4 + 64 * (f1 b % 4)) := by omega
    rw [q, and_3 A B (by omega) (by omega), and_3 (by omega) (by omega) (by omega) (by omega), k2 _ A _ (by omega), k2 _ B _ (by omega), k2c _ C, k2d _ C, nI_add]
    congr 1
    unfold f2
    omega
  rw [e2]
  obtain ⟨A1, A2⟩ := k2l a ha
  obtain ⟨B1, B2⟩ := k2l b hb
  obtain ⟨C1, C2⟩ := k2l c hc
  have A4 := (k4 a ha).2
  have B4 := (k4 b hb).2
  have C4 := (k4 c hc).2
  have e3 : (nI (256 * (256 * f2 (f1 c) + f2 (f1 b)) + f2 (f1 a)) + (((nI (256 * (256 * f2 (f1 c) + f2 (f1 b)) + f2 (f1 a))).toUInt32 >>> ((4 : Int32).toUInt32 &&& Int32.toUInt32 31)).toInt32)) &&& (252645135 : Int32) = nI (256 * (256 * f3 (f2 (f1 c)) + f3 (f2 (f1 b))) + f3 (f2 (f1 a))) := by
    rw [ush_v (k := 4) (by omega) (by decide +kernel), show (252645135 : Int32) = nI (256 * (256 * 3855 + 15) + 15) from by decide +kernel, nI_add, nx_and]
    have q : (256 * (256 * f2 (f1 c) + f2 (f1 b)) + f2 (f1 a)) + (256 * (256 * f2 (f1 c) + f2 (f1 b)) + f2 (f1 a)) / 2 ^ 4 = 256 * (256 * (f2 (f1 c) + f2 (f1 c) / 16) + (f2 (f1 b) + f2 (f1 b) / 16 + 16 * (f2 (f1 c) % 16))) + (f2 (f1 a) + f2 (f1 a) / 16 + 16 * (f2 (f1 b) % 16)) := by omega
    rw [q, and_3 (by omega) (by omega) (by omega) (by omega), k3 _ (by omega), k3 _ (by omega), k3c _ (by omega)]
    congr 1
    unfold f3
    omega
  rw [e3]
  generalize f3 (f2 (f1 a)) = pa at *
  generalize f3 (f2 (f1 b)) = pb at *
  generalize f3 (f2 (f1 c)) = pc at *
  have e4 : nI (256 * (256 * pc + pb) + pa) + (((nI (256 * (256 * pc + pb) + pa)).toUInt32 >>> ((8 : Int32).toUInt32 &&& Int32.toUInt32 31)).toInt32) = nI (65536 * pc + 256 * (pb + pc) + (pa + pb)) := by
    rw [ush_v (k := 8) (by omega) (by decide +kernel), nI_add]
    congr 1
    omega
  rw [e4]
  have e5 : (nI (65536 * pc + 256 * (pb + pc) + (pa + pb)) + (((nI (65536 * pc + 256 * (pb + pc) + (pa + pb))).toUInt32 >>> ((16 : Int32).toUInt32 &&& Int32.toUInt32 31)).toInt32)) &&& (63 : Int32) = nI (pa + (pb + pc)) := by
    rw [ush_v (k := 16) (by omega) (by decide +kernel), nI_add, pk_andN (by omega) 6 rfl]
    have q : (65536 * pc + 256 * (pb + pc) + (pa + pb)) / 2 ^ 16 = pc := by omega
    rw [q]
    congr 1
    omega
  rw [e5]
  exact h
/-! exactly one -/
theorem su_bit (x : Nat) : ∀ k, su (fun i => x / 2 ^ i % 2) (k + 1) = x % 2 + su (fun i => x / 2 / 2 ^ i % 2) k := by
  intro k
  rw [su_0]
  congr 1
  · rw [Nat.pow_zero, Nat.div_one]
  · refine su_c _ (fun i _ => ?_)
    rw [Nat.pow_succ', Nat.div_div_eq_div_mul]
theorem su_b0 : ∀ (k x : Nat), x < 2 ^ k → su (fun i => x / 2 ^ i % 2) k = 0 → x = 0
  | 0, x, h, _ => by rw [Nat.pow_zero] at h; omega
  | k + 1, x, h, e => by
    rw [su_bit] at e
    have := su_b0 k (x / 2) (by rw [Nat.pow_succ] at h; omega) (by omega)
    omega
theorem su_b1 : ∀ (k x : Nat), x < 2 ^ k → su (fun i => x / 2 ^ i % 2) k = 1 → ∃ p, p < k ∧ x = 2 ^ p
  | 0, x, h, e => absurd e (by show ¬ 0 = 1; omega)
  | k + 1, x, h, e => by
    rw [su_bit] at e
    have h2 : x / 2 < 2 ^ k := by rw [Nat.pow_succ] at h; omega
    by_cases q : x % 2 = 1
    · have := su_b0 k (x / 2) h2 (by omega)
      exact ⟨0, by omega, by rw [Nat.pow_zero]; omega⟩
    · obtain ⟨p, p1, p2⟩ := su_b1 k (x / 2) h2 (by omega)
      exact ⟨p + 1, by omega, by rw [Nat.pow_succ]; omega⟩
theorem on_p : ∀ p, p < 24 → onB (2 ^ p) = 1 := by decide +kernel
theorem on_1 {x : Nat} (hx : x < 2 ^ 24) : onB x = 1 ↔ ∃ p, p < 24 ∧ x = 2 ^ p :=
  ⟨fun h => su_b1 24 x hx h, fun ⟨p, h1, h2⟩ => by rw [h2]; exact on_p p h1⟩
/-- who alone is left -/
noncomputable def oneV (x : Nat) : Int32 := by
  classical
  exact if h : ∃ p, p < 24 ∧ x = 2 ^ p then nI (Classical.choose h) else -1
theorem oneV_p {p : Nat} (hp : p < 24) : oneV (2 ^ p) = nI p := by
  have h : ∃ q, q < 24 ∧ 2 ^ p = 2 ^ q := ⟨p, hp, rfl⟩
  unfold oneV
  rw [dif_pos h]
  have := Classical.choose_spec h
  congr 1
  have h2 := this.2
  generalize Classical.choose h = q at *
  rcases Nat.lt_trichotomy q p with z | z | z
  · have := Nat.pow_lt_pow_right (a := 2) (by decide) z
    omega
  · exact z
  · have := Nat.pow_lt_pow_right (a := 2) (by decide) z
    omega
theorem oneV_n {x : Nat} (h : ¬ ∃ p, p < 24 ∧ x = 2 ^ p) : oneV x = -1 := by
  unfold oneV
  rw [dif_neg h]
theorem chosenC_l {μ : sv_Mem} {K : Int32 → sv_Mem → Prop} {n x : Nat} (hn : n ≤ 24) (h9 : μ 9 4 = nI n) (hx : x < 2 ^ n) (h : K (oneV x) μ) : ∀ (m i : Nat), i + m = n → (∀ j, j < i → ¬ x = 2 ^ j) → wp m_X9_chosen 32 [(0, .ref 0), (1, .int (nI x)), (2, .int (nI i))] [] μ (sv_QI K)
  | 0, i, hi, h0 => by
    refine g_X9_chosen_32 _ _ μ K (br_t (by rw [h9]; exact nI_le (by omega) (by omega)) ?_)
    rw [oneV_n] at h
    · exact h
    · rintro ⟨p, p1, p2⟩
      have lt : p < n := (Nat.pow_lt_pow_iff_right (by decide : 1 < 2)).mp (by rw [← p2]; exact hx)
      exact h0 p (by omega) p2
  | m + 1, i, hi, h0 => by
    have hx2 : x < 2 ^ 24 := Nat.lt_of_lt_of_le hx (Nat.pow_le_pow_right (by decide) hn)
    have hi2 : 2 ^ i < 2 ^ 24 := Nat.pow_lt_pow_right (by decide) (by omega)
    refine g_X9_chosen_32 _ _ μ K (br_f (by rw [h9]; exact nI_ge (by omega) (by omega)) ?_)
    rw [sh1 (by omega), nI_eq (by omega) (by omega), nI_1]
    refine br_c (fun z => ?_) (fun z => chosenC_l hn h9 hx h m (i + 1) (by omega) (fun j hj => ?_))
    · rw [z, oneV_p (by omega)] at h
      exact h
    · by_cases e : j = i
      · subst e; exact z
      · exact h0 j (by omega)
theorem chosenM_l {μ : sv_Mem} {K : Int32 → sv_Mem → Prop} {p : Nat} (hp : p < 24) (h : K (nI p) μ) : ∀ (m i : Nat), i + m = p → wp m_X10_chosenOne 23 [(0, .ref 40), (1, .int (nI (2 ^ p))), (2, .int (nI i))] [] μ (sv_QI K)
  | 0, i, hi => by
    have e : i = p := by omega
    subst e
    have lt : 2 ^ i < 2 ^ 24 := Nat.pow_lt_pow_right (by decide) (by omega)
    refine g_X10_chosenOne_23 _ _ μ K ?_
    rw [bit_v (by omega) (by omega), Nat.div_self (Nat.two_pow_pos i)]
    exact br_f (by decide) h
  | m + 1, i, hi => by
    have lt : 2 ^ p < 2 ^ 24 := Nat.pow_lt_pow_right (by decide) (by omega)
    refine g_X10_chosenOne_23 _ _ μ K ?_
    have e : 2 ^ p / 2 ^ i % 2 = 0 := by
      rw [show p = i + (m + 1) by omega, Nat.pow_add, Nat.mul_div_cancel_left _ (Nat.two_pow_pos i), Nat.pow_succ, Nat.mul_mod_left]
    rw [bit_v (by omega) (by omega), e, nI_1]
    exact br_t rfl (chosenM_l hp h m (i + 1) (by omega))

/-! ===== sets of players as bits; counts; a number's ones ===== -/
def bN (P : Nat → Bool) : Nat → Nat
  | 0 => 0
  | i + 1 => bN P i + (if P i = true then 2 ^ i else 0)
theorem bN_lt (P : Nat → Bool) : ∀ i, bN P i < 2 ^ i
  | 0 => by show 0 < 1; omega
  | i + 1 => by
    have h := bN_lt P i
    unfold bN
    rw [Nat.pow_succ]
    split <;> omega
theorem bN_c {P Q : Nat → Bool} : ∀ n, (∀ i, i < n → P i = Q i) → bN P n = bN Q n
  | 0, _ => rfl
  | n + 1, h => by
    unfold bN
    rw [bN_c n (fun i hi => h i (by omega)), h n (by omega)]
theorem bN_24 (P : Nat → Bool) {n : Nat} (hn : n ≤ 24) : bN P n < 2 ^ 24 := Nat.lt_of_lt_of_le (bN_lt P n) (Nat.pow_le_pow_right (by decide) hn)
theorem bN_bit (P : Nat → Bool) {p : Nat} : ∀ n, p < n → bN P n / 2 ^ p % 2 = if P p = true then 1 else 0
  | 0, h => absurd h (by omega)
  | n + 1, h => by
    have l := bN_lt P n
    unfold bN
    by_cases e : p = n
    · subst e
      by_cases q : P p = true
      · rw [if_pos q, if_pos q, Nat.add_div_right _ (Nat.two_pow_pos p), Nat.div_eq_of_lt l]
      · rw [if_neg q, if_neg q, Nat.add_zero, Nat.div_eq_of_lt l]
    · have ih := bN_bit P n (show p < n by omega)
      rw [← ih]
      have ew : 2 ^ n = 2 ^ p * (2 * 2 ^ (n - p - 1)) := by
        rw [← Nat.pow_succ', ← Nat.pow_add]
        congr 1
        omega
      split
      · rw [ew, Nat.add_mul_div_left _ _ (Nat.two_pow_pos p), Nat.add_mul_mod_self_left]
      · rfl
theorem sm31 : ∀ p, p < 31 → ((nI p &&& 31 : Int32).toBitVec.smod 32).toNat = p := by decide +kernel
theorem sh1 {i : Nat} (h : i < 31) : (1 : Int32) <<< (nI i &&& 31) = nI (2 ^ i) := by
  have e := pk_shlN (n := 1) (nI i &&& 31) i (sm31 i h) (by rw [Nat.one_mul]; exact Nat.pow_lt_pow_right (by decide) (by omega))
  rw [Nat.one_mul] at e
  exact e
theorem bit_v {x p : Nat} (hx : x < 2 ^ 31) (h : p < 31) : (nI x >>> (nI p &&& 31)) &&& 1 = nI (x / 2 ^ p % 2) := by
  rw [pk_shrN hx (nI p &&& 31) p (sm31 p h)]
  exact pk_andN (Nat.lt_of_le_of_lt (Nat.div_le_self _ _) (by omega)) 1 rfl
theorem has_v {P : Nat → Bool} {n p : Nat} (hn : n ≤ 24) (hp : p < n) : (nI (bN P n) >>> (nI p &&& 31)) &&& 1 = if P p = true then 1 else 0 := by
  have h := bN_24 P hn
  rw [bit_v (by omega) (by omega), bN_bit P n hp]
  split <;> rfl
theorem nx_or (a b : Nat) : nI a ||| nI b = nI (a ||| b) := by
  apply Int32.toBitVec_inj.1
  show BitVec.ofNat 32 a ||| BitVec.ofNat 32 b = BitVec.ofNat 32 (a ||| b)
  apply BitVec.eq_of_getLsbD_eq
  intro i hi
  simp [hi]
theorem nx_and (a b : Nat) : nI a &&& nI b = nI (a &&& b) := by
  apply Int32.toBitVec_inj.1
  show BitVec.ofNat 32 a &&& BitVec.ofNat 32 b = BitVec.ofNat 32 (a &&& b)
  apply BitVec.eq_of_getLsbD_eq
  intro i hi
  simp [hi]
theorem or_t {P : Nat → Bool} {i : Nat} (hi : i < 24) (h : P i = true) : nI (bN P i) ||| ((1 : Int32) <<< (nI i &&& 31)) = nI (bN P (i + 1)) := by
  have e := Nat.two_pow_add_eq_or_of_lt (bN_lt P i) 1
  rw [Nat.mul_one] at e
  rw [sh1 (by omega), nx_or, Nat.or_comm, ← e]
  show _ = nI (bN P i + (if P i = true then 2 ^ i else 0))
  rw [if_pos h, Nat.add_comm]
theorem or_f {P : Nat → Bool} {i : Nat} (h : ¬ P i = true) : nI (bN P i) = nI (bN P (i + 1)) := by
  show _ = nI (bN P i + (if P i = true then 2 ^ i else 0))
  rw [if_neg h, Nat.add_zero]
theorem bN_tb (P : Nat → Bool) (n p : Nat) : (bN P n).testBit p = (decide (p < n) && P p) := by
  by_cases h : p < n
  · rw [Nat.testBit_eq_decide_div_mod_eq, bN_bit P n h]
    cases e : P p <;> simp [h]
  · rw [Nat.testBit_lt_two_pow (Nat.lt_of_lt_of_le (bN_lt P n) (Nat.pow_le_pow_right (by decide) (by omega)))]
    simp [h]
theorem bN_or (P Q : Nat → Bool) (n : Nat) : nI (bN P n) ||| nI (bN Q n) = nI (bN (fun p => P p || Q p) n) := by
  rw [nx_or]
  congr 1
  apply Nat.eq_of_testBit_eq
  intro i
  rw [Nat.testBit_or, bN_tb, bN_tb, bN_tb]
  cases decide (i < n) <;> rfl
theorem bN_all : ∀ n, bN (fun _ => true) n + 1 = 2 ^ n
  | 0 => rfl
  | n + 1 => by
    have h := bN_all n
    show bN (fun _ => true) n + 2 ^ n + 1 = 2 ^ (n + 1)
    rw [Nat.pow_succ]
    omega
theorem bN_no : ∀ n, bN (fun _ => false) n = 0
  | 0 => rfl
  | n + 1 => by
    show bN (fun _ => false) n + 0 = 0
    rw [bN_no n]
theorem every_v {n : Nat} (hn : n ≤ 24) : ((1 : Int32) <<< (nI n &&& 31)) - 1 = nI (bN (fun _ => true) n) := by
  rw [sh1 (by omega), ← bN_all n, nI_pred]
def cnt (P : Nat → Bool) : Nat → Nat
  | 0 => 0
  | i + 1 => cnt P i + (if P i = true then 1 else 0)
theorem cnt_t {P : Nat → Bool} {i : Nat} (h : P i = true) : cnt P i + 1 = cnt P (i + 1) := by
  show _ = cnt P i + (if P i = true then 1 else 0)
  rw [if_pos h]
theorem cnt_f {P : Nat → Bool} {i : Nat} (h : ¬ P i = true) : cnt P i = cnt P (i + 1) := by
  show _ = cnt P i + (if P i = true then 1 else 0)
  rw [if_neg h, Nat.add_zero]
theorem cnt_le (P : Nat → Bool) : ∀ n, cnt P n ≤ n
  | 0 => Nat.le_refl 0
  | n + 1 => by
    have h := cnt_le P n
    unfold cnt
    split <;> omega
theorem cnt_c {P Q : Nat → Bool} : ∀ n, (∀ i, i < n → P i = Q i) → cnt P n = cnt Q n
  | 0, _ => rfl
  | n + 1, h => by
    unfold cnt
    rw [cnt_c n (fun i hi => h i (by omega)), h n (by omega)]
theorem cnt_2 {A B C : Nat → Bool} : ∀ n, (∀ i, i < n → (A i = true → C i = true) ∧ (B i = true → C i = true) ∧ ¬ (A i = true ∧ B i = true)) → cnt A n + cnt B n ≤ cnt C n
  | 0, _ => Nat.le_refl 0
  | n + 1, h => by
    have ih := cnt_2 n (fun i hi => h i (by omega))
    obtain ⟨h1, h2, h3⟩ := h n (by omega)
    unfold cnt
    by_cases a : A n = true
    · have b : ¬ B n = true := fun b => h3 ⟨a, b⟩
      rw [if_pos a, if_neg b, if_pos (h1 a)]
      omega
    · rw [if_neg a]
      by_cases b : B n = true
      · rw [if_pos b, if_pos (h2 b)]
        omega
      · rw [if_neg b]
        omega
/-! shares: y of c, c from 1 to 9 -/
def wS (y c : Nat) : Nat := y * (2520 / c)
theorem one9 {c : Nat} (h : 1 ≤ c) (h9 : c ≤ 9) : c = 1 ∨ c = 2 ∨ c = 3 ∨ c = 4 ∨ c = 5 ∨ c = 6 ∨ c = 7 ∨ c = 8 ∨ c = 9 := by omega
theorem wS_lt {a b c d : Nat} (hc : 1 ≤ c) (hc9 : c ≤ 9) (hd : 1 ≤ d) (hd9 : d ≤ 9) : (a * d < b * c ↔ wS a c < wS b d) ∧ (a * d = b * c ↔ wS a c = wS b d) := by
  unfold wS
  rcases one9 hc hc9 with h | h | h | h | h | h | h | h | h <;> subst h <;> rcases one9 hd hd9 with h | h | h | h | h | h | h | h | h <;> subst h <;> omega

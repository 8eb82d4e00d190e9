/-! ===== digest ===== -/
theorem cntV_scr {μ μ' : sv_Mem} (S : Scr μ μ') (a : Int32) : cntV μ' a = cntV μ a := by
  unfold cntV
  rw [S.1 9 (by unfold scrP; omega), S.2.1 4 (by omega) (by omega), S.2.1 5 (by omega) (by omega), S.1 25 (by unfold scrP; omega), S.1 35 (by unfold scrP; omega), S.1 1 (by unfold scrP; omega)]
theorem seatV_scr {μ μ' : sv_Mem} (S : Scr μ μ') (t : Nat) : seatV μ' t = seatV μ t := by
  unfold seatV lA ld
  rw [S.1 49 (by unfold scrP; omega), S.1 50 (by unfold scrP; omega), S.1 51 (by unfold scrP; omega)]
def gA (μ : sv_Mem) : Nat → Int64 → Int64 := fun k y => 31 * y + (cntV μ (nI k)).toInt64
def gB (μ : sv_Mem) : Nat → Int64 → Int64 := fun i y => 31 * y + (μ 42 i).toInt64
def gC (μ : sv_Mem) (p : Nat) : Nat → Int64 → Int64 := fun r y => 31 * (31 * y + (nI (cN μ p r)).toInt64) + (nI (yN μ p r)).toInt64
def gD (μ : sv_Mem) : Nat → Int64 → Int64 := fun p y => lp (gC μ p) 4 0 y
noncomputable def gE (μ : sv_Mem) (n t : Nat) (y : Int64) : Int64 := 31 * (31 * y + (chV μ n).toInt64) + (seatV μ t).toInt64
section DG
variable {μ0 : sv_Mem} {n t : Nat} {K : Int64 → sv_Mem → Prop}
theorem dgC4 (I0 : Inv μ0) (hn : n ≤ 24) (he : μ0 40 0 = nI n) (h9 : μ0 9 4 = nI n) {p : Nat} (hp : p < n) {Q : Int64 → Prop} (h : ∀ y, Q y → wp m_X9_digest 68 [(0, .ref 0), (1, .long y), (3, .int (nI p + 1))] [] μ0 (sv_QL K)) : ∀ (m r : Nat) (y : Int64), r + m = 4 → Q (lp (gC μ0 p) m r y) → wp m_X9_digest 82 [(0, .ref 0), (1, .long y), (3, .int (nI p)), (4, .int (nI r))] [] μ0 (sv_QL K)
  | 0, r, y, hi, q => g_X9_digest_82 _ _ _ μ0 K (br_t (nI_le (a := 4) (by omega) (by omega)) (h y q))
  | m + 1, r, y, hi, q => by
    refine g_X9_digest_82 _ _ _ μ0 K (br_f (nI_ge (b := 4) (by omega) (by omega)) (countingVotes_s I0 hn he hp (by omega) (yesVotes_s I0 hn he hp (by omega) ?_)))
    rw [nI_1]
    exact dgC4 I0 hn he h9 hp h m (r + 1) _ (by omega) q
theorem dgC3 (I0 : Inv μ0) (hn : n ≤ 24) (he : μ0 40 0 = nI n) (h9 : μ0 9 4 = nI n) (ht : t ≤ 6) (h14 : μ0 40 14 = nI t) (h : ∀ μ', frC μ0 μ' → ∀ y, y = gE μ0 n t (lp (gD μ0) n 0 (lp (gB μ0) n 0 (lp (gA μ0) 6 0 17))) → K y μ') : ∀ (m p : Nat) (y : Int64), p + m = n → lp (gD μ0) m p y = lp (gD μ0) n 0 (lp (gB μ0) n 0 (lp (gA μ0) 6 0 17)) → wp m_X9_digest 68 [(0, .ref 0), (1, .long y), (3, .int (nI p))] [] μ0 (sv_QL K)
  | 0, p, y, hi, q => by
    refine g_X9_digest_68 _ _ μ0 K (br_t (by rw [h9]; exact nI_le (by omega) (by omega)) (chosen_s I0 hn he h9 (fun μ1 fr => seat_s (Inv_scr I0 fr.scr) ht (by rw [fr 40 (by omega) (by omega) (by omega)]; exact h14) (h μ1 fr _ ?_))))
    have q : y = lp (gD μ0) n 0 (lp (gB μ0) n 0 (lp (gA μ0) 6 0 17)) := q
    rw [seatV_scr fr.scr, ← q]
    rfl
  | m + 1, p, y, hi, q => by
    refine g_X9_digest_68 _ _ μ0 K (br_f (by rw [h9]; exact nI_ge (by omega) (by omega)) ?_)
    refine dgC4 I0 hn he h9 (by omega) (Q := fun z => lp (gD μ0) m (p + 1) z = lp (gD μ0) n 0 (lp (gB μ0) n 0 (lp (gA μ0) 6 0 17))) (fun z hz => ?_) 4 0 y (by omega) q
    rw [nI_1]
    exact dgC3 I0 hn he h9 ht h14 h m (p + 1) z (by omega) hz
theorem dgC2 (I0 : Inv μ0) (hn : n ≤ 24) (he : μ0 40 0 = nI n) (h9 : μ0 9 4 = nI n) (ht : t ≤ 6) (h14 : μ0 40 14 = nI t) (h : ∀ μ', frC μ0 μ' → ∀ y, y = gE μ0 n t (lp (gD μ0) n 0 (lp (gB μ0) n 0 (lp (gA μ0) 6 0 17))) → K y μ') : ∀ (m i : Nat) (y : Int64), i + m = n → lp (gB μ0) m i y = lp (gB μ0) n 0 (lp (gA μ0) 6 0 17) → wp m_X9_digest 32 [(0, .ref 0), (1, .long y), (3, .int (nI i))] [] μ0 (sv_QL K)
  | 0, i, y, hi, q => by
    refine g_X9_digest_32 _ _ μ0 K (br_t (by rw [h9]; exact nI_le (by omega) (by omega)) (dgC3 I0 hn he h9 ht h14 h n 0 y (by omega) ?_))
    have q : y = lp (gB μ0) n 0 (lp (gA μ0) 6 0 17) := q
    rw [q]
  | m + 1, i, y, hi, q => by
    obtain ⟨n', k0, k1, k2, -, k4, -⟩ := id I0.1
    have en : n' = n := (nI_eq (by omega) (by omega)).mp (k2.symm.trans he)
    refine g_X9_digest_32 _ _ μ0 K (br_f (by rw [h9]; exact nI_ge (by omega) (by omega)) ⟨vp_in_nI (by omega) (by omega), ?_⟩)
    rw [nI_1, nI_cl (by omega), k4 i (by omega)]
    exact dgC2 I0 hn he h9 ht h14 h m (i + 1) _ (by omega) q
theorem dgC1 (I0 : Inv μ0) (hn : n ≤ 24) (he : μ0 40 0 = nI n) (h9 : μ0 9 4 = nI n) (ht : t ≤ 6) (h14 : μ0 40 14 = nI t) (h : ∀ μ', frC μ0 μ' → ∀ y, y = gE μ0 n t (lp (gD μ0) n 0 (lp (gB μ0) n 0 (lp (gA μ0) 6 0 17))) → K y μ') : ∀ (m i : Nat) (y : Int64), i + m = 6 → lp (gA μ0) m i y = lp (gA μ0) 6 0 17 → wp m_X9_digest 6 [(0, .ref 0), (1, .long y), (3, .int (nI i))] [] μ0 (sv_QL K)
  | 0, i, y, hi, q => by
    refine g_X9_digest_6 _ _ μ0 K (br_t (nI_lt (a := 5) (by omega) (by omega)) (dgC2 I0 hn he h9 ht h14 h n 0 y (by omega) ?_))
    have q : y = lp (gA μ0) 6 0 17 := q
    rw [q]
  | m + 1, i, y, hi, q => by
    refine g_X9_digest_6 _ _ μ0 K (br_f (nI_nlt (a := 5) (by omega) (by omega)) (count_s ?_))
    rw [nI_1]
    exact dgC1 I0 hn he h9 ht h14 h m (i + 1) _ (by omega) q
end DG
section DM
variable {μ0 : sv_Mem} {n t : Nat} {K : Int64 → sv_Mem → Prop} {μ : sv_Mem}
theorem dgM4 (hn : n ≤ 24) (he : μ0 40 0 = nI n) (I : Inv μ) (S : Scr μ0 μ) {p : Nat} (hp : p < n) {Q : Int64 → Prop} (h : ∀ y, Q y → wp m_X10_digest 63 [(0, .ref 40), (1, .long y), (3, .int (nI p + 1))] [] μ (sv_QL K)) : ∀ (m r : Nat) (y : Int64), r + m = 4 → Q (lp (gC μ0 p) m r y) → wp m_X10_digest 74 [(0, .ref 40), (1, .long y), (3, .int (nI p)), (4, .int (nI r))] [] μ (sv_QL K)
  | 0, r, y, hi, q => g_X10_digest_74 _ _ _ μ K (br_t (nI_le (a := 4) (by omega) (by omega)) (h y q))
  | m + 1, r, y, hi, q => by
    refine g_X10_digest_74 _ _ _ μ K (br_f (nI_ge (b := 4) (by omega) (by omega)) (counted_s I (by omega) (by omega) (yes_s I (by omega) (by omega) ?_)))
    rw [nI_1, cN_scr S, yN_scr S]
    exact dgM4 hn he I S hp h m (r + 1) _ (by omega) q
theorem dgM3 (hn : n ≤ 24) (he : μ0 40 0 = nI n) (ht : t ≤ 6) (h14 : μ0 40 14 = nI t) (I : Inv μ) (S : Scr μ0 μ) (h : ∀ μ', Inv μ' → ∀ y, y = gE μ0 n t (lp (gD μ0) n 0 (lp (gB μ0) n 0 (lp (gA μ0) 6 0 17))) → K y μ') : ∀ (m p : Nat) (y : Int64), p + m = n → lp (gD μ0) m p y = lp (gD μ0) n 0 (lp (gB μ0) n 0 (lp (gA μ0) 6 0 17)) → wp m_X10_digest 63 [(0, .ref 40), (1, .long y), (3, .int (nI p))] [] μ (sv_QL K)
  | 0, p, y, hi, q => by
    have he' : μ 40 0 = nI n := by rw [S.2.2 0 (by omega) (by omega) (by omega)]; exact he
    refine g_X10_digest_63 _ _ μ K (br_t (by rw [he']; exact nI_le (by omega) (by omega)) (chosenM_s I hn he' (fun μ1 fr I1 => seatM_s I1 ht (by rw [fr.scr.2.2 14 (by omega) (by omega) (by omega), S.2.2 14 (by omega) (by omega) (by omega)]; exact h14) (h μ1 I1 _ ?_))))
    have q : y = lp (gD μ0) n 0 (lp (gB μ0) n 0 (lp (gA μ0) 6 0 17)) := q
    rw [seatV_scr (S.tr fr.scr), chV_scr S, ← q]
    rfl
  | m + 1, p, y, hi, q => by
    have he' : μ 40 0 = nI n := by rw [S.2.2 0 (by omega) (by omega) (by omega)]; exact he
    refine g_X10_digest_63 _ _ μ K (br_f (by rw [he']; exact nI_ge (by omega) (by omega)) ?_)
    refine dgM4 hn he I S (by omega) (Q := fun z => lp (gD μ0) m (p + 1) z = lp (gD μ0) n 0 (lp (gB μ0) n 0 (lp (gA μ0) 6 0 17))) (fun z hz => ?_) 4 0 y (by omega) q
    rw [nI_1]
    exact dgM3 hn he ht h14 I S h m (p + 1) z (by omega) hz
theorem dgM2 (hn : n ≤ 24) (he : μ0 40 0 = nI n) (ht : t ≤ 6) (h14 : μ0 40 14 = nI t) (I : Inv μ) (S : Scr μ0 μ) (h : ∀ μ', Inv μ' → ∀ y, y = gE μ0 n t (lp (gD μ0) n 0 (lp (gB μ0) n 0 (lp (gA μ0) 6 0 17))) → K y μ') : ∀ (m i : Nat) (y : Int64), i + m = n → lp (gB μ0) m i y = lp (gB μ0) n 0 (lp (gA μ0) 6 0 17) → wp m_X10_digest 33 [(0, .ref 40), (1, .long y), (3, .int (nI i))] [] μ (sv_QL K)
  | 0, i, y, hi, q => by
    have he' : μ 40 0 = nI n := by rw [S.2.2 0 (by omega) (by omega) (by omega)]; exact he
    refine g_X10_digest_33 _ _ μ K (br_t (by rw [he']; exact nI_le (by omega) (by omega)) (dgM3 hn he ht h14 I S h n 0 y (by omega) ?_))
    have q : y = lp (gB μ0) n 0 (lp (gA μ0) 6 0 17) := q
    rw [q]
  | m + 1, i, y, hi, q => by
    have he' : μ 40 0 = nI n := by rw [S.2.2 0 (by omega) (by omega) (by omega)]; exact he
    refine g_X10_digest_33 _ _ μ K (br_f (by rw [he']; exact nI_ge (by omega) (by omega)) ⟨vp_in_nI (by omega) (by omega), ?_⟩)
    rw [nI_1, nI_cl (by omega), S.1 42 (by unfold scrP; omega)]
    exact dgM2 hn he ht h14 I S h m (i + 1) _ (by omega) q
end DM
theorem dgM1 {μ0 : sv_Mem} {n t : Nat} (hn : n ≤ 24) (he : μ0 40 0 = nI n) (ht : t ≤ 6) (h14 : μ0 40 14 = nI t) {K : Int64 → sv_Mem → Prop} (h : ∀ μ', Inv μ' → ∀ y, y = gE μ0 n t (lp (gD μ0) n 0 (lp (gB μ0) n 0 (lp (gA μ0) 6 0 17))) → K y μ') : ∀ (m i : Nat) (y : Int64) (μ : sv_Mem), Inv μ → Scr μ0 μ → i + m = 6 → lp (gA μ0) m i y = lp (gA μ0) 6 0 17 → wp m_X10_digest 6 [(0, .ref 40), (1, .long y), (3, .int (nI i))] [] μ (sv_QL K)
  | 0, i, y, μ, I, S, hi, q => by
    refine g_X10_digest_6 _ _ μ K (br_t (nI_le (a := 6) (by omega) (by omega)) (dgM2 hn he ht h14 I S h n 0 y (by omega) ?_))
    have q : y = lp (gA μ0) 6 0 17 := q
    rw [q]
  | m + 1, i, y, μ, I, S, hi, q => by
    refine g_X10_digest_6 _ _ μ K (br_f (nI_ge (b := 6) (by omega) (by omega)) (countM_s I (fun μ' fr I' => ?_)))
    rw [nI_1, cntV_scr S]
    exact dgM1 hn he ht h14 h m (i + 1) _ μ' I' (S.tr fr.scr) (by omega) q
theorem L_digest {μ : sv_Mem} (I : Inv μ) : sv_cL m_X9_digest [.ref 0] μ (fun r μ1 => sv_cL m_X10_digest [.ref 40] μ1 (fun r' μ2 => r = r' ∧ Inv μ2)) := by
  obtain ⟨n, hn, e1, e2, -⟩ := id I.1
  obtain ⟨t, ht, t1, t2, -⟩ := tr_get I
  refine e_X9_digest μ _ (dgC1 I hn e2 e1 ht t2 (fun μ1 fr y hy => ?_) 6 0 17 (by omega) rfl)
  exact e_X10_digest μ1 _ (dgM1 hn e2 ht t2 (fun μ2 I2 z hz => ⟨hy.trans hz.symm, I2⟩) 6 0 17 μ1 (Inv_scr I fr.scr) fr.scr (by omega) rfl)

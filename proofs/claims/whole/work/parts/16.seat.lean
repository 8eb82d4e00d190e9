/-! ===== seat, copy ===== -/
/-- the first from i on (m places) that has P: its v; else -1 -/
noncomputable def fst1 (P : Nat → Prop) (v : Nat → Int32) : Nat → Nat → Int32
  | 0, _ => -1
  | m + 1, i => @ite _ (P i) (Classical.propDecidable (P i)) (v i) (fst1 P v m (i + 1))
theorem fst1_congr {P : Nat → Prop} {v v' : Nat → Int32} : ∀ (m i : Nat), (∀ j, i ≤ j → j < i + m → v j = v' j) → fst1 P v m i = fst1 P v' m i
  | 0, _, _ => rfl
  | m + 1, i, h => by
    unfold fst1
    rw [fst1_congr m (i + 1) (fun j a b => h j (by omega) (by omega)), h i (by omega) (by omega)]
def lA (μ : sv_Mem) (t a : Nat) : Prop := ∀ b, b < t → b ≠ a → 0 < ld μ a b
noncomputable def seatV (μ : sv_Mem) (t : Nat) : Int32 := fst1 (lA μ t) (μ 49) t 0
theorem leadsAll_l {μ : sv_Mem} {K : Int32 → sv_Mem → Prop} {t a : Nat} (I : Inv μ) (ht : t ≤ 6) (he : μ 25 3 = nI t) (ha : a < t) (h1 : lA μ t a → K 1 μ) (h0 : ¬ lA μ t a → K 0 μ) : ∀ (m i : Nat), i + m = t → (∀ b, b < i → b ≠ a → 0 < ld μ a b) → wp m_X8_leadsAll 2 [(0, .ref 25), (1, .int (nI a)), (2, .int (nI i))] [] μ (sv_QI K)
  | 0, i, hi, h => g_X8_leadsAll_2 (nI a) (nI i) μ K (br_t (by rw [he]; exact nI_le (by omega) (by omega)) ⟨zb1, h1 (fun b hb => h b (by omega))⟩)
  | m + 1, i, hi, h => by
    refine g_X8_leadsAll_2 (nI a) (nI i) μ K (br_f (by rw [he]; exact nI_ge (by omega) (by omega)) ?_)
    rw [nI_1]
    refine br_c (fun e => ?_) (fun e => ?_)
    · have e := (nI_eq (by omega) (by omega)).mp e
      exact leadsAll_l I ht he ha h1 h0 m (i + 1) (by omega) (fun b hb hn => h b (by omega) hn)
    · refine lead_s I (by omega) (by omega) (br_c (fun z => ?_) (fun z => ⟨zb0, h0 (fun q => z (q i (by omega) (fun y => e (by rw [y]))))⟩))
      refine leadsAll_l I ht he ha h1 h0 m (i + 1) (by omega) (fun b hb hn => ?_)
      by_cases q : b = i
      · subst q; exact z
      · exact h b (by omega) hn
theorem seated_l {μ : sv_Mem} {K : Int32 → sv_Mem → Prop} {t : Nat} (I : Inv μ) (ht : t ≤ 6) (he : μ 25 3 = nI t) : ∀ (m i : Nat), i + m = t → K (fst1 (lA μ t) (μ 26) m i) μ → wp m_X8_seated 2 [(0, .ref 25), (1, .int (nI i))] [] μ (sv_QI K)
  | 0, i, hi, h => g_X8_seated_2 (nI i) μ K (br_t (by rw [he]; exact nI_le (by omega) (by omega)) h)
  | m + 1, i, hi, h => by
    refine g_X8_seated_2 (nI i) μ K (br_f (by rw [he]; exact nI_ge (by omega) (by omega)) ?_)
    rw [nI_1, nI_cl (by omega)]
    unfold fst1 at h
    refine e_X8_leadsAll _ μ _ (leadsAll_l I ht he (by omega) (fun z => br_f t01 ⟨vp_in_nI (by omega) (by omega), ?_⟩) (fun z => br_t rfl (seated_l I ht he m (i + 1) (by omega) ?_)) t 0 (by omega) (fun b hb => by omega))
    · rw [if_neg z] at h; exact h
    · rw [if_pos z] at h; exact h
theorem seat_s {μ : sv_Mem} {K : Int32 → sv_Mem → Prop} {t : Nat} (I : Inv μ) (ht : t ≤ 6) (he : μ 40 14 = nI t) (h : K (seatV μ t) μ) : sv_cI m_X9_seat [.ref 0] μ K := by
  obtain ⟨t', h1, h2, h3, h4, h5⟩ := tr_get I
  have e : t' = t := (nI_eq (by omega) (by omega)).mp (h3.symm.trans he)
  subst e
  refine e_X9_seat μ K (e_X8_seated μ _ (seated_l I ht h2 t' 0 (by omega) ?_))
  rw [fst1_congr t' 0 (fun j _ hj => h4 j (by omega))]
  exact h
theorem sg1 {x : Int32} : sg3 x = 1 ↔ 0 < x := by
  unfold sg3
  by_cases h : x ≤ 0
  · rw [if_pos h]
    by_cases g : 0 ≤ x
    · rw [if_pos g]; exact ⟨fun z => absurd z (by decide), fun z => absurd h (Int32.not_le.mpr z)⟩
    · rw [if_neg g]; exact ⟨fun z => absurd z (by decide), fun z => absurd h (Int32.not_le.mpr z)⟩
  · rw [if_neg h]; exact ⟨fun _ => Int32.not_le.mp h, fun _ => rfl⟩
theorem seatM_i {μ : sv_Mem} {K : Int32 → sv_Mem → Prop} {t a : Nat} (I : Inv μ) (ht : t ≤ 6) (he : μ 40 14 = nI t) (ha : a < t) (h1 : lA μ t a → K (μ 49 a) μ) (h0 : ¬ lA μ t a → wp m_X10_seat 2 [(0, .ref 40), (1, .int (nI (a + 1)))] [] μ (sv_QI K)) : ∀ (m i : Nat) (x : Int32), i + m = t → ((x = 1 ∧ ∀ b, b < i → b ≠ a → 0 < ld μ a b) ∨ (x = 0 ∧ ¬ lA μ t a)) → wp m_X10_seat 14 [(0, .ref 40), (1, .int (nI a)), (2, .int x), (3, .int (nI i))] [] μ (sv_QI K)
  | 0, i, x, hi, h => by
    refine g_X10_seat_14 (nI a) x (nI i) μ K (br_t (by rw [he]; exact nI_le (by omega) (by omega)) ?_)
    rw [nI_1, nI_cl (by omega)]
    rcases h with ⟨rfl, h⟩ | ⟨rfl, h⟩
    · exact br_f t01 ⟨vp_in_nI (by omega) (by omega), h1 (fun b hb => h b (by omega))⟩
    · exact br_t rfl (h0 h)
  | m + 1, i, x, hi, h => by
    refine g_X10_seat_14 (nI a) x (nI i) μ K (br_f (by rw [he]; exact nI_ge (by omega) (by omega)) ?_)
    rw [nI_1]
    have x1 : x &&& 1 = x := by rcases h with ⟨rfl, -⟩ | ⟨rfl, -⟩ <;> decide
    have x0 : x &&& 0 = 0 := by rcases h with ⟨rfl, -⟩ | ⟨rfl, -⟩ <;> decide
    refine br_c (fun e => ?_) (fun e => betterOf_s I (by omega) (by omega) (br_c (fun z => ?_) (fun z => ?_)))
    · have e := (nI_eq (by omega) (by omega)).mp e
      refine seatM_i I ht he ha h1 h0 m (i + 1) _ (by omega) ?_
      rw [x1]
      rcases h with ⟨hx, h⟩ | h
      · exact Or.inl ⟨hx, fun b hb hn => h b (by omega) hn⟩
      · exact Or.inr h
    · refine seatM_i I ht he ha h1 h0 m (i + 1) _ (by omega) ?_
      rw [x1]
      rcases h with ⟨hx, h⟩ | h
      · refine Or.inl ⟨hx, fun b hb hn => ?_⟩
        by_cases q : b = i
        · subst q; exact sg1.mp z
        · exact h b (by omega) hn
      · exact Or.inr h
    · refine seatM_i I ht he ha h1 h0 m (i + 1) _ (by omega) (Or.inr ⟨x0, fun q => z (sg1.mpr (q i (by omega) (fun y => e (by rw [y]))))⟩)
theorem seatM_l {μ : sv_Mem} {K : Int32 → sv_Mem → Prop} {t : Nat} (I : Inv μ) (ht : t ≤ 6) (he : μ 40 14 = nI t) : ∀ (m i : Nat), i + m = t → K (fst1 (lA μ t) (μ 49) m i) μ → wp m_X10_seat 2 [(0, .ref 40), (1, .int (nI i))] [] μ (sv_QI K)
  | 0, i, hi, h => g_X10_seat_2 (nI i) μ K (br_t (by rw [he]; exact nI_le (by omega) (by omega)) h)
  | m + 1, i, hi, h => by
    refine g_X10_seat_2 (nI i) μ K (br_f (by rw [he]; exact nI_ge (by omega) (by omega)) ?_)
    unfold fst1 at h
    refine seatM_i I ht he (by omega) (fun z => ?_) (fun z => seatM_l I ht he m (i + 1) (by omega) ?_) t 0 1 (by omega) (Or.inl ⟨rfl, fun b hb => by omega⟩)
    · rw [if_pos z] at h; exact h
    · rw [if_neg z] at h; exact h
theorem seatM_s {μ : sv_Mem} {K : Int32 → sv_Mem → Prop} {t : Nat} (I : Inv μ) (ht : t ≤ 6) (he : μ 40 14 = nI t) (h : K (seatV μ t) μ) : sv_cI m_X10_seat [.ref 40] μ K :=
  e_X10_seat μ K (seatM_l I ht he t 0 (by omega) h)
theorem L_seat {μ : sv_Mem} (I : Inv μ) : Both m_X9_seat m_X10_seat [] μ := by
  obtain ⟨t, h1, h2, h3, -⟩ := tr_get I
  exact seat_s I h1 h3 (seatM_s I h1 h3 ⟨rfl, I⟩)
/-! copy -/
theorem copyM1 {s i n : Nat} {x3 x4 : Int32} (hs : s < 4) (hin : i + n ≤ 240) {K : Int32 → sv_Mem → Prop} : ∀ (m k : Nat) (μ : sv_Mem), k + m = n → (∀ μ', (∀ b, b ≠ 59 → μ' b = μ b) → (∀ j, k ≤ j → j < n → μ' 59 j = μ 58 (240 * s + i + j)) → (∀ j, j < k → μ' 59 j = μ 59 j) → wp m_X10_copy 158 [(0, .ref 40), (1, .int (nI s)), (2, .int (nI i)), (3, .int x3), (4, .int x4), (5, .int (nI n)), (6, .int 0)] [] μ' (sv_QI K)) → wp m_X10_copy 120 [(0, .ref 40), (1, .int (nI s)), (2, .int (nI i)), (3, .int x3), (4, .int x4), (5, .int (nI n)), (6, .int (nI k))] [] μ (sv_QI K)
  | 0, k, μ, hk, h => g_X10_copy_120 _ _ _ _ _ _ μ K (br_t (nI_le (by omega) (by omega)) (h μ (fun _ _ => rfl) (fun j a b => by omega) (fun _ _ => rfl)))
  | m + 1, k, μ, hk, h => by
    refine g_X10_copy_120 _ _ _ _ _ _ μ K (br_f (nI_ge (by omega) (by omega)) ?_)
    rw [m240, nI_add, nI_cl (show 240 * s + i + k < 2 ^ 31 by omega), nI_cl (show k < 2 ^ 31 by omega), nI_1]
    refine ⟨vp_in_nI (by omega) (by omega), vp_in_nI (by omega) (by omega), copyM1 hs hin m (k + 1) _ (by omega) (fun μ' h1 h2 h3 => h μ' (fun b hb => by rw [h1 b hb, up_pl hb]) (fun j a b => ?_) (fun j a => ?_))⟩
    · by_cases e : j = k
      · subst e; rw [h3 j (by omega), up_s]
      · rw [h2 j (by omega) b, up_pl (by omega)]
    · rw [h3 j (by omega), up_n (by omega)]
theorem copyM2 {t j0 n : Nat} {x1 x2 : Int32} (hs : t < 4) (hin : j0 + n ≤ 240) {K : Int32 → sv_Mem → Prop} : ∀ (m k : Nat) (μ : sv_Mem), k + m = n → (∀ μ', (∀ b, b ≠ 58 → μ' b = μ b) → (∀ j, k ≤ j → j < n → μ' 58 (240 * t + j0 + j) = μ 59 j) → (∀ j, (j < 240 * t + j0 + k ∨ 240 * t + j0 + n ≤ j) → μ' 58 j = μ 58 j) → K 1 μ') → wp m_X10_copy 158 [(0, .ref 40), (1, .int x1), (2, .int x2), (3, .int (nI t)), (4, .int (nI j0)), (5, .int (nI n)), (6, .int (nI k))] [] μ (sv_QI K)
  | 0, k, μ, hk, h => g_X10_copy_158 _ _ _ _ _ _ μ K (br_t (nI_le (by omega) (by omega)) (h μ (fun _ _ => rfl) (fun j a b => by omega) (fun _ _ => rfl)))
  | m + 1, k, μ, hk, h => by
    refine g_X10_copy_158 _ _ _ _ _ _ μ K (br_f (nI_ge (by omega) (by omega)) ?_)
    rw [m240, nI_add, nI_cl (show 240 * t + j0 + k < 2 ^ 31 by omega), nI_cl (show k < 2 ^ 31 by omega), nI_1]
    refine ⟨vp_in_nI (by omega) (by omega), vp_in_nI (by omega) (by omega), copyM2 hs hin m (k + 1) _ (by omega) (fun μ' h1 h2 h3 => h μ' (fun b hb => by rw [h1 b hb, up_pl hb]) (fun j a b => ?_) (fun j a => ?_))⟩
    · by_cases e : j = k
      · subst e; rw [h3 _ (by omega), up_s]
      · rw [h2 j (by omega) b, up_pl (by omega)]
    · rw [h3 j (by omega), up_n (by omega)]
theorem spanL {p n m : Nat} (hp : p < 2 ^ 31) (hn : n < 2 ^ 31) (hm : m ≤ 240) : (0 < lg_cmp ((nI p).toInt64 + (nI n).toInt64) ((nI m).toInt64)) ↔ m < p + n := by
  rw [nI_l hp, nI_l hn, nI_l (by omega), lN_add]
  have e : lN m < lN (p + n) ↔ m < p + n := pk_lLT (by omega) (by omega)
  have e2 : lN (p + n) = lN m ↔ p + n = m := pk_lEQ (by omega) (by omega)
  unfold lg_cmp
  by_cases h : m < p + n
  · simp [e, e2, h, show ¬ p + n = m by omega]
  · by_cases g : p + n = m
    · simp [e, e2, h, g]
    · simp [e, e2, h, g]
theorem st_pl {μ : sv_Mem} {a b : Nat} {f : Nat → Int32} (h : b ≠ a) : sv_st μ a f b = μ b := if_neg h
theorem st_s {μ : sv_Mem} {a : Nat} {f : Nat → Int32} : sv_st μ a f a = f := if_pos rfl
/-- n items from p on fit into m -/
def okS (m : Nat) (p n : Int32) : Prop := ∃ i k, p = nI i ∧ n = nI k ∧ i + k ≤ m
theorem hasSpan_s {μ : sv_Mem} {K : Int32 → sv_Mem → Prop} {s m : Nat} {p n : Int32} (hs : s < 4) (hm : m ≤ 240) (he : μ 8 s = nI m) (h1 : okS m p n → K 1 μ) (h0 : ¬ okS m p n → K 0 μ) : sv_cI m_X7_hasSpan [.ref 1, .int (nI s), .int p, .int n] μ K := by
  have v4 : vp_in (nI s) 4 := vp_in_nI (by omega) (by omega)
  refine e_X7_hasSpan _ p n μ K (br_c (fun z => ⟨zb0, h0 (fun ⟨i, k, e1, e2, e3⟩ => ?_)⟩) (fun z => br_c (fun y => ⟨zb0, h0 (fun ⟨i, k, e1, e2, e3⟩ => ?_)⟩) (fun y => ⟨v4, ?_⟩)))
  · rw [e1] at z; exact nI_pos (by omega) z
  · rw [e2] at y; exact nI_pos (by omega) y
  · rw [nI_cl (by omega), he]
    obtain ⟨i, hi, ei⟩ := nI_of z
    obtain ⟨k, hk, ek⟩ := nI_of y
    subst ei ek
    refine br_c (fun x => ⟨zb0, h0 (fun ⟨i', k', e1, e2, e3⟩ => ?_)⟩) (fun x => ⟨v4, br_c (fun w => ⟨zb0, h0 (fun ⟨i', k', e1, e2, e3⟩ => ?_)⟩) (fun w => ⟨zb1, h1 ⟨i, k, rfl, rfl, ?_⟩⟩)⟩)
    · have := (nI_ltI (by omega) (by omega)).mp x
      have := (nI_eq (by omega) (by omega)).mp e1
      omega
    · have q1 := (nI_eq (by omega) (by omega)).mp e1
      have q2 := (nI_eq (by omega) (by omega)).mp e2
      rw [pk_sub (by omega)] at w
      have := (nI_ltI (by omega) (by omega)).mp w
      omega
    · have q1 : ¬ m < i := fun q => x ((nI_ltI (by omega) (by omega)).mpr q)
      rw [pk_sub (by omega)] at w
      have q2 : ¬ m - i < k := fun q => w ((nI_ltI (by omega) (by omega)).mpr q)
      omega
theorem lgle {x : Int64} {y : Int64} : lg_cmp x y ≤ 0 ↔ ¬ 0 < lg_cmp x y := Int32.not_lt.symm
/-- the reference's test of a copy's spans -/
theorem copyM_t {μ : sv_Mem} {K : Int32 → sv_Mem → Prop} {s t m m' : Nat} {p p' n : Int32} (hs : s < 4) (ht : t < 4) (hm : m ≤ 240) (hm' : m' ≤ 240) (e1 : ¬ μ 55 s = 0) (e2 : ¬ μ 55 t = 0) (e3 : μ 56 s = μ 56 t) (e4 : μ 57 s = nI m) (e5 : μ 57 t = nI m')
    (h1 : okS m p n → okS m' p' n → wp m_X10_copy 120 [(0, .ref 40), (1, .int (nI s)), (2, .int p), (3, .int (nI t)), (4, .int p'), (5, .int n), (6, .int 0)] [] μ (sv_QI K)) (h0 : ¬ (okS m p n ∧ okS m' p' n) → K (-12) (sv_up μ 40 27 2)) : sv_cI m_X10_copy [.ref 40, .int (nI s), .int p, .int (nI t), .int p', .int n] μ K := by
  have v1 : vp_in (nI s) 4 := vp_in_nI (by omega) (by omega)
  have v2 : vp_in (nI t) 4 := vp_in_nI (by omega) (by omega)
  have r1 : rg (nI s) 0 3 := rg_of (n := 4) (by omega) (by omega)
  have r2 : rg (nI t) 0 3 := rg_of (n := 4) (by omega) (by omega)
  have bad : ¬ (okS m p n ∧ okS m' p' n) → sv_cI m_X10_meets [.ref 40, .int 2] μ (fun r μ' => K r μ') := fun z => e_X10_meets 2 μ _ (h0 z)
  refine e_X10_copy _ p _ p' n μ K (isSheetM_s (fun _ => br_f t01 (isSheetM_s (fun _ => br_f t01 ⟨v1, ?_⟩) (fun z => absurd r2 z))) (fun z => absurd r1 z))
  rw [nI_cl (show s < 2 ^ 31 by omega), nI_cl (show t < 2 ^ 31 by omega)]
  refine br_f e1 ⟨v2, br_f e2 ⟨v1, v2, br_t e3 ?_⟩⟩
  refine br_c (fun z => bad (fun ⟨⟨i, k, q1, q2, q3⟩, _⟩ => ?_)) (fun z => br_c (fun y => bad (fun ⟨_, ⟨i, k, q1, q2, q3⟩⟩ => ?_)) (fun y => br_c (fun x => bad (fun ⟨⟨i, k, q1, q2, q3⟩, _⟩ => ?_)) (fun x => ⟨v1, ?_⟩)))
  · rw [q1] at z; exact nI_pos (by omega) z
  · rw [q1] at y; exact nI_pos (by omega) y
  · rw [q2] at x; exact nI_pos (by omega) x
  · obtain ⟨i, hi, ei⟩ := nI_of z
    obtain ⟨j, hj, ej⟩ := nI_of y
    obtain ⟨k, hk, ek⟩ := nI_of x
    subst ei ej ek
    rw [e4, e5]
    refine br_c (fun w => bad (fun ⟨⟨i', k', q1, q2, q3⟩, _⟩ => ?_)) (fun w => ⟨v2, br_c (fun u => ?_) (fun u => bad (fun ⟨_, ⟨i', k', q1, q2, q3⟩⟩ => ?_))⟩)
    · have := (spanL hi hk hm).mp w
      have := (nI_eq (by omega) (by omega)).mp q1
      have := (nI_eq (by omega) (by omega)).mp q2
      omega
    · have a1 : ¬ m < i + k := fun q => w ((spanL hi hk hm).mpr q)
      have a2 : ¬ m' < j + k := fun q => lgle.mp u ((spanL hj hk hm').mpr q)
      exact h1 ⟨i, k, rfl, rfl, by omega⟩ ⟨j, k, rfl, rfl, by omega⟩
    · have a0 : 0 < lg_cmp ((nI j).toInt64 + (nI k).toInt64) ((nI m').toInt64) := Int32.not_le.mp u
      have := (spanL hj hk hm').mp a0
      have := (nI_eq (by omega) (by omega)).mp q1
      have := (nI_eq (by omega) (by omega)).mp q2
      omega
theorem L_copy (a b c d n : Int32) {μ : sv_Mem} (I : Inv μ) : Both m_X9_copy m_X10_copy [.int a, .int b, .int c, .int d, .int n] μ := by
  refine e_X9_copy a b c d n μ _ (isSheet_s (fun h => br_f t01 ?_) (fun h => br_t rfl ?_))
  · refine isSheet_s (fun h2 => br_f t01 ?_) (fun h2 => br_t rfl ?_)
    · obtain ⟨s, hs, ea⟩ := rg_nat (n := 3) rfl h
      obtain ⟨t, ht, ec⟩ := rg_nat (n := 3) rfl h2
      subst ea ec
      have v1 : vp_in (nI s) 4 := vp_in_nI (by omega) (by omega)
      have v2 : vp_in (nI t) 4 := vp_in_nI (by omega) (by omega)
      have bad : ∀ f : Int32, (∀ μ' K, μ' 55 = μ 55 → μ' 56 = μ 56 → sv_cI m_X10_meets [.ref 40, .int f] μ' K → sv_cI m_X10_copy [.ref 40, .int (nI s), .int b, .int (nI t), .int d, .int n] μ' K) → sv_cI m_X7_found [.ref 1, .int f] μ (fun r μ1 => sv_cI m_X10_copy [.ref 40, .int (nI s), .int b, .int (nI t), .int d, .int n] μ1 (fun r' μ2 => r = r' ∧ Inv μ2)) := fun f hf => e_X7_found f μ _ (hf _ _ rfl rfl (e_X10_meets f _ _ ⟨rfl, Inv_fi I f⟩))
      refine e_X7_findingOfSheets _ _ μ _ (e_X7_isLost _ μ _ ⟨v1, ?_⟩)
      rw [nI_cl (show s < 2 ^ 31 by omega)]
      rcases sh_get I.2.2.2.2.2.2.1 s (by omega) with ⟨q1, q2, q3⟩ | ⟨q1, q2, ⟨x, q3, q4⟩, m, q5, q6, q7, q8⟩
      · refine br_t q2 ⟨zb1, br_f t01 (br_f t01 (br_f t01 (bad 1 (fun μ' K u1 u2 k => ?_))))⟩
        refine e_X10_copy _ b _ d n μ' K (isSheetM_s (fun _ => br_f t01 (isSheetM_s (fun _ => br_f t01 ⟨v1, ?_⟩) (fun z => absurd h2 z))) (fun z => absurd h z))
        rw [nI_cl (show s < 2 ^ 31 by omega), u1]
        exact br_t q1 k
      · have nl : ¬ μ 7 s = -1 := fun z => frm q3 q4 (q2.symm.trans z)
        have nz : ¬ μ 55 s = 0 := by rw [q1]; decide
        refine br_f nl ⟨zb0, br_t rfl (e_X7_isLost _ μ _ ⟨v2, ?_⟩)⟩
        rw [nI_cl (show t < 2 ^ 31 by omega)]
        rcases sh_get I.2.2.2.2.2.2.1 t (by omega) with ⟨p1, p2, p3⟩ | ⟨p1, p2, ⟨y, p3, p4⟩, m', p5, p6, p7, p8⟩
        · refine br_t p2 ⟨zb1, br_f t01 (br_f t01 (br_f t01 (bad 1 (fun μ' K u1 u2 k => ?_))))⟩
          refine e_X10_copy _ b _ d n μ' K (isSheetM_s (fun _ => br_f t01 (isSheetM_s (fun _ => br_f t01 ⟨v1, ?_⟩) (fun z => absurd h2 z))) (fun z => absurd h z))
          rw [nI_cl (show s < 2 ^ 31 by omega), nI_cl (show t < 2 ^ 31 by omega), u1]
          exact br_f nz ⟨v2, br_t p1 k⟩
        · have nl' : ¬ μ 7 t = -1 := fun z => frm p3 p4 (p2.symm.trans z)
          have nz' : ¬ μ 55 t = 0 := by rw [p1]; decide
          refine br_f nl' ⟨zb0, br_t rfl ⟨v1, v2, ?_⟩⟩
          by_cases ef : μ 56 s = μ 56 t
          · refine br_t (q2.trans (ef.trans p2.symm)) (br_t rfl ?_)
            have bad2 : ¬ (okS m b n ∧ okS m' d n) → sv_cI m_X7_found [.ref 1, .int 2] μ (fun r μ1 => sv_cI m_X10_copy [.ref 40, .int (nI s), .int b, .int (nI t), .int d, .int n] μ1 (fun r' μ2 => r = r' ∧ Inv μ2)) := fun z => e_X7_found 2 μ _ (copyM_t (by omega) (by omega) q5 p5 nz nz' ef q7 p7 (fun y1 y2 => absurd ⟨y1, y2⟩ z) (fun _ => ⟨rfl, Inv_fi I 2⟩))
            refine hasSpan_s (by omega) q5 q6 (fun k1 => br_f t01 ?_) (fun k1 => br_t rfl (br_f (by decide) (bad2 (fun z => k1 z.1))))
            refine hasSpan_s (by omega) p5 p6 (fun k2 => br_f t01 (br_t rfl ⟨v1, v2, ?_⟩)) (fun k2 => br_t rfl (br_f (by decide) (bad2 (fun z => k2 z.2))))
            obtain ⟨i, k, e1, e2, e3⟩ := k1
            obtain ⟨j, k', e4, e5, e6⟩ := k2
            subst e1 e4 e2
            have ekk := (nI_eq (by omega) (by omega)).mp e5
            subst ekk
            rw [nI_cl (show i < 2 ^ 31 by omega), nI_cl (show j < 2 ^ 31 by omega), nI_cl (show k < 2 ^ 31 by omega)]
            refine row_ln (by omega) (row_ln (by omega) ⟨nI_pos (by omega), nI_pos (by omega), nI_pos (by omega), by omega, by omega, ?_⟩)
            have w : ∀ b, b ≠ 3 + t → sv_st μ (3 + t) (va_cpy (μ (3 + s)) (μ (3 + t)) i j k) b = μ b := fun b hb => st_pl hb
            refine copyM_t (m := m) (m' := m') (by omega) (by omega) q5 p5 (by rw [w 55 (by omega)]; exact nz) (by rw [w 55 (by omega)]; exact nz') (by rw [w 56 (by omega)]; exact ef) (by rw [w 57 (by omega)]; exact q7) (by rw [w 57 (by omega)]; exact p7) (fun _ _ => ?_) (fun z => absurd ⟨⟨i, k, rfl, rfl, e3⟩, ⟨j, k, rfl, rfl, e6⟩⟩ z)
            refine copyM1 (by omega) (by omega) k 0 _ (by omega) (fun μ1 f1 f2 f3 => copyM2 (by omega) (by omega) k 0 μ1 (by omega) (fun μ2 g1 g2 g3 => ⟨rfl, ?_⟩))
            have u : ∀ b, b ≠ 58 → b ≠ 59 → b ≠ 3 + t → μ2 b = μ b := fun b x1 x2 x3 => by rw [g1 b x1, f1 b x2, w b x3]
            have ur : μ2 (3 + t) = va_cpy (μ (3 + s)) (μ (3 + t)) i j k := by rw [g1 _ (by omega), f1 _ (by omega), st_s]
            have in58 : ∀ z, z < k → μ2 58 (240 * t + j + z) = μ 58 (240 * s + i + z) := fun z hz => by rw [g2 z (by omega) hz, f2 z (by omega) hz, w 58 (by omega)]
            have out58 : ∀ z, (z < 240 * t + j ∨ 240 * t + j + k ≤ z) → μ2 58 z = μ 58 z := fun z hz => by rw [g3 z (by omega), f1 58 (by omega), w 58 (by omega)]
            refine Inv_sh I (fun b x1 x2 => u b (by omega) (by omega) (by omega)) (fun v hv => ?_)
            rw [u 7 (by omega) (by omega) (by omega), u 8 (by omega) (by omega) (by omega), u 55 (by omega) (by omega) (by omega), u 56 (by omega) (by omega) (by omega), u 57 (by omega) (by omega) (by omega)]
            by_cases ev : v = t
            · subst ev
              refine Or.inr ⟨p1, p2, ⟨y, p3, p4⟩, m', p5, p6, p7, fun z hz => ?_⟩
              rw [ur]
              by_cases hin : j ≤ z ∧ z < j + k
              · rw [pk_cpy_in hin.1 hin.2, q8 _ (by omega)]
                have := in58 (z - j) (by omega)
                rw [show 240 * v + j + (z - j) = 240 * v + z by omega, show 240 * s + i + (z - j) = 240 * s + (i + (z - j)) by omega] at this
                exact this.symm
              · rw [pk_cpy_out (by omega), out58 _ (by omega)]
                exact p8 z hz
            · rw [u (3 + v) (by omega) (by omega) (by omega)]
              rcases sh_get I.2.2.2.2.2.2.1 v hv with q | ⟨r1, r2, r3, m2, r5, r6, r7, r8⟩
              · exact Or.inl q
              · refine Or.inr ⟨r1, r2, r3, m2, r5, r6, r7, fun z hz => ?_⟩
                rw [out58 _ (by omega)]
                exact r8 z hz
          · refine br_f (fun z => ef (q2.symm.trans (z.trans p2))) (br_f (by decide) (br_f (by decide) (bad 4 (fun μ' K u1 u2 k => ?_))))
            refine e_X10_copy _ b _ d n μ' K (isSheetM_s (fun _ => br_f t01 (isSheetM_s (fun _ => br_f t01 ⟨v1, ?_⟩) (fun z => absurd h2 z))) (fun z => absurd h z))
            rw [nI_cl (show s < 2 ^ 31 by omega), nI_cl (show t < 2 ^ 31 by omega), u1, u2]
            exact br_f nz ⟨v2, br_f nz' ⟨v1, v2, br_f ef k⟩⟩
    · exact e_X10_copy a b c d n _ _ (isSheetM_s (fun _ => br_f t01 (isSheetM_s (fun z => absurd z h2) (fun _ => br_t rfl ⟨rfl, I⟩))) (fun z => absurd h z))
  · exact e_X10_copy a b c d n _ _ (isSheetM_s (fun z => absurd z h) (fun _ => br_t rfl ⟨rfl, I⟩))

/-! ===== the rounds' letters; tally; advancedOutOf ===== -/
def ltrC (l : Int32) : Prop := l = 97 ∨ l = 110 ∨ l = 100 ∨ l = 115
theorem pR_l {t : Nat → Int32} {n k : Nat} {v w b : Int32} {k' : Nat} (h : pR t n k = .inr (v, w, b, k')) : ltrC b := by
  unfold pR at h
  split at h
  · exact absurd h (by simp)
  · split at h
    · exact absurd h (by simp)
    · split at h
      · exact absurd h (by simp)
      · split at h
        · exact absurd h (by simp)
        · split at h
          · exact absurd h (by simp)
          · rename_i z
            simp only [Sum.inr.injEq, Prod.mk.injEq] at h
            rw [h.2.2.1] at z
            exact Classical.not_not.mp z
theorem pA_l {t : Nat → Int32} {n : Nat} : ∀ (m k : Nat) (L : List (Int32 × Int32 × Int32)), pA t n m k = .inr L → ∀ (r : Nat) (z : Int32 × Int32 × Int32), L[r]? = some z → ltrC z.2.2
  | 0, k, L, h => by
    unfold pA at h
    exact absurd h (by simp)
  | m + 1, k, L, h => by
    unfold pA at h
    cases e : pR t n k with
    | inl q => rw [e] at h; exact absurd h (by simp)
    | inr x =>
      obtain ⟨v, w, b, k'⟩ := x
      have lb := pR_l e
      rw [e] at h
      dsimp only at h
      split at h
      · simp only [Sum.inr.injEq] at h
        subst h
        intro r z hz
        cases r with
        | zero => simp at hz; rw [← hz]; exact lb
        | succ r => simp at hz
      · split at h
        · exact absurd h (by simp)
        · split at h
          · exact absurd h (by simp)
          · split at h
            · exact absurd h (by simp)
            · rename_i L' e'
              simp only [Sum.inr.injEq] at h
              subst h
              intro r z hz
              cases r with
              | zero => simp at hz; rw [← hz]; exact lb
              | succ r => exact pA_l m _ L' e' r z (by simpa using hz)
theorem rds {μ : sv_Mem} (I : Inv μ) {R : Nat} (hR : R ≤ 4) (h : μ 13 5 = nI R) : ∀ r, r < R → ∃ s S, s ≤ 100 ∧ S ≤ 24 ∧ μ 15 r = nI s ∧ μ 16 r = nI S ∧ ltrC (μ 17 r) := by
  intro r hr
  obtain ⟨l, l1, l2, l3, l4, l5⟩ := I.2.2.1
  cases e : pT (μ 43) l with
  | inl q =>
    rw [e] at l5
    have := (nI_eq (a := R) (b := 0) (by omega) (by omega)).mp (h.symm.trans l5.2.2)
    omega
  | inr L =>
    rw [e] at l5
    obtain ⟨a1, a2, a3, a4, a5⟩ := l5
    have eR : R = L.length := (nI_eq (by omega) (by omega)).mp (h.symm.trans a2)
    have hz : L[r]? = some L[r] := List.getElem?_eq_getElem (by omega)
    obtain ⟨z1, z2, z3, z4, z5⟩ := a5 r _ hz
    have lt := pA_l 4 0 L e r _ hz
    rw [← z3] at lt
    rw [← z1] at z4
    rw [← z2] at z5
    obtain ⟨s, s1, s2⟩ := rg_nat (n := 100) rfl ⟨fun z => z4.1 (Int32.lt_trans z (by decide)), z4.2⟩
    obtain ⟨S, S1, S2⟩ := rg_nat (n := 24) rfl ⟨fun z => z5.1 (Int32.lt_trans z (by decide)), z5.2⟩
    exact ⟨s, S, s1, S1, s2, S2, lt⟩
def frC (μ0 μ : sv_Mem) : Prop := ∀ b, b ≠ 19 → b ≠ 20 → b ≠ 21 → μ b = μ0 b
theorem frC.scr {μ0 μ : sv_Mem} (h : frC μ0 μ) : Scr μ0 μ := ⟨fun b hb => by unfold scrP at hb; exact h b (by omega) (by omega) (by omega), fun j _ _ => by rw [h 13 (by omega) (by omega) (by omega)], fun j _ _ _ => by rw [h 40 (by omega) (by omega) (by omega)]⟩
theorem tally_l {μ0 : sv_Mem} (I0 : Inv μ0) {n r : Nat} {A : Nat → Nat} (hn : n ≤ 24) (he : μ0 40 0 = nI n) (h9 : μ0 9 4 = nI n) (hr : r < 4) {K : sv_Mem → Prop} (h : ∀ μ', frC μ0 μ' → (∀ p, p < n → μ' 19 p = nI (cN μ0 p r) ∧ μ' 20 p = nI (yN μ0 p r) ∧ μ' 21 p = nI (A p + yN μ0 p r)) → K μ') : ∀ (m i : Nat) (μ : sv_Mem), i + m = n → frC μ0 μ → (∀ p, p < i → μ 19 p = nI (cN μ0 p r) ∧ μ 20 p = nI (yN μ0 p r) ∧ μ 21 p = nI (A p + yN μ0 p r)) → (∀ p, i ≤ p → p < n → μ 21 p = nI (A p)) → wp m_X1_tally 2 [(0, .ref 18), (1, .int (nI r)), (2, .int (nI i))] [] μ (sv_QV K)
  | 0, i, μ, hi, hf, h1, h2 => by
    refine g_X1_tally_2 _ _ μ K (br_t ?_ (h μ hf (fun p hp => h1 p (by omega))))
    rw [hf 9 (by omega) (by omega) (by omega), h9]
    exact nI_le (by omega) (by omega)
  | m + 1, i, μ, hi, hf, h1, h2 => by
    have v : vp_in (nI i) 24 := vp_in_nI (by omega) (by omega)
    have he' : ∀ {μ : sv_Mem}, frC μ0 μ → μ 40 0 = nI n := fun f => by rw [f 40 (by omega) (by omega) (by omega)]; exact he
    refine g_X1_tally_2 _ _ μ K (br_f (by rw [hf 9 (by omega) (by omega) (by omega), h9]; exact nI_ge (by omega) (by omega)) ?_)
    refine countingVotes_s (Inv_scr I0 hf.scr) hn (he' hf) (by omega) hr ⟨v, ?_⟩
    rw [nI_cl (show i < 2 ^ 31 by omega), cN_scr hf.scr]
    have hf1 : frC μ0 (sv_up μ 19 i (nI (cN μ0 i r))) := fun b x1 x2 x3 => by rw [up_pl x1]; exact hf b x1 x2 x3
    refine yesVotes_s (Inv_scr I0 hf1.scr) hn (he' hf1) (by omega) hr ⟨v, v, v, v, ?_⟩
    rw [yN_scr hf1.scr, up_s, up_pl (show 21 ≠ 19 by omega), h2 i (Nat.le_refl i) (by omega), nI_add, nI_1]
    refine tally_l I0 hn he h9 hr h m (i + 1) _ (by omega) (fun b x1 x2 x3 => by rw [up_pl x3, up_pl x2]; exact hf1 b x1 x2 x3) (fun p hp => ?_) (fun p hp hp2 => ?_)
    · rw [up_pl (show 19 ≠ 21 by omega), up_pl (show 19 ≠ 20 by omega), up_pl (show 20 ≠ 21 by omega)]
      by_cases e : p = i
      · subst e
        rw [up_s, up_s, up_s]
        exact ⟨rfl, rfl, rfl⟩
      · rw [up_n e, up_n e, up_n e, up_pl (show 20 ≠ 19 by omega), up_pl (show 21 ≠ 20 by omega), up_pl (show 21 ≠ 19 by omega)]
        exact h1 p (by omega)
    · rw [up_n (by omega), up_pl (show 21 ≠ 20 by omega), up_pl (show 21 ≠ 19 by omega)]
      exact h2 p (by omega) hp2
theorem cYs_le (μ : sv_Mem) (p : Nat) : ∀ r, cYs μ r p ≤ 9 * r
  | 0 => Nat.le_refl 0
  | r + 1 => by
    have h := cYs_le μ p r
    have h2 := cN_le μ p r
    show su (fun k => yN μ p k) r + yN μ p r ≤ 9 * (r + 1)
    unfold cYs at h
    omega
theorem pos_c {μ : sv_Mem} (I : Inv μ) {n : Nat} (hn : n ≤ 24) (he : μ 40 0 = nI n) {p : Nat} (hp : p < n) : cPo μ p < n ∧ μ 12 p = nI (cPo μ p) ∧ μ 42 (cPo μ p) = nI p ∧ ∀ j, j < n → μ 42 j = nI p → j = cPo μ p := by
  obtain ⟨n', k0, k1, k2, k3, k4, k5, k6⟩ := id I.1
  have e : n' = n := (nI_eq (by omega) (by omega)).mp (k2.symm.trans he)
  subst e
  obtain ⟨i, i1, i2, i3⟩ := k6 p hp
  have ei : cPo μ p = i := by unfold cPo; rw [i2]; exact nI_cl (by omega)
  rw [ei]
  refine ⟨i1, i2, i3, fun j hj e => ?_⟩
  obtain ⟨q, q1, q2, q3⟩ := k5 j hj
  have : q = p := (nI_eq (by omega) (by omega)).mp (q2.symm.trans e)
  subst this
  exact (nI_eq (by omega) (by omega)).mp (q3.symm.trans i2)
theorem adv_l {μ0 : sv_Mem} (I0 : Inv μ0) {n R : Nat} (hn : n ≤ 24) (he : μ0 40 0 = nI n) (h9 : μ0 9 4 = nI n) (hR : R < 4) (hrd : ∀ r, r ≤ R → ∃ s S, s ≤ 100 ∧ S ≤ 24 ∧ μ0 15 r = nI s ∧ μ0 16 r = nI S ∧ ltrC (μ0 17 r)) {K : Int32 → sv_Mem → Prop} (h : ∀ μ', frC μ0 μ' → K (nI (bN (cOut μ0 n (R + 1)) n)) μ') : ∀ (m r : Nat) (μ : sv_Mem), r + m = R + 1 → frC μ0 μ → (∀ p, p < n → μ 21 p = nI (cYs μ0 r p)) → wp m_X1_advancedOutOf 36 [(0, .ref 18), (1, .int (nI R)), (2, .int (nI (bN (cOut μ0 n r) n))), (3, .int (nI r))] [] μ (sv_QI K)
  | 0, r, μ, hi, hf, h1 => by
    have e : r = R + 1 := by omega
    subst e
    exact g_X1_advancedOutOf_36 _ _ _ μ K (br_t (nI_lt (by omega) (by omega)) (h μ hf))
  | m + 1, r, μ, hi, hf, h1 => by
    refine g_X1_advancedOutOf_36 _ _ _ μ K (br_f (nI_nlt (by omega) (by omega)) ?_)
    refine e_X1_tally _ μ _ (tally_l I0 (A := cYs μ0 r) hn he h9 (by omega) (fun μ1 f1 t1 => ?_) n 0 μ (by omega) hf (fun p hp => absurd hp (by omega)) (fun p _ hp => h1 p hp))
    obtain ⟨s, S, s1, s2, s3, s4, s5⟩ := hrd r (by omega)
    have T : Tl μ1 n (fun p => cN μ0 p r) (fun p => yN μ0 p r) (cYs μ0 (r + 1)) (cPo μ0) := by
      refine ⟨hn, by rw [f1 9 (by omega) (by omega) (by omega)]; exact h9, fun p hp => ?_⟩
      obtain ⟨p1, p2, -⟩ := pos_c I0 hn he hp
      have b := cN_le μ0 p r
      have b2 := cYs_le μ0 p (r + 1)
      exact ⟨(t1 p hp).1, (t1 p hp).2.1, (t1 p hp).2.2, by rw [f1 12 (by omega) (by omega) (by omega)]; exact p2, Nat.le_trans b.1 b.2, b.2, by omega, by omega⟩
    refine whoPass_s T (by omega) s1 (by rw [f1 15 (by omega) (by omega) (by omega)]; exact s3) ?_
    refine whoAdvance_s T (by omega) s2 (by rw [f1 16 (by omega) (by omega) (by omega)]; exact s4) (fun q hq z => ?_) (by rw [f1 17 (by omega) (by omega) (by omega)]; exact s5) ?_
    · simp only [Bool.and_eq_true, decide_eq_true_eq] at z
      exact z.2.1
    · rw [f1 17 (by omega) (by omega) (by omega), nI_1]
      have e : cOut μ0 n (r + 1) = t_do n (fun p => cOut μ0 n r p && (decide (0 < cN μ0 p r) && decide (s * cN μ0 p r ≤ 100 * yN μ0 p r))) (fun q => wS (yN μ0 q r) (cN μ0 q r)) S (μ0 17 r) (bfB (decide (μ0 17 r = 115)) (cYs μ0 (r + 1)) (cPo μ0)) := by
        show cSt μ0 n r (cOut μ0 n r) = _
        unfold cSt
        rw [s4, nI_cl (by omega)]
        have e1 : cPs μ0 r (cOut μ0 n r) = fun p => cOut μ0 n r p && (decide (0 < cN μ0 p r) && decide (s * cN μ0 p r ≤ 100 * yN μ0 p r)) := by
          funext p
          unfold cPs
          rw [s3, nI_cl (by omega)]
        rw [e1]
        rfl
      rw [← e]
      exact adv_l I0 hn he h9 hR hrd h m (r + 1) μ1 (by omega) f1 (fun p hp => (t1 p hp).2.2)
theorem adv_0 {n R : Nat} (hn : n ≤ 24) {K : Int32 → sv_Mem → Prop} : ∀ (m i : Nat) (μ : sv_Mem), i + m = n → μ 9 4 = nI n → (∀ p, p < i → μ 21 p = 0) → (∀ μ', (∀ b, b ≠ 21 → μ' b = μ b) → (∀ p, p < n → μ' 21 p = 0) → wp m_X1_advancedOutOf 36 [(0, .ref 18), (1, .int (nI R)), (2, .int (nI (bN (fun _ => true) n))), (3, .int 0)] [] μ' (sv_QI K)) → wp m_X1_advancedOutOf 2 [(0, .ref 18), (1, .int (nI R)), (2, .int (nI i))] [] μ (sv_QI K)
  | 0, i, μ, hi, h9, h0, h => by
    refine g_X1_advancedOutOf_2 _ _ μ K (br_t (by rw [h9]; exact nI_le (by omega) (by omega)) (e_X6_everyone μ _ ?_))
    rw [h9, every_v hn]
    exact h μ (fun _ _ => rfl) (fun p hp => h0 p (by omega))
  | m + 1, i, μ, hi, h9, h0, h => by
    refine g_X1_advancedOutOf_2 _ _ μ K (br_f (by rw [h9]; exact nI_ge (by omega) (by omega)) ⟨vp_in_nI (by omega) (by omega), ?_⟩)
    rw [nI_1, nI_cl (by omega)]
    refine adv_0 hn m (i + 1) _ (by omega) (by rw [up_pl (by omega)]; exact h9) (fun p hp => ?_) (fun μ' a b => h μ' (fun b hb => by rw [a b hb, up_pl hb]) b)
    by_cases e : p = i
    · subst e; rw [up_s]
    · rw [up_n e]; exact h0 p (by omega)
theorem advancedOutOf_s {μ0 : sv_Mem} (I0 : Inv μ0) {n R : Nat} (hn : n ≤ 24) (he : μ0 40 0 = nI n) (h9 : μ0 9 4 = nI n) (hR : R < 4) (hrd : ∀ r, r ≤ R → ∃ s S, s ≤ 100 ∧ S ≤ 24 ∧ μ0 15 r = nI s ∧ μ0 16 r = nI S ∧ ltrC (μ0 17 r)) {K : Int32 → sv_Mem → Prop} (h : ∀ μ', frC μ0 μ' → K (nI (bN (cOut μ0 n (R + 1)) n)) μ') : sv_cI m_X1_advancedOutOf [.ref 18, .int (nI R)] μ0 K :=
  e_X1_advancedOutOf _ μ0 K (adv_0 hn n 0 μ0 (by omega) h9 (fun p hp => absurd hp (by omega)) (fun μ' a b => adv_l I0 hn he h9 hR hrd h (R + 1) 0 μ' (by omega) (fun x _ _ x3 => a x x3) (fun p hp => b p hp)))

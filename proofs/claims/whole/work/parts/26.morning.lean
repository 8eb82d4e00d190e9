/-! ===== morning ===== -/
def mIx (μ : sv_Mem) (r n : Nat) (sh : Int32) (i : Nat) : Nat := (if n / 2 ≤ i then 2 else 0) + (if (100 : Int32) * nI (yN μ (lnP μ i) r) < sh * nI (cN μ (lnP μ i) r) then 1 else 0)
def mF2 (μ : sv_Mem) (r n : Nat) (sh : Int32) : Nat → (Nat → Nat) → (Nat → Nat) := fun i t => if cN μ (lnP μ i) r = 0 then t else fun j => if j = mIx μ r n sh i then t j + 1 else t j
def mT (μ : sv_Mem) (r n : Nat) (sh : Int32) : Nat → Nat := lp (mF2 μ r n sh) n 0 (fun _ => 0)
theorem mT_le (μ : sv_Mem) (r n : Nat) (sh : Int32) : mT μ r n sh 0 + mT μ r n sh 1 ≤ n / 2 ∧ mT μ r n sh 2 + mT μ r n sh 3 ≤ n - n / 2 := by
  have h := lp_rel (f := mF2 μ r n sh) (g := fun _ (_ : Unit) => ()) (fun i t _ => t 0 + t 1 ≤ min i (n / 2) ∧ t 2 + t 3 ≤ i - min i (n / 2)) n 0 (fun _ => 0) () (by omega) (fun i t b _ _ h => by
    unfold mF2 mIx
    by_cases c0 : cN μ (lnP μ i) r = 0
    · rw [if_pos c0]; omega
    · rw [if_neg c0]
      by_cases hs : n / 2 ≤ i <;> by_cases hp : (100 : Int32) * nI (yN μ (lnP μ i) r) < sh * nI (cN μ (lnP μ i) r) <;> simp only [hs, hp, if_true, if_false] <;> simp <;> omega)
  rw [Nat.zero_add] at h
  unfold mT
  omega
theorem mT_scr {μ μ' : sv_Mem} (S : Scr μ μ') (r n : Nat) (sh : Int32) : mT μ' r n sh = mT μ r n sh := lp_congr (fun i t _ _ => by unfold mF2 mIx; simp only [lnP_scr S, cN_scr S, yN_scr S])
theorem cl3 : Int32.toNatClampNeg ((2 : Int32) + (1 : Int32)) = 3 := by decide
theorem cl2 : Int32.toNatClampNeg ((2 : Int32) + (0 : Int32)) = 2 := by decide
theorem cl1 : Int32.toNatClampNeg ((0 : Int32) + (1 : Int32)) = 1 := by decide
theorem cl0 : Int32.toNatClampNeg ((0 : Int32) + (0 : Int32)) = 0 := by decide
theorem v3 : vp_in ((2 : Int32) + (1 : Int32)) 4 := vp_in_nI (n := 3) (by omega) (by omega)
theorem v2 : vp_in ((2 : Int32) + (0 : Int32)) 4 := vp_in_nI (n := 2) (by omega) (by omega)
theorem v1 : vp_in ((0 : Int32) + (1 : Int32)) 4 := vp_in_nI (n := 1) (by omega) (by omega)
theorem v0 : vp_in ((0 : Int32) + (0 : Int32)) 4 := vp_in_nI (n := 0) (by omega) (by omega)
theorem w2 : vp_in (2 : Int32) 4 := vp_in_nI (n := 2) (by omega) (by omega)
theorem w0 : vp_in (0 : Int32) 4 := vp_in_nI (n := 0) (by omega) (by omega)
theorem w1 : vp_in (1 : Int32) 4 := vp_in_nI (n := 1) (by omega) (by omega)
theorem w3 : vp_in (3 : Int32) 4 := vp_in_nI (n := 3) (by omega) (by omega)
theorem half_e {n : Nat} (hn : n ≤ 24) : nI n / (2 : Int32) = nI (n / 2) := pk_div (d := 2) (by omega) (by omega) (by omega)
theorem tab_up {f : Nat → Int32} {t : Nat → Nat} (h : ∀ j, j < 4 → f j = nI (t j)) {x : Nat} (hx : x < 4) : ∀ j, j < 4 → upd f x (f x + 1) j = nI (if j = x then t j + 1 else t j) := fun j hj => by
  by_cases e : j = x
  · subst e; rw [upd_s, if_pos rfl, h j hj, nI_1]
  · rw [upd_n e, if_neg e]; exact h j hj
theorem scr24 {μ0 μ : sv_Mem} (h : ∀ b, b ≠ 24 → μ b = μ0 b) : Scr μ0 μ := ⟨fun b hb => by unfold scrP at hb; exact h b (by omega), fun j _ _ => by rw [h 13 (by omega)], fun j _ _ _ => by rw [h 40 (by omega)]⟩
theorem fill_l {μ0 : sv_Mem} (I0 : Inv μ0) {n r : Nat} {sh : Int32} (hn : n ≤ 24) (he : μ0 40 0 = nI n) (hr : r < 4) (hs : μ0 15 r = sh) {K : sv_Mem → Prop} (h : ∀ μ', (∀ b, b ≠ 24 → μ' b = μ0 b) → (∀ j, j < 4 → μ' 24 j = nI (mT μ0 r n sh j)) → K μ') : ∀ (m i : Nat) (μ : sv_Mem) (t : Nat → Nat), i + m = n → (∀ b, b ≠ 24 → μ b = μ0 b) → (∀ j, j < 4 → μ 24 j = nI (t j)) → lp (mF2 μ0 r n sh) m i t = mT μ0 r n sh → wp m_X3_fill 26 [(0, .ref 23), (1, .int (nI r)), (2, .int (nI i))] [] μ (sv_QV K)
  | 0, i, μ, t, hi, hb, ht, hl => by
    have hl : t = mT μ0 r n sh := hl
    subst hl
    refine g_X3_fill_26 _ _ μ K (br_t ?_ (h μ hb ht))
    rw [hb 9 (by omega), pl9 I0 hn he]
    exact nI_le (by omega) (by omega)
  | m + 1, i, μ, t, hi, hb, ht, hl => by
    have S := scr24 hb
    have I := Inv_scr I0 S
    have he' : μ 40 0 = nI n := by rw [hb 40 (by omega)]; exact he
    have e9 : μ 9 4 = nI n := pl9 I hn he'
    obtain ⟨p1, p2, p3⟩ := ln_p I hn he' (i := i) (by omega)
    have vi : vp_in (nI i) 24 := vp_in_nI (by omega) (by omega)
    have b1 := cN_le μ0 (lnP μ0 i) r
    refine g_X3_fill_26 _ _ μ K (br_f (by rw [e9]; exact nI_ge (by omega) (by omega)) ⟨vi, ?_⟩)
    rw [nI_cl (show i < 2 ^ 31 by omega), p3, nI_1]
    refine countingVotes_s I hn he' p1 hr ⟨vi, ?_⟩
    rw [p3]
    refine yesVotes_s I hn he' p1 hr ⟨by decide, ?_⟩
    rw [e9, half_e hn, cN_scr S, yN_scr S, lnP_scr S, nI_cl (show r < 2 ^ 31 by omega), hb 15 (by omega), hs]
    have hl1 : lp (mF2 μ0 r n sh) m (i + 1) (mF2 μ0 r n sh i t) = mT μ0 r n sh := hl
    by_cases c0 : cN μ0 (lnP μ0 i) r = 0
    · rw [show mF2 μ0 r n sh i t = t from if_pos c0] at hl1
      have go := fill_l I0 hn he hr hs h m (i + 1) μ t (by omega) hb ht hl1
      have z : nI (cN μ0 (lnP μ0 i) r) ≤ 0 := by rw [c0]; decide
      exact br_c (fun _ => br_t z go) (fun _ => br_t z go)
    · have z : ¬ nI (cN μ0 (lnP μ0 i) r) ≤ 0 := nI_nle (by omega) (by omega)
      rw [show mF2 μ0 r n sh i t = (fun j => if j = mIx μ0 r n sh i then t j + 1 else t j) from if_neg c0] at hl1
      have step : ∀ x, x < 4 → mIx μ0 r n sh i = x → wp m_X3_fill 26 [(0, .ref 23), (1, .int (nI r)), (2, .int (nI (i + 1)))] [] (sv_up μ 24 x (μ 24 x + 1)) (sv_QV K) := fun x hx ex => by
        rw [ex] at hl1
        exact fill_l I0 hn he hr hs h m (i + 1) _ _ (by omega) (fun b hb2 => by rw [up_pl hb2]; exact hb b hb2) (fun j hj => by rw [up_f]; exact tab_up ht hx j hj) hl1
      have vr : vp_in (nI r) 4 := vp_in_nI hr (by omega)
      refine br_c (fun a => br_f z ⟨vr, br_c (fun q => ⟨v3, v3, ?_⟩) (fun q => ⟨w2, w2, ?_⟩)⟩) (fun a => br_f z ⟨vr, br_c (fun q => ⟨v1, v1, ?_⟩) (fun q => ⟨w0, w0, ?_⟩)⟩)
      · have a' := (nI_leI (by omega) (by omega)).mp a
        rw [cl3]
        exact step 3 (by omega) (by unfold mIx; rw [if_pos a', if_pos q])
      · have a' := (nI_leI (by omega) (by omega)).mp a
        exact step 2 (by omega) (by unfold mIx; rw [if_pos a', if_neg q])
      · have a' : ¬ n / 2 ≤ i := fun w => a (nI_le w (by omega))
        rw [cl1]
        exact step 1 (by omega) (by unfold mIx; rw [if_neg a', if_pos q])
      · have a' : ¬ n / 2 ≤ i := fun w => a (nI_le w (by omega))
        exact step 0 (by omega) (by unfold mIx; rw [if_neg a', if_neg q])
theorem fill_0 {x1 : Int32} {K : sv_Mem → Prop} : ∀ (m k : Nat) (μ : sv_Mem), k + m = 4 → (∀ j, j < k → μ 24 j = 0) → (∀ μ', (∀ b, b ≠ 24 → μ' b = μ b) → (∀ j, j < 4 → μ' 24 j = 0) → wp m_X3_fill 26 [(0, .ref 23), (1, .int x1), (2, .int 0)] [] μ' (sv_QV K)) → wp m_X3_fill 2 [(0, .ref 23), (1, .int x1), (2, .int (nI k))] [] μ (sv_QV K)
  | 0, k, μ, hk, h0, h => g_X3_fill_2 _ _ μ K (br_t (nI_le (by omega) (by omega)) (h μ (fun _ _ => rfl) (fun j hj => h0 j (by omega))))
  | m + 1, k, μ, hk, h0, h => by
    refine g_X3_fill_2 _ _ μ K (br_f (nI_ge (by omega) (by omega)) ⟨vp_in_nI (by omega) (by omega), ?_⟩)
    rw [nI_1, nI_cl (by omega)]
    refine fill_0 m (k + 1) _ (by omega) (fun j hj => ?_) (fun μ' a b => h μ' (fun b hb => by rw [a b hb, up_pl hb]) b)
    rw [up_f]
    by_cases e : j = k
    · subst e; exact upd_s
    · rw [upd_n e]; exact h0 j (by omega)
theorem passesIn_s {μ : sv_Mem} {K : Int32 → sv_Mem → Prop} (I : Inv μ) {p r : Nat} (hp : p < 24) (hr : r < 4) (h1 : ¬ cN μ p r = 0 → ¬ (100 : Int32) * nI (yN μ p r) < μ 44 r * nI (cN μ p r) → K 1 μ) (h0 : (cN μ p r = 0 ∨ (100 : Int32) * nI (yN μ p r) < μ 44 r * nI (cN μ p r)) → K 0 μ) : sv_cI m_X10_passesIn [.ref 40, .int (nI p), .int (nI r)] μ K := by
  have b1 := cN_le μ p r
  refine e_X10_passesIn _ _ μ K (counted_s I hp hr (br_c (fun z => ⟨zb0, h0 (Or.inl ?_)⟩) (fun z => yes_s I hp hr ⟨vp_in_nI hr (by omega), ?_⟩)))
  · rcases Nat.eq_zero_or_pos (cN μ p r) with q | q
    · exact q
    · exact absurd z (nI_nle q (by omega))
  · have nz : ¬ cN μ p r = 0 := fun q => z (by rw [q]; decide)
    rw [nI_cl (by omega)]
    exact br_c (fun q => ⟨zb0, h0 (Or.inr q)⟩) (fun q => ⟨zb1, h1 nz q⟩)
theorem scr48 {μ0 μ : sv_Mem} (h : ∀ b, b ≠ 48 → μ b = μ0 b) : Scr μ0 μ := ⟨fun b hb => by unfold scrP at hb; exact h b (by omega), fun j _ _ => by rw [h 13 (by omega)], fun j _ _ _ => by rw [h 40 (by omega)]⟩
theorem morM_l {μ0 : sv_Mem} (I0 : Inv μ0) {n r : Nat} {sh x2 x3 : Int32} (hn : n ≤ 24) (he : μ0 40 0 = nI n) (hr : r < 4) (hs : μ0 44 r = sh) {K : Int32 → sv_Mem → Prop} (h : ∀ μ', (∀ b, b ≠ 48 → μ' b = μ0 b) → (∀ j, j < 4 → μ' 48 j = nI (mT μ0 r n sh j)) → (x2 = 4 → vp_in (0 : Int32) 4 ∧ (vp_in (1 : Int32) 4 ∧ (vp_in (2 : Int32) 4 ∧ (vp_in (3 : Int32) 4 ∧ sv_cI m_X10_falseShare [.int (μ' 48 0), .int (μ' 48 1), .int (μ' 48 2), .int (μ' 48 3)] μ' (fun r2 μ1 => K r2 μ1))))) ∧ (¬ x2 = 4 → vp_in x2 4 ∧ K (μ' 48 (Int32.toNatClampNeg x2)) μ')) : ∀ (m i : Nat) (μ : sv_Mem) (t : Nat → Nat), i + m = n → (∀ b, b ≠ 48 → μ b = μ0 b) → (∀ j, j < 4 → μ 48 j = nI (t j)) → lp (mF2 μ0 r n sh) m i t = mT μ0 r n sh → wp m_X10_morning 50 [(0, .ref 40), (1, .int (nI r)), (2, .int x2), (3, .int x3), (4, .int (nI i))] [] μ (sv_QI K)
  | 0, i, μ, t, hi, hb, ht, hl => by
    have hl : t = mT μ0 r n sh := hl
    subst hl
    refine g_X10_morning_50 _ _ _ _ μ K (br_t ?_ (h μ hb ht))
    rw [hb 40 (by omega), he]
    exact nI_le (by omega) (by omega)
  | m + 1, i, μ, t, hi, hb, ht, hl => by
    have S := scr48 hb
    have I := Inv_scr I0 S
    have he' : μ 40 0 = nI n := by rw [hb 40 (by omega)]; exact he
    obtain ⟨p1, p2, p3⟩ := ln_p I hn he' (i := i) (by omega)
    have b1 := cN_le μ0 (lnP μ0 i) r
    have s44 : μ 44 r = sh := by rw [hb 44 (by omega)]; exact hs
    refine g_X10_morning_50 _ _ _ _ μ K (br_f (by rw [he']; exact nI_ge (by omega) (by omega)) ⟨vp_in_nI (by omega) (by omega), ?_⟩)
    rw [nI_cl (show i < 2 ^ 31 by omega), p2, nI_1]
    refine counted_s I (by omega) hr ?_
    rw [he', half_e hn, cN_scr S]
    have hl1 : lp (mF2 μ0 r n sh) m (i + 1) (mF2 μ0 r n sh i t) = mT μ0 r n sh := hl
    by_cases c0 : cN μ0 (lnP μ0 i) r = 0
    · rw [show mF2 μ0 r n sh i t = t from if_pos c0] at hl1
      have z : nI (cN μ0 (lnP μ i) r) ≤ 0 := by rw [lnP_scr S, c0]; decide
      exact br_t z (morM_l I0 hn he hr hs h m (i + 1) μ t (by omega) hb ht hl1)
    · have z : ¬ nI (cN μ0 (lnP μ i) r) ≤ 0 := by rw [lnP_scr S]; exact nI_nle (by omega) (by omega)
      rw [show mF2 μ0 r n sh i t = (fun j => if j = mIx μ0 r n sh i then t j + 1 else t j) from if_neg c0] at hl1
      have step : ∀ x, x < 4 → mIx μ0 r n sh i = x → wp m_X10_morning 50 [(0, .ref 40), (1, .int (nI r)), (2, .int x2), (3, .int x3), (4, .int (nI (i + 1)))] [] (sv_up μ 48 x (μ 48 x + 1)) (sv_QI K) := fun x hx ex => by
        rw [ex] at hl1
        exact morM_l I0 hn he hr hs h m (i + 1) _ _ (by omega) (fun b hb2 => by rw [up_pl hb2]; exact hb b hb2) (fun j hj => by rw [up_f]; exact tab_up ht hx j hj) hl1
      have pass : ∀ {K' : Int32 → sv_Mem → Prop}, (¬ (100 : Int32) * nI (yN μ0 (lnP μ0 i) r) < sh * nI (cN μ0 (lnP μ0 i) r) → K' 1 μ) → ((100 : Int32) * nI (yN μ0 (lnP μ0 i) r) < sh * nI (cN μ0 (lnP μ0 i) r) → K' 0 μ) → sv_cI m_X10_passesIn [.ref 40, .int (nI (lnP μ i)), .int (nI r)] μ K' := fun k1 k0 => by
        refine passesIn_s I (by omega) hr (fun _ q => k1 ?_) (fun q => ?_)
        · rw [s44, cN_scr S, yN_scr S, lnP_scr S] at q; exact q
        · rw [s44, cN_scr S, yN_scr S, lnP_scr S] at q
          rcases q with q | q
          · exact absurd q c0
          · exact k0 q
      refine br_f z ⟨by decide, br_c (fun a => pass (fun q => br_f t01 ⟨v2, v2, ?_⟩) (fun q => br_t rfl ⟨v3, v3, ?_⟩)) (fun a => pass (fun q => br_f t01 ⟨v0, v0, ?_⟩) (fun q => br_t rfl ⟨v1, v1, ?_⟩))⟩
      · have a' := (nI_leI (by omega) (by omega)).mp a
        rw [cl2]
        exact step 2 (by omega) (by unfold mIx; rw [if_pos a', if_neg q])
      · have a' := (nI_leI (by omega) (by omega)).mp a
        rw [cl3]
        exact step 3 (by omega) (by unfold mIx; rw [if_pos a', if_pos q])
      · have a' : ¬ n / 2 ≤ i := fun w => a (nI_le w (by omega))
        rw [cl0]
        exact step 0 (by omega) (by unfold mIx; rw [if_neg a', if_neg q])
      · have a' : ¬ n / 2 ≤ i := fun w => a (nI_le w (by omega))
        rw [cl1]
        exact step 1 (by omega) (by unfold mIx; rw [if_neg a', if_pos q])
theorem mor_0 {x1 x2 x3 : Int32} {K : Int32 → sv_Mem → Prop} : ∀ (m k : Nat) (μ : sv_Mem), k + m = 4 → (∀ j, j < k → μ 48 j = 0) → (∀ μ', (∀ b, b ≠ 48 → μ' b = μ b) → (∀ j, j < 4 → μ' 48 j = 0) → wp m_X10_morning 50 [(0, .ref 40), (1, .int x1), (2, .int x2), (3, .int x3), (4, .int 0)] [] μ' (sv_QI K)) → wp m_X10_morning 27 [(0, .ref 40), (1, .int x1), (2, .int x2), (3, .int x3), (4, .int (nI k))] [] μ (sv_QI K)
  | 0, k, μ, hk, h0, h => g_X10_morning_27 _ _ _ _ μ K (br_t (nI_le (a := 4) (by omega) (by omega)) (h μ (fun _ _ => rfl) (fun j hj => h0 j (by omega))))
  | m + 1, k, μ, hk, h0, h => by
    refine g_X10_morning_27 _ _ _ _ μ K (br_f (nI_ge (b := 4) (by omega) (by omega)) ⟨vp_in_nI (by omega) (by omega), ?_⟩)
    rw [nI_1, nI_cl (by omega)]
    refine mor_0 m (k + 1) _ (by omega) (fun j hj => ?_) (fun μ' a b => h μ' (fun b hb => by rw [a b hb, up_pl hb]) b)
    rw [up_f]
    by_cases e : j = k
    · subst e; exact upd_s
    · rw [upd_n e]; exact h0 j (by omega)
theorem L_morning (a b : Int32) {μ : sv_Mem} (I : Inv μ) : Both m_X9_morning m_X10_morning [.int a, .int b] μ := by
  obtain ⟨n, hn, e1, e2, -⟩ := id I.1
  refine e_X9_morning a b μ _ (within_s (fun h => br_f t01 ?_) (fun h => br_t rfl ?_))
  · obtain ⟨f, c1, c2, c3, c4⟩ := refusal_c a I
    refine c1 _ ?_
    rcases c4 with ⟨rfl, r, R, hr, hR, rfl, e5⟩ | hf
    · obtain ⟨w, hw, ew⟩ := rg_nat (n := 4) rfl h
      subst ew
      have T := mT_le μ r n (μ 15 r)
      refine br_t rfl (e_X3_tell _ _ μ _ (e_X3_fill _ μ _ (fill_0 4 0 μ (by omega) (fun j hj => by omega) (fun μ1 f1 f2 => ?_))))
      have S1 := scr24 f1
      have I1 := Inv_scr I S1
      have he1 : μ1 40 0 = nI n := by rw [f1 40 (by omega)]; exact e2
      refine fill_l I1 hn he1 (by omega) (by rw [f1 15 (by omega)]) (fun μ2 g1 g2 => ?_) n 0 μ1 (fun _ => 0) (by omega) (fun _ _ => rfl) (fun j hj => f2 j hj) rfl
      rw [mT_scr S1] at g2
      have S2 : Scr μ μ2 := S1.tr (scr24 g1)
      have I2 := Inv_scr I S2
      have fin : ∀ x : Int32, (x = (if w = 4 then nI (dV (mT μ r n (μ 15 r) 0) (mT μ r n (μ 15 r) 1) (mT μ r n (μ 15 r) 2) (mT μ r n (μ 15 r) 3)) else nI (mT μ r n (μ 15 r) w))) → sv_cI m_X10_morning [.ref 40, .int (nI r), .int (nI w)] μ2 (fun r' μ3 => x = r' ∧ Inv μ3) := by
        intro x hx
        refine e_X10_morning _ _ μ2 _ (in_s (fun _ => br_f t01 (c2 μ2 _ S2 (fun μ3 k1 I3 rd => br_t rfl ?_) (fun z => absurd (rg_of (n := 4) (by omega) (by omega)) z))) (fun z => absurd h z))
        obtain ⟨d1, d2, d3⟩ := rd_R k1 (rd rfl) (R := R) (by omega) hR (by rw [S2.2.1 5 (by omega) (by omega)]; exact e5)
        have e44 : μ3 44 r = μ 15 r := by rw [(d3 r hr).1, S2.1 15 (by unfold scrP; omega)]
        refine mor_0 4 0 μ3 (by omega) (fun j hj => by omega) (fun μ4 l1 l2 => ?_)
        have S4 : Scr μ μ4 := (S2.tr k1.scr).tr (scr48 l1)
        have I4 := Inv_scr I S4
        refine morM_l I4 hn (by rw [S4.2.2 0 (by omega) (by omega) (by omega)]; exact e2) (by omega) (sh := μ 15 r) (by rw [l1 44 (by omega)]; exact e44) (fun μ5 o1 o2 => ?_) n 0 μ4 (fun _ => 0) (by omega) (fun _ _ => rfl) (fun j hj => l2 j hj) rfl
        rw [mT_scr S4] at o2
        have I5 := Inv_scr I4 (scr48 o1)
        refine br_c (fun z => ⟨w0, w1, w2, w3, ?_⟩) (fun z => ?_)
        · have z' : w = 4 := (nI_eq (b := 4) (by omega) (by omega)).mp z
          rw [o2 0 (by omega), o2 1 (by omega), o2 2 (by omega), o2 3 (by omega)]
          refine falseShareM_s (by omega) (by omega) (by omega) (by omega) ⟨?_, I5⟩
          rw [hx, if_pos z']
        · have z' : ¬ w = 4 := fun q => z (by rw [q]; rfl)
          rw [nI_cl (by omega), o2 w (by omega)]
          exact ⟨vp_in_nI (by omega) (by omega), by rw [hx, if_neg z'], I5⟩
      refine br_c (fun z => ⟨w0, w1, w2, w3, ?_⟩) (fun z => ?_)
      · have z' : 4 ≤ w := (nI_leI (by omega) (by omega)).mp z
        rw [g2 0 (by omega), g2 1 (by omega), g2 2 (by omega), g2 3 (by omega)]
        exact falseShare_s (by omega) (by omega) (by omega) (by omega) (fin _ (by rw [if_pos (by omega)]))
      · have z' : ¬ 4 ≤ w := fun q => z (nI_le q (by omega))
        rw [nI_cl (by omega), g2 w (by omega)]
        exact ⟨vp_in_nI (by omega) (by omega), fin _ (by rw [if_neg (by omega)])⟩
    · refine br_f hf (e_X10_morning a b μ _ (in_s (fun _ => br_f t01 (c2 μ _ Scr.rf (fun μ' g I' _ => br_f hf ⟨rfl, I'⟩) (fun _ => br_f hf ⟨rfl, I⟩))) (fun z => absurd h z)))
  · exact e_X10_morning a b _ _ (in_s (fun z => absurd z h) (fun _ => br_t rfl ⟨rfl, I⟩))

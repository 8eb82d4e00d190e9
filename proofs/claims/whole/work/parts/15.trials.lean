/-! ===== trials: trial, week, better, seat ===== -/
theorem tr_row {μ : sv_Mem} {i j : Nat} (hi : i < 6) : (match i with | 0 => μ 29 | 1 => μ 30 | 2 => μ 31 | 3 => μ 32 | 4 => μ 33 | _ => μ 34) j = μ (29 + i) j := by
  match i, hi with
  | 0, _ => rfl
  | 1, _ => rfl
  | 2, _ => rfl
  | 3, _ => rfl
  | 4, _ => rfl
  | 5, _ => rfl
  | i + 6, h => omega
/-- the trials' part, with rows by number -/
def kv_tr (μ : sv_Mem) : Prop := ∃ t, t ≤ 6 ∧ μ 25 3 = nI t ∧ μ 40 14 = nI t ∧ (∀ i, i < t → μ 26 i = μ 49 i) ∧ ∀ i, i < 6 → ∃ w, w ≤ 10 ∧ μ 27 i = nI w ∧ μ 50 i = nI w ∧ ∀ j, j < w → ∃ x, x ≤ 20 ∧ μ (29 + i) j = nI x ∧ μ 51 (10 * i + j) = nI x
theorem tr_get {μ : sv_Mem} (I : Inv μ) : kv_tr μ := by
  obtain ⟨t, h1, h2, h3, h4, h5⟩ := I.2.2.2.2.1
  refine ⟨t, h1, h2, h3, h4, fun i hi => ?_⟩
  obtain ⟨w, g1, g2, g3, g4⟩ := h5 i hi
  refine ⟨w, g1, g2, g3, fun j hj => ?_⟩
  obtain ⟨x, k1, k2, k3⟩ := g4 j hj
  exact ⟨x, k1, (tr_row (μ := μ) (j := j) hi).symm.trans k2, k3⟩
theorem Inv_tr {μ μ' : sv_Mem} (I : Inv μ) (h : ∀ b, (b < 25 ∨ 34 < b) → (b < 49 ∨ 51 < b) → b ≠ 40 → μ' b = μ b) (h40 : ∀ j, j ≠ 14 → μ' 40 j = μ 40 j) (ht : kv_tr μ') : Inv μ' := by
  obtain ⟨i1, i2, i3, i4, i5, i6, i7, i8⟩ := I
  refine ⟨?_, ?_, ?_, ?_, ?_, ?_, ?_, ?_⟩
  · rw [h 9 (by omega) (by omega) (by omega), h40 0 (by omega), h 10 (by omega) (by omega) (by omega), h 41 (by omega) (by omega) (by omega), h 11 (by omega) (by omega) (by omega), h 42 (by omega) (by omega) (by omega), h 12 (by omega) (by omega) (by omega)]; exact i1
  · rw [h 9 (by omega) (by omega) (by omega), h40 3 (by omega)]; exact i2
  · rw [h 13 (by omega) (by omega) (by omega), h40 4 (by omega), h 14 (by omega) (by omega) (by omega), h 43 (by omega) (by omega) (by omega), h 15 (by omega) (by omega) (by omega), h 16 (by omega) (by omega) (by omega), h 17 (by omega) (by omega) (by omega)]; exact i3
  · rw [h 39 (by omega) (by omega) (by omega), h 47 (by omega) (by omega) (by omega)]; exact i4
  · obtain ⟨t, h1, h2, h3, h4, h5⟩ := ht
    refine ⟨t, h1, h2, h3, h4, fun i hi => ?_⟩
    obtain ⟨w, g1, g2, g3, g4⟩ := h5 i hi
    refine ⟨w, g1, g2, g3, fun j hj => ?_⟩
    obtain ⟨x, k1, k2, k3⟩ := g4 j hj
    exact ⟨x, k1, (tr_row (μ := μ') (j := j) hi).trans k2, k3⟩
  · rw [h 35 (by omega) (by omega) (by omega), h40 18 (by omega), h 36 (by omega) (by omega) (by omega), h 52 (by omega) (by omega) (by omega), h 37 (by omega) (by omega) (by omega), h 53 (by omega) (by omega) (by omega), h 38 (by omega) (by omega) (by omega), h 54 (by omega) (by omega) (by omega)]; exact i6
  · rw [h 7 (by omega) (by omega) (by omega), h 8 (by omega) (by omega) (by omega), h 55 (by omega) (by omega) (by omega), h 56 (by omega) (by omega) (by omega), h 57 (by omega) (by omega) (by omega), h 3 (by omega) (by omega) (by omega), h 4 (by omega) (by omega) (by omega), h 5 (by omega) (by omega) (by omega), h 6 (by omega) (by omega) (by omega), h 58 (by omega) (by omega) (by omega)]; exact i7
  · rw [h 1 (by omega) (by omega) (by omega), h40 27 (by omega)]; exact i8
theorem has_l {μ : sv_Mem} {K : Int32 → sv_Mem → Prop} {v : Int32} {t : Nat} (ht : t ≤ 6) (he : μ 25 3 = nI t) : ∀ (m i : Nat), i + m = t → ((∃ j, i ≤ j ∧ j < t ∧ μ 26 j = v) → K 1 μ) → ((¬ ∃ j, i ≤ j ∧ j < t ∧ μ 26 j = v) → K 0 μ) → wp m_X8_has 2 [(0, .ref 25), (1, .int v), (2, .int (nI i))] [] μ (sv_QI K)
  | 0, i, hi, h1, h0 => g_X8_has_2 v (nI i) μ K (br_t (by rw [he]; exact nI_le (by omega) (by omega)) ⟨zb0, h0 (fun ⟨j, a, b, _⟩ => by omega)⟩)
  | m + 1, i, hi, h1, h0 => by
    refine g_X8_has_2 v (nI i) μ K (br_f (by rw [he]; exact nI_ge (by omega) (by omega)) ⟨vp_in_nI (by omega) (by omega), ?_⟩)
    rw [nI_cl (by omega), nI_1]
    refine br_c (fun e => ⟨zb1, h1 ⟨i, by omega, by omega, e⟩⟩) (fun e => has_l ht he m (i + 1) (by omega) (fun ⟨j, a, b, c⟩ => h1 ⟨j, by omega, b, c⟩) (fun z => h0 (fun ⟨j, a, b, c⟩ => ?_)))
    by_cases q : j = i
    · subst q; exact e c
    · exact z ⟨j, by omega, b, c⟩
theorem trialM_l {μ : sv_Mem} {K : Int32 → sv_Mem → Prop} {v : Int32} {t : Nat} (ht : t ≤ 6) (he : μ 40 14 = nI t) : ∀ (m i : Nat), i + m = t → ((∃ j, i ≤ j ∧ j < t ∧ μ 49 j = v) → K (-3) μ) → ((¬ ∃ j, i ≤ j ∧ j < t ∧ μ 49 j = v) → t = 6 → K (-4) μ) → ((¬ ∃ j, i ≤ j ∧ j < t ∧ μ 49 j = v) → t < 6 → K (nI t) (sv_up (sv_up μ 49 t v) 40 14 (nI (t + 1)))) → wp m_X10_trial 13 [(0, .ref 40), (1, .int v), (2, .int (nI i))] [] μ (sv_QI K)
  | 0, i, hi, h1, h6, h0 => by
    have no : ¬ ∃ j, i ≤ j ∧ j < t ∧ μ 49 j = v := fun ⟨j, a, b, _⟩ => by omega
    refine g_X10_trial_13 v (nI i) μ K (br_t (by rw [he]; exact nI_le (by omega) (by omega)) ?_)
    rw [he]
    by_cases q : t = 6
    · subst q; exact br_t rfl (h6 no rfl)
    · refine br_f (fun z => q ((nI_eq (by omega) (by omega)).mp z)) ⟨vp_in_nI (by omega) (by omega), ?_⟩
      rw [nI_1, nI_pred, nI_cl (by omega)]
      exact h0 no (by omega)
  | m + 1, i, hi, h1, h6, h0 => by
    refine g_X10_trial_13 v (nI i) μ K (br_f (by rw [he]; exact nI_ge (by omega) (by omega)) ⟨vp_in_nI (by omega) (by omega), ?_⟩)
    rw [nI_cl (by omega), nI_1]
    refine br_c (fun e => h1 ⟨i, by omega, by omega, e⟩) (fun e => ?_)
    have up : (¬ ∃ j, i + 1 ≤ j ∧ j < t ∧ μ 49 j = v) → ¬ ∃ j, i ≤ j ∧ j < t ∧ μ 49 j = v := fun z ⟨j, a, b, c⟩ => by
      by_cases q : j = i
      · subst q; exact e c
      · exact z ⟨j, by omega, b, c⟩
    exact trialM_l ht he m (i + 1) (by omega) (fun ⟨j, a, b, c⟩ => h1 ⟨j, by omega, b, c⟩) (fun z => h6 (up z)) (fun z => h0 (up z))
theorem L_trial (a : Int32) {μ : sv_Mem} (I : Inv μ) : Both m_X9_trial m_X10_trial [.int a] μ := by
  obtain ⟨n, hn, e1, e2, -⟩ := id I.1
  obtain ⟨t, ht, t1, t2, t3, t4⟩ := tr_get I
  refine e_X9_trial a μ _ (isPlayer_s (fun h => br_f t01 ?_) (fun h => br_t rfl ?_))
  · have h' : rg a 0 (μ 40 0 - 1) := by rw [e2]; rw [e1] at h; exact h
    have eqv : (∃ j, 0 ≤ j ∧ j < t ∧ μ 26 j = a) ↔ ∃ j, 0 ≤ j ∧ j < t ∧ μ 49 j = a := ⟨fun ⟨j, x, y, z⟩ => ⟨j, x, y, by rw [← t3 j y]; exact z⟩, fun ⟨j, x, y, z⟩ => ⟨j, x, y, by rw [t3 j y]; exact z⟩⟩
    refine e_X8_has a μ _ (has_l ht t1 t 0 (by omega) (fun hex => br_f t01 ?_) (fun hno => br_t rfl ?_))
    · exact e_X10_trial a _ _ (isPlayerM_s (fun _ => br_f t01 (trialM_l ht t2 t 0 (by omega) (fun _ => ⟨rfl, I⟩) (fun z => absurd (eqv.mp hex) z) (fun z => absurd (eqv.mp hex) z))) (fun z => absurd h' z))
    · by_cases hf : t = 6
      · subst hf
        refine br_t (by rw [t1]; decide) ?_
        exact e_X10_trial a _ _ (isPlayerM_s (fun _ => br_f t01 (trialM_l ht t2 6 0 (by omega) (fun z => absurd (eqv.mpr z) hno) (fun _ _ => ⟨rfl, I⟩) (fun _ z => by omega))) (fun z => absurd h' z))
      · refine br_f (by rw [t1]; exact nI_ge (b := 6) (by omega) (by omega)) ?_
        refine e_X8_open a μ _ ⟨by rw [t1]; exact vp_in_nI (by omega) (by omega), ?_⟩
        rw [t1, nI_cl (by omega), nI_1]
        refine e_X10_trial a _ _ (isPlayerM_s (fun _ => br_f t01 ?_) (fun z => absurd h' z))
        refine trialM_l (μ := sv_up (sv_up μ 26 t a) 25 3 (nI (t + 1))) ht t2 t 0 (by omega) (fun z => absurd (eqv.mpr z) hno) (fun _ z => by omega) (fun _ _ => ⟨rfl, ?_⟩)
        refine Inv_tr I (fun b x1 x2 x3 => by rw [up_pl (by omega), up_pl (by omega), up_pl (by omega), up_pl (by omega)]) (fun j hj => by rw [up_n hj, up_pl (by omega), up_pl (by omega), up_pl (by omega)]) ⟨t + 1, by omega, rfl, rfl, fun i hi => ?_, fun i hi => ?_⟩
        · show upd (μ 26) t a i = upd (μ 49) t a i
          by_cases e : i = t
          · subst e; rw [upd_s, upd_s]
          · rw [upd_n e, upd_n e]; exact t3 i (by omega)
        · obtain ⟨w, g1, g2, g3, g4⟩ := t4 i hi
          refine ⟨w, g1, g2, g3, fun j hj => ?_⟩
          rw [up_pl (b := 29 + i) (by omega), up_pl (b := 29 + i) (by omega), up_pl (b := 29 + i) (by omega), up_pl (b := 29 + i) (by omega)]
          exact g4 j hj
  · exact e_X10_trial a _ _ (isPlayerM_s (fun z => absurd (by rw [e1]; rw [e2] at z; exact z) h) (fun _ => br_t rfl ⟨rfl, I⟩))
theorem row10 {s : Nat} (hs : s < 6) {f : Nat → Prop} (h : f 10) : sv_ln (29 + s) f := by
  match s, hs with
  | 0, _ => exact h
  | 1, _ => exact h
  | 2, _ => exact h
  | 3, _ => exact h
  | 4, _ => exact h
  | 5, _ => exact h
  | s + 6, hs => omega
theorem m10 (s i : Nat) : (10 : Int32) * nI s + nI i = nI (10 * s + i) := by
  rw [show (10 : Int32) = nI 10 from rfl, pk_mul, nI_add]
theorem L_week (a b : Int32) {μ : sv_Mem} (I : Inv μ) : Both m_X9_week m_X10_week [.int a, .int b] μ := by
  obtain ⟨t, ht, t1, t2, t3, t4⟩ := tr_get I
  refine e_X9_week a b μ _ (isPlace_s (fun h => br_f t01 ?_) (fun h => br_t rfl ?_))
  · have h' : rg a 0 (μ 40 14 - 1) := by rw [t2]; rw [t1] at h; exact h
    refine within_s (fun h2 => br_f t01 ?_) (fun h2 => br_t rfl ?_)
    · rw [t1] at h
      obtain ⟨s, hs, ea⟩ := rg_lt (by omega) h
      subst ea
      obtain ⟨c, hc, eb⟩ := rg_nat (n := 20) rfl h2
      have v6 : vp_in (nI s) 6 := vp_in_nI (by omega) (by omega)
      obtain ⟨w, g1, g2, g3, g4⟩ := t4 s (by omega)
      refine ⟨v6, ?_⟩
      rw [nI_cl (by omega), g2]
      by_cases hw : w = 10
      · subst hw
        refine br_t (by decide) ?_
        refine e_X10_week _ b _ _ (in_s (fun _ => br_f t01 (in_s (fun _ => br_f t01 ⟨v6, ?_⟩) (fun z => absurd h2 z))) (fun z => absurd h' z))
        rw [nI_cl (by omega), g3]
        exact br_t (by decide) ⟨rfl, I⟩
      · refine br_f (nI_ge (b := 10) (by omega) (by omega)) ?_
        refine e_X8_addMark _ b μ _ ⟨v6, v6, ?_⟩
        rw [nI_cl (by omega), g2, nI_cl (by omega)]
        refine row10 (by omega) ⟨vp_in_nI (by omega) (by omega), v6, v6, v6, ?_⟩
        rw [up_pl (a := 29 + s) (b := 27) (by omega), g2, up_s, nI_1]
        refine e_X10_week _ b _ _ (in_s (fun _ => br_f t01 (in_s (fun _ => br_f t01 ⟨v6, ?_⟩) (fun z => absurd h2 z))) (fun z => absurd ?_ z))
        · have f50 : sv_up (sv_up μ (29 + s) w b) 27 s (nI (w + 1)) 50 s = nI w := by rw [up_pl (by omega), up_pl (by omega)]; exact g3
          rw [nI_cl (by omega), f50, m10, nI_cl (by omega), nI_1, up_s]
          refine br_f (fun z => hw ((nI_eq (by omega) (by omega)).mp z)) ⟨v6, vp_in_nI (by omega) (by omega), v6, v6, v6, rfl, ?_⟩
          refine Inv_tr I (fun b x1 x2 x3 => by rw [up_pl (by omega), up_pl (by omega), up_pl (by omega), up_pl (by omega)]) (fun j hj => by rw [up_pl (by omega), up_pl (by omega), up_pl (by omega), up_pl (by omega)]) ⟨t, ht, ?_, ?_, fun i hi => ?_, fun i hi => ?_⟩
          · rw [up_pl (by omega), up_pl (by omega), up_pl (by omega), up_pl (by omega)]; exact t1
          · rw [up_pl (by omega), up_pl (by omega), up_pl (by omega), up_pl (by omega)]; exact t2
          · rw [up_pl (b := 26) (by omega), up_pl (b := 26) (by omega), up_pl (b := 26) (by omega), up_pl (b := 26) (by omega), up_pl (b := 49) (by omega), up_pl (b := 49) (by omega), up_pl (b := 49) (by omega), up_pl (b := 49) (by omega)]; exact t3 i hi
          · have q27 : sv_up (sv_up (sv_up (sv_up μ (29 + s) w b) 27 s (nI (w + 1))) 51 (10 * s + w) b) 50 s (nI (w + 1)) 27 = upd (μ 27) s (nI (w + 1)) := by rw [up_pl (by omega), up_pl (by omega), up_f, up_pl (by omega)]
            have q50 : sv_up (sv_up (sv_up (sv_up μ (29 + s) w b) 27 s (nI (w + 1))) 51 (10 * s + w) b) 50 s (nI (w + 1)) 50 = upd (μ 50) s (nI (w + 1)) := by rw [up_f, up_pl (by omega), up_pl (by omega), up_pl (by omega)]
            have q51 : sv_up (sv_up (sv_up (sv_up μ (29 + s) w b) 27 s (nI (w + 1))) 51 (10 * s + w) b) 50 s (nI (w + 1)) 51 = upd (μ 51) (10 * s + w) b := by rw [up_pl (by omega), up_f, up_pl (by omega), up_pl (by omega)]
            have qr : sv_up (sv_up (sv_up (sv_up μ (29 + s) w b) 27 s (nI (w + 1))) 51 (10 * s + w) b) 50 s (nI (w + 1)) (29 + i) = sv_up μ (29 + s) w b (29 + i) := by rw [up_pl (by omega), up_pl (by omega), up_pl (by omega)]
            rw [q27, q50, q51, qr]
            by_cases e : i = s
            · subst e
              refine ⟨w + 1, by omega, upd_s, upd_s, fun j hj => ?_⟩
              rw [up_f]
              by_cases e2 : j = w
              · subst e2; rw [upd_s, upd_s]; exact ⟨c, hc, eb, eb⟩
              · rw [upd_n e2, upd_n (by omega)]; exact g4 j (by omega)
            · obtain ⟨w', k1, k2, k3, k4⟩ := t4 i hi
              refine ⟨w', k1, by rw [upd_n e]; exact k2, by rw [upd_n e]; exact k3, fun j hj => ?_⟩
              rw [up_pl (by omega), upd_n (by omega)]
              exact k4 j hj
        · rw [up_pl (by omega), up_pl (by omega)]; exact h'
    · exact e_X10_week a b _ _ (in_s (fun _ => br_f t01 (in_s (fun z => absurd z h2) (fun _ => br_t rfl ⟨rfl, I⟩))) (fun z => absurd h' z))
  · exact e_X10_week a b _ _ (in_s (fun z => absurd (by rw [t1]; rw [t2] at z; exact z) h) (fun _ => br_t rfl ⟨rfl, I⟩))
/-! better, seat -/
def cmpI (a b : Int32) : Int32 := if b ≤ a then (if a = b then 0 else 1) else -1
theorem compare_s {a b : Int32} {μ : sv_Mem} {K : Int32 → sv_Mem → Prop} (h : K (cmpI a b) μ) : sv_cI m_J6_compare_7cf53 [.int a, .int b] μ K := by
  refine e_J6_compare_7cf53 a b μ K (br_c (fun z => br_c (fun y => ?_) (fun y => ?_)) (fun z => ?_))
  · unfold cmpI at h; rw [if_pos z, if_pos y] at h; exact h
  · unfold cmpI at h; rw [if_pos z, if_neg y] at h; exact h
  · unfold cmpI at h; rw [if_neg z] at h; exact h
def tF (A B : Nat → Int32) : Nat → Int32 × Int32 → Int32 × Int32 := fun j z => (z.1 + cmpI (A j) (B j), z.2 + (A j - B j))
/-- how far place a is ahead of place b -/
def ld (μ : sv_Mem) (a b : Nat) : Int32 :=
  if (lp (tF (fun j => μ 51 (10 * a + j)) (fun j => μ 51 (10 * b + j))) (min (μ 50 a).toNatClampNeg (μ 50 b).toNatClampNeg) 0 (0, 0)).1 = 0 then (lp (tF (fun j => μ 51 (10 * a + j)) (fun j => μ 51 (10 * b + j))) (min (μ 50 a).toNatClampNeg (μ 50 b).toNatClampNeg) 0 (0, 0)).2 else (lp (tF (fun j => μ 51 (10 * a + j)) (fun j => μ 51 (10 * b + j))) (min (μ 50 a).toNatClampNeg (μ 50 b).toNatClampNeg) 0 (0, 0)).1
def sg3 (x : Int32) : Int32 := if x ≤ 0 then (if 0 ≤ x then -1 else 0) else 1
theorem lead_l {μ : sv_Mem} {K : Int32 → sv_Mem → Prop} {a b w v : Nat} (ha : a < 6) (hb : b < 6) (hw : w ≤ 10) (hv : v ≤ 10) (ew : μ 27 a = nI w) (ev : μ 27 b = nI v) : ∀ (m i : Nat) (x y : Int32), i + m = min w v → K (if (lp (tF (μ (29 + a)) (μ (29 + b))) m i (x, y)).1 = 0 then (lp (tF (μ (29 + a)) (μ (29 + b))) m i (x, y)).2 else (lp (tF (μ (29 + a)) (μ (29 + b))) m i (x, y)).1) μ → wp m_X8_lead 8 [(0, .ref 25), (1, .int (nI a)), (2, .int (nI b)), (3, .int x), (4, .int y), (5, .int (nI i))] [] μ (sv_QI K)
  | 0, i, x, y, hi, h => by
    have va : vp_in (nI a) 6 := vp_in_nI (by omega) (by omega)
    have vb : vp_in (nI b) 6 := vp_in_nI (by omega) (by omega)
    have fin : (x = 0 → K y μ) ∧ (¬ x = 0 → K x μ) := br_c (fun e => by have h1 : K (if x = 0 then y else x) μ := h; rw [if_pos e] at h1; exact h1) (fun e => by have h1 : K (if x = 0 then y else x) μ := h; rw [if_neg e] at h1; exact h1)
    refine g_X8_lead_8 (nI a) (nI b) x y (nI i) μ K ⟨va, ?_⟩
    rw [nI_cl (show a < 2 ^ 31 by omega), ew]
    refine br_c (fun _ => fin) (fun z => ⟨vb, ?_⟩)
    rw [nI_cl (show b < 2 ^ 31 by omega), ev]
    refine br_t (nI_le ?_ (by omega)) fin
    have : ¬ w ≤ i := fun q => z (nI_le q (by omega))
    omega
  | m + 1, i, x, y, hi, h => by
    have va : vp_in (nI a) 6 := vp_in_nI (by omega) (by omega)
    have vb : vp_in (nI b) 6 := vp_in_nI (by omega) (by omega)
    have vi : vp_in (nI i) 10 := vp_in_nI (by omega) (by omega)
    refine g_X8_lead_8 (nI a) (nI b) x y (nI i) μ K ⟨va, ?_⟩
    rw [nI_cl (show a < 2 ^ 31 by omega), ew]
    refine br_f (nI_ge (by omega) (by omega)) ⟨vb, ?_⟩
    rw [nI_cl (show b < 2 ^ 31 by omega), ev, nI_cl (show i < 2 ^ 31 by omega), nI_1]
    refine br_f (nI_ge (by omega) (by omega)) ⟨va, row10 ha ⟨vi, vb, row10 hb ⟨vi, compare_s ⟨va, row10 ha ⟨vi, vb, row10 hb ⟨vi, ?_⟩⟩⟩⟩⟩⟩
    exact lead_l ha hb hw hv ew ev m (i + 1) _ _ (by omega) h
theorem lp_tF {A B A' B' : Nat → Int32} {m : Nat} {z : Int32 × Int32} (h : ∀ j, j < m → A j = A' j ∧ B j = B' j) : lp (tF A B) m 0 z = lp (tF A' B') m 0 z := lp_congr (fun j a _ hj => by unfold tF; rw [(h j (by omega)).1, (h j (by omega)).2])
theorem lead_s {μ : sv_Mem} {K : Int32 → sv_Mem → Prop} {a b : Nat} (I : Inv μ) (ha : a < 6) (hb : b < 6) (h : K (ld μ a b) μ) : sv_cI m_X8_lead [.ref 25, .int (nI a), .int (nI b)] μ K := by
  obtain ⟨t, ht, t1, t2, t3, t4⟩ := tr_get I
  obtain ⟨w, w1, w2, w3, w4⟩ := t4 a ha
  obtain ⟨v, v1, v2, v3, v4⟩ := t4 b hb
  refine e_X8_lead _ _ μ K (lead_l ha hb w1 v1 w2 v2 (min w v) 0 0 0 (by omega) ?_)
  have e : lp (tF (μ (29 + a)) (μ (29 + b))) (min w v) 0 (0, 0) = lp (tF (fun j => μ 51 (10 * a + j)) (fun j => μ 51 (10 * b + j))) (min w v) 0 (0, 0) := lp_tF (fun j hj => by
    obtain ⟨x, -, x2, x3⟩ := w4 j (by omega)
    obtain ⟨y, -, y2, y3⟩ := v4 j (by omega)
    exact ⟨x2.trans x3.symm, y2.trans y3.symm⟩)
  rw [e]
  unfold ld at h
  rw [w3, v3, nI_cl (by omega), nI_cl (by omega)] at h
  exact h
theorem betterOf_l {μ : sv_Mem} {K : Int32 → sv_Mem → Prop} {a b w v : Nat} (ha : a < 6) (hb : b < 6) (hw : w ≤ 10) (hv : v ≤ 10) (ew : μ 50 a = nI w) (ev : μ 50 b = nI v) (hx : ∀ j, j < min w v → ∃ x y, x ≤ 20 ∧ y ≤ 20 ∧ μ 51 (10 * a + j) = nI x ∧ μ 51 (10 * b + j) = nI y) : ∀ (m i : Nat) (x y : Int32), i + m = min w v → K (sg3 (if (lp (tF (fun j => μ 51 (10 * a + j)) (fun j => μ 51 (10 * b + j))) m i (x, y)).1 = 0 then (lp (tF (fun j => μ 51 (10 * a + j)) (fun j => μ 51 (10 * b + j))) m i (x, y)).2 else (lp (tF (fun j => μ 51 (10 * a + j)) (fun j => μ 51 (10 * b + j))) m i (x, y)).1)) μ → wp m_X10_betterOf 8 [(0, .ref 40), (1, .int (nI a)), (2, .int (nI b)), (3, .int x), (4, .int y), (5, .int (nI i))] [] μ (sv_QI K)
  | 0, i, x, y, hi, h => by
    have va : vp_in (nI a) 6 := vp_in_nI (by omega) (by omega)
    have vb : vp_in (nI b) 6 := vp_in_nI (by omega) (by omega)
    have f3 : ∀ q : Int32, K (sg3 q) μ → (q ≤ 0 → (0 ≤ q → K (-1) μ) ∧ (¬ 0 ≤ q → K 0 μ)) ∧ (¬ q ≤ 0 → K 1 μ) := fun q hq => br_c (fun z => br_c (fun y => by unfold sg3 at hq; rw [if_pos z, if_pos y] at hq; exact hq) (fun y => by unfold sg3 at hq; rw [if_pos z, if_neg y] at hq; exact hq)) (fun z => by unfold sg3 at hq; rw [if_neg z] at hq; exact hq)
    have h1 : K (sg3 (if x = 0 then y else x)) μ := h
    have fin : (x = 0 → (y ≤ 0 → (0 ≤ y → K (-1) μ) ∧ (¬ 0 ≤ y → K 0 μ)) ∧ (¬ y ≤ 0 → K 1 μ)) ∧ (¬ x = 0 → (x ≤ 0 → (0 ≤ x → K (-1) μ) ∧ (¬ 0 ≤ x → K 0 μ)) ∧ (¬ x ≤ 0 → K 1 μ)) := br_c (fun e => f3 y (by rw [if_pos e] at h1; exact h1)) (fun e => f3 x (by rw [if_neg e] at h1; exact h1))
    refine g_X10_betterOf_8 (nI a) (nI b) x y (nI i) μ K ⟨va, ?_⟩
    rw [nI_cl (show a < 2 ^ 31 by omega), ew]
    refine br_c (fun _ => fin) (fun z => ⟨vb, ?_⟩)
    rw [nI_cl (show b < 2 ^ 31 by omega), ev]
    refine br_t (nI_le ?_ (by omega)) fin
    have : ¬ w ≤ i := fun q => z (nI_le q (by omega))
    omega
  | m + 1, i, x, y, hi, h => by
    have va : vp_in (nI a) 6 := vp_in_nI (by omega) (by omega)
    have vb : vp_in (nI b) 6 := vp_in_nI (by omega) (by omega)
    obtain ⟨p, q, hp, hq, ep, eq⟩ := hx i (by omega)
    refine g_X10_betterOf_8 (nI a) (nI b) x y (nI i) μ K ⟨va, ?_⟩
    rw [nI_cl (show a < 2 ^ 31 by omega), ew]
    refine br_f (nI_ge (by omega) (by omega)) ⟨vb, ?_⟩
    rw [nI_cl (show b < 2 ^ 31 by omega), ev]
    refine br_f (nI_ge (by omega) (by omega)) ?_
    rw [m10, m10, nI_cl (show 10 * a + i < 2 ^ 31 by omega), nI_cl (show 10 * b + i < 2 ^ 31 by omega), nI_1]
    refine ⟨vp_in_nI (by omega) (by omega), vp_in_nI (by omega) (by omega), ?_⟩
    have ih := fun x' y' h' => betterOf_l (K := K) ha hb hw hv ew ev hx m (i + 1) x' y' (by omega) h'
    have h1 : K (sg3 (if (lp (tF (fun j => μ 51 (10 * a + j)) (fun j => μ 51 (10 * b + j))) m (i + 1) (x + cmpI (μ 51 (10 * a + i)) (μ 51 (10 * b + i)), y + (μ 51 (10 * a + i) - μ 51 (10 * b + i)))).1 = 0 then (lp (tF (fun j => μ 51 (10 * a + j)) (fun j => μ 51 (10 * b + j))) m (i + 1) (x + cmpI (μ 51 (10 * a + i)) (μ 51 (10 * b + i)), y + (μ 51 (10 * a + i) - μ 51 (10 * b + i)))).2 else (lp (tF (fun j => μ 51 (10 * a + j)) (fun j => μ 51 (10 * b + j))) m (i + 1) (x + cmpI (μ 51 (10 * a + i)) (μ 51 (10 * b + i)), y + (μ 51 (10 * a + i) - μ 51 (10 * b + i)))).1)) μ := h
    have ti : (nI p - nI q).toInt = (p : Int) - q := pk_sub_toInt (by omega) (by omega)
    have t0 : (0 : Int32).toInt = 0 := rfl
    rw [ep, eq] at h1 ⊢
    refine br_c (fun z => br_c (fun z2 => ih _ _ ?_) (fun z2 => ih _ _ ?_)) (fun z => ih _ _ ?_)
    · rw [Int32.le_iff_toInt_le, ti, t0] at z z2
      have e : p = q := by omega
      subst e
      have c0 : cmpI (nI p) (nI p) = 0 := by unfold cmpI; rw [if_pos (nI_le (Nat.le_refl p) (by omega)), if_pos rfl]
      rw [c0] at h1
      exact h1
    · rw [Int32.le_iff_toInt_le, ti, t0] at z z2
      have c0 : cmpI (nI p) (nI q) = -1 := by unfold cmpI; rw [if_neg (nI_ge (by omega) (by omega))]
      rw [c0] at h1
      exact h1
    · rw [Int32.le_iff_toInt_le, ti, t0] at z
      have c0 : cmpI (nI p) (nI q) = 1 := by unfold cmpI; rw [if_pos (nI_le (by omega) (by omega)), if_neg (fun e => by have := (nI_eq (by omega) (by omega)).mp e; omega)]
      rw [c0] at h1
      exact h1
theorem betterOf_s {μ : sv_Mem} {K : Int32 → sv_Mem → Prop} {a b : Nat} (I : Inv μ) (ha : a < 6) (hb : b < 6) (h : K (sg3 (ld μ a b)) μ) : sv_cI m_X10_betterOf [.ref 40, .int (nI a), .int (nI b)] μ K := by
  obtain ⟨t, ht, t1, t2, t3, t4⟩ := tr_get I
  obtain ⟨w, w1, w2, w3, w4⟩ := t4 a ha
  obtain ⟨v, v1, v2, v3, v4⟩ := t4 b hb
  refine e_X10_betterOf _ _ μ K (betterOf_l ha hb w1 v1 w3 v3 (fun j hj => ?_) (min w v) 0 0 0 (by omega) ?_)
  · obtain ⟨x, x1, x2, x3⟩ := w4 j (by omega)
    obtain ⟨y, y1, y2, y3⟩ := v4 j (by omega)
    exact ⟨x, y, x1, y1, x3, y3⟩
  · unfold ld at h
    rw [w3, v3, nI_cl (by omega), nI_cl (by omega)] at h
    exact h
theorem L_better (a b : Int32) {μ : sv_Mem} (I : Inv μ) : Both m_X9_better m_X10_better [.int a, .int b] μ := by
  obtain ⟨t, ht, t1, t2, -⟩ := tr_get I
  refine e_X9_better a b μ _ (isPlace_s (fun h => br_f t01 ?_) (fun h => br_t rfl ?_))
  · have h' : rg a 0 (μ 40 14 - 1) := by rw [t2]; rw [t1] at h; exact h
    refine isPlace_s (fun h2 => br_f t01 ?_) (fun h2 => br_t rfl ?_)
    · have h2' : rg b 0 (μ 40 14 - 1) := by rw [t2]; rw [t1] at h2; exact h2
      refine br_c (fun e => ?_) (fun e => ?_)
      · exact e_X10_better a b _ _ (in_s (fun _ => br_f t01 (in_s (fun _ => br_f t01 (br_t e ⟨rfl, I⟩)) (fun z => absurd h2' z))) (fun z => absurd h' z))
      · have g1 := h
        have g2 := h2
        rw [t1] at g1 g2
        obtain ⟨i, hi, ea⟩ := rg_lt (by omega) g1
        obtain ⟨j, hj, eb⟩ := rg_lt (by omega) g2
        subst ea eb
        refine lead_s I (by omega) (by omega) ?_
        have fin : ∀ r, r = sg3 (ld μ i j) → sv_cI m_X10_better [.ref 40, .int (nI i), .int (nI j)] μ (fun r' μ2 => r = r' ∧ Inv μ2) := fun r hr => e_X10_better _ _ _ _ (in_s (fun _ => br_f t01 (in_s (fun _ => br_f t01 (br_f e (betterOf_s I (by omega) (by omega) ⟨hr, I⟩))) (fun z => absurd h2' z))) (fun z => absurd h' z))
        refine br_c (fun z => fin _ ?_) (fun z => br_c (fun y => fin _ ?_) (fun y => fin _ ?_))
        · rw [z]; rfl
        · unfold sg3
          rw [if_pos y, if_neg (fun q => z ?_)]
          apply Int32.toInt_inj.mp
          rw [Int32.le_iff_toInt_le] at y q
          omega
        · unfold sg3; rw [if_neg y]
    · exact e_X10_better a b _ _ (in_s (fun _ => br_f t01 (in_s (fun z => absurd (by rw [t1]; rw [t2] at z; exact z) h2) (fun _ => br_t rfl ⟨rfl, I⟩))) (fun z => absurd h' z))
  · exact e_X10_better a b _ _ (in_s (fun z => absurd (by rw [t1]; rw [t2] at z; exact z) h) (fun _ => br_t rfl ⟨rfl, I⟩))

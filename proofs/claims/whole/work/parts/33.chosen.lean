/-! ===== advance, through, chosen ===== -/
theorem rdM {μ : sv_Mem} (I : Inv μ) (rd : RD μ) {R : Nat} (h1 : 1 ≤ R) (hR : R ≤ 4) (h : μ 13 5 = nI R) : ∀ r, r < R → ∃ s S, s ≤ 100 ∧ S ≤ 24 ∧ μ 15 r = nI s ∧ μ 16 r = nI S ∧ μ 44 r = nI s ∧ μ 45 r = nI S ∧ μ 46 r = μ 17 r := by
  intro r hr
  obtain ⟨s, S, s1, s2, s3, s4, -⟩ := rds I hR h r hr
  rcases rd with ⟨b1, -⟩ | ⟨R', b1, b2, b3, b4, b5, b6, b7⟩
  · exact absurd (h.symm.trans b1) (nI_ne0 (by omega) (by omega))
  · have eR : R' = R := (nI_eq (by omega) (by omega)).mp (b3.symm.trans h)
    subst eR
    obtain ⟨q1, q2, q3, -⟩ := b7 r hr
    exact ⟨s, S, s1, s2, s3, s4, q1.trans s3, q2.trans s4, q3⟩
theorem L_through (a : Int32) {μ : sv_Mem} (I : Inv μ) : Both m_X9_through m_X10_through [.int a] μ := by
  obtain ⟨n, hn, e1, e2, -⟩ := id I.1
  obtain ⟨f, c1, c2, c3, c4⟩ := refusal_c a I
  refine e_X9_through a μ _ (c1 _ ?_)
  rcases c4 with ⟨rfl, r, R, hr, hR, rfl, e5⟩ | hf
  · refine br_t rfl (advancedOutOf_s I hn e2 e1 (by omega) (fun k hk => rds I hR e5 k (by omega)) (fun μ1 fr => ?_))
    refine e_X10_through _ μ1 _ (c2 μ1 _ fr.scr (fun μ' g I' rd => br_t rfl ?_) (fun z => absurd (rg_of (n := 4) (by omega) (by omega)) z))
    have S := fr.scr.tr g.scr
    have h5 : μ' 13 5 = nI R := by rw [S.2.1 5 (by omega) (by omega)]; exact e5
    refine out_s I' hn (by rw [S.2.2 0 (by omega) (by omega) (by omega)]; exact e2) (by omega) (fun k hk => rdM I' (rd rfl) (by omega) hR h5 k (by omega)) ⟨?_, I'⟩
    rw [cOut_scr S]
  · exact br_f hf (e_X10_through a μ _ (c2 μ _ Scr.rf (fun μ' g I' _ => br_f hf ⟨rfl, I'⟩) (fun _ => br_f hf ⟨rfl, I⟩)))
theorem L_advance (a : Int32) {μ : sv_Mem} (I : Inv μ) : Both m_X9_advance m_X10_advance [.int a] μ := by
  obtain ⟨n, hn, e1, e2, -⟩ := id I.1
  obtain ⟨f, c1, c2, c3, c4⟩ := refusal_c a I
  refine e_X9_advance a μ _ (c1 _ ?_)
  rcases c4 with ⟨rfl, r, R, hr, hR, rfl, e5⟩ | hf
  · refine br_t rfl (advancedOutOf_s I hn e2 e1 (by omega) (fun k hk => rds I hR e5 k (by omega)) (fun μ1 fr => bitCount_s (bN_24 _ hn) ?_))
    refine e_X10_advance _ μ1 _ (c2 μ1 _ fr.scr (fun μ' g I' rd => br_t rfl ?_) (fun z => absurd (rg_of (n := 4) (by omega) (by omega)) z))
    have S := fr.scr.tr g.scr
    have h5 : μ' 13 5 = nI R := by rw [S.2.1 5 (by omega) (by omega)]; exact e5
    have lt := bN_24 (cOut μ' n (r + 1)) hn
    refine out_s I' hn (by rw [S.2.2 0 (by omega) (by omega) (by omega)]; exact e2) (by omega) (fun k hk => rdM I' (rd rfl) (by omega) hR h5 k (by omega)) (ones_s (by omega) ⟨?_, I'⟩)
    rw [cOut_scr S]
  · exact br_f hf (e_X10_advance a μ _ (c2 μ _ Scr.rf (fun μ' g I' _ => br_f hf ⟨rfl, I'⟩) (fun _ => br_f hf ⟨rfl, I⟩)))
noncomputable def chV (μ : sv_Mem) (n : Nat) : Int32 := if μ 13 5 = 0 then -3 else oneV (bN (cOut μ n (μ 13 5).toNatClampNeg) n)
theorem chV_scr {μ μ' : sv_Mem} (S : Scr μ μ') (n : Nat) : chV μ' n = chV μ n := by
  unfold chV
  rw [S.2.1 5 (by omega) (by omega), cOut_scr S]
theorem chosen_s {μ : sv_Mem} (I : Inv μ) {n : Nat} (hn : n ≤ 24) (he : μ 40 0 = nI n) (h9 : μ 9 4 = nI n) {K : Int32 → sv_Mem → Prop} (h : ∀ μ', frC μ μ' → K (chV μ n) μ') : sv_cI m_X9_chosen [.ref 0] μ K := by
  unfold chV at h
  refine e_X9_chosen μ K ?_
  rcases rounds_c I with h0 | ⟨R, r1, r2, r3⟩
  · rw [if_pos h0] at h
    exact br_t h0 (h μ (fun _ _ _ _ => rfl))
  · have nz : ¬ μ 13 5 = 0 := by rw [r3]; exact nI_ne0 (by omega) (by omega)
    rw [if_neg nz, r3, nI_cl (by omega)] at h
    refine br_f nz ?_
    rw [r3]
    obtain ⟨R, rfl⟩ : ∃ k, R = k + 1 := ⟨R - 1, by omega⟩
    rw [nI_pred]
    refine advancedOutOf_s I hn he h9 (by omega) (fun k hk => rds I r2 r3 k (by omega)) (fun μ1 fr => ?_)
    exact chosenC_l hn (by rw [fr 9 (by omega) (by omega) (by omega)]; exact h9) (bN_lt _ n) (h μ1 fr) n 0 (by omega) (fun j hj => absurd hj (by omega))
theorem chosenOne_s {μ : sv_Mem} (I : Inv μ) {n R : Nat} (hn : n ≤ 24) (he : μ 40 0 = nI n) (rd : RD μ) (h1 : 1 ≤ R) (hR : R ≤ 4) (h5 : μ 13 5 = nI R) (h6 : μ 40 6 = nI R) {K : Int32 → sv_Mem → Prop} (h : K (chV μ n) μ) : sv_cI m_X10_chosenOne [.ref 40] μ K := by
  have nz : ¬ μ 13 5 = 0 := by rw [h5]; exact nI_ne0 (by omega) (by omega)
  unfold chV at h
  rw [if_neg nz, h5, nI_cl (by omega)] at h
  obtain ⟨R, rfl⟩ : ∃ k, R = k + 1 := ⟨R - 1, by omega⟩
  have lt := bN_24 (cOut μ n (R + 1)) hn
  have oB : onB (bN (cOut μ n (R + 1)) n) ≤ 24 := by
    unfold onB
    exact Nat.le_trans (su_le (g := fun _ => 1) 24 (fun i _ => by show bN (cOut μ n (R + 1)) n / 2 ^ i % 2 ≤ 1; omega)) (by decide)
  refine e_X10_chosenOne μ K ?_
  rw [h6, nI_pred]
  refine out_s I hn he (by omega) (fun k hk => rdM I rd (by omega) hR h5 k (by omega)) (ones_s (by omega) (br_c (fun z => ?_) (fun z => ?_)))
  · have z : onB (bN (cOut μ n (R + 1)) n) = 1 := (nI_eq (b := 1) (by omega) (by omega)).mp z
    obtain ⟨p, p1, p2⟩ := (on_1 lt).mp z
    rw [p2, oneV_p p1] at h
    rw [p2]
    exact chosenM_l p1 h p 0 (by omega)
  · rw [oneV_n (fun k => z (by rw [(on_1 lt).mpr k]; rfl))] at h
    exact h
theorem chosenM_s {μ : sv_Mem} (I : Inv μ) {n : Nat} (hn : n ≤ 24) (he : μ 40 0 = nI n) {K : Int32 → sv_Mem → Prop} (h : ∀ μ', FR μ μ' → Inv μ' → K (chV μ n) μ') : sv_cI m_X10_chosen [.ref 40] μ K := by
  refine e_X10_chosen μ K (readI_s I (fun μ' f I' rd => ?_))
  have S := f.scr
  have h := h μ' f I'
  rcases rounds_c I with h0 | ⟨R, r1, r2, r3⟩
  · unfold chV at h
    rw [if_pos h0] at h
    exact br_f (rd_0 f rd h0) h
  · obtain ⟨b1, b2, b3⟩ := rd_R f rd r1 r2 r3
    refine br_t b1 (chosenOne_s I' hn (by rw [S.2.2 0 (by omega) (by omega) (by omega)]; exact he) rd r1 r2 (by rw [S.2.1 5 (by omega) (by omega)]; exact r3) b2 ?_)
    rw [chV_scr S]
    exact h
theorem L_chosen {μ : sv_Mem} (I : Inv μ) : Both m_X9_chosen m_X10_chosen [] μ := by
  obtain ⟨n, hn, e1, e2, -⟩ := id I.1
  refine chosen_s I hn e2 e1 (fun μ1 fr => chosenM_s (Inv_scr I fr.scr) hn (by rw [fr 40 (by omega) (by omega) (by omega)]; exact e2) (fun μ' _ I' => ⟨?_, I'⟩))
  rw [chV_scr fr.scr]

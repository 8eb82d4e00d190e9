/-! ===== sheets: sheet, lose, get, put ===== -/
theorem sh_get {μ : sv_Mem} (h : jv_sh (μ 7) (μ 8) (μ 55) (μ 56) (μ 57) (μ 3) (μ 4) (μ 5) (μ 6) (μ 58)) : ∀ s, s < 4 → jv_s1 s (μ 7) (μ 8) (μ 55) (μ 56) (μ 57) (μ (3 + s)) (μ 58)
  | 0, _ => h.1
  | 1, _ => h.2.1
  | 2, _ => h.2.2.1
  | 3, _ => h.2.2.2
  | s + 4, hs => by omega
theorem sh_all {μ : sv_Mem} (h : ∀ s, s < 4 → jv_s1 s (μ 7) (μ 8) (μ 55) (μ 56) (μ 57) (μ (3 + s)) (μ 58)) : jv_sh (μ 7) (μ 8) (μ 55) (μ 56) (μ 57) (μ 3) (μ 4) (μ 5) (μ 6) (μ 58) :=
  ⟨h 0 (by omega), h 1 (by omega), h 2 (by omega), h 3 (by omega)⟩
theorem Inv_sh {μ μ' : sv_Mem} (I : Inv μ) (h : ∀ b, (b < 3 ∨ 8 < b) → (b < 55 ∨ 59 < b) → μ' b = μ b) (hs : ∀ s, s < 4 → jv_s1 s (μ' 7) (μ' 8) (μ' 55) (μ' 56) (μ' 57) (μ' (3 + s)) (μ' 58)) : Inv μ' := by
  obtain ⟨i1, i2, i3, i4, i5, i6, i7, i8⟩ := I
  refine ⟨?_, ?_, ?_, ?_, ?_, ?_, sh_all hs, ?_⟩
  · rw [h 9 (by omega) (by omega), h 40 (by omega) (by omega), h 10 (by omega) (by omega), h 41 (by omega) (by omega), h 11 (by omega) (by omega), h 42 (by omega) (by omega), h 12 (by omega) (by omega)]; exact i1
  · rw [h 9 (by omega) (by omega), h 40 (by omega) (by omega)]; exact i2
  · rw [h 13 (by omega) (by omega), h 40 (by omega) (by omega), h 14 (by omega) (by omega), h 43 (by omega) (by omega), h 15 (by omega) (by omega), h 16 (by omega) (by omega), h 17 (by omega) (by omega)]; exact i3
  · rw [h 39 (by omega) (by omega), h 47 (by omega) (by omega)]; exact i4
  · rw [h 25 (by omega) (by omega), h 40 (by omega) (by omega), h 26 (by omega) (by omega), h 49 (by omega) (by omega), h 27 (by omega) (by omega), h 50 (by omega) (by omega), h 29 (by omega) (by omega), h 30 (by omega) (by omega), h 31 (by omega) (by omega), h 32 (by omega) (by omega), h 33 (by omega) (by omega), h 34 (by omega) (by omega), h 51 (by omega) (by omega)]; exact i5
  · rw [h 35 (by omega) (by omega), h 40 (by omega) (by omega), h 36 (by omega) (by omega), h 52 (by omega) (by omega), h 37 (by omega) (by omega), h 53 (by omega) (by omega), h 38 (by omega) (by omega), h 54 (by omega) (by omega)]; exact i6
  · rw [h 1 (by omega) (by omega), h 40 (by omega) (by omega)]; exact i8
/-- a finding, in both -/
theorem Inv_fi {μ : sv_Mem} (I : Inv μ) (f : Int32) : Inv (sv_up (sv_up μ 1 3 f) 40 27 f) := by
  obtain ⟨i1, i2, i3, i4, i5, i6, i7, i8⟩ := I
  exact ⟨i1, i2, i3, i4, i5, i6, i7, rfl⟩
theorem m240 (s i : Nat) : (240 : Int32) * nI s + nI i = nI (240 * s + i) := by
  rw [show (240 : Int32) = nI 240 from rfl, pk_mul, nI_add]
theorem row_ln {s : Nat} (hs : s < 4) {f : Nat → Prop} (h : f 240) : sv_ln (3 + s) f := by
  match s, hs with
  | 0, _ => exact h
  | 1, _ => exact h
  | 2, _ => exact h
  | 3, _ => exact h
  | s + 4, hs => omega
theorem lay_l {s n : Nat} {f : Int32} (hs : s < 4) (hn : n ≤ 240) {K : Int32 → sv_Mem → Prop} : ∀ (m i : Nat) (μ : sv_Mem), i + m = n → (∀ μ', (∀ b, b ≠ 3 + s → μ' b = μ b) → (∀ j, i ≤ j → j < n → μ' (3 + s) j = 0) → (∀ j, j < i → μ' (3 + s) j = μ (3 + s) j) → K (nI n) μ') → wp m_X7_lay 17 [(0, .ref 1), (1, .int (nI s)), (2, .int f), (3, .int (nI n)), (4, .int (nI i))] [] μ (sv_QI K)
  | 0, i, μ, hi, h => g_X7_lay_17 (nI s) f (nI n) (nI i) μ K (br_t (nI_le (by omega) (by omega)) (h μ (fun _ _ => rfl) (fun j h1 h2 => by omega) (fun _ _ => rfl)))
  | m + 1, i, μ, hi, h => by
    refine g_X7_lay_17 (nI s) f (nI n) (nI i) μ K (br_f (nI_ge (by omega) (by omega)) ⟨vp_in_nI (by omega) (by omega), ?_⟩)
    rw [nI_cl (by omega), nI_cl (by omega), nI_1]
    refine row_ln hs ⟨vp_in_nI (by omega) (by omega), lay_l hs hn m (i + 1) _ (by omega) (fun μ' h1 h2 h3 => h μ' (fun b hb => by rw [h1 b hb, up_pl hb]) (fun j a b => ?_) (fun j a => ?_))⟩
    · by_cases e : j = i
      · subst e; rw [h3 j (by omega), up_s]
      · exact h2 j (by omega) b
    · rw [h3 j (by omega), up_n (by omega)]
theorem sheetM_l {s : Nat} {f n : Int32} (hs : s < 4) {K : Int32 → sv_Mem → Prop} : ∀ (m i : Nat) (μ : sv_Mem), i + m = 240 → (∀ μ', (∀ b, b ≠ 58 → μ' b = μ b) → (∀ j, i ≤ j → j < 240 → μ' 58 (240 * s + j) = 0) → (∀ j, (j < 240 * s + i ∨ 240 * s + 240 ≤ j) → μ' 58 j = μ 58 j) → K n μ') → wp m_X10_sheet 60 [(0, .ref 40), (1, .int (nI s)), (2, .int f), (3, .int n), (4, .int (nI i))] [] μ (sv_QI K)
  | 0, i, μ, hi, h => g_X10_sheet_60 (nI s) f n (nI i) μ K (br_t (nI_le (a := 240) (by omega) (by omega)) (h μ (fun _ _ => rfl) (fun j h1 h2 => by omega) (fun _ _ => rfl)))
  | m + 1, i, μ, hi, h => by
    refine g_X10_sheet_60 (nI s) f n (nI i) μ K (br_f (nI_ge (b := 240) (by omega) (by omega)) ?_)
    rw [m240, nI_cl (by omega), nI_1]
    refine ⟨vp_in_nI (by omega) (by omega), sheetM_l hs m (i + 1) _ (by omega) (fun μ' h1 h2 h3 => h μ' (fun b hb => by rw [h1 b hb, up_pl hb]) (fun j a b => ?_) (fun j a => ?_))⟩
    · by_cases e : j = i
      · subst e; rw [h3 _ (by omega), up_s]
      · exact h2 j (by omega) b
    · rw [h3 j (by omega), up_n (by omega)]
theorem nar1 : vp_nar .boolean 1 = 1 := rfl
theorem nar0 : vp_nar .boolean 0 = 0 := rfl
theorem L_sheet (a b c : Int32) {μ : sv_Mem} (I : Inv μ) : Both m_X9_sheet m_X10_sheet [.int a, .int b, .int c] μ := by
  refine e_X9_sheet a b c μ _ (isSheet_s (fun h => br_f t01 ?_) (fun h => br_t rfl ?_))
  · refine isForm_s (fun h2 => br_f t01 ?_) (fun h2 => br_t rfl ?_)
    · refine br_c (fun h3 => br_c (fun h4 => ?_) (fun h4 => ?_)) (fun h3 => ?_)
      · obtain ⟨s, hs, ea⟩ := rg_nat (n := 3) rfl h
        obtain ⟨f, hf, eb⟩ := rg_nat (n := 2) rfl h2
        obtain ⟨n, hn, ec⟩ := nI_of2 (n := 240) rfl (Int32.not_lt.mpr h4) h3
        subst ea ec
        have v4 : vp_in (nI s) 4 := vp_in_nI (by omega) (by omega)
        refine e_X7_lay _ b _ μ _ ⟨v4, v4, ?_⟩
        rw [nI_cl (by omega)]
        refine lay_l (by omega) hn n 0 _ (by omega) (fun μ1 g1 g2 g3 => ?_)
        refine e_X10_sheet _ b _ _ _ (isSheetM_s (fun _ => br_f t01 (in_s (fun _ => br_f t01 (br_t h3 (br_t h4 ⟨v4, v4, v4, ?_⟩))) (fun z => absurd h2 z))) (fun z => absurd h z))
        rw [nI_cl (by omega), nar1]
        refine sheetM_l (by omega) 240 0 _ (by omega) (fun μ2 k1 k2 k3 => ⟨rfl, ?_⟩)
        have u : ∀ b, b ≠ 58 → b ≠ 57 → b ≠ 56 → b ≠ 55 → μ2 b = μ1 b := fun b x1 x2 x3 x4 => by rw [k1 b x1, up_pl x2, up_pl x3, up_pl x4]
        have w : ∀ b, b ≠ 3 + s → b ≠ 8 → b ≠ 7 → μ1 b = μ b := fun b x1 x2 x3 => by rw [g1 b x1, up_pl x2, up_pl x3]
        have e7 : μ2 7 = upd (μ 7) s b := by rw [u 7 (by omega) (by omega) (by omega) (by omega), g1 7 (by omega)]; rfl
        have e8 : μ2 8 = upd (μ 8) s (nI n) := by rw [u 8 (by omega) (by omega) (by omega) (by omega), g1 8 (by omega)]; rfl
        have e55 : μ2 55 = upd (μ 55) s 1 := by rw [k1 55 (by omega)]; show upd (μ1 55) s 1 = _; rw [w 55 (by omega) (by omega) (by omega)]
        have e56 : μ2 56 = upd (μ 56) s b := by rw [k1 56 (by omega)]; show upd (μ1 56) s b = _; rw [w 56 (by omega) (by omega) (by omega)]
        have e57 : μ2 57 = upd (μ 57) s (nI n) := by rw [k1 57 (by omega)]; show upd (μ1 57) s (nI n) = _; rw [w 57 (by omega) (by omega) (by omega)]
        refine Inv_sh I (fun b x1 x2 => by rw [u b (by omega) (by omega) (by omega) (by omega), w b (by omega) (by omega) (by omega)]) (fun t ht => ?_)
        rw [e7, e8, e55, e56, e57]
        by_cases e : t = s
        · subst e
          refine Or.inr ⟨upd_s, by rw [upd_s, upd_s], ⟨f, hf, by rw [upd_s]; exact eb⟩, n, hn, upd_s, upd_s, fun i hi => ?_⟩
          rw [u _ (by omega) (by omega) (by omega) (by omega), g2 i (by omega) hi, k2 i (by omega) (by omega)]
        · have q := sh_get I.2.2.2.2.2.2.1 t ht
          rcases q with ⟨q1, q2, q3⟩ | ⟨q1, q2, ⟨x, q3, q4⟩, y, q5, q6, q7, q8⟩
          · exact Or.inl ⟨by rw [upd_n e]; exact q1, by rw [upd_n e]; exact q2, by rw [upd_n e]; exact q3⟩
          · refine Or.inr ⟨by rw [upd_n e]; exact q1, by rw [upd_n e, upd_n e]; exact q2, ⟨x, q3, by rw [upd_n e]; exact q4⟩, y, q5, by rw [upd_n e]; exact q6, by rw [upd_n e]; exact q7, fun i hi => ?_⟩
            rw [u _ (by omega) (by omega) (by omega) (by omega), w _ (by omega) (by omega) (by omega), k3 _ (by omega)]
            show _ = μ1 58 _
            rw [w 58 (by omega) (by omega) (by omega)]
            exact q8 i hi
      · refine e_X7_found 5 μ _ ?_
        refine e_X10_sheet a b c _ _ (isSheetM_s (fun _ => br_f t01 (in_s (fun _ => br_f t01 (br_t h3 (br_f h4 ?_))) (fun z => absurd h2 z))) (fun z => absurd h z))
        exact e_X10_meets 5 _ _ ⟨rfl, Inv_fi I 5⟩
      · exact e_X10_sheet a b c _ _ (isSheetM_s (fun _ => br_f t01 (in_s (fun _ => br_f t01 (br_f h3 ⟨rfl, I⟩)) (fun z => absurd h2 z))) (fun z => absurd h z))
    · exact e_X10_sheet a b c _ _ (isSheetM_s (fun _ => br_f t01 (in_s (fun z => absurd z h2) (fun _ => br_t rfl ⟨rfl, I⟩))) (fun z => absurd h z))
  · exact e_X10_sheet a b c _ _ (isSheetM_s (fun z => absurd z h) (fun _ => br_t rfl ⟨rfl, I⟩))
theorem frm {f : Nat} (hf : f ≤ 2) {x : Int32} (e : x = nI f) : ¬ x = -1 := by
  rw [e]
  match f, hf with
  | 0, _ => decide
  | 1, _ => decide
  | 2, _ => decide
  | f + 3, h => omega
theorem L_lose (a : Int32) {μ : sv_Mem} (I : Inv μ) : Both m_X9_lose m_X10_lose [.int a] μ := by
  refine e_X9_lose a μ _ (isSheet_s (fun h => br_f t01 ?_) (fun h => br_t rfl ?_))
  · obtain ⟨s, hs, ea⟩ := rg_nat (n := 3) rfl h
    subst ea
    have v4 : vp_in (nI s) 4 := vp_in_nI (by omega) (by omega)
    have q := sh_get I.2.2.2.2.2.2.1 s (by omega)
    refine e_X7_isLost _ μ _ ⟨v4, ?_⟩
    rw [nI_cl (by omega)]
    rcases q with ⟨q1, q2, q3⟩ | ⟨q1, q2, ⟨x, q3, q4⟩, y, q5, q6, q7, q8⟩
    · refine br_t q2 ⟨zb1, br_f t01 (e_X7_found 1 μ _ ?_)⟩
      refine e_X10_lose _ _ _ (isSheetM_s (fun _ => br_f t01 ⟨v4, ?_⟩) (fun z => absurd h z))
      rw [nI_cl (by omega)]
      exact br_t q1 (e_X10_meets 1 _ _ ⟨rfl, Inv_fi I 1⟩)
    · refine br_f (fun z => frm q3 q4 (q2.symm.trans z)) ⟨zb0, br_t rfl (e_X7_drop _ μ _ ⟨v4, v4, v4, ?_⟩)⟩
      rw [nI_cl (by omega)]
      refine e_X10_lose _ _ _ (isSheetM_s (fun _ => br_f t01 ⟨v4, ?_⟩) (fun z => absurd h z))
      rw [nI_cl (by omega), nar0]
      refine br_f (by show ¬ μ 55 s = 0; rw [q1]; decide) ⟨v4, v4, q6.trans q7.symm, ?_⟩
      refine Inv_sh I (fun b x1 x2 => by rw [up_pl (by omega), up_pl (by omega), up_pl (by omega)]) (fun t ht => ?_)
      show jv_s1 t (upd (μ 7) s (-1)) (upd (μ 8) s 0) (upd (μ 55) s 0) (μ 56) (μ 57) _ (μ 58)
      rw [up_pl (by omega), up_pl (by omega), up_pl (by omega)]
      by_cases e : t = s
      · subst e
        exact Or.inl ⟨upd_s, upd_s, upd_s⟩
      · have q := sh_get I.2.2.2.2.2.2.1 t ht
        unfold jv_s1 at q ⊢
        rw [upd_n e, upd_n e, upd_n e]
        exact q
  · exact e_X10_lose a _ _ (isSheetM_s (fun z => absurd z h) (fun _ => br_t rfl ⟨rfl, I⟩))
/-- what is wrong with an item of a sheet: the same in both; 0: nothing -/
theorem lacks_c {s : Nat} (hs : s < 4) (b c : Int32) {μ : sv_Mem} (I : Inv μ) : ∃ f : Int32, (∀ K : Int32 → sv_Mem → Prop, K f μ → sv_cI m_X7_findingOfItem [.ref 1, .int (nI s), .int b, .int c] μ K) ∧
    (∀ (μ' : sv_Mem) (K : Int32 → sv_Mem → Prop), μ' 55 = μ 55 → μ' 56 = μ 56 → μ' 57 = μ 57 → K f μ' → sv_cI m_X10_lacks [.ref 40, .int (nI s), .int b, .int c] μ' K) ∧
    ((f = 0 ∧ ∃ i n, n ≤ 240 ∧ i < n ∧ c = nI i ∧ μ 8 s = nI n ∧ μ 57 s = nI n ∧ μ 55 s = 1) ∨ (¬ f = 0 ∧ ¬ f ≤ 0)) := by
  have v4 : vp_in (nI s) 4 := vp_in_nI (by omega) (by omega)
  have q := sh_get I.2.2.2.2.2.2.1 s hs
  rcases q with ⟨q1, q2, q3⟩ | ⟨q1, q2, ⟨x, q3, q4⟩, n, q5, q6, q7, q8⟩
  · refine ⟨1, fun K k => e_X7_findingOfItem _ b c μ _ (e_X7_isLost _ μ _ ⟨v4, ?_⟩), fun μ' K u1 u2 u3 k => e_X10_lacks _ b c μ' _ ⟨v4, ?_⟩, Or.inr ⟨by decide, by decide⟩⟩
    · rw [nI_cl (by omega)]
      exact br_t q2 ⟨zb1, br_f t01 k⟩
    · rw [nI_cl (by omega), u1]
      exact br_t q1 k
  · have nl : ¬ μ 7 s = -1 := fun z => frm q3 q4 (q2.symm.trans z)
    have nz : ¬ μ 55 s = 0 := by rw [q1]; decide
    by_cases eb : μ 56 s = b
    · by_cases hc : c < 0
      · refine ⟨2, fun K k => e_X7_findingOfItem _ b c μ _ (e_X7_isLost _ μ _ ⟨v4, ?_⟩), fun μ' K u1 u2 u3 k => e_X10_lacks _ b c μ' _ ⟨v4, ?_⟩, Or.inr ⟨by decide, by decide⟩⟩
        · rw [nI_cl (by omega)]
          exact br_f nl ⟨zb0, br_t rfl ⟨v4, br_t (q2.trans eb) (br_t hc k)⟩⟩
        · rw [nI_cl (by omega), u1, u2, u3]
          exact br_f nz ⟨v4, br_t eb ⟨v4, in_s (fun z => absurd hc z.1) (fun _ => br_t rfl k)⟩⟩
      · by_cases hl : nI n ≤ c
        · refine ⟨2, fun K k => e_X7_findingOfItem _ b c μ _ (e_X7_isLost _ μ _ ⟨v4, ?_⟩), fun μ' K u1 u2 u3 k => e_X10_lacks _ b c μ' _ ⟨v4, ?_⟩, Or.inr ⟨by decide, by decide⟩⟩
          · rw [nI_cl (by omega)]
            exact br_f nl ⟨zb0, br_t rfl ⟨v4, br_t (q2.trans eb) (br_f hc ⟨v4, br_t (by rw [q6]; exact hl) k⟩)⟩⟩
          · rw [nI_cl (by omega), u1, u2, u3]
            refine br_f nz ⟨v4, br_t eb ⟨v4, in_s (fun z => ?_) (fun _ => br_t rfl k)⟩⟩
            rw [q7] at z
            obtain ⟨i, hi, ei⟩ := rg_lt (by omega) z
            exact absurd hl (by rw [ei]; exact nI_ge hi (by omega))
        · obtain ⟨i, hi, ei⟩ : ∃ i, i < n ∧ c = nI i := by
            rcases pk_ix c (n := n) (by omega) with z | z | z
            · exact absurd z hc
            · exact absurd z hl
            · exact z
          refine ⟨0, fun K k => e_X7_findingOfItem _ b c μ _ (e_X7_isLost _ μ _ ⟨v4, ?_⟩), fun μ' K u1 u2 u3 k => e_X10_lacks _ b c μ' _ ⟨v4, ?_⟩, Or.inl ⟨rfl, i, n, q5, hi, ei, q6, q7, q1⟩⟩
          · rw [nI_cl (by omega)]
            exact br_f nl ⟨zb0, br_t rfl ⟨v4, br_t (q2.trans eb) (br_f hc ⟨v4, br_f (by rw [q6]; exact hl) k⟩)⟩⟩
          · rw [nI_cl (by omega), u1, u2, u3]
            exact br_f nz ⟨v4, br_t eb ⟨v4, in_s (fun _ => br_f t01 k) (fun z => absurd (by rw [q7, ei]; exact rg_of hi (by omega)) z)⟩⟩
    · refine ⟨3, fun K k => e_X7_findingOfItem _ b c μ _ (e_X7_isLost _ μ _ ⟨v4, ?_⟩), fun μ' K u1 u2 u3 k => e_X10_lacks _ b c μ' _ ⟨v4, ?_⟩, Or.inr ⟨by decide, by decide⟩⟩
      · rw [nI_cl (by omega)]
        exact br_f nl ⟨zb0, br_t rfl ⟨v4, br_f (fun z => eb (q2.symm.trans z)) k⟩⟩
      · rw [nI_cl (by omega), u1, u2]
        exact br_f nz ⟨v4, br_f eb k⟩
theorem L_get (a b c : Int32) {μ : sv_Mem} (I : Inv μ) : Both m_X9_get m_X10_get [.int a, .int b, .int c] μ := by
  refine e_X9_get a b c μ _ (isSheet_s (fun h => br_f t01 ?_) (fun h => br_t rfl ?_))
  · refine isForm_s (fun h2 => br_f t01 ?_) (fun h2 => br_t rfl ?_)
    · obtain ⟨s, hs, ea⟩ := rg_nat (n := 3) rfl h
      subst ea
      have v4 : vp_in (nI s) 4 := vp_in_nI (by omega) (by omega)
      obtain ⟨f, c1, c2, c3⟩ := lacks_c (s := s) (by omega) b c I
      refine c1 _ ?_
      rcases c3 with ⟨rfl, i, n, hn, hi, ei, e8, e57, e55⟩ | ⟨hf, hg⟩
      · subst ei
        refine br_t rfl ⟨v4, ?_⟩
        rw [nI_cl (by omega)]
        refine row_ln (by omega) ⟨vp_in_nI (by omega) (by omega), ?_⟩
        refine e_X10_get _ b _ _ _ (isSheetM_s (fun _ => br_f t01 (in_s (fun _ => br_f t01 (c2 μ _ rfl rfl rfl (br_t (by decide) ?_))) (fun z => absurd h2 z))) (fun z => absurd h z))
        rw [m240, nI_cl (by omega), nI_cl (by omega)]
        refine ⟨vp_in_nI (by omega) (by omega), ?_, I⟩
        rcases sh_get I.2.2.2.2.2.2.1 s (by omega) with ⟨q1, -⟩ | ⟨q1, q2, -, m, q5, q6, q7, q8⟩
        · rw [q1] at e55; exact absurd e55 (by decide)
        · have em : m = n := (nI_eq (by omega) (by omega)).mp (q6.symm.trans e8)
          subst em
          exact q8 i hi
      · refine br_f hf (e_X7_found f μ _ ?_)
        refine e_X10_get _ b c _ _ (isSheetM_s (fun _ => br_f t01 (in_s (fun _ => br_f t01 (c2 _ _ rfl rfl rfl (br_f hg ⟨rfl, Inv_fi I f⟩))) (fun z => absurd h2 z))) (fun z => absurd h z))
    · exact e_X10_get a b c _ _ (isSheetM_s (fun _ => br_f t01 (in_s (fun z => absurd z h2) (fun _ => br_t rfl ⟨rfl, I⟩))) (fun z => absurd h z))
  · exact e_X10_get a b c _ _ (isSheetM_s (fun z => absurd z h) (fun _ => br_t rfl ⟨rfl, I⟩))
/-- the same item put into both -/
theorem Inv_put {μ : sv_Mem} (I : Inv μ) {s i n : Nat} (hs : s < 4) (hn : n ≤ 240) (hi : i < n) (x : Int32) : Inv (sv_up (sv_up μ (3 + s) i x) 58 (240 * s + i) x) := by
  refine Inv_sh I (fun b x1 x2 => by rw [up_pl (by omega), up_pl (by omega)]) (fun t ht => ?_)
  have q := sh_get I.2.2.2.2.2.2.1 t ht
  rw [up_pl (b := 7) (by omega), up_pl (b := 7) (by omega), up_pl (b := 8) (by omega), up_pl (b := 8) (by omega), up_pl (b := 55) (by omega), up_pl (b := 55) (by omega), up_pl (b := 56) (by omega), up_pl (b := 56) (by omega), up_pl (b := 57) (by omega), up_pl (b := 57) (by omega), up_f, up_pl (b := 3 + t) (a := 58) (by omega), up_pl (b := 58) (a := 3 + s) (by omega)]
  rcases q with q | ⟨q1, q2, q3, m, q5, q6, q7, q8⟩
  · exact Or.inl q
  · refine Or.inr ⟨q1, q2, q3, m, q5, q6, q7, fun j hj => ?_⟩
    by_cases e : t = s
    · subst e
      rw [up_f]
      by_cases e2 : j = i
      · subst e2; rw [upd_s, upd_s]
      · rw [upd_n e2, upd_n (by omega)]; exact q8 j hj
    · rw [up_pl (by omega), upd_n (by omega)]
      exact q8 j hj
theorem L_put (a b c d : Int32) {μ : sv_Mem} (I : Inv μ) : Both m_X9_put m_X10_put [.int a, .int b, .int c, .int d] μ := by
  refine e_X9_put a b c d μ _ (isSheet_s (fun h => br_f t01 ?_) (fun h => br_t rfl ?_))
  · refine isForm_s (fun h2 => br_f t01 ?_) (fun h2 => br_t rfl ?_)
    · obtain ⟨s, hs, ea⟩ := rg_nat (n := 3) rfl h
      subst ea
      have v4 : vp_in (nI s) 4 := vp_in_nI (by omega) (by omega)
      obtain ⟨f, c1, c2, c3⟩ := lacks_c (s := s) (by omega) b c I
      refine c1 _ ?_
      rcases c3 with ⟨rfl, i, n, hn, hi, ei, e8, e57, e55⟩ | ⟨hf, hg⟩
      · subst ei
        refine br_t rfl ⟨v4, ?_⟩
        have fin : ∀ x : Int32, ((b = 0 ∧ x = d.toInt8.toInt32) ∨ (¬ b = 0 ∧ b = 1 ∧ x = d.toInt16.toInt32) ∨ (¬ b = 0 ∧ ¬ b = 1 ∧ x = d)) → sv_cI m_X10_put [.ref 40, .int (nI s), .int b, .int (nI i), .int d] (sv_up μ (3 + s) i x) (fun r' μ2 => 1 = r' ∧ Inv μ2) := by
          intro x hx
          refine e_X10_put _ b _ d _ _ (isSheetM_s (fun _ => br_f t01 (in_s (fun _ => br_f t01 (c2 _ _ (up_pl (by omega)) (up_pl (by omega)) (up_pl (by omega)) (br_t (by decide) ?_))) (fun z => absurd h2 z))) (fun z => absurd h z))
          rw [m240, nI_cl (by omega)]
          have v : vp_in (nI (240 * s + i)) 960 := vp_in_nI (by omega) (by omega)
          rcases hx with ⟨b0, rfl⟩ | ⟨b0, b1, rfl⟩ | ⟨b0, b1, rfl⟩
          · exact br_t b0 ⟨v, rfl, Inv_put I (by omega) hn hi _⟩
          · exact br_f b0 (br_t b1 ⟨v, rfl, Inv_put I (by omega) hn hi _⟩)
          · exact br_f b0 (br_f b1 ⟨v, rfl, Inv_put I (by omega) hn hi _⟩)
        have v2 : vp_in (nI i) 240 := vp_in_nI (by omega) (by omega)
        refine e_X7_lowestBits b d μ _ ?_
        rw [nI_cl (by omega), nI_cl (by omega)]
        refine br_c (fun b0 => row_ln (by omega) ⟨v2, fin _ (Or.inl ⟨b0, rfl⟩)⟩) (fun b0 => br_c (fun b1 => row_ln (by omega) ⟨v2, fin _ (Or.inr (Or.inl ⟨b0, b1, rfl⟩))⟩) (fun b1 => row_ln (by omega) ⟨v2, fin _ (Or.inr (Or.inr ⟨b0, b1, rfl⟩))⟩))
      · refine br_f hf (e_X7_found f μ _ ?_)
        refine e_X10_put _ b c d _ _ (isSheetM_s (fun _ => br_f t01 (in_s (fun _ => br_f t01 (c2 _ _ rfl rfl rfl (br_f hg ?_))) (fun z => absurd h2 z))) (fun z => absurd h z))
        exact e_X10_meets f _ _ ⟨rfl, Inv_fi I f⟩
    · exact e_X10_put a b c d _ _ (isSheetM_s (fun _ => br_f t01 (in_s (fun z => absurd z h2) (fun _ => br_t rfl ⟨rfl, I⟩))) (fun z => absurd h z))
  · exact e_X10_put a b c d _ _ (isSheetM_s (fun z => absurd z h) (fun _ => br_t rfl ⟨rfl, I⟩))

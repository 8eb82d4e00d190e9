/-! ===== type, repeal, fault, law, count ===== -/
theorem Inv_tx {μ μ' : sv_Mem} (I : Inv μ) (h : ∀ b, (b < 13 ∨ 17 < b) → b ≠ 40 → b ≠ 43 → μ' b = μ b) (h40 : ∀ j, j ≠ 4 → μ' 40 j = μ 40 j) (ht : jv_tx (μ' 13 4) (μ' 40 4) (μ' 14) (μ' 43) (μ' 13 5) (μ' 13 6) (μ' 15) (μ' 16) (μ' 17)) : Inv μ' := by
  obtain ⟨i1, i2, i3, i4, i5, i6, i7, i8⟩ := I
  refine ⟨?_, ?_, ht, ?_, ?_, ?_, ?_, ?_⟩
  · rw [h 9 (by omega) (by omega) (by omega), h40 0 (by omega), h 10 (by omega) (by omega) (by omega), h 41 (by omega) (by omega) (by omega), h 11 (by omega) (by omega) (by omega), h 42 (by omega) (by omega) (by omega), h 12 (by omega) (by omega) (by omega)]; exact i1
  · rw [h 9 (by omega) (by omega) (by omega), h40 3 (by omega)]; exact i2
  · rw [h 39 (by omega) (by omega) (by omega), h 47 (by omega) (by omega) (by omega)]; exact i4
  · rw [h 25 (by omega) (by omega) (by omega), h40 14 (by omega), h 26 (by omega) (by omega) (by omega), h 49 (by omega) (by omega) (by omega), h 27 (by omega) (by omega) (by omega), h 50 (by omega) (by omega) (by omega), h 29 (by omega) (by omega) (by omega), h 30 (by omega) (by omega) (by omega), h 31 (by omega) (by omega) (by omega), h 32 (by omega) (by omega) (by omega), h 33 (by omega) (by omega) (by omega), h 34 (by omega) (by omega) (by omega), h 51 (by omega) (by omega) (by omega)]; exact i5
  · rw [h 35 (by omega) (by omega) (by omega), h40 18 (by omega), h 36 (by omega) (by omega) (by omega), h 52 (by omega) (by omega) (by omega), h 37 (by omega) (by omega) (by omega), h 53 (by omega) (by omega) (by omega), h 38 (by omega) (by omega) (by omega), h 54 (by omega) (by omega) (by omega)]; exact i6
  · rw [h 7 (by omega) (by omega) (by omega), h 8 (by omega) (by omega) (by omega), h 55 (by omega) (by omega) (by omega), h 56 (by omega) (by omega) (by omega), h 57 (by omega) (by omega) (by omega), h 3 (by omega) (by omega) (by omega), h 4 (by omega) (by omega) (by omega), h 5 (by omega) (by omega) (by omega), h 6 (by omega) (by omega) (by omega), h 58 (by omega) (by omega) (by omega)]; exact i7
  · rw [h 1 (by omega) (by omega) (by omega), h40 27 (by omega)]; exact i8
/-- what the reference has read, beside what the class keeps -/
def RD (μ : sv_Mem) : Prop := (μ 13 5 = 0 ∧ μ 40 11 = μ 13 6 ∧ ¬ μ 40 11 = -1) ∨ ∃ R, 1 ≤ R ∧ R ≤ 4 ∧ μ 13 5 = nI R ∧ μ 40 6 = nI R ∧ μ 40 11 = -1 ∧ μ 13 6 = -1 ∧ ∀ r, r < R → μ 44 r = μ 15 r ∧ μ 45 r = μ 16 r ∧ μ 46 r = μ 17 r ∧ rg (μ 15 r) 1 100 ∧ rg (μ 16 r) 1 24
theorem readI_s {μ : sv_Mem} {K : sv_Mem → Prop} (I : Inv μ) (h : ∀ μ', FR μ μ' → Inv μ' → RD μ' → K μ') : sv_cV m_X10_read [.ref 40] μ K := by
  obtain ⟨n, n1, n2, n3, n4, n5⟩ := id I.2.2.1
  refine readM_s n1 n3 (fun μ' f r => h μ' f (Inv_scr I f.scr) ?_)
  have e13 : μ' 13 = μ 13 := f.1 13 (by omega) (by omega) (by omega) (by omega)
  have e15 : μ' 15 = μ 15 := f.1 15 (by omega) (by omega) (by omega) (by omega)
  have e16 : μ' 16 = μ 16 := f.1 16 (by omega) (by omega) (by omega) (by omega)
  have e17 : μ' 17 = μ 17 := f.1 17 (by omega) (by omega) (by omega) (by omega)
  unfold RD
  rw [e13, e15, e16, e17]
  generalize pT (μ 43) n = P at n5 r
  cases P with
  | inl q =>
    obtain ⟨a1, a2, a3⟩ := n5
    obtain ⟨b1, b2⟩ := r
    exact Or.inl ⟨a3, b1.trans a1.symm, by rw [b1]; exact nI_m1 (by omega)⟩
  | inr L =>
    obtain ⟨a1, a2, a3, a4, a5⟩ := n5
    obtain ⟨b1, b2, b3⟩ := r
    rw [Nat.zero_add] at b2
    refine Or.inr ⟨L.length, a3, a4, a2, b2, b1, a1, fun r hr => ?_⟩
    have hz : L[r]? = some L[r] := List.getElem?_eq_getElem hr
    have c := a5 r _ hz
    have d := b3 r _ hz
    rw [Nat.zero_add] at d
    exact ⟨d.1.trans c.1.symm, d.2.1.trans c.2.1.symm, d.2.2.trans c.2.2.1.symm, by rw [c.1]; exact c.2.2.2.1, by rw [c.2.1]; exact c.2.2.2.2⟩
theorem L_type (a : Int32) {μ : sv_Mem} (I : Inv μ) : Both m_X9_type m_X10_type [.int a] μ := by
  obtain ⟨n, n1, n2, n3, n4, n5⟩ := id I.2.2.1
  refine e_X9_type a μ _ (within_s (fun h => br_f t01 ?_) (fun h => br_t rfl ?_))
  · by_cases hf : n = 60
    · subst hf
      refine br_t (by rw [n2]; decide) ?_
      exact e_X10_type a _ _ (in_s (fun _ => br_f t01 (br_t (by rw [n3]; decide) ⟨rfl, I⟩)) (fun z => absurd h z))
    · have hn2 : n < 60 := by omega
      refine br_f (by rw [n2]; exact nI_ge (b := 60) hn2 (by omega)) ?_
      refine e_X0_append a μ _ ⟨by rw [n2]; exact vp_in_nI hn2 (by omega), ?_⟩
      rw [n2, nI_cl (by omega), nI_1]
      refine readText_s (n := n + 1) (t := upd (μ 43) n a) ⟨by omega, rfl, fun i hi => ?_⟩ (fun μ1 f1 f2 f3 => ?_)
      · show upd (μ 14) n a i = upd (μ 43) n a i
        by_cases e : i = n
        · subst e; rw [upd_s, upd_s]
        · rw [upd_n e, upd_n e]; exact n4 i (by omega)
      · have f2 : μ1 13 4 = nI (n + 1) := f2
        rw [f2]
        have g40 : μ1 40 = μ 40 := f1 40 (by omega) (by omega) (by omega) (by omega)
        have g43 : μ1 43 = μ 43 := f1 43 (by omega) (by omega) (by omega) (by omega)
        have g14 : μ1 14 = upd (μ 14) n a := f1 14 (by omega) (by omega) (by omega) (by omega)
        refine e_X10_type a μ1 _ (in_s (fun _ => br_f t01 ?_) (fun z => absurd h z))
        rw [g40, n3, nI_1, nI_cl (by omega)]
        refine br_f (fun z => hf ((nI_eq (by omega) (by omega)).mp z)) ⟨vp_in_nI hn2 (by omega), rfl, ?_⟩
        refine Inv_tx I (fun b x1 x2 x3 => ?_) (fun j hj => by rw [up_n hj, up_pl (by omega), g40]) ⟨n + 1, by omega, ?_, up_s, fun i hi => ?_, ?_⟩
        · rw [up_pl x2, up_pl x3, f1 b (by omega) (by omega) (by omega) (by omega), up_pl (by omega), up_pl (by omega)]
        · rw [up_pl (by omega), up_pl (by omega)]; exact f2
        · rw [up_pl (by omega), up_pl (by omega), g14, up_pl (b := 43) (by omega), up_f, g43]
          by_cases e : i = n
          · subst e; rw [upd_s, upd_s]
          · rw [upd_n e, upd_n e]; exact n4 i (by omega)
        · rw [up_pl (b := 43) (by omega), up_f, g43, up_pl (b := 13) (by omega), up_pl (b := 13) (by omega), up_pl (b := 15) (by omega), up_pl (b := 15) (by omega), up_pl (b := 16) (by omega), up_pl (b := 16) (by omega), up_pl (b := 17) (by omega), up_pl (b := 17) (by omega)]
          exact f3
  · exact e_X10_type a _ _ (in_s (fun z => absurd z h) (fun _ => br_t rfl ⟨rfl, I⟩))
theorem L_repeal {μ : sv_Mem} (I : Inv μ) : Both m_X9_repeal m_X10_repeal [] μ := by
  obtain ⟨n, n1, n2, n3, n4, n5⟩ := id I.2.2.1
  refine e_X9_repeal μ _ (e_X0_clear μ _ (readText_s (n := 0) (t := μ 43) ⟨by omega, rfl, fun i hi => by omega⟩ (fun μ1 f1 f2 f3 => ?_)))
  have g40 : μ1 40 = μ 40 := f1 40 (by omega) (by omega) (by omega) (by omega)
  have g43 : μ1 43 = μ 43 := f1 43 (by omega) (by omega) (by omega) (by omega)
  refine e_X10_repeal μ1 _ ⟨by rw [g40, n2, n3], ?_⟩
  refine Inv_tx I (fun b x1 x2 x3 => ?_) (fun j hj => by rw [up_n hj, g40]) ⟨0, by omega, ?_, up_s, fun i hi => by omega, ?_⟩
  · rw [up_pl x2, f1 b (by omega) (by omega) (by omega) (by omega), up_pl (by omega)]
  · rw [up_pl (by omega), f2]; rfl
  · rw [up_pl (b := 43) (by omega), g43, up_pl (b := 13) (by omega), up_pl (b := 15) (by omega), up_pl (b := 16) (by omega), up_pl (b := 17) (by omega)]
    exact f3
theorem L_fault {μ : sv_Mem} (I : Inv μ) : Both m_X9_fault m_X10_fault [] μ := by
  refine e_X9_fault μ _ (e_X10_fault μ _ (readI_s I (fun μ' f I' R => ⟨?_, I'⟩)))
  have e13 : μ' 13 = μ 13 := f.1 13 (by omega) (by omega) (by omega) (by omega)
  rw [← e13]
  rcases R with ⟨a1, a2, a3⟩ | ⟨R, a1, a2, a3, a4, a5, a6, a7⟩
  · exact a2.symm
  · rw [a5, a6]
/-- the same refusal in both; where there is none, the round's number and what is told of it -/
theorem refusal_c (a : Int32) {μ : sv_Mem} (I : Inv μ) : ∃ f : Int32, (∀ K : Int32 → sv_Mem → Prop, K f μ → sv_cI m_X9_refusalOfRound [.ref 0, .int a] μ K) ∧
    (∀ (μ1 : sv_Mem) (K : Int32 → sv_Mem → Prop), Scr μ μ1 → (∀ μ', FR μ1 μ' → Inv μ' → (f = 0 → RD μ') → K f μ') → (¬ rg a 0 3 → K f μ1) → sv_cI m_X10_refuses [.ref 40, .int a] μ1 K) ∧ (¬ rg a 0 3 → f = -2) ∧
    ((f = 0 ∧ ∃ r R, r < R ∧ R ≤ 4 ∧ a = nI r ∧ μ 13 5 = nI R) ∨ ¬ f = 0) := by
  by_cases h : rg a 0 3
  · obtain ⟨r, hr, ea⟩ := rg_nat (n := 3) rfl h
    subst ea
    obtain ⟨n, n1, n2, n3, n4, n5⟩ := id I.2.2.1
    generalize hP : pT (μ 43) n = P at n5
    have ref : ∀ (f : Int32) (μ1 : sv_Mem) (K : Int32 → sv_Mem → Prop), Scr μ μ1 → (∀ μ', FR μ1 μ' → Inv μ' → (f = 0 → RD μ') → K f μ') → (∀ μ', FR μ1 μ' → Inv μ' → RD μ' → μ' 13 5 = μ 13 5 → (μ' 40 11 = -1 → (nI r < μ' 40 6 → K 0 μ') ∧ (¬ nI r < μ' 40 6 → K (-2) μ')) ∧ (¬ μ' 40 11 = -1 → K (-3) μ')) → sv_cI m_X10_refuses [.ref 40, .int (nI r)] μ1 K := fun f μ1 K S k1 k2 =>
      e_X10_refuses _ μ1 K (in_s (fun _ => br_f t01 (readI_s (Inv_scr I S) (fun μ' g I' R => k2 μ' g I' R (by rw [g.1 13 (by omega) (by omega) (by omega) (by omega), S.2.1 5 (by omega) (by omega)])))) (fun z => absurd h z))
    cases P with
    | inl q =>
      obtain ⟨a1, a2, a3⟩ := n5
      refine ⟨-3, fun K k => e_X9_refusalOfRound _ μ K (isRound_s (fun _ => br_f t01 (br_t a3 k)) (fun z => absurd h z)), fun μ1 K S k1 _ => ref (-3) μ1 K S k1 (fun μ' g I' R e => ?_), fun z => absurd h z, Or.inr (by decide)⟩
      rcases R with ⟨b1, b2, b3⟩ | ⟨R, b1, b2, b3, b4, b5, b6, b7⟩
      · exact br_f b3 (k1 μ' g I' (fun z => absurd z (by decide)))
      · exfalso
        rw [e, a3] at b3
        have := (nI_eq (a := 0) (by omega) (by omega)).mp b3
        omega
    | inr L =>
      obtain ⟨a1, a2, a3, a4, a5⟩ := n5
      have nz : ¬ μ 13 5 = 0 := by rw [a2]; exact nI_ne0 (by omega) (by omega)
      by_cases hl : r < L.length
      · refine ⟨0, fun K k => e_X9_refusalOfRound _ μ K (isRound_s (fun _ => br_f t01 (br_f nz (br_f (by rw [a2]; exact nI_ge hl (by omega)) k))) (fun z => absurd h z)), fun μ1 K S k1 _ => ref 0 μ1 K S k1 (fun μ' g I' R e => ?_), fun z => absurd h z, Or.inl ⟨rfl, r, L.length, hl, a4, rfl, a2⟩⟩
        have kk := k1 μ' g I' (fun _ => R)
        rcases R with ⟨b1, b2, b3⟩ | ⟨R, b1, b2, b3, b4, b5, b6, b7⟩
        · exact absurd (e.symm.trans b1) nz
        · have eR : R = L.length := (nI_eq (by omega) (by omega)).mp (b3.symm.trans (e.trans a2))
          refine br_t b5 (br_t ?_ kk)
          rw [b4, eR]; exact nI_lt hl (by omega)
      · refine ⟨-2, fun K k => e_X9_refusalOfRound _ μ K (isRound_s (fun _ => br_f t01 (br_f nz (br_t (by rw [a2]; exact nI_le (by omega) (by omega)) k))) (fun z => absurd h z)), fun μ1 K S k1 _ => ref (-2) μ1 K S k1 (fun μ' g I' R e => ?_), fun z => absurd h z, Or.inr (by decide)⟩
        rcases R with ⟨b1, b2, b3⟩ | ⟨R, b1, b2, b3, b4, b5, b6, b7⟩
        · exact absurd (e.symm.trans b1) nz
        · have eR : R = L.length := (nI_eq (by omega) (by omega)).mp (b3.symm.trans (e.trans a2))
          refine br_t b5 (br_f ?_ (k1 μ' g I' (fun z => absurd z (by decide))))
          rw [b4, eR]; exact nI_nlt (by omega) (by omega)
  · exact ⟨-2, fun K k => e_X9_refusalOfRound _ μ K (isRound_s (fun z => absurd z h) (fun _ => br_t rfl k)), fun μ1 K S _ k2 => e_X10_refuses _ μ1 K (in_s (fun z => absurd z h) (fun _ => br_t rfl (k2 h))), fun _ => rfl, Or.inr (by decide)⟩
theorem L_law (a b : Int32) {μ : sv_Mem} (I : Inv μ) : Both m_X9_law m_X10_law [.int a, .int b] μ := by
  refine e_X9_law a b μ _ (within_s (fun h => br_f t01 ?_) (fun h => br_t rfl ?_))
  · obtain ⟨f, c1, c2, c3, c4⟩ := refusal_c a I
    refine c1 _ ?_
    rcases c4 with ⟨rfl, r, R, hr, hR, rfl, e5⟩ | hf
    · have v : vp_in (nI r) 4 := vp_in_nI (by omega) (by omega)
      have fin : ∀ x : Int32, (x = (if b = 0 then μ 15 r else if b = 1 then μ 16 r else μ 17 r)) → sv_cI m_X10_law [.ref 40, .int (nI r), .int b] μ (fun r' μ2 => x = r' ∧ Inv μ2) := by
        intro x hx
        refine e_X10_law _ b μ _ (in_s (fun _ => br_f t01 (c2 μ _ Scr.rf (fun μ' g I' rd => br_t rfl ?_) (fun z => absurd (rg_of (n := 4) (by omega) (by omega)) z))) (fun z => absurd h z))
        have rd := rd rfl
        have e13 : μ' 13 = μ 13 := g.1 13 (by omega) (by omega) (by omega) (by omega)
        rcases rd with ⟨b1, b2, b3⟩ | ⟨R', b1, b2, b3, b4, b5, b6, b7⟩
        · exfalso
          rw [e13, e5] at b1
          exact nI_ne0 (by omega) (by omega) b1
        · have eR : R' = R := (nI_eq (by omega) (by omega)).mp (b3.symm.trans (by rw [e13]; exact e5))
          subst eR
          have q := b7 r hr
          rw [g.1 15 (by omega) (by omega) (by omega) (by omega), g.1 16 (by omega) (by omega) (by omega) (by omega), g.1 17 (by omega) (by omega) (by omega) (by omega)] at q
          rw [nI_cl (by omega)]
          refine br_c (fun z => ⟨v, ?_, I'⟩) (fun z => br_c (fun y => ⟨v, ?_, I'⟩) (fun y => ⟨v, ?_, I'⟩))
          · rw [hx, if_pos z, q.1]
          · rw [hx, if_neg z, if_pos y, q.2.1]
          · rw [hx, if_neg z, if_neg y, q.2.2.1]
      refine br_t rfl ?_
      rw [nI_cl (by omega)]
      refine br_c (fun z => ⟨v, fin _ (by rw [if_pos z])⟩) (fun z => br_c (fun y => ⟨v, fin _ (by rw [if_neg z, if_pos y])⟩) (fun y => ⟨v, fin _ (by rw [if_neg z, if_neg y])⟩))
    · refine br_f hf (e_X10_law a b μ _ (in_s (fun _ => br_f t01 (c2 μ _ Scr.rf (fun μ' g I' _ => br_f hf ⟨rfl, I'⟩) (fun _ => br_f hf ⟨rfl, I⟩))) (fun z => absurd h z)))
  · exact e_X10_law a b _ _ (in_s (fun z => absurd z h) (fun _ => br_t rfl ⟨rfl, I⟩))
/-- count: the class answers at once; the reference may read first -/
def cntV (μ : sv_Mem) (a : Int32) : Int32 := if a = 0 then μ 9 4 else if a = 1 then μ 9 5 else if a = 2 then μ 13 4 else if a = 3 then μ 13 5 else if a = 4 then μ 25 3 else if a = 5 then μ 35 3 else if a = 6 then μ 1 3 else -2
theorem count_s {μ : sv_Mem} {K : Int32 → sv_Mem → Prop} {a : Int32} (h : K (cntV μ a) μ) : sv_cI m_X9_count [.ref 0, .int a] μ K := by
  unfold cntV at h
  refine e_X9_count a μ K (br_c (fun z => ?_) (fun z0 => br_c (fun z => ?_) (fun z1 => br_c (fun z => ?_) (fun z2 => br_c (fun z => ?_) (fun z3 => br_c (fun z => ?_) (fun z4 => br_c (fun z => ?_) (fun z5 => br_c (fun z => ?_) (fun z6 => ?_))))))))
  · rw [if_pos z] at h; exact h
  · rw [if_neg z0, if_pos z] at h; exact h
  · rw [if_neg z0, if_neg z1, if_pos z] at h; exact h
  · rw [if_neg z0, if_neg z1, if_neg z2, if_pos z] at h; exact h
  · rw [if_neg z0, if_neg z1, if_neg z2, if_neg z3, if_pos z] at h; exact h
  · rw [if_neg z0, if_neg z1, if_neg z2, if_neg z3, if_neg z4, if_pos z] at h; exact h
  · rw [if_neg z0, if_neg z1, if_neg z2, if_neg z3, if_neg z4, if_neg z5, if_pos z] at h; exact h
  · rw [if_neg z0, if_neg z1, if_neg z2, if_neg z3, if_neg z4, if_neg z5, if_neg z6] at h; exact h
theorem FR.rf {μ : sv_Mem} : FR μ μ := ⟨fun _ _ _ _ _ => rfl, fun _ _ _ _ => rfl⟩
theorem countM_s {μ : sv_Mem} {K : Int32 → sv_Mem → Prop} {a : Int32} (I : Inv μ) (h : ∀ μ', FR μ μ' → Inv μ' → K (cntV μ a) μ') : sv_cI m_X10_count [.ref 40, .int a] μ K := by
  obtain ⟨n, -, n1, n2, -⟩ := I.1
  obtain ⟨j, -, -, j1, j2⟩ := I.2.1
  obtain ⟨l, -, l1, l2, -⟩ := I.2.2.1
  obtain ⟨t, -, t1, t2, -⟩ := tr_get I
  obtain ⟨k, -, k1, k2, -⟩ := I.2.2.2.2.2.1
  have i8 := I.2.2.2.2.2.2.2
  have h0 := h μ FR.rf I
  unfold cntV at h h0
  refine e_X10_count a μ K (br_c (fun z => ?_) (fun z0 => br_c (fun z => ?_) (fun z1 => br_c (fun z => ?_) (fun z2 => br_c (fun z => ?_) (fun z3 => br_c (fun z => ?_) (fun z4 => br_c (fun z => ?_) (fun z5 => br_c (fun z => ?_) (fun z6 => ?_))))))))
  · rw [if_pos z, n1, ← n2] at h0; exact h0
  · rw [if_neg z0, if_pos z, j1, ← j2] at h0; exact h0
  · rw [if_neg z0, if_neg z1, if_pos z, l1, ← l2] at h0; exact h0
  · refine readI_s I (fun μ' f I' R => ?_)
    have hh := h μ' f I'
    rw [if_neg z0, if_neg z1, if_neg z2, if_pos z] at hh
    have e13 : μ' 13 = μ 13 := f.1 13 (by omega) (by omega) (by omega) (by omega)
    rcases R with ⟨b1, b2, b3⟩ | ⟨R, b1, b2, b3, b4, b5, b6, b7⟩
    · rw [← e13, b1] at hh
      exact br_f b3 hh
    · rw [← e13, b3, ← b4] at hh
      exact br_t b5 hh
  · rw [if_neg z0, if_neg z1, if_neg z2, if_neg z3, if_pos z, t1, ← t2] at h0; exact h0
  · rw [if_neg z0, if_neg z1, if_neg z2, if_neg z3, if_neg z4, if_pos z, k1, ← k2] at h0; exact h0
  · rw [if_neg z0, if_neg z1, if_neg z2, if_neg z3, if_neg z4, if_neg z5, if_pos z, i8] at h0; exact h0
  · rw [if_neg z0, if_neg z1, if_neg z2, if_neg z3, if_neg z4, if_neg z5, if_neg z6] at h0; exact h0
theorem L_count (a : Int32) {μ : sv_Mem} (I : Inv μ) : Both m_X9_count m_X10_count [.int a] μ := count_s (countM_s I (fun _ _ I' => ⟨rfl, I'⟩))

/-! ===== the reference reads the bylaw ===== -/
theorem pn_le {t : Nat → Int32} {n : Nat} : ∀ (f k : Nat) (v : Int32), k ≤ n → (pn t n f k v).2 ≤ n
  | 0, k, v, h => h
  | f + 1, k, v, h => by
    unfold pn
    by_cases e : 48 ≤ pB t n k ∧ pB t n k ≤ 57
    · rw [if_pos e]
      refine pn_le f (k + 1) _ ?_
      rcases Nat.lt_or_ge k n with q | q
      · omega
      · exfalso
        have := e.1
        unfold pB at this
        rw [if_neg (by omega)] at this
        exact absurd this (by decide)
    · rw [if_neg e]; exact h
theorem pn_ub {t : Nat → Int32} {n : Nat} : ∀ (f k : Nat) (v : Int32), (pn t n f k v).2 ≤ k + f ∧ k ≤ (pn t n f k v).2
  | 0, k, v => ⟨Nat.le_refl _, Nat.le_refl _⟩
  | f + 1, k, v => by
    unfold pn
    by_cases e : 48 ≤ pB t n k ∧ pB t n k ≤ 57
    · rw [if_pos e]
      have := pn_ub f (k + 1) (10 * v + pB t n k - 48) (t := t) (n := n)
      omega
    · rw [if_neg e]; exact ⟨by omega, by omega⟩
theorem byteAt_s {μ : sv_Mem} {K : Int32 → sv_Mem → Prop} {n c : Nat} (hn : n ≤ 60) (he : μ 40 4 = nI n) (hc : c < 1000) (h : K (pB (μ 43) n c) μ) : sv_cI m_X10_byteAt [.ref 40, .int (nI c)] μ K := by
  refine e_X10_byteAt _ μ K ?_
  rw [he]
  unfold pB at h
  rcases Nat.lt_or_ge c n with q | q
  · rw [if_pos q] at h
    refine br_f (nI_ge q (by omega)) ⟨vp_in_nI (by omega) (by omega), ?_⟩
    rw [nI_cl (by omega)]
    exact h
  · rw [if_neg (by omega)] at h
    exact br_t (nI_le q (by omega)) h
/-- the fault behind a test at c -/
noncomputable def fx (f : Int32) (bad : Prop) (c : Nat) : Int32 := @ite _ (f = -1 ∧ bad) (Classical.propDecidable _) (nI c) f
theorem fx_no {f : Int32} {bad : Prop} {c : Nat} (h : ¬ bad) : fx f bad c = f := if_neg (fun q => h q.2)
theorem fx_f {f : Int32} {bad : Prop} {c : Nat} (h : ¬ f = -1) : fx f bad c = f := if_neg (fun q => h q.1)
theorem fx_y {f : Int32} {bad : Prop} {c : Nat} (e : f = -1) (h : bad) : fx f bad c = nI c := if_pos ⟨e, h⟩
theorem nI_m1 {c : Nat} (h : c < 2 ^ 31) : ¬ nI c = -1 := fun e => by
  have := congrArg Int32.toInt e
  rw [nI_toInt h] at this
  have e2 : (-1 : Int32).toInt = -1 := by decide
  omega
/-- what reading leaves alone -/
def FR (μ μ' : sv_Mem) : Prop := (∀ b, b ≠ 40 → b ≠ 44 → b ≠ 45 → b ≠ 46 → μ' b = μ b) ∧ ∀ j, j ≠ 6 → j ≠ 10 → j ≠ 11 → μ' 40 j = μ 40 j
theorem FR.tr {μ μ' μ'' : sv_Mem} (h : FR μ μ') (g : FR μ' μ'') : FR μ μ'' := ⟨fun b a c d e => (g.1 b a c d e).trans (h.1 b a c d e), fun j a b c => (g.2 j a b c).trans (h.2 j a b c)⟩
theorem FR.scr {μ μ' : sv_Mem} (h : FR μ μ') : Scr μ μ' := ⟨fun b hb => by unfold scrP at hb; exact h.1 b (by omega) (by omega) (by omega) (by omega), fun j _ _ => by rw [h.1 13 (by omega) (by omega) (by omega) (by omega)], h.2⟩
theorem expect_s {μ : sv_Mem} {K : sv_Mem → Prop} {n c : Nat} {b : Int32} (hn : n ≤ 60) (he : μ 40 4 = nI n) (hc : c < 1000) (h10 : μ 40 10 = nI c) (h : ∀ μ', (∀ b, b ≠ 40 → μ' b = μ b) → (∀ j, j ≠ 10 → j ≠ 11 → μ' 40 j = μ 40 j) → μ' 40 10 = nI (c + 1) → μ' 40 11 = fx (μ 40 11) (¬ pB (μ 43) n c = b) c → K μ') : sv_cV m_X10_expect [.ref 40, .int b] μ K := by
  refine e_X10_expect b μ K ?_
  rw [h10, nI_1]
  refine br_c (fun e => byteAt_s hn he hc ?_) (fun e => ?_)
  · rw [h10, nI_1]
    refine br_c (fun g => ?_) (fun g => ?_)
    · exact h _ (fun b hb => up_pl hb) (fun j a _ => up_n a) up_s (by rw [up_n (by omega), fx_no (fun q => q g)])
    · exact h _ (fun b hb => by rw [up_pl hb, up_pl hb]) (fun j a d => by rw [up_n a, up_n d]) up_s (by rw [up_n (by omega), up_s, fx_y e g])
  · exact h _ (fun b hb => up_pl hb) (fun j a _ => up_n a) up_s (by rw [up_n (by omega), fx_f e])
theorem number_l {n c0 : Nat} {b : Int32} (hn : n ≤ 60) (hc0 : c0 < 500) {K : Int32 → sv_Mem → Prop} : ∀ (m c : Nat) (v : Int32) (μ : sv_Mem), c + m = c0 + 3 → c0 ≤ c → μ 40 4 = nI n → μ 40 10 = nI c → (c = c0 → v = 0) → (∀ μ', (∀ b, b ≠ 40 → μ' b = μ b) → (∀ j, j ≠ 10 → j ≠ 11 → μ' 40 j = μ 40 j) → μ' 40 10 = nI (pn (μ 43) n m c v).2 → μ' 40 11 = fx (μ 40 11) ((pn (μ 43) n m c v).1 < 1 ∨ b < (pn (μ 43) n m c v).1) c0 → K (pn (μ 43) n m c v).1 μ') → wp m_X10_number 7 [(0, .ref 40), (1, .int b), (2, .int (nI c0)), (3, .int v)] [] μ (sv_QI K) := by
  have stop : ∀ (c : Nat) (v : Int32) (μ : sv_Mem), c0 ≤ c → c ≤ c0 + 3 → μ 40 10 = nI c → (c = c0 → v = 0) → (∀ μ', (∀ b, b ≠ 40 → μ' b = μ b) → (∀ j, j ≠ 10 → j ≠ 11 → μ' 40 j = μ 40 j) → μ' 40 10 = nI c → μ' 40 11 = fx (μ 40 11) (v < 1 ∨ b < v) c0 → K v μ') → ((μ 40 11 = -1 → (μ 40 10 = nI c0 → K v (sv_up μ 40 11 (nI c0))) ∧ (¬ μ 40 10 = nI c0 → sv_cI m_X10_in [.int v, .int 1, .int b] μ (fun r2 μ1 => (r2 = 0 → K v (sv_up μ1 40 11 (nI c0))) ∧ (¬ r2 = 0 → K v μ1)))) ∧ (¬ μ 40 11 = -1 → K v μ)) := by
    intro c v μ ha hb h10 hv h
    refine br_c (fun e => br_c (fun g => ?_) (fun g => in_s (fun q => br_f t01 ?_) (fun q => br_t rfl ?_))) (fun e => ?_)
    · have hcc : c = c0 := (nI_eq (by omega) (by omega)).mp (h10.symm.trans g)
      refine h _ (fun b hb => up_pl hb) (fun j _ d => up_n d) (by rw [up_n (by omega)]; exact h10) ?_
      rw [up_s, fx_y e (Or.inl (by rw [hv hcc]; decide))]
    · exact h _ (fun _ _ => rfl) (fun _ _ _ => rfl) h10 (by rw [fx_no (fun z => z.elim q.1 q.2)])
    · refine h _ (fun b hb => up_pl hb) (fun j _ d => up_n d) (by rw [up_n (by omega)]; exact h10) ?_
      rw [up_s, fx_y e]
      by_cases z : v < 1
      · exact Or.inl z
      · refine Or.inr ?_
        by_cases y : b < v
        · exact y
        · exact absurd ⟨z, y⟩ q
    · exact h _ (fun _ _ => rfl) (fun _ _ _ => rfl) h10 (by rw [fx_f e])
  intro m
  induction m with
  | zero =>
    intro c v μ hcm c0c h4 h10 hv h
    refine g_X10_number_7 _ _ _ μ K (br_t ?_ (stop c v μ (by omega) (by omega) h10 hv h))
    rw [h10, show (3 : Int32) = nI 3 from rfl, nI_add]
    exact nI_le (by omega) (by omega)
  | succ m ih =>
    intro c v μ hcm c0c h4 h10 hv h
    refine g_X10_number_7 _ _ _ μ K (br_f ?_ ?_)
    · rw [h10, show (3 : Int32) = nI 3 from rfl, nI_add]
      exact nI_ge (by omega) (by omega)
    · rw [h10]
      refine byteAt_s hn h4 (by omega) ?_
      unfold pn at h
      refine br_c (fun z => ?_) (fun z => ?_)
      · rw [if_neg (fun q => absurd q.1 (Int32.not_le.mpr z))] at h
        have := stop c v μ c0c (by omega) h10 hv h
        rw [h10] at this
        rw [h10]
        exact this
      · rw [h10]
        refine byteAt_s hn h4 (by omega) (br_c (fun y => ?_) (fun y => ?_))
        · rw [if_neg (fun q => absurd q.2 (Int32.not_le.mpr y))] at h
          have := stop c v μ c0c (by omega) h10 hv h
          rw [h10] at this
          rw [h10]
          exact this
        · rw [if_pos ⟨Int32.not_lt.mp z, Int32.not_lt.mp y⟩] at h
          rw [h10]
          refine byteAt_s hn h4 (by omega) ?_
          rw [h10, nI_1]
          refine ih (c + 1) _ _ (by omega) (by omega) ?_ up_s (fun z => by omega) (fun μ' g1 g2 g3 g4 => ?_)
          · rw [up_n (by omega)]; exact h4
          · have e43 : sv_up μ 40 10 (nI (c + 1)) 43 = μ 43 := up_pl (by omega)
            rw [e43] at g3 g4 ⊢
            refine h μ' (fun b hb => by rw [g1 b hb, up_pl hb]) (fun j a d => by rw [g2 j a d, up_n a]) g3 ?_
            rw [g4, up_n (by omega)]
theorem number_s {μ : sv_Mem} {K : Int32 → sv_Mem → Prop} {n c : Nat} {b : Int32} (hn : n ≤ 60) (he : μ 40 4 = nI n) (hc : c < 500) (h10 : μ 40 10 = nI c) (h : ∀ μ', (∀ b, b ≠ 40 → μ' b = μ b) → (∀ j, j ≠ 10 → j ≠ 11 → μ' 40 j = μ 40 j) → μ' 40 10 = nI (pn (μ 43) n 3 c 0).2 → μ' 40 11 = fx (μ 40 11) ((pn (μ 43) n 3 c 0).1 < 1 ∨ b < (pn (μ 43) n 3 c 0).1) c → K (pn (μ 43) n 3 c 0).1 μ') : sv_cI m_X10_number [.ref 40, .int b] μ K := by
  refine e_X10_number b μ K ?_
  rw [h10]
  exact number_l hn hc 3 c 0 μ (by omega) (by omega) he h10 (fun _ => rfl) h
/-- the fault behind one round that begins at k with the fault f -/
noncomputable def rF (t : Nat → Int32) (n k : Nat) (f : Int32) : Int32 :=
  fx (fx (fx (fx (fx f (¬ pB t n k = 118) k) ((pn t n 3 (k + 1) 0).1 < 1 ∨ 100 < (pn t n 3 (k + 1) 0).1) (k + 1)) (¬ pB t n (pn t n 3 (k + 1) 0).2 = 97) (pn t n 3 (k + 1) 0).2) ((pn t n 3 ((pn t n 3 (k + 1) 0).2 + 1) 0).1 < 1 ∨ 24 < (pn t n 3 ((pn t n 3 (k + 1) 0).2 + 1) 0).1) ((pn t n 3 (k + 1) 0).2 + 1)) (¬ (pB t n (pn t n 3 ((pn t n 3 (k + 1) 0).2 + 1) 0).2 = 97 ∨ pB t n (pn t n 3 ((pn t n 3 (k + 1) 0).2 + 1) 0).2 = 110 ∨ pB t n (pn t n 3 ((pn t n 3 (k + 1) 0).2 + 1) 0).2 = 100 ∨ pB t n (pn t n 3 ((pn t n 3 (k + 1) 0).2 + 1) 0).2 = 115)) (pn t n 3 ((pn t n 3 (k + 1) 0).2 + 1) 0).2
theorem rF_e {t : Nat → Int32} {n k : Nat} (hk : k < 500) : (∃ q, pR t n k = .inl q ∧ rF t n k (-1) = nI q ∧ q < 510) ∨ (pR t n k = .inr ((pn t n 3 (k + 1) 0).1, (pn t n 3 ((pn t n 3 (k + 1) 0).2 + 1) 0).1, pB t n (pn t n 3 ((pn t n 3 (k + 1) 0).2 + 1) 0).2, (pn t n 3 ((pn t n 3 (k + 1) 0).2 + 1) 0).2 + 1) ∧ rF t n k (-1) = -1) := by
  have u1 := pn_ub 3 (k + 1) 0 (t := t) (n := n)
  have u2 := pn_ub 3 ((pn t n 3 (k + 1) 0).2 + 1) 0 (t := t) (n := n)
  unfold pR rF
  generalize pn t n 3 (k + 1) 0 = A at u1 u2 ⊢
  generalize pn t n 3 (A.2 + 1) 0 = B at u2 ⊢
  by_cases h1 : ¬ pB t n k = 118
  · rw [if_pos h1, fx_y rfl h1, fx_f (nI_m1 (by omega)), fx_f (nI_m1 (by omega)), fx_f (nI_m1 (by omega)), fx_f (nI_m1 (by omega))]
    exact Or.inl ⟨k, rfl, rfl, by omega⟩
  · rw [if_neg h1, fx_no h1]
    by_cases h2 : A.1 < 1 ∨ 100 < A.1
    · rw [if_pos h2, fx_y rfl h2, fx_f (nI_m1 (by omega)), fx_f (nI_m1 (by omega)), fx_f (nI_m1 (by omega))]
      exact Or.inl ⟨k + 1, rfl, rfl, by omega⟩
    · rw [if_neg h2, fx_no h2]
      by_cases h3 : ¬ pB t n A.2 = 97
      · rw [if_pos h3, fx_y rfl h3, fx_f (nI_m1 (by omega)), fx_f (nI_m1 (by omega))]
        exact Or.inl ⟨A.2, rfl, rfl, by omega⟩
      · rw [if_neg h3, fx_no h3]
        by_cases h4 : B.1 < 1 ∨ 24 < B.1
        · rw [if_pos h4, fx_y rfl h4, fx_f (nI_m1 (by omega))]
          exact Or.inl ⟨A.2 + 1, rfl, rfl, by omega⟩
        · rw [if_neg h4, fx_no h4]
          by_cases h5 : ¬ (pB t n B.2 = 97 ∨ pB t n B.2 = 110 ∨ pB t n B.2 = 100 ∨ pB t n B.2 = 115)
          · rw [if_pos h5, fx_y rfl h5]
            exact Or.inl ⟨B.2, rfl, rfl, by omega⟩
          · rw [if_neg h5, fx_no h5]
            exact Or.inr ⟨rfl, rfl⟩
/-- one round of the reference's reading, up to its letter -/
theorem readM_round {μ : sv_Mem} {K : sv_Mem → Prop} {n c r : Nat} {x : Int32} (hn : n ≤ 60) (he : μ 40 4 = nI n) (hc : c < 400) (hr : r < 4) (h10 : μ 40 10 = nI c) (h11 : μ 40 11 = -1) (h6 : μ 40 6 = nI r)
    (h : ∀ μ' b, FR μ μ' → μ' 40 6 = nI r → b = pB (μ 43) n (pn (μ 43) n 3 ((pn (μ 43) n 3 (c + 1) 0).2 + 1) 0).2 → μ' 40 10 = nI (pn (μ 43) n 3 ((pn (μ 43) n 3 (c + 1) 0).2 + 1) 0).2 → μ' 40 11 = rF (μ 43) n c (-1) → μ' 44 r = (pn (μ 43) n 3 (c + 1) 0).1 → μ' 45 r = (pn (μ 43) n 3 ((pn (μ 43) n 3 (c + 1) 0).2 + 1) 0).1 → (∀ i, i < r → μ' 44 i = μ 44 i ∧ μ' 45 i = μ 45 i ∧ μ' 46 i = μ 46 i) → wp m_X10_read 141 [(0, .ref 40), (1, .int x), (2, .int b)] [] μ' (sv_QV K)) :
    sv_cV m_X10_expect [.ref 40, .int 118] μ (fun μ1 => sv_cI m_X10_number [.ref 40, .int 100] μ1 (fun r3 μ2 => vp_in (μ1 40 6) 4 ∧ wp m_X10_read 71 [(0, .ref 40), (1, .int x)] [] (sv_up μ2 44 (Int32.toNatClampNeg (μ1 40 6)) r3) (sv_QV K))) := by
  have u1 := pn_ub 3 (c + 1) 0 (t := μ 43) (n := n)
  have u2 := pn_ub 3 ((pn (μ 43) n 3 (c + 1) 0).2 + 1) 0 (t := μ 43) (n := n)
  refine expect_s hn he (by omega) h10 (fun μ1 a1 a2 a3 a4 => ?_)
  have b43 : μ1 43 = μ 43 := a1 43 (by omega)
  refine number_s hn ((a2 4 (by omega) (by omega)).trans he) (by omega) a3 (fun μ2 c1 c2 c3 c4 => ?_)
  rw [b43] at c3 c4 ⊢
  have e6 : μ1 40 6 = nI r := (a2 6 (by omega) (by omega)).trans h6
  rw [e6, nI_cl (by omega)]
  refine ⟨vp_in_nI hr (by omega), ?_⟩
  refine g_X10_read_71 x _ K ?_
  have d10 : sv_up μ2 44 r (pn (μ 43) n 3 (c + 1) 0).1 40 = μ2 40 := up_pl (by omega)
  have d43 : sv_up μ2 44 r (pn (μ 43) n 3 (c + 1) 0).1 43 = μ 43 := by rw [up_pl (by omega), c1 43 (by omega), b43]
  refine expect_s hn (c := (pn (μ 43) n 3 (c + 1) 0).2) ?_ (by omega) (by rw [d10]; exact c3) (fun μ3 f1 f2 f3 f4 => ?_)
  · rw [d10, c2 4 (by omega) (by omega), a2 4 (by omega) (by omega)]; exact he
  rw [d43, d10] at f4
  have g43 : μ3 43 = μ 43 := by rw [f1 43 (by omega), d43]
  have g4 : μ3 40 4 = nI n := by rw [f2 4 (by omega) (by omega), d10, c2 4 (by omega) (by omega), a2 4 (by omega) (by omega)]; exact he
  refine number_s hn g4 (by omega) f3 (fun μ4 k1 k2 k3 k4 => ?_)
  rw [g43] at k3 k4 ⊢
  have g6 : μ3 40 6 = nI r := by rw [f2 6 (by omega) (by omega), d10, c2 6 (by omega) (by omega)]; exact e6
  rw [g6, nI_cl (by omega)]
  refine ⟨vp_in_nI hr (by omega), ?_⟩
  have hfr : FR μ (sv_up μ4 45 r (pn (μ 43) n 3 ((pn (μ 43) n 3 (c + 1) 0).2 + 1) 0).1) := by
    refine ⟨fun b x1 x2 x3 x4 => ?_, fun j x1 x2 x3 => ?_⟩
    · rw [up_pl x3, k1 b x1, f1 b x1, up_pl x2, c1 b x1, a1 b x1]
    · rw [up_pl (by omega), k2 j x2 x3, f2 j x2 x3, d10, c2 j x2 x3, a2 j x2 x3]
  have l40 : sv_up μ4 45 r (pn (μ 43) n 3 ((pn (μ 43) n 3 (c + 1) 0).2 + 1) 0).1 40 = μ4 40 := up_pl (by omega)
  have l43 : sv_up μ4 45 r (pn (μ 43) n 3 ((pn (μ 43) n 3 (c + 1) 0).2 + 1) 0).1 43 = μ 43 := hfr.1 43 (by omega) (by omega) (by omega) (by omega)
  have l4 : sv_up μ4 45 r (pn (μ 43) n 3 ((pn (μ 43) n 3 (c + 1) 0).2 + 1) 0).1 40 4 = nI n := (hfr.2 4 (by omega) (by omega) (by omega)).trans he
  refine g_X10_read_92 x _ K ?_
  rw [l40, k3]
  refine byteAt_s hn l4 (by omega) ?_
  rw [l43, l40]
  have t44 : μ4 44 r = (pn (μ 43) n 3 (c + 1) 0).1 := by rw [k1 44 (by omega), f1 44 (by omega), up_s]
  have hold : ∀ i, i < r → μ4 44 i = μ 44 i ∧ μ4 45 i = μ 45 i ∧ μ4 46 i = μ 46 i := fun i hi => by
    refine ⟨?_, ?_, ?_⟩
    · rw [k1 44 (by omega), f1 44 (by omega), up_n (by omega), c1 44 (by omega), a1 44 (by omega)]
    · rw [k1 45 (by omega), f1 45 (by omega), up_pl (by omega), c1 45 (by omega), a1 45 (by omega)]
    · rw [k1 46 (by omega), f1 46 (by omega), up_pl (by omega), c1 46 (by omega), a1 46 (by omega)]
  have hold2 : ∀ i, i < r → sv_up μ4 45 r (pn (μ 43) n 3 ((pn (μ 43) n 3 (c + 1) 0).2 + 1) 0).1 44 i = μ 44 i ∧ sv_up μ4 45 r (pn (μ 43) n 3 ((pn (μ 43) n 3 (c + 1) 0).2 + 1) 0).1 45 i = μ 45 i ∧ sv_up μ4 45 r (pn (μ 43) n 3 ((pn (μ 43) n 3 (c + 1) 0).2 + 1) 0).1 46 i = μ 46 i := fun i hi => ⟨by rw [up_pl (by omega)]; exact (hold i hi).1, by rw [up_n (by omega)]; exact (hold i hi).2.1, by rw [up_pl (by omega)]; exact (hold i hi).2.2⟩
  -- the fault so far
  have fl : μ4 40 11 = fx (fx (fx (fx (-1) (¬ pB (μ 43) n c = 118) c) ((pn (μ 43) n 3 (c + 1) 0).1 < 1 ∨ 100 < (pn (μ 43) n 3 (c + 1) 0).1) (c + 1)) (¬ pB (μ 43) n (pn (μ 43) n 3 (c + 1) 0).2 = 97) (pn (μ 43) n 3 (c + 1) 0).2) ((pn (μ 43) n 3 ((pn (μ 43) n 3 (c + 1) 0).2 + 1) 0).1 < 1 ∨ 24 < (pn (μ 43) n 3 ((pn (μ 43) n 3 (c + 1) 0).2 + 1) 0).1) ((pn (μ 43) n 3 (c + 1) 0).2 + 1) := by rw [k4, f4, c4, a4, h11]
  have rf : rF (μ 43) n c (-1) = fx (μ4 40 11) (¬ (pB (μ 43) n (pn (μ 43) n 3 ((pn (μ 43) n 3 (c + 1) 0).2 + 1) 0).2 = 97 ∨ pB (μ 43) n (pn (μ 43) n 3 ((pn (μ 43) n 3 (c + 1) 0).2 + 1) 0).2 = 110 ∨ pB (μ 43) n (pn (μ 43) n 3 ((pn (μ 43) n 3 (c + 1) 0).2 + 1) 0).2 = 100 ∨ pB (μ 43) n (pn (μ 43) n 3 ((pn (μ 43) n 3 (c + 1) 0).2 + 1) 0).2 = 115)) (pn (μ 43) n 3 ((pn (μ 43) n 3 (c + 1) 0).2 + 1) 0).2 := by rw [fl]; rfl
  have w6 : μ4 40 6 = nI r := (k2 6 (by omega) (by omega)).trans g6
  have same : ((pB (μ 43) n (pn (μ 43) n 3 ((pn (μ 43) n 3 (c + 1) 0).2 + 1) 0).2 = 97 ∨ pB (μ 43) n (pn (μ 43) n 3 ((pn (μ 43) n 3 (c + 1) 0).2 + 1) 0).2 = 110 ∨ pB (μ 43) n (pn (μ 43) n 3 ((pn (μ 43) n 3 (c + 1) 0).2 + 1) 0).2 = 100 ∨ pB (μ 43) n (pn (μ 43) n 3 ((pn (μ 43) n 3 (c + 1) 0).2 + 1) 0).2 = 115) ∨ ¬ μ4 40 11 = -1) → wp m_X10_read 141 [(0, .ref 40), (1, .int x), (2, .int (pB (μ 43) n (pn (μ 43) n 3 ((pn (μ 43) n 3 (c + 1) 0).2 + 1) 0).2))] [] (sv_up μ4 45 r (pn (μ 43) n 3 ((pn (μ 43) n 3 (c + 1) 0).2 + 1) 0).1) (sv_QV K) := fun q => by
    refine h _ _ hfr (by rw [l40]; exact w6) rfl (by rw [l40]; exact k3) ?_ (by rw [up_pl (by omega)]; exact t44) up_s hold2
    rw [l40, rf]
    rcases q with q | q
    · rw [fx_no (fun z => z q)]
    · rw [fx_f q]
  refine br_c (fun e => br_c (fun q => same (Or.inl (Or.inl q))) (fun q1 => br_c (fun q => same (Or.inl (Or.inr (Or.inl q)))) (fun q2 => br_c (fun q => same (Or.inl (Or.inr (Or.inr (Or.inl q))))) (fun q3 => br_c (fun q => same (Or.inl (Or.inr (Or.inr (Or.inr q))))) (fun q4 => ?_))))) (fun e => same (Or.inr e))
  rw [k3]
  refine h _ _ ⟨fun b x1 x2 x3 x4 => by rw [up_pl x1]; exact hfr.1 b x1 x2 x3 x4, fun j x1 x2 x3 => by rw [up_n x3]; exact hfr.2 j x1 x2 x3⟩ (by rw [up_n (by omega), l40]; exact w6) rfl (by rw [up_n (by omega), l40]; exact k3) ?_ (by rw [up_pl (by omega), up_pl (by omega)]; exact t44) (by rw [up_pl (by omega), up_s]) (fun i hi => ?_)
  · rw [up_s, rf, fx_y e (fun z => by rcases z with z | z | z | z; exact q1 z; exact q2 z; exact q3 z; exact q4 z)]
  · rw [up_pl (by omega), up_pl (b := 45) (by omega), up_pl (b := 46) (by omega)]
    exact hold2 i hi

/-! ===== the class reads the bylaw ===== -/
def cTx (μ : sv_Mem) (n : Nat) (t : Nat → Int32) : Prop := n ≤ 60 ∧ μ 13 4 = nI n ∧ ∀ i, i < n → μ 14 i = t i
theorem pB_in {t : Nat → Int32} {n k : Nat} (h : k < n) : pB t n k = t k := if_pos h
theorem pB_out {t : Nat → Int32} {n k : Nat} (h : n ≤ k) : pB t n k = -1 := if_neg (by omega)
theorem readByte_s {μ : sv_Mem} {K : Int32 → sv_Mem → Prop} {n c : Nat} {t : Nat → Int32} {b : Int32} (T : cTx μ n t) (hc : c < 1000) (h7 : μ 13 7 = nI c) (hb : ¬ (-1 : Int32) = b) (h1 : pB t n c = b → K 1 (sv_up μ 13 7 (nI (c + 1)))) (h0 : ¬ pB t n c = b → K 0 μ) : sv_cI m_X0_readByte [.ref 13, .int b] μ K := by
  obtain ⟨hn, h4, ht⟩ := T
  refine e_X0_readByte b μ K ?_
  rw [h4, h7, nI_1]
  rcases Nat.lt_or_ge c n with q | q
  · rw [pB_in q] at h1 h0
    refine br_f (nI_ge q (by omega)) ⟨vp_in_nI (by omega) (by omega), ?_⟩
    rw [nI_cl (by omega), ht c q]
    exact br_c (fun e => ⟨zb1, h1 e⟩) (fun e => ⟨zb0, h0 e⟩)
  · rw [pB_out q] at h0
    exact br_t (nI_le q (by omega)) ⟨zb0, h0 hb⟩
theorem isFigure_s {μ : sv_Mem} {K : Int32 → sv_Mem → Prop} {n c : Nat} {t : Nat → Int32} (T : cTx μ n t) (hc : c < 1000) (h1 : 48 ≤ pB t n c ∧ pB t n c ≤ 57 → c < n → K 1 μ) (h0 : ¬ (48 ≤ pB t n c ∧ pB t n c ≤ 57) → K 0 μ) : sv_cI m_X0_isFigure [.ref 13, .int (nI c)] μ K := by
  obtain ⟨hn, h4, ht⟩ := T
  refine e_X0_isFigure _ μ K ?_
  rw [h4]
  rcases Nat.lt_or_ge c n with q | q
  · rw [pB_in q] at h1 h0
    have v := vp_in_nI (n := c) (N := 60) (by omega) (by omega)
    refine br_f (nI_ge q (by omega)) ⟨v, ?_⟩
    rw [nI_cl (by omega), ht c q]
    exact br_c (fun e => ⟨zb0, h0 (fun z => absurd z.1 (Int32.not_le.mpr e))⟩) (fun e => ⟨v, br_c (fun g => ⟨zb0, h0 (fun z => absurd z.2 (Int32.not_le.mpr g))⟩) (fun g => ⟨zb1, h1 ⟨Int32.not_lt.mp e, Int32.not_lt.mp g⟩ q⟩)⟩)
  · rw [pB_out q] at h0
    exact br_t (nI_le q (by omega)) ⟨zb0, h0 (by decide)⟩
theorem readNumber_l {n : Nat} {t : Nat → Int32} {b : Int32} {K : Int32 → sv_Mem → Prop} : ∀ (m e : Nat) (μ : sv_Mem), m ≤ 3 → e < 900 → cTx μ n t →
    (∀ μ', (∀ b, b ≠ 13 → μ' b = μ b) → (∀ j, j ≠ 7 → j ≠ 8 → μ' 13 j = μ 13 j) → μ' 13 8 = (pn t n m e (μ 13 8)).1 → μ' 13 7 = μ 13 7 → ((pn t n m e (μ 13 8)).1 < 1 ∨ b < (pn t n m e (μ 13 8)).1) → K 0 μ') →
    (∀ μ', (∀ b, b ≠ 13 → μ' b = μ b) → (∀ j, j ≠ 7 → j ≠ 8 → μ' 13 j = μ 13 j) → μ' 13 8 = (pn t n m e (μ 13 8)).1 → μ' 13 7 = nI (pn t n m e (μ 13 8)).2 → ¬ ((pn t n m e (μ 13 8)).1 < 1 ∨ b < (pn t n m e (μ 13 8)).1) → K 1 μ') →
    wp m_X0_readNumber 12 [(0, .ref 13), (1, .int b), (2, .int (nI e)), (3, .int (nI (3 - m)))] [] μ (sv_QI K) := by
  have stop : ∀ (e : Nat) (μ : sv_Mem),
      (∀ μ', (∀ b, b ≠ 13 → μ' b = μ b) → (∀ j, j ≠ 7 → j ≠ 8 → μ' 13 j = μ 13 j) → μ' 13 8 = μ 13 8 → μ' 13 7 = μ 13 7 → (μ 13 8 < 1 ∨ b < μ 13 8) → K 0 μ') →
      (∀ μ', (∀ b, b ≠ 13 → μ' b = μ b) → (∀ j, j ≠ 7 → j ≠ 8 → μ' 13 j = μ 13 j) → μ' 13 8 = μ 13 8 → μ' 13 7 = nI e → ¬ (μ 13 8 < 1 ∨ b < μ 13 8) → K 1 μ') →
      (((μ 13 8) < (1 : Int32) → ((0 : Int32) = 0 → sv_zb (0 : Int32) ∧ K (0 : Int32) μ) ∧ (¬ (0 : Int32) = 0 → sv_zb (0 : Int32) ∧ K (0 : Int32) (sv_up μ 13 7 (nI e)))) ∧ (¬ (μ 13 8) < (1 : Int32) → (b < (μ 13 8) → ((0 : Int32) = 0 → sv_zb (0 : Int32) ∧ K (0 : Int32) μ) ∧ (¬ (0 : Int32) = 0 → sv_zb (0 : Int32) ∧ K (0 : Int32) (sv_up μ 13 7 (nI e)))) ∧ (¬ b < (μ 13 8) → ((1 : Int32) = 0 → sv_zb (1 : Int32) ∧ K (1 : Int32) μ) ∧ (¬ (1 : Int32) = 0 → sv_zb (1 : Int32) ∧ K (1 : Int32) (sv_up μ 13 7 (nI e)))))) := by
    intro e μ h0 h1
    refine br_c (fun z => br_t rfl ⟨zb0, h0 μ (fun _ _ => rfl) (fun _ _ _ => rfl) rfl rfl (Or.inl z)⟩) (fun z => br_c (fun y => br_t rfl ⟨zb0, h0 μ (fun _ _ => rfl) (fun _ _ _ => rfl) rfl rfl (Or.inr y)⟩) (fun y => br_f t01 ⟨zb1, h1 _ (fun b hb => up_pl hb) (fun j a _ => up_n a) (up_n (by omega)) up_s (fun w => w.elim z y)⟩))
  intro m
  induction m with
  | zero =>
    intro e μ hm he T h0 h1
    exact g_X0_readNumber_12 _ _ _ μ K (br_t (by decide) (stop e μ h0 h1))
  | succ m ih =>
    intro e μ hm he T h0 h1
    refine g_X0_readNumber_12 _ _ _ μ K (br_f (nI_ge (b := 3) (by omega) (by omega)) (isFigure_s T (by omega) (fun q hq => br_f t01 ⟨vp_in_nI (by have := T.1; omega) (by omega), ?_⟩) (fun q => br_t rfl ?_)))
    · unfold pn at h0 h1
      rw [if_pos q] at h0 h1
      rw [nI_1, nI_1, nI_cl (by omega), T.2.2 e hq, show 3 - (m + 1) + 1 = 3 - m by omega]
      rw [pB_in hq] at h0 h1
      refine ih (e + 1) (sv_up μ 13 8 (10 * μ 13 8 + t e - 48)) (by omega) (by have := T.1; omega) ⟨T.1, T.2.1, T.2.2⟩ (fun μ' a1 a2 a3 a4 a5 => h0 μ' (fun b hb => by rw [a1 b hb, up_pl hb]) (fun j x y => by rw [a2 j x y, up_n y]) a3 a4 a5) (fun μ' a1 a2 a3 a4 a5 => h1 μ' (fun b hb => by rw [a1 b hb, up_pl hb]) (fun j x y => by rw [a2 j x y, up_n y]) a3 a4 a5)
    · unfold pn at h0 h1
      rw [if_neg q] at h0 h1
      exact stop e μ h0 h1
theorem readNumber_s {μ : sv_Mem} {n c : Nat} {t : Nat → Int32} {b : Int32} {K : Int32 → sv_Mem → Prop} (T : cTx μ n t) (hc : c < 900) (h7 : μ 13 7 = nI c)
    (h0 : ∀ μ', (∀ b, b ≠ 13 → μ' b = μ b) → (∀ j, j ≠ 7 → j ≠ 8 → μ' 13 j = μ 13 j) → μ' 13 7 = nI c → ((pn t n 3 c 0).1 < 1 ∨ b < (pn t n 3 c 0).1) → K 0 μ')
    (h1 : ∀ μ', (∀ b, b ≠ 13 → μ' b = μ b) → (∀ j, j ≠ 7 → j ≠ 8 → μ' 13 j = μ 13 j) → μ' 13 8 = (pn t n 3 c 0).1 → μ' 13 7 = nI (pn t n 3 c 0).2 → ¬ ((pn t n 3 c 0).1 < 1 ∨ b < (pn t n 3 c 0).1) → K 1 μ') : sv_cI m_X0_readNumber [.ref 13, .int b] μ K := by
  refine e_X0_readNumber b μ K ?_
  rw [h7]
  refine readNumber_l 3 c (sv_up μ 13 8 0) (by omega) hc ⟨T.1, T.2.1, T.2.2⟩ (fun μ' a1 a2 a3 a4 a5 => h0 μ' (fun b hb => by rw [a1 b hb, up_pl hb]) (fun j x y => by rw [a2 j x y, up_n y]) (by rw [a4, up_n (by omega)]; exact h7) a5) (fun μ' a1 a2 a3 a4 a5 => h1 μ' (fun b hb => by rw [a1 b hb, up_pl hb]) (fun j x y => by rw [a2 j x y, up_n y]) a3 a4 a5)
def ltr (b : Int32) : Prop := b = 97 ∨ b = 110 ∨ b = 100 ∨ b = 115
theorem readLetter_s {μ : sv_Mem} {K : Int32 → sv_Mem → Prop} {n c r : Nat} {t : Nat → Int32} (T : cTx μ n t) (hc : c < 900) (hr : r < 4) (h7 : μ 13 7 = nI c) (h1 : ltr (pB t n c) → K 1 (sv_up (sv_up μ 17 r (pB t n c)) 13 7 (nI (c + 1)))) (h0 : ¬ ltr (pB t n c) → K 0 (sv_up μ 17 r (pB t n c))) : sv_cI m_X0_readLetter [.ref 13, .int (nI r)] μ K := by
  have T' : cTx (sv_up μ 17 r (pB t n c)) n t := ⟨T.1, T.2.1, T.2.2⟩
  have v4 : vp_in (nI r) 4 := vp_in_nI hr (by omega)
  have chain : sv_cI m_X0_readByte [.ref 13, .int (97 : Int32)] (sv_up μ 17 r (pB t n c)) (fun r10 μ9 => (r10 = 0 → sv_cI m_X0_readByte [.ref 13, .int (110 : Int32)] μ9 (fun r12 μ11 => (r12 = 0 → sv_cI m_X0_readByte [.ref 13, .int (100 : Int32)] μ11 (fun r14 μ13 => (r14 = 0 → sv_cI m_X0_readByte [.ref 13, .int (115 : Int32)] μ13 (fun r16 μ15 => (r16 = 0 → sv_zb (0 : Int32) ∧ K (0 : Int32) μ15) ∧ (¬ r16 = 0 → sv_zb (1 : Int32) ∧ K (1 : Int32) μ15))) ∧ (¬ r14 = 0 → sv_zb (1 : Int32) ∧ K (1 : Int32) μ13))) ∧ (¬ r12 = 0 → sv_zb (1 : Int32) ∧ K (1 : Int32) μ11))) ∧ (¬ r10 = 0 → sv_zb (1 : Int32) ∧ K (1 : Int32) μ9)) :=
    readByte_s T' (by omega) h7 (by decide) (fun e => br_f t01 ⟨zb1, h1 (Or.inl e)⟩) (fun e1 => br_t rfl (readByte_s T' (by omega) h7 (by decide) (fun e => br_f t01 ⟨zb1, h1 (Or.inr (Or.inl e))⟩) (fun e2 => br_t rfl (readByte_s T' (by omega) h7 (by decide) (fun e => br_f t01 ⟨zb1, h1 (Or.inr (Or.inr (Or.inl e)))⟩) (fun e3 => br_t rfl (readByte_s T' (by omega) h7 (by decide) (fun e => br_f t01 ⟨zb1, h1 (Or.inr (Or.inr (Or.inr e)))⟩) (fun e4 => br_t rfl ⟨zb0, h0 (fun z => by rcases z with z | z | z | z; exact e1 z; exact e2 z; exact e3 z; exact e4 z)⟩)))))))
  refine e_X0_readLetter _ μ K ?_
  rw [T.2.1, h7, nI_cl (show r < 2 ^ 31 by omega)]
  rcases Nat.lt_or_ge c n with q | q
  · refine br_f (nI_ge q (by have := T.1; omega)) ⟨vp_in_nI (by have := T.1; omega) (by omega), v4, ?_⟩
    rw [nI_cl (by omega), T.2.2 c q, ← pB_in (t := t) q]
    exact chain
  · refine br_t (nI_le q (by omega)) ⟨v4, ?_⟩
    rw [← pB_out (t := t) q]
    exact chain
/-- what a round's reading leaves alone -/
def CF (r : Nat) (μ μ' : sv_Mem) : Prop := (∀ b, b ≠ 13 → b ≠ 15 → b ≠ 16 → b ≠ 17 → μ' b = μ b) ∧ (∀ j, j ≠ 7 → j ≠ 8 → μ' 13 j = μ 13 j) ∧ ∀ i, i ≠ r → μ' 15 i = μ 15 i ∧ μ' 16 i = μ 16 i ∧ μ' 17 i = μ 17 i
theorem cTx.cf {μ μ' : sv_Mem} {n r : Nat} {t : Nat → Int32} (T : cTx μ n t) (h : CF r μ μ') : cTx μ' n t := ⟨T.1, (h.2.1 4 (by omega) (by omega)).trans T.2.1, fun i hi => by rw [h.1 14 (by omega) (by omega) (by omega) (by omega)]; exact T.2.2 i hi⟩
theorem CF.tr {μ μ' μ'' : sv_Mem} {r : Nat} (h : CF r μ μ') (g : CF r μ' μ'') : CF r μ μ'' := ⟨fun b a c d e => (g.1 b a c d e).trans (h.1 b a c d e), fun j a b => (g.2.1 j a b).trans (h.2.1 j a b), fun i hi => ⟨(g.2.2 i hi).1.trans (h.2.2 i hi).1, (g.2.2 i hi).2.1.trans (h.2.2 i hi).2.1, (g.2.2 i hi).2.2.trans (h.2.2 i hi).2.2⟩⟩
theorem CF.m13 {μ μ' : sv_Mem} {r : Nat} (h1 : ∀ b, b ≠ 13 → μ' b = μ b) (h2 : ∀ j, j ≠ 7 → j ≠ 8 → μ' 13 j = μ 13 j) : CF r μ μ' := ⟨fun b a _ _ _ => h1 b a, h2, fun i _ => by rw [h1 15 (by omega), h1 16 (by omega), h1 17 (by omega)]; exact ⟨rfl, rfl, rfl⟩⟩
theorem CF.cur {μ : sv_Mem} {r : Nat} {x : Int32} : CF r μ (sv_up μ 13 7 x) := CF.m13 (fun b hb => up_pl hb) (fun j a _ => up_n a)
theorem CF.a15 {μ : sv_Mem} {r : Nat} {x : Int32} : CF r μ (sv_up μ 15 r x) := ⟨fun b _ c _ _ => up_pl c, fun j _ _ => by rw [up_pl (by omega)], fun i hi => by rw [up_n hi, up_pl (b := 16) (by omega), up_pl (b := 17) (by omega)]; exact ⟨rfl, rfl, rfl⟩⟩
theorem CF.a16 {μ : sv_Mem} {r : Nat} {x : Int32} : CF r μ (sv_up μ 16 r x) := ⟨fun b _ _ c _ => up_pl c, fun j _ _ => by rw [up_pl (by omega)], fun i hi => by rw [up_n hi, up_pl (b := 15) (by omega), up_pl (b := 17) (by omega)]; exact ⟨rfl, rfl, rfl⟩⟩
theorem CF.a17 {μ : sv_Mem} {r : Nat} {x : Int32} : CF r μ (sv_up μ 17 r x) := ⟨fun b _ _ _ c => up_pl c, fun j _ _ => by rw [up_pl (by omega)], fun i hi => by rw [up_n hi, up_pl (b := 15) (by omega), up_pl (b := 16) (by omega)]; exact ⟨rfl, rfl, rfl⟩⟩
theorem readRound_s {μ : sv_Mem} {K : Int32 → sv_Mem → Prop} {n c r : Nat} {t : Nat → Int32} (T : cTx μ n t) (hc : c < 800) (hr : r < 4) (h7 : μ 13 7 = nI c)
    (h0 : ∀ q μ', pR t n c = .inl q → CF r μ μ' → μ' 13 7 = nI q → K 0 μ') (h1 : ∀ v w b k μ', pR t n c = .inr (v, w, b, k) → CF r μ μ' → μ' 13 7 = nI k → μ' 15 r = v → μ' 16 r = w → μ' 17 r = b → rg v 1 100 → rg w 1 24 → k ≤ n → k ≤ c + 10 → K 1 μ') : sv_cI m_X0_readRound [.ref 13, .int (nI r)] μ K := by
  have u1 := pn_ub 3 (c + 1) 0 (t := t) (n := n)
  have u2 := pn_ub 3 ((pn t n 3 (c + 1) 0).2 + 1) 0 (t := t) (n := n)
  have v4 : vp_in (nI r) 4 := vp_in_nI hr (by omega)
  unfold pR at h0 h1
  refine e_X0_readRound _ μ K (readByte_s T (by omega) h7 (by decide) (fun e1 => br_f t01 ?_) (fun e1 => br_t rfl ⟨zb0, h0 c μ (by rw [if_pos e1]) (CF.m13 (fun _ _ => rfl) (fun _ _ _ => rfl)) h7⟩))
  have C1 : CF r μ (sv_up μ 13 7 (nI (c + 1))) := CF.cur
  refine readNumber_s (T.cf C1) (by omega) up_s (fun μ2 a1 a2 a3 a4 => br_t rfl ⟨zb0, h0 (c + 1) μ2 (by rw [if_neg (fun z => z e1), if_pos a4]) (C1.tr (CF.m13 a1 a2)) a3⟩) (fun μ2 a1 a2 a3 a4 a5 => br_f t01 ⟨v4, ?_⟩)
  have C2 : CF r μ μ2 := C1.tr (CF.m13 a1 a2)
  rw [nI_cl (show r < 2 ^ 31 by omega), a3]
  have C3 : CF r μ (sv_up μ2 15 r (pn t n 3 (c + 1) 0).1) := C2.tr CF.a15
  have s7 : sv_up μ2 15 r (pn t n 3 (c + 1) 0).1 13 7 = nI (pn t n 3 (c + 1) 0).2 := by rw [up_pl (by omega)]; exact a4
  refine readByte_s (T.cf C3) (by omega) s7 (by decide) (fun e2 => br_f t01 ?_) (fun e2 => br_t rfl ⟨zb0, h0 _ _ (by rw [if_neg (fun z => z e1), if_neg a5, if_pos e2]) C3 s7⟩)
  have C4 : CF r μ (sv_up (sv_up μ2 15 r (pn t n 3 (c + 1) 0).1) 13 7 (nI ((pn t n 3 (c + 1) 0).2 + 1))) := C3.tr CF.cur
  refine readNumber_s (T.cf C4) (by omega) up_s (fun μ5 b1 b2 b3 b4 => br_t rfl ⟨zb0, h0 _ μ5 (by rw [if_neg (fun z => z e1), if_neg a5, if_neg (fun z => z e2), if_pos b4]) (C4.tr (CF.m13 b1 b2)) b3⟩) (fun μ5 b1 b2 b3 b4 b5 => br_f t01 ⟨v4, ?_⟩)
  have C5 : CF r μ μ5 := C4.tr (CF.m13 b1 b2)
  rw [b3]
  have C6 : CF r μ (sv_up μ5 16 r (pn t n 3 ((pn t n 3 (c + 1) 0).2 + 1) 0).1) := C5.tr CF.a16
  have w7 : sv_up μ5 16 r (pn t n 3 ((pn t n 3 (c + 1) 0).2 + 1) 0).1 13 7 = nI (pn t n 3 ((pn t n 3 (c + 1) 0).2 + 1) 0).2 := by rw [up_pl (by omega)]; exact b4
  have d15 : μ5 15 r = (pn t n 3 (c + 1) 0).1 := by rw [b1 15 (by omega), up_pl (by omega), up_s]
  refine readLetter_s (T.cf C6) (by omega) hr w7 (fun e3 => ⟨zb1, ?_⟩) (fun e3 => ⟨zb0, ?_⟩)
  · have lt : (pn t n 3 ((pn t n 3 (c + 1) 0).2 + 1) 0).2 < n := by
      rcases Nat.lt_or_ge (pn t n 3 ((pn t n 3 (c + 1) 0).2 + 1) 0).2 n with q | q
      · exact q
      · exfalso
        rw [pB_out q] at e3
        rcases e3 with z | z | z | z <;> exact absurd z (by decide)
    refine h1 _ _ _ _ _ (by rw [if_neg (fun z => z e1), if_neg a5, if_neg (fun z => z e2), if_neg b5, if_neg (fun z => z e3)]) ((C6.tr CF.a17).tr CF.cur) up_s ?_ ?_ ?_ ⟨fun z => a5 (Or.inl z), fun z => a5 (Or.inr z)⟩ ⟨fun z => b5 (Or.inl z), fun z => b5 (Or.inr z)⟩ (by omega) (by omega)
    · rw [up_pl (by omega), up_pl (by omega), up_pl (by omega)]; exact d15
    · rw [up_pl (by omega), up_pl (by omega), up_s]
    · rw [up_pl (by omega), up_s]
  · unfold ltr at e3
    exact h0 _ _ (by rw [if_neg (fun z => z e1), if_neg a5, if_neg (fun z => z e2), if_neg b5, if_pos e3]) (C6.tr CF.a17) (by rw [up_pl (by omega)]; exact w7)
/-- what the reading of the rounds from r on leaves alone -/
def CG (r : Nat) (μ μ' : sv_Mem) : Prop := (∀ b, b ≠ 13 → b ≠ 15 → b ≠ 16 → b ≠ 17 → μ' b = μ b) ∧ (∀ j, j ≠ 5 → j ≠ 7 → j ≠ 8 → μ' 13 j = μ 13 j) ∧ ∀ i, i < r → μ' 15 i = μ 15 i ∧ μ' 16 i = μ 16 i ∧ μ' 17 i = μ 17 i
theorem readRounds_l {n : Nat} {t : Nat → Int32} {K : Int32 → sv_Mem → Prop} : ∀ (m c r : Nat) (μ : sv_Mem), r + (m + 1) = 4 → c ≤ n → c ≤ 20 * r → cTx μ n t → μ 13 7 = nI c →
    (∀ q μ', pA t n (m + 1) c = .inl q → q ≤ n → CG r μ μ' → μ' 13 7 = nI q → μ' 13 5 = μ 13 5 → K 0 μ') →
    (∀ L μ', pA t n (m + 1) c = .inr L → CG r μ μ' → μ' 13 5 = nI (r + L.length) → 1 ≤ L.length → r + L.length ≤ 4 → (∀ (i : Nat) (z : Int32 × Int32 × Int32), L[i]? = some z → μ' 15 (r + i) = z.1 ∧ μ' 16 (r + i) = z.2.1 ∧ μ' 17 (r + i) = z.2.2 ∧ rg z.1 1 100 ∧ rg z.2.1 1 24) → K 1 μ') →
    wp m_X0_readRounds 2 [(0, .ref 13), (1, .int (nI r))] [] μ (sv_QI K) := by
  have qle : ∀ {c q : Nat}, c ≤ n → pR t n c = .inl q → q ≤ n := by
    intro c q hc h
    unfold pR at h
    by_cases e1 : ¬ pB t n c = 118
    · rw [if_pos e1] at h; cases h; exact hc
    · have e1' : pB t n c = 118 := Classical.not_not.mp e1
      have hcn : c < n := by
        rcases Nat.lt_or_ge c n with z | z
        · exact z
        · rw [pB_out z] at e1'; exact absurd e1' (by decide)
      have p1 := pn_le 3 (c + 1) 0 (t := t) (n := n) (by omega)
      rw [if_neg e1] at h
      by_cases e2 : (pn t n 3 (c + 1) 0).1 < 1 ∨ 100 < (pn t n 3 (c + 1) 0).1
      · rw [if_pos e2] at h; cases h; omega
      · rw [if_neg e2] at h
        by_cases e3 : ¬ pB t n (pn t n 3 (c + 1) 0).2 = 97
        · rw [if_pos e3] at h; cases h; exact p1
        · have e3' : pB t n (pn t n 3 (c + 1) 0).2 = 97 := Classical.not_not.mp e3
          have h3 : (pn t n 3 (c + 1) 0).2 < n := by
            rcases Nat.lt_or_ge (pn t n 3 (c + 1) 0).2 n with z | z
            · exact z
            · rw [pB_out z] at e3'; exact absurd e3' (by decide)
          have p2 := pn_le 3 ((pn t n 3 (c + 1) 0).2 + 1) 0 (t := t) (n := n) (by omega)
          rw [if_neg e3] at h
          by_cases e4 : (pn t n 3 ((pn t n 3 (c + 1) 0).2 + 1) 0).1 < 1 ∨ 24 < (pn t n 3 ((pn t n 3 (c + 1) 0).2 + 1) 0).1
          · rw [if_pos e4] at h; cases h; omega
          · rw [if_neg e4] at h
            split at h
            · cases h; exact p2
            · cases h
  have cg : ∀ {r : Nat} {μ μ' : sv_Mem}, CF r μ μ' → CG r μ μ' := fun h => ⟨h.1, fun j _ a b => h.2.1 j a b, fun i hi => h.2.2 i (by omega)⟩
  intro m
  induction m with
  | zero =>
    intro c r μ hr hcn hc T h7 h0 h1
    have hn := T.1
    refine g_X0_readRounds_2 _ μ K (br_f (nI_ge (b := 4) (by omega) (by omega)) (readRound_s T (by omega) (by omega) h7 (fun q μ1 e a1 a2 => br_t rfl ⟨zb0, ?_⟩) (fun v w b k μ1 e a1 a2 a3 a4 a5 a6 a7 a8 a9 => br_f t01 ?_)))
    · refine h0 q μ1 ?_ (qle hcn e) (cg a1) a2 (a1.2.1 5 (by omega) (by omega))
      unfold pA; rw [e]
    · rw [a2, (a1.2.1 4 (by omega) (by omega)).trans T.2.1, nI_1]
      refine br_c (fun z => ⟨zb1, ?_⟩) (fun z => br_t ?_ ⟨zb0, ?_⟩)
      · have hz : k = n := (nI_eq (by omega) (by omega)).mp z
        refine h1 [(v, w, b)] _ (by unfold pA; rw [e]; dsimp only; rw [if_pos (by omega)]) ⟨fun b x1 x2 x3 x4 => by rw [up_pl x1]; exact a1.1 b x1 x2 x3 x4, fun j x1 x2 x3 => by rw [up_n x1]; exact a1.2.1 j x2 x3, fun i hi => by rw [up_pl (by omega), up_pl (b := 16) (by omega), up_pl (b := 17) (by omega)]; exact a1.2.2 i (by omega)⟩ up_s (by simp) (by simp; omega) (fun i y hy => ?_)
        have hi : i = 0 := by
          rcases i with _ | i
          · rfl
          · simp at hy
        subst hi
        simp only [List.getElem?_cons_zero, Option.some.injEq] at hy
        subst hy
        exact ⟨by rw [up_pl (by omega)]; exact a3, by rw [up_pl (by omega)]; exact a4, by rw [up_pl (by omega)]; exact a5, a6, a7⟩
      · rw [show r = 3 by omega]; rfl
      · have hz : ¬ n ≤ k := fun q => z (by rw [show k = n by omega])
        exact h0 k μ1 (by unfold pA; rw [e]; dsimp only; rw [if_neg hz, if_pos rfl]) a8 (cg a1) a2 (a1.2.1 5 (by omega) (by omega))
  | succ m ih =>
    intro c r μ hr hcn hc T h7 h0 h1
    have hn := T.1
    refine g_X0_readRounds_2 _ μ K (br_f (nI_ge (b := 4) (by omega) (by omega)) (readRound_s T (by omega) (by omega) h7 (fun q μ1 e a1 a2 => br_t rfl ⟨zb0, ?_⟩) (fun v w b k μ1 e a1 a2 a3 a4 a5 a6 a7 a8 a9 => br_f t01 ?_)))
    · refine h0 q μ1 ?_ (qle hcn e) (cg a1) a2 (a1.2.1 5 (by omega) (by omega))
      unfold pA; rw [e]
    · rw [a2, (a1.2.1 4 (by omega) (by omega)).trans T.2.1, nI_1]
      refine br_c (fun z => ⟨zb1, ?_⟩) (fun z => br_f ?_ ?_)
      · have hz : k = n := (nI_eq (by omega) (by omega)).mp z
        refine h1 [(v, w, b)] _ (by unfold pA; rw [e]; dsimp only; rw [if_pos (by omega)]) ⟨fun b x1 x2 x3 x4 => by rw [up_pl x1]; exact a1.1 b x1 x2 x3 x4, fun j x1 x2 x3 => by rw [up_n x1]; exact a1.2.1 j x2 x3, fun i hi => by rw [up_pl (by omega), up_pl (b := 16) (by omega), up_pl (b := 17) (by omega)]; exact a1.2.2 i (by omega)⟩ up_s (by simp) (by simp; omega) (fun i y hy => ?_)
        have hi : i = 0 := by
          rcases i with _ | i
          · rfl
          · simp at hy
        subst hi
        simp only [List.getElem?_cons_zero, Option.some.injEq] at hy
        subst hy
        exact ⟨by rw [up_pl (by omega)]; exact a3, by rw [up_pl (by omega)]; exact a4, by rw [up_pl (by omega)]; exact a5, a6, a7⟩
      · exact fun z2 => by have := (nI_eq (b := 3) (by omega) (by omega)).mp z2; omega
      · have hz : ¬ n ≤ k := fun q => z (by rw [show k = n by omega])
        refine readByte_s (T.cf a1) (by omega) a2 (by decide) (fun e2 => br_f t01 ?_) (fun e2 => br_t rfl ⟨zb0, ?_⟩)
        · have C2 : CF r μ (sv_up μ1 13 7 (nI (k + 1))) := a1.tr CF.cur
          have at_r : sv_up μ1 13 7 (nI (k + 1)) 15 r = v ∧ sv_up μ1 13 7 (nI (k + 1)) 16 r = w ∧ sv_up μ1 13 7 (nI (k + 1)) 17 r = b := ⟨by rw [up_pl (by omega)]; exact a3, by rw [up_pl (by omega)]; exact a4, by rw [up_pl (by omega)]; exact a5⟩
          refine ih (k + 1) (r + 1) _ (by omega) (by omega) (by omega) (T.cf C2) up_s (fun q μ2 f1 f2 f3 f4 f5 => h0 q μ2 ?_ f2 ?_ f4 ?_) (fun L μ2 f1 f3 f4 f5 f6 f7 => h1 ((v, w, b) :: L) μ2 ?_ ?_ ?_ (by simp) (by simp; omega) ?_)
          · unfold pA; rw [e]; dsimp only; rw [if_neg hz, if_neg (by omega), if_neg (fun y => y e2), f1]
          · exact ⟨fun b x1 x2 x3 x4 => (f3.1 b x1 x2 x3 x4).trans (C2.1 b x1 x2 x3 x4), fun j x1 x2 x3 => (f3.2.1 j x1 x2 x3).trans (C2.2.1 j x2 x3), fun i hi => ⟨(f3.2.2 i (by omega)).1.trans (C2.2.2 i (by omega)).1, (f3.2.2 i (by omega)).2.1.trans (C2.2.2 i (by omega)).2.1, (f3.2.2 i (by omega)).2.2.trans (C2.2.2 i (by omega)).2.2⟩⟩
          · rw [f5, C2.2.1 5 (by omega) (by omega)]
          · unfold pA; rw [e]; dsimp only; rw [if_neg hz, if_neg (by omega), if_neg (fun y => y e2), f1]
          · exact ⟨fun b x1 x2 x3 x4 => (f3.1 b x1 x2 x3 x4).trans (C2.1 b x1 x2 x3 x4), fun j x1 x2 x3 => (f3.2.1 j x1 x2 x3).trans (C2.2.1 j x2 x3), fun i hi => ⟨(f3.2.2 i (by omega)).1.trans (C2.2.2 i (by omega)).1, (f3.2.2 i (by omega)).2.1.trans (C2.2.2 i (by omega)).2.1, (f3.2.2 i (by omega)).2.2.trans (C2.2.2 i (by omega)).2.2⟩⟩
          · rw [f4, List.length_cons]; congr 1; omega
          · intro i y hy
            cases i with
            | zero =>
              simp only [List.getElem?_cons_zero, Option.some.injEq] at hy
              subst hy
              have g := f3.2.2 r (by omega)
              exact ⟨g.1.trans at_r.1, g.2.1.trans at_r.2.1, g.2.2.trans at_r.2.2, a6, a7⟩
            | succ i =>
              simp only [List.getElem?_cons_succ] at hy
              have g := f7 i y hy
              rw [show r + 1 + i = r + (i + 1) by omega] at g
              exact g
        · exact h0 k μ1 (by unfold pA; rw [e]; dsimp only; rw [if_neg hz, if_neg (by omega), if_pos e2]) a8 (cg a1) a2 (a1.2.1 5 (by omega) (by omega))
theorem readText_s {μ : sv_Mem} {n : Nat} {t : Nat → Int32} {K : sv_Mem → Prop} (T : cTx μ n t) (h : ∀ μ', (∀ b, b ≠ 13 → b ≠ 15 → b ≠ 16 → b ≠ 17 → μ' b = μ b) → μ' 13 4 = μ 13 4 → pK (pT t n) (μ' 13 5) (μ' 13 6) (μ' 15) (μ' 16) (μ' 17) → K μ') : sv_cV m_X0_readText [.ref 13] μ K := by
  have hn := T.1
  refine e_X0_readText μ K (e_X0_readRounds _ _ (readRounds_l 3 0 0 (sv_up (sv_up μ 13 5 0) 13 7 0) (by omega) (by omega) (by omega) (t := t) (n := n) ⟨T.1, T.2.1, T.2.2⟩ rfl (fun q μ1 f1 f2 f3 f4 f5 => br_t rfl ?_) (fun L μ1 f1 f3 f4 f5 f6 f7 => br_f t01 ?_)))
  · refine h _ (fun b x1 x2 x3 x4 => by rw [up_pl x1, f3.1 b x1 x2 x3 x4, up_pl x1, up_pl x1]) (by rw [up_n (by omega), f3.2.1 4 (by omega) (by omega) (by omega)]; rfl) ?_
    show pK (pA t n (3 + 1) 0) _ _ _ _ _
    rw [f1, f4]
    exact ⟨up_s, by omega, by rw [up_n (by omega), f5]; rfl⟩
  · refine h _ (fun b x1 x2 x3 x4 => by rw [up_pl x1, f3.1 b x1 x2 x3 x4, up_pl x1, up_pl x1]) (by rw [up_n (by omega), f3.2.1 4 (by omega) (by omega) (by omega)]; rfl) ?_
    show pK (pA t n (3 + 1) 0) _ _ _ _ _
    rw [f1]
    rw [Nat.zero_add] at f4
    refine ⟨up_s, by rw [up_n (by omega)]; exact f4, f5, by omega, fun r z hz => ?_⟩
    have g := f7 r z hz
    rw [Nat.zero_add] at g
    rw [up_pl (by omega), up_pl (b := 16) (by omega), up_pl (b := 17) (by omega)]
    exact g

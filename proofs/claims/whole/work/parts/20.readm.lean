/-! ===== the reference's reading, whole ===== -/
def rM (P : Nat ⊕ List (Int32 × Int32 × Int32)) (μ' : sv_Mem) (r : Nat) : Prop := match P with
  | .inl q => μ' 40 11 = nI q ∧ q < 510
  | .inr L => μ' 40 11 = -1 ∧ μ' 40 6 = nI (r + L.length) ∧ ∀ (i : Nat) (z : Int32 × Int32 × Int32), L[i]? = some z → μ' 44 (r + i) = z.1 ∧ μ' 45 (r + i) = z.2.1 ∧ μ' 46 (r + i) = z.2.2
def old3 (r : Nat) (μ μ' : sv_Mem) : Prop := ∀ i, i < r → μ' 44 i = μ 44 i ∧ μ' 45 i = μ 45 i ∧ μ' 46 i = μ 46 i
theorem readM_l {n : Nat} (hn : n ≤ 60) {K : sv_Mem → Prop} : ∀ (m c r : Nat) (μ : sv_Mem), r + (m + 1) = 4 → c ≤ 20 * r → μ 40 4 = nI n → μ 40 10 = nI c → μ 40 11 = -1 → μ 40 6 = nI r → (∀ μ', FR μ μ' → old3 r μ μ' → rM (pA (μ 43) n (m + 1) c) μ' r → K μ') → wp m_X10_read 17 [(0, .ref 40), (1, .int 1)] [] μ (sv_QV K) := by
  have gone : ∀ (μ : sv_Mem), ¬ μ 40 11 = -1 → K μ → wp m_X10_read 17 [(0, .ref 40), (1, .int 1)] [] μ (sv_QV K) := fun μ h k => g_X10_read_17 1 μ K (br_f t01 (br_f h k))
  intro m
  induction m with
  | zero =>
    intro c r μ hr hc h4 h10 h11 h6 h
    refine g_X10_read_17 1 μ K (br_f t01 (br_t h11 (br_f (fun e => ?_) ?_)))
    · have := (nI_eq (b := 4) (by omega) (by omega)).mp (h6.symm.trans e); omega
    refine readM_round hn h4 (by omega) (by omega) h10 h11 h6 (fun μ1 b f1 f2 f3 f4 f5 f6 f7 f8 => ?_)
    have u1 := pn_ub 3 (c + 1) 0 (t := μ 43) (n := n)
    have u2 := pn_ub 3 ((pn (μ 43) n 3 (c + 1) 0).2 + 1) 0 (t := μ 43) (n := n)
    have RE := rF_e (t := μ 43) (n := n) (k := c) (by omega)
    unfold pA at h
    generalize hg : (pn (μ 43) n 3 ((pn (μ 43) n 3 (c + 1) 0).2 + 1) 0).2 = g at *
    have e4 : μ1 40 4 = nI n := (f1.2 4 (by omega) (by omega) (by omega)).trans h4
    refine g_X10_read_141 1 b μ1 K ⟨by rw [f2]; exact vp_in_nI (by omega) (by omega), ?_⟩
    rw [f2, f4, f5, e4, nI_1, nI_1, nI_cl (by omega)]
    have FR2 : FR μ (sv_up (sv_up (sv_up μ1 46 r b) 40 10 (nI (g + 1))) 40 6 (nI (r + 1))) := ⟨fun b x1 x2 x3 x4 => by rw [up_pl x1, up_pl x1, up_pl x4]; exact f1.1 b x1 x2 x3 x4, fun j x1 x2 x3 => by rw [up_n x1, up_n x2, up_pl (by omega)]; exact f1.2 j x1 x2 x3⟩
    have O2 : old3 r μ (sv_up (sv_up (sv_up μ1 46 r b) 40 10 (nI (g + 1))) 40 6 (nI (r + 1))) := fun i hi => by
      rw [up_pl (by omega), up_pl (by omega), up_pl (by omega), up_pl (b := 45) (by omega), up_pl (b := 45) (by omega), up_pl (b := 45) (by omega), up_pl (b := 46) (by omega), up_pl (b := 46) (by omega), up_n (by omega)]
      exact f8 i hi
    have q11 : sv_up (sv_up (sv_up μ1 46 r b) 40 10 (nI (g + 1))) 40 6 (nI (r + 1)) 40 11 = rF (μ 43) n c (-1) := by rw [up_n (by omega), up_n (by omega), up_pl (by omega)]; exact f5
    rcases RE with ⟨q, e1, e2, e3⟩ | ⟨e1, e2⟩
    · rw [e1] at h
      rw [e2] at q11 ⊢
      refine br_f (nI_m1 (by omega)) (g_X10_read_195 _ _ _ _ K (br_t rfl (g_X10_read_17 0 _ K (br_t rfl (h _ FR2 O2 ⟨q11, e3⟩)))))
    · rw [e1] at h
      rw [e2] at q11 ⊢
      refine br_t rfl (br_c (fun z => ?_) (fun z => ?_))
      · have hz : n ≤ g + 1 := (nI_leI (by omega) (by omega)).mp z
        dsimp only at h
        rw [if_pos hz] at h
        refine g_X10_read_195 _ _ _ _ K (br_t rfl (g_X10_read_17 0 _ K (br_t rfl (h _ FR2 O2 ⟨q11, up_s, fun i w hw => ?_⟩))))
        have hi : i = 0 := by
          rcases i with _ | i
          · rfl
          · simp at hw
        subst hi
        simp only [List.getElem?_cons_zero, Option.some.injEq] at hw
        subst hw
        exact ⟨by rw [up_pl (by omega), up_pl (by omega), up_pl (by omega)]; exact f6, by rw [up_pl (by omega), up_pl (by omega), up_pl (by omega)]; exact f7, by rw [up_pl (by omega), up_pl (by omega), Nat.add_zero, up_s]; exact f3⟩
      · have hz : ¬ n ≤ g + 1 := fun q => z (nI_le q (by omega))
        dsimp only at h
        rw [if_neg hz, if_pos rfl] at h
        refine g_X10_read_195 _ _ _ _ K (br_f t01 ?_)
        have k10 : sv_up (sv_up (sv_up μ1 46 r b) 40 10 (nI (g + 1))) 40 6 (nI (r + 1)) 40 10 = nI (g + 1) := by rw [up_n (by omega), up_s]
        have k4 : sv_up (sv_up (sv_up μ1 46 r b) 40 10 (nI (g + 1))) 40 6 (nI (r + 1)) 40 4 = nI n := (FR2.2 4 (by omega) (by omega) (by omega)).trans h4
        have k43 : sv_up (sv_up (sv_up μ1 46 r b) 40 10 (nI (g + 1))) 40 6 (nI (r + 1)) 43 = μ 43 := FR2.1 43 (by omega) (by omega) (by omega) (by omega)
        refine expect_s hn k4 (by omega) k10 (fun μ3 l1 l2 l3 l4 => ?_)
        rw [k43, q11] at l4
        have FR3 : FR μ μ3 := ⟨fun b x1 x2 x3 x4 => (l1 b x1).trans (FR2.1 b x1 x2 x3 x4), fun j x1 x2 x3 => (l2 j x2 x3).trans (FR2.2 j x1 x2 x3)⟩
        have O3 : old3 r μ μ3 := fun i hi => by rw [l1 44 (by omega), l1 45 (by omega), l1 46 (by omega)]; exact O2 i hi
        by_cases hb : pB (μ 43) n (g + 1) = 59
        · rw [fx_no (fun q => q hb)] at l4
          have l6 : μ3 40 6 = nI 4 := by rw [l2 6 (by omega) (by omega), up_s, show r + 1 = 4 by omega]
          refine g_X10_read_17 1 μ3 K (br_f t01 (br_t l4 (br_t l6 (gone _ ?_ ?_))))
          · rw [up_s, l3, nI_pred]; exact nI_m1 (by omega)
          · refine h _ ⟨fun b x1 x2 x3 x4 => by rw [up_pl x1]; exact FR3.1 b x1 x2 x3 x4, fun j x1 x2 x3 => by rw [up_n x3]; exact FR3.2 j x1 x2 x3⟩ (fun i hi => by rw [up_pl (by omega), up_pl (b := 45) (by omega), up_pl (b := 46) (by omega)]; exact O3 i hi) ⟨?_, by omega⟩
            rw [up_s, l3, nI_pred]
        · rw [fx_y rfl hb] at l4
          exact gone μ3 (by rw [l4]; exact nI_m1 (by omega)) (h μ3 FR3 O3 ⟨l4, by omega⟩)
  | succ m ih =>
    intro c r μ hr hc h4 h10 h11 h6 h
    refine g_X10_read_17 1 μ K (br_f t01 (br_t h11 (br_f (fun e => ?_) ?_)))
    · have := (nI_eq (b := 4) (by omega) (by omega)).mp (h6.symm.trans e); omega
    refine readM_round hn h4 (by omega) (by omega) h10 h11 h6 (fun μ1 b f1 f2 f3 f4 f5 f6 f7 f8 => ?_)
    have u1 := pn_ub 3 (c + 1) 0 (t := μ 43) (n := n)
    have u2 := pn_ub 3 ((pn (μ 43) n 3 (c + 1) 0).2 + 1) 0 (t := μ 43) (n := n)
    have RE := rF_e (t := μ 43) (n := n) (k := c) (by omega)
    unfold pA at h
    generalize hg : (pn (μ 43) n 3 ((pn (μ 43) n 3 (c + 1) 0).2 + 1) 0).2 = g at *
    have e4 : μ1 40 4 = nI n := (f1.2 4 (by omega) (by omega) (by omega)).trans h4
    refine g_X10_read_141 1 b μ1 K ⟨by rw [f2]; exact vp_in_nI (by omega) (by omega), ?_⟩
    rw [f2, f4, f5, e4, nI_1, nI_1, nI_cl (by omega)]
    have FR2 : FR μ (sv_up (sv_up (sv_up μ1 46 r b) 40 10 (nI (g + 1))) 40 6 (nI (r + 1))) := ⟨fun b x1 x2 x3 x4 => by rw [up_pl x1, up_pl x1, up_pl x4]; exact f1.1 b x1 x2 x3 x4, fun j x1 x2 x3 => by rw [up_n x1, up_n x2, up_pl (by omega)]; exact f1.2 j x1 x2 x3⟩
    have O2 : old3 r μ (sv_up (sv_up (sv_up μ1 46 r b) 40 10 (nI (g + 1))) 40 6 (nI (r + 1))) := fun i hi => by
      rw [up_pl (by omega), up_pl (by omega), up_pl (by omega), up_pl (b := 45) (by omega), up_pl (b := 45) (by omega), up_pl (b := 45) (by omega), up_pl (b := 46) (by omega), up_pl (b := 46) (by omega), up_n (by omega)]
      exact f8 i hi
    have q11 : sv_up (sv_up (sv_up μ1 46 r b) 40 10 (nI (g + 1))) 40 6 (nI (r + 1)) 40 11 = rF (μ 43) n c (-1) := by rw [up_n (by omega), up_n (by omega), up_pl (by omega)]; exact f5
    rcases RE with ⟨q, e1, e2, e3⟩ | ⟨e1, e2⟩
    · rw [e1] at h
      rw [e2] at q11 ⊢
      refine br_f (nI_m1 (by omega)) (g_X10_read_195 _ _ _ _ K (br_t rfl (g_X10_read_17 0 _ K (br_t rfl (h _ FR2 O2 ⟨q11, e3⟩)))))
    · rw [e1] at h
      rw [e2] at q11 ⊢
      have at_r : sv_up (sv_up (sv_up μ1 46 r b) 40 10 (nI (g + 1))) 40 6 (nI (r + 1)) 44 r = (pn (μ 43) n 3 (c + 1) 0).1 ∧ sv_up (sv_up (sv_up μ1 46 r b) 40 10 (nI (g + 1))) 40 6 (nI (r + 1)) 45 r = (pn (μ 43) n 3 ((pn (μ 43) n 3 (c + 1) 0).2 + 1) 0).1 ∧ sv_up (sv_up (sv_up μ1 46 r b) 40 10 (nI (g + 1))) 40 6 (nI (r + 1)) 46 r = pB (μ 43) n g := ⟨by rw [up_pl (by omega), up_pl (by omega), up_pl (by omega)]; exact f6, by rw [up_pl (by omega), up_pl (by omega), up_pl (by omega)]; exact f7, by rw [up_pl (by omega), up_pl (by omega), up_s]; exact f3⟩
      refine br_t rfl (br_c (fun z => ?_) (fun z => ?_))
      · have hz : n ≤ g + 1 := (nI_leI (by omega) (by omega)).mp z
        dsimp only at h
        rw [if_pos hz] at h
        refine g_X10_read_195 _ _ _ _ K (br_t rfl (g_X10_read_17 0 _ K (br_t rfl (h _ FR2 O2 ⟨q11, up_s, fun i w hw => ?_⟩))))
        have hi : i = 0 := by
          rcases i with _ | i
          · rfl
          · simp at hw
        subst hi
        simp only [List.getElem?_cons_zero, Option.some.injEq] at hw
        subst hw
        exact at_r
      · have hz : ¬ n ≤ g + 1 := fun q => z (nI_le q (by omega))
        dsimp only at h
        rw [if_neg hz, if_neg (by omega)] at h
        refine g_X10_read_195 _ _ _ _ K (br_f t01 ?_)
        have k10 : sv_up (sv_up (sv_up μ1 46 r b) 40 10 (nI (g + 1))) 40 6 (nI (r + 1)) 40 10 = nI (g + 1) := by rw [up_n (by omega), up_s]
        have k4 : sv_up (sv_up (sv_up μ1 46 r b) 40 10 (nI (g + 1))) 40 6 (nI (r + 1)) 40 4 = nI n := (FR2.2 4 (by omega) (by omega) (by omega)).trans h4
        have k43 : sv_up (sv_up (sv_up μ1 46 r b) 40 10 (nI (g + 1))) 40 6 (nI (r + 1)) 43 = μ 43 := FR2.1 43 (by omega) (by omega) (by omega) (by omega)
        refine expect_s hn k4 (by omega) k10 (fun μ3 l1 l2 l3 l4 => ?_)
        rw [k43, q11] at l4
        have FR3 : FR μ μ3 := ⟨fun b x1 x2 x3 x4 => (l1 b x1).trans (FR2.1 b x1 x2 x3 x4), fun j x1 x2 x3 => (l2 j x2 x3).trans (FR2.2 j x1 x2 x3)⟩
        have O3 : old3 r μ μ3 := fun i hi => by rw [l1 44 (by omega), l1 45 (by omega), l1 46 (by omega)]; exact O2 i hi
        by_cases hb : pB (μ 43) n (g + 1) = 59
        · rw [fx_no (fun q => q hb)] at l4
          rw [if_neg (fun q => q hb)] at h
          have l6 : μ3 40 6 = nI (r + 1) := by rw [l2 6 (by omega) (by omega), up_s]
          have e43 : μ3 43 = μ 43 := FR3.1 43 (by omega) (by omega) (by omega) (by omega)
          refine ih (g + 1 + 1) (r + 1) μ3 (by omega) (by omega) ((l2 4 (by omega) (by omega)).trans k4) l3 l4 l6 (fun μ4 w1 w2 w3 => ?_)
          rw [e43] at w3
          refine h μ4 (FR3.tr w1) (fun i hi => ?_) ?_
          · have a := w2 i (by omega)
            have b := O3 i hi
            exact ⟨a.1.trans b.1, a.2.1.trans b.2.1, a.2.2.trans b.2.2⟩
          · generalize pA (μ 43) n (m + 1) (g + 1 + 1) = P at w3 ⊢
            cases P with
            | inl q => exact w3
            | inr L =>
              obtain ⟨y1, y2, y3⟩ := w3
              refine ⟨y1, by rw [y2, List.length_cons]; congr 1; omega, fun i w hw => ?_⟩
              cases i with
              | zero =>
                simp only [List.getElem?_cons_zero, Option.some.injEq] at hw
                subst hw
                have a := w2 r (by omega)
                rw [l1 44 (by omega), l1 45 (by omega), l1 46 (by omega)] at a
                exact ⟨a.1.trans at_r.1, a.2.1.trans at_r.2.1, a.2.2.trans at_r.2.2⟩
              | succ i =>
                simp only [List.getElem?_cons_succ] at hw
                have a := y3 i w hw
                rw [show r + 1 + i = r + (i + 1) by omega] at a
                exact a
        · rw [fx_y rfl hb] at l4
          rw [if_pos hb] at h
          exact gone μ3 (by rw [l4]; exact nI_m1 (by omega)) (h μ3 FR3 O3 ⟨l4, by omega⟩)
theorem readM_s {μ : sv_Mem} {K : sv_Mem → Prop} {n : Nat} (hn : n ≤ 60) (he : μ 40 4 = nI n) (h : ∀ μ', FR μ μ' → rM (pT (μ 43) n) μ' 0 → K μ') : sv_cV m_X10_read [.ref 40] μ K := by
  have fr0 : FR μ (sv_up (sv_up (sv_up μ 40 10 0) 40 11 (-1)) 40 6 0) := ⟨fun b x1 _ _ _ => by rw [up_pl x1, up_pl x1, up_pl x1], fun j x1 x2 x3 => by rw [up_n x1, up_n x3, up_n x2]⟩
  refine e_X10_read μ K (readM_l hn 3 0 0 _ (by omega) (by omega) ((fr0.2 4 (by omega) (by omega) (by omega)).trans he) ?_ ?_ ?_ (fun μ' f1 f2 f3 => h μ' (fr0.tr f1) ?_))
  · rfl
  · rfl
  · rfl
  · have e43 : sv_up (sv_up (sv_up μ 40 10 0) 40 11 (-1)) 40 6 0 43 = μ 43 := fr0.1 43 (by omega) (by omega) (by omega) (by omega)
    rw [e43] at f3
    exact f3

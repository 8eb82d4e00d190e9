/-! ===== player, chance, hear, known ===== -/
/-- a loop from i on, m times -/
def lp {α : Type} (f : Nat → α → α) : Nat → Nat → α → α
  | 0, _, a => a
  | m + 1, i, a => lp f m (i + 1) (f i a)
theorem lp_rel {α β : Type} {f : Nat → α → α} {g : Nat → β → β} (R : Nat → α → β → Prop) : ∀ (m i : Nat) (a : α) (b : β), R i a b → (∀ j a b, i ≤ j → j < i + m → R j a b → R (j + 1) (f j a) (g j b)) → R (i + m) (lp f m i a) (lp g m i b)
  | 0, i, a, b, h, _ => h
  | m + 1, i, a, b, h, hs => by
    have h1 := lp_rel R m (i + 1) (f i a) (g i b) (hs i a b (Nat.le_refl i) (by omega) h) (fun j a b h1 h2 h3 => hs j a b (by omega) (by omega) h3)
    rw [show i + (m + 1) = i + 1 + m by omega]
    exact h1
theorem lp_congr {α : Type} {f g : Nat → α → α} {m i : Nat} {a : α} (h : ∀ j a, i ≤ j → j < i + m → f j a = g j a) : lp f m i a = lp g m i a :=
  lp_rel (fun _ a b => a = b) m i a a rfl (fun j a b h1 h2 e => by subst e; exact h j a h1 h2)
theorem L_player (a : Int32) {μ : sv_Mem} (I : Inv μ) : Both m_X9_player m_X10_player [.int a] μ := by
  obtain ⟨n, hn, e1, e2, hk, hr, hp, hq⟩ := id I.1
  refine e_X9_player a μ _ (within_s (fun h => br_f t01 ?_) (fun h => br_t rfl ?_))
  · by_cases hf : n = 24
    · subst hf
      refine br_t (by rw [e1]; decide) ?_
      exact e_X10_player a _ _ (in_s (fun _ => br_f t01 (br_t (by rw [e2]; decide) ⟨rfl, I⟩)) (fun z => absurd h z))
    · have hn2 : n < 24 := by omega
      refine br_f (by rw [e1]; exact nI_ge (b := 24) hn2 (by omega)) ?_
      refine e_X6_addPlayer a μ _ ⟨by rw [e1]; exact vp_in_nI hn2 (by omega), ?_⟩
      rw [e1, nI_cl (by omega)]
      refine e_X6_place _ _ _ _ ⟨vp_in_nI hn2 (by omega), vp_in_nI hn2 (by omega), ?_⟩
      rw [nI_cl (by omega)]
      refine e_X10_player a _ _ (in_s (fun _ => br_f t01 ?_) (fun z => absurd h z))
      refine br_f (fun z => hf ((nI_eq (by omega) (by omega)).mp (e2.symm.trans z))) ?_
      show vp_in (μ 40 0) 24 ∧ (vp_in (μ 40 0) 24 ∧ _)
      refine ⟨by rw [e2]; exact vp_in_nI hn2 (by omega), by rw [e2]; exact vp_in_nI hn2 (by omega), ?_, ?_, I.2⟩
      · show nI n = μ 40 0 + 1 - 1
        rw [e2, nI_1, nI_pred]
      · show jv_pl (μ 9 4 + 1) (μ 40 0 + 1) (upd (μ 10) n a) (upd (μ 41) (Int32.toNatClampNeg (μ 40 0)) a) (upd (μ 11) n (nI n)) (upd (μ 42) (Int32.toNatClampNeg (μ 40 0)) (μ 40 0)) (upd (μ 12) n (nI n))
        rw [e1, e2, nI_cl (by omega), nI_1]
        refine ⟨n + 1, by omega, rfl, rfl, fun i hi => ?_, fun i hi => ?_, fun i hi => ?_, fun p hi => ?_⟩
        · by_cases e : i = n
          · subst e; rw [upd_s, upd_s]
          · rw [upd_n e, upd_n e]; exact hk i (by omega)
        · by_cases e : i = n
          · subst e; rw [upd_s, upd_s]
          · rw [upd_n e, upd_n e]; exact hr i (by omega)
        · by_cases e : i = n
          · subst e; exact ⟨i, by omega, upd_s, upd_s⟩
          · obtain ⟨p, h1, h2, h3⟩ := hp i (by omega)
            exact ⟨p, by omega, by rw [upd_n e]; exact h2, by rw [upd_n (by omega)]; exact h3⟩
        · by_cases e : p = n
          · subst e; exact ⟨p, by omega, upd_s, upd_s⟩
          · obtain ⟨i, h1, h2, h3⟩ := hq p (by omega)
            exact ⟨i, by omega, by rw [upd_n e]; exact h2, by rw [upd_n (by omega)]; exact h3⟩
  · exact e_X10_player a _ _ (in_s (fun z => absurd z h) (fun _ => br_t rfl ⟨rfl, I⟩))
theorem L_chance (a b : Int32) {μ : sv_Mem} (I : Inv μ) : Both m_X9_chance m_X10_chance [.int a, .int b] μ := by
  obtain ⟨i1, i2, i3, i4, i5⟩ := id I
  refine e_X9_chance a b μ _ (isSkill_s (fun h => br_f t01 ?_) (fun h => br_t rfl ?_))
  · refine within_s (fun h2 => br_f t01 ?_) (fun h2 => br_t rfl ?_)
    · obtain ⟨j, hj, ea⟩ := rg_nat (n := 4) rfl h
      obtain ⟨c, hc, eb⟩ := rg_nat (n := 100) rfl h2
      subst ea
      refine ⟨vp_in_nI (by omega) (by omega), vp_in_nI (by omega) (by omega), ?_⟩
      refine e_X10_chance _ b _ _ (in_s (fun _ => br_f t01 (in_s (fun _ => br_f t01 ⟨vp_in_nI (by omega) (by omega), vp_in_nI (by omega) (by omega), ?_⟩) (fun z => absurd h2 z))) (fun z => absurd h z))
      rw [nI_cl (by omega)]
      refine ⟨(i4 j (by omega)).1, i1, i2, i3, ?_, i5⟩
      show jv_ch (upd (μ 39) j b) (upd (μ 47) j b)
      intro i hi
      by_cases e : i = j
      · subst e; rw [upd_s, upd_s]; exact ⟨rfl, c, hc, eb⟩
      · rw [upd_n e, upd_n e]; exact i4 i hi
    · exact e_X10_chance a b _ _ (in_s (fun _ => br_f t01 (in_s (fun z => absurd z h2) (fun _ => br_t rfl ⟨rfl, I⟩))) (fun z => absurd h z))
  · exact e_X10_chance a b _ _ (in_s (fun z => absurd z h) (fun _ => br_t rfl ⟨rfl, I⟩))
theorem L_hear (a b c : Int32) {μ : sv_Mem} (I : Inv μ) : Both m_X9_hear m_X10_hear [.int a, .int b, .int c] μ := by
  obtain ⟨i1, i2, i3, i4, i5, ⟨k, hk, e1, e2, hh⟩, i7⟩ := id I
  refine e_X9_hear a b c μ _ (isNumber_s (fun h => br_f t01 ?_) (fun h => br_t rfl ?_))
  · refine within_s (fun h2 => br_f t01 ?_) (fun h2 => br_t rfl ?_)
    · refine within_s (fun h3 => br_f t01 ?_) (fun h3 => br_t rfl ?_)
      · by_cases hf : k = 60
        · subst hf
          refine br_t (by rw [e1]; decide) ?_
          exact e_X10_hear a b c _ _ (in_s (fun _ => br_f t01 (in_s (fun _ => br_f t01 (in_s (fun _ => br_f t01 (br_t (by rw [e2]; decide) ⟨rfl, I⟩)) (fun z => absurd h3 z))) (fun z => absurd h2 z))) (fun z => absurd h z))
        · have hk2 : k < 60 := by omega
          refine br_f (by rw [e1]; exact nI_ge (b := 60) hk2 (by omega)) ?_
          have v1 : vp_in (μ 35 3) 60 := by rw [e1]; exact vp_in_nI hk2 (by omega)
          have v2 : vp_in (μ 40 18) 60 := by rw [e2]; exact vp_in_nI hk2 (by omega)
          refine e_X2_keep a b c μ _ ⟨v1, v1, v1, ?_⟩
          refine e_X10_hear a b c _ _ (in_s (fun _ => br_f t01 (in_s (fun _ => br_f t01 (in_s (fun _ => br_f t01 (br_f ?_ ⟨v2, v2, v2, ?_⟩)) (fun z => absurd h3 z))) (fun z => absurd h2 z))) (fun z => absurd h z))
          · exact fun z => hf ((nI_eq (by omega) (by omega)).mp (e2.symm.trans z))
          · refine ⟨?_, i1, i2, i3, i4, i5, ?_, i7⟩
            · show μ 35 3 + 1 = μ 40 18 + 1
              rw [e1, e2]
            · show jv_he (μ 35 3 + 1) (μ 40 18 + 1) (upd (μ 36) (Int32.toNatClampNeg (μ 35 3)) a) (upd (μ 52) (Int32.toNatClampNeg (μ 40 18)) a) (upd (μ 37) (Int32.toNatClampNeg (μ 35 3)) b) (upd (μ 53) (Int32.toNatClampNeg (μ 40 18)) b) (upd (μ 38) (Int32.toNatClampNeg (μ 35 3)) c) (upd (μ 54) (Int32.toNatClampNeg (μ 40 18)) c)
              rw [e1, e2, nI_cl (by omega), nI_1]
              refine ⟨k + 1, by omega, rfl, rfl, fun i hi => ?_⟩
              by_cases e : i = k
              · subst e; simp only [upd_s, and_self]
              · rw [upd_n e, upd_n e, upd_n e, upd_n e, upd_n e, upd_n e]
                exact hh i (by omega)
      · exact e_X10_hear a b c _ _ (in_s (fun _ => br_f t01 (in_s (fun _ => br_f t01 (in_s (fun z => absurd z h3) (fun _ => br_t rfl ⟨rfl, I⟩))) (fun z => absurd h2 z))) (fun z => absurd h z))
    · exact e_X10_hear a b c _ _ (in_s (fun _ => br_f t01 (in_s (fun z => absurd z h2) (fun _ => br_t rfl ⟨rfl, I⟩))) (fun z => absurd h z))
  · exact e_X10_hear a b c _ _ (in_s (fun z => absurd z h) (fun _ => br_t rfl ⟨rfl, I⟩))
def hoF (nu : Nat → Int32) (v : Int32) : Nat → Int32 → Int32 := fun j a => if nu j = v then a + 1 else a
def grF (nu co : Nat → Int32) (v : Int32) : Nat → Int32 → Int32 := fun j a => if nu j = v then (if a < co j then co j else a) else a
theorem howOften_l {μ : sv_Mem} {K : Int32 → sv_Mem → Prop} {v : Int32} {k : Nat} (hk : k ≤ 60) (he : μ 35 3 = nI k) : ∀ (m i : Nat) (a : Int32), i + m = k → K (lp (hoF (μ 36) v) m i a) μ → wp m_X2_howOften 4 [(0, .ref 35), (1, .int v), (2, .int a), (3, .int (nI i))] [] μ (sv_QI K)
  | 0, i, a, hi, h => g_X2_howOften_4 v a (nI i) μ K (br_t (by rw [he]; exact nI_le (by omega) (by omega)) h)
  | m + 1, i, a, hi, h => by
    refine g_X2_howOften_4 v a (nI i) μ K (br_f (by rw [he]; exact nI_ge (by omega) (by omega)) ⟨vp_in_nI (by omega) (by omega), ?_⟩)
    rw [nI_cl (by omega), nI_1]
    refine br_c (fun e => howOften_l hk he m (i + 1) _ (by omega) ?_) (fun e => howOften_l hk he m (i + 1) _ (by omega) ?_)
    · have h1 : K (lp (hoF (μ 36) v) m (i + 1) (hoF (μ 36) v i a)) μ := h
      unfold hoF at h1 ⊢
      rw [if_pos e] at h1
      exact h1
    · have h1 : K (lp (hoF (μ 36) v) m (i + 1) (hoF (μ 36) v i a)) μ := h
      unfold hoF at h1 ⊢
      rw [if_neg e] at h1
      exact h1
theorem greatY_l {μ : sv_Mem} {K : Int32 → sv_Mem → Prop} {v : Int32} {k : Nat} (hk : k ≤ 60) (he : μ 35 3 = nI k) : ∀ (m i : Nat) (a : Int32), i + m = k → K (lp (grF (μ 36) (μ 37) v) m i a) μ → wp m_X2_greatest 5 [(0, .ref 35), (1, .int v), (2, .ref 37), (3, .int a), (4, .int (nI i))] [] μ (sv_QI K)
  | 0, i, a, hi, h => g_X2_greatest_y_5 v a (nI i) μ K (br_t (by rw [he]; exact nI_le (by omega) (by omega)) h)
  | m + 1, i, a, hi, h => by
    have vi := vp_in_nI (n := i) (N := 60) (by omega) (by omega)
    refine g_X2_greatest_y_5 v a (nI i) μ K (br_f (by rw [he]; exact nI_ge (by omega) (by omega)) ⟨vi, ?_⟩)
    rw [nI_cl (by omega), nI_1]
    have h1 : K (lp (grF (μ 36) (μ 37) v) m (i + 1) (grF (μ 36) (μ 37) v i a)) μ := h
    refine br_c (fun e => ⟨vi, greatY_l hk he m (i + 1) _ (by omega) ?_⟩) (fun e => greatY_l hk he m (i + 1) _ (by omega) ?_)
    · have e2 : grF (μ 36) (μ 37) v i a = if a < μ 37 i then μ 37 i else a := if_pos e
      rw [e2] at h1
      exact h1
    · have e2 : grF (μ 36) (μ 37) v i a = a := if_neg e
      rw [e2] at h1
      exact h1
theorem greatR_l {μ : sv_Mem} {K : Int32 → sv_Mem → Prop} {v : Int32} {k : Nat} (hk : k ≤ 60) (he : μ 35 3 = nI k) : ∀ (m i : Nat) (a : Int32), i + m = k → K (lp (grF (μ 36) (μ 38) v) m i a) μ → wp m_X2_greatest 5 [(0, .ref 35), (1, .int v), (2, .ref 38), (3, .int a), (4, .int (nI i))] [] μ (sv_QI K)
  | 0, i, a, hi, h => g_X2_greatest_r_5 v a (nI i) μ K (br_t (by rw [he]; exact nI_le (by omega) (by omega)) h)
  | m + 1, i, a, hi, h => by
    have vi := vp_in_nI (n := i) (N := 60) (by omega) (by omega)
    refine g_X2_greatest_r_5 v a (nI i) μ K (br_f (by rw [he]; exact nI_ge (by omega) (by omega)) ⟨vi, ?_⟩)
    rw [nI_cl (by omega), nI_1]
    have h1 : K (lp (grF (μ 36) (μ 38) v) m (i + 1) (grF (μ 36) (μ 38) v i a)) μ := h
    refine br_c (fun e => ⟨vi, greatR_l hk he m (i + 1) _ (by omega) ?_⟩) (fun e => greatR_l hk he m (i + 1) _ (by omega) ?_)
    · have e2 : grF (μ 36) (μ 38) v i a = if a < μ 38 i then μ 38 i else a := if_pos e
      rw [e2] at h1
      exact h1
    · have e2 : grF (μ 36) (μ 38) v i a = a := if_neg e
      rw [e2] at h1
      exact h1
theorem knownM_l {μ : sv_Mem} {K : Int32 → sv_Mem → Prop} {v w : Int32} {k : Nat} (hk : k ≤ 60) (he : μ 40 18 = nI k) : ∀ (m i : Nat) (a b c : Int32), i + m = k → K (if w = 0 then lp (hoF (μ 52) v) m i a else if w = 1 then lp (grF (μ 52) (μ 54) v) m i b else lp (grF (μ 52) (μ 53) v) m i c) μ → wp m_X10_known 33 [(0, .ref 40), (1, .int v), (2, .int w), (3, .int a), (4, .int b), (5, .int c), (6, .int (nI i))] [] μ (sv_QI K)
  | 0, i, a, b, c, hi, h => by
    refine g_X10_known_33 v w a b c (nI i) μ K (br_t (by rw [he]; exact nI_le (by omega) (by omega)) ?_)
    refine br_c (fun e => ?_) (fun e => br_c (fun e2 => ?_) (fun e2 => ?_))
    · rw [if_pos e] at h; exact h
    · rw [if_neg e, if_pos e2] at h; exact h
    · rw [if_neg e, if_neg e2] at h; exact h
  | m + 1, i, a, b, c, hi, h => by
    have vi := vp_in_nI (n := i) (N := 60) (by omega) (by omega)
    have ih := fun a' b' c' h' => knownM_l (v := v) (w := w) (K := K) hk he m (i + 1) a' b' c' (by omega) h'
    have h1 : K (if w = 0 then lp (hoF (μ 52) v) m (i + 1) (hoF (μ 52) v i a) else if w = 1 then lp (grF (μ 52) (μ 54) v) m (i + 1) (grF (μ 52) (μ 54) v i b) else lp (grF (μ 52) (μ 53) v) m (i + 1) (grF (μ 52) (μ 53) v i c)) μ := h
    refine g_X10_known_33 v w a b c (nI i) μ K (br_f (by rw [he]; exact nI_ge (by omega) (by omega)) ⟨vi, ?_⟩)
    rw [nI_cl (by omega), nI_1]
    refine br_c (fun e => ⟨vi, br_c (fun f => ⟨vi, br_c (fun g => ih _ _ _ ?_) (fun g => ⟨vi, ih _ _ _ ?_⟩)⟩) (fun f => ⟨vi, vi, br_c (fun g => ih _ _ _ ?_) (fun g => ⟨vi, ih _ _ _ ?_⟩)⟩)⟩) (fun e => ih _ _ _ ?_)
    · rw [show hoF (μ 52) v i a = a + 1 from if_pos e, show grF (μ 52) (μ 54) v i b = b from (if_pos e).trans (if_neg (Int32.not_lt.mpr f)), show grF (μ 52) (μ 53) v i c = c from (if_pos e).trans (if_neg (Int32.not_lt.mpr g))] at h1
      exact h1
    · rw [show hoF (μ 52) v i a = a + 1 from if_pos e, show grF (μ 52) (μ 54) v i b = b from (if_pos e).trans (if_neg (Int32.not_lt.mpr f)), show grF (μ 52) (μ 53) v i c = μ 53 i from (if_pos e).trans (if_pos (Int32.not_le.mp g))] at h1
      exact h1
    · rw [show hoF (μ 52) v i a = a + 1 from if_pos e, show grF (μ 52) (μ 54) v i b = μ 54 i from (if_pos e).trans (if_pos (Int32.not_le.mp f)), show grF (μ 52) (μ 53) v i c = c from (if_pos e).trans (if_neg (Int32.not_lt.mpr g))] at h1
      exact h1
    · rw [show hoF (μ 52) v i a = a + 1 from if_pos e, show grF (μ 52) (μ 54) v i b = μ 54 i from (if_pos e).trans (if_pos (Int32.not_le.mp f)), show grF (μ 52) (μ 53) v i c = μ 53 i from (if_pos e).trans (if_pos (Int32.not_le.mp g))] at h1
      exact h1
    · rw [show hoF (μ 52) v i a = a from if_neg e, show grF (μ 52) (μ 54) v i b = b from if_neg e, show grF (μ 52) (μ 53) v i c = c from if_neg e] at h1
      exact h1
theorem L_known (a b : Int32) {μ : sv_Mem} (I : Inv μ) : Both m_X9_known m_X10_known [.int a, .int b] μ := by
  obtain ⟨i1, i2, i3, i4, i5, ⟨k, hk, e1, e2, hh⟩, i7⟩ := id I
  have q1 : lp (hoF (μ 36) a) k 0 0 = lp (hoF (μ 52) a) k 0 0 := lp_congr (fun j z _ h => by unfold hoF; rw [(hh j (by omega)).1])
  have q2 : lp (grF (μ 36) (μ 37) a) k 0 (-1) = lp (grF (μ 52) (μ 53) a) k 0 (-1) := lp_congr (fun j z _ h => by unfold grF; rw [(hh j (by omega)).1, (hh j (by omega)).2.1])
  have q3 : lp (grF (μ 36) (μ 38) a) k 0 (-1) = lp (grF (μ 52) (μ 54) a) k 0 (-1) := lp_congr (fun j z _ h => by unfold grF; rw [(hh j (by omega)).1, (hh j (by omega)).2.2])
  refine e_X9_known a b μ _ (isNumber_s (fun h => br_f t01 ?_) (fun h => br_t rfl ?_))
  · refine within_s (fun h2 => br_f t01 ?_) (fun h2 => br_t rfl ?_)
    · have fin : ∀ r, r = (if b = 0 then lp (hoF (μ 52) a) k 0 0 else if b = 1 then lp (grF (μ 52) (μ 54) a) k 0 (-1) else lp (grF (μ 52) (μ 53) a) k 0 (-1)) → sv_cI m_X10_known [.ref 40, .int a, .int b] μ (fun r' μ2 => r = r' ∧ Inv μ2) := by
        intro r hr
        exact e_X10_known a b _ _ (in_s (fun _ => br_f t01 (in_s (fun _ => br_f t01 (knownM_l hk e2 k 0 0 (-1) (-1) (by omega) ⟨hr, I⟩)) (fun z => absurd h2 z))) (fun z => absurd h z))
      refine br_c (fun e => ?_) (fun e => br_c (fun e4 => ?_) (fun e4 => ?_))
      · exact e_X2_howOften a μ _ (howOften_l hk e1 k 0 0 (by omega) (fin _ (by rw [if_pos e, q1])))
      · exact e_X2_greatest_r a μ _ (greatR_l hk e1 k 0 (-1) (by omega) (fin _ (by rw [if_neg e, if_pos e4, q3])))
      · exact e_X2_greatest_y a μ _ (greatY_l hk e1 k 0 (-1) (by omega) (fin _ (by rw [if_neg e, if_neg e4, q2])))
    · exact e_X10_known a b _ _ (in_s (fun _ => br_f t01 (in_s (fun z => absurd z h2) (fun _ => br_t rfl ⟨rfl, I⟩))) (fun z => absurd h z))
  · exact e_X10_known a b _ _ (in_s (fun z => absurd z h) (fun _ => br_t rfl ⟨rfl, I⟩))

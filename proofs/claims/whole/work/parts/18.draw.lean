/-! ===== draw ===== -/
def sw (f : Nat → Int32) (i j : Nat) : Nat → Int32 := upd (upd f i (f j)) j (f i)
def lot (v : Int32) : Int32 := 1103515245 * v + 12345
def sh16 (v : Int32) : Int32 := (v.toUInt32 >>> ((16 : Int32).toUInt32 &&& Int32.toUInt32 31)).toInt32
def lj (v : Int32) (i : Nat) : Nat := (sh16 (lot v)).toNatClampNeg % (i + 1)
theorem sh16_n (v : Int32) : ∃ q, q < 65536 ∧ sh16 v = nI q := by
  have h := pk_ushr v 16 16 (by decide)
  refine ⟨v.toBitVec.toNat / 2 ^ 16, ?_, ?_⟩
  · have := v.toBitVec.isLt
    omega
  · apply Int32.toBitVec_inj.mp
    apply BitVec.eq_of_toNat_eq
    have hb := v.toBitVec.isLt
    rw [show (nI (v.toBitVec.toNat / 2 ^ 16)).toBitVec.toNat = v.toBitVec.toNat / 2 ^ 16 from pk_tn (by omega)]
    exact h
theorem lj_e (v : Int32) {i : Nat} (hi : i < 24) : sh16 (lot v) - sh16 (lot v) / (nI i + 1) * (nI i + 1) = nI (lj v i) ∧ lj v i ≤ i := by
  obtain ⟨q, h1, h2⟩ := sh16_n (lot v)
  unfold lj
  rw [h2, nI_1, nI_cl (by omega), pk_rem (by omega) (by omega) (by omega)]
  exact ⟨rfl, by have := Nat.mod_lt q (show i + 1 > 0 by omega); omega⟩
def shF : Nat → Int32 → (Nat → Int32) → (Nat → Int32)
  | 0, _, f => f
  | i + 1, v, f => shF i (lot v) (sw f (i + 1) (lj v (i + 1)))
def pm (n : Nat) (f pos : Nat → Int32) : Prop := (∀ i, i < n → ∃ p, p < n ∧ f i = nI p ∧ pos p = nI i) ∧ ∀ p, p < n → ∃ i, i < n ∧ pos p = nI i ∧ f i = nI p
theorem sw_e {f g : Nat → Int32} {n i j : Nat} (hi : i < n) (hj : j < n) (h : ∀ k, k < n → f k = g k) : ∀ k, k < n → sw f i j k = sw g i j k := by
  intro k hk
  unfold sw
  rw [h i hi, h j hj]
  by_cases e : k = j
  · subst e; rw [upd_s, upd_s]
  · rw [upd_n e, upd_n e]
    by_cases e2 : k = i
    · subst e2; rw [upd_s, upd_s]
    · rw [upd_n e2, upd_n e2]; exact h k hk
theorem shF_e {n : Nat} : ∀ (i : Nat) (v : Int32) {f g : Nat → Int32}, i < n → (∀ k, k < n → f k = g k) → ∀ k, k < n → shF i v f k = shF i v g k
  | 0, v, f, g, _, h => h
  | i + 1, v, f, g, hi, h => shF_e i (lot v) (by omega) (sw_e hi (by unfold lj; have := Nat.mod_lt (sh16 (lot v)).toNatClampNeg (show i + 1 + 1 > 0 by omega); omega) h)
theorem pm_sw {n : Nat} {f pos : Nat → Int32} (h : pm n f pos) (hn : n ≤ 24) {i j a b : Nat} (hi : i < n) (hj : j < n) (ha : a < n) (hb : b < n) (ea : f j = nI a) (eb : f i = nI b) : pm n (sw f i j) (upd (upd pos a (nI i)) b (nI j)) := by
  have pa : pos a = nI j := by
    obtain ⟨p, h1, h2, h3⟩ := h.1 j hj
    have : p = a := (nI_eq (by omega) (by omega)).mp (h2.symm.trans ea)
    subst this; exact h3
  have pb : pos b = nI i := by
    obtain ⟨p, h1, h2, h3⟩ := h.1 i hi
    have : p = b := (nI_eq (by omega) (by omega)).mp (h2.symm.trans eb)
    subst this; exact h3
  have ab : a = b → i = j := fun e => by
    rw [e, pb] at pa
    exact (nI_eq (by omega) (by omega)).mp pa
  refine ⟨fun k hk => ?_, fun p hp => ?_⟩
  · unfold sw
    by_cases e : k = j
    · subst e
      exact ⟨b, hb, by rw [upd_s]; exact eb, upd_s⟩
    · rw [upd_n e]
      by_cases e2 : k = i
      · subst e2
        exact ⟨a, ha, by rw [upd_s]; exact ea, by rw [upd_n (fun z => e (ab z)), upd_s]⟩
      · rw [upd_n e2]
        obtain ⟨p, h1, h2, h3⟩ := h.1 k hk
        refine ⟨p, h1, h2, ?_⟩
        rw [upd_n (fun z => e2 (by rw [z, pb] at h3; exact ((nI_eq (by omega) (by omega)).mp h3).symm)), upd_n (fun z => e (by rw [z, pa] at h3; exact ((nI_eq (by omega) (by omega)).mp h3).symm))]
        exact h3
  · by_cases e : p = b
    · subst e
      exact ⟨j, hj, upd_s, by unfold sw; rw [upd_s]; exact eb⟩
    · rw [upd_n e]
      by_cases e2 : p = a
      · subst e2
        refine ⟨i, hi, upd_s, ?_⟩
        unfold sw
        by_cases e3 : i = j
        · subst e3
          exact absurd ((nI_eq (by omega) (by omega)).mp (ea.symm.trans eb)) e
        · rw [upd_n e3, upd_s]; exact ea
      · rw [upd_n e2]
        obtain ⟨k, h1, h2, h3⟩ := h.2 p hp
        refine ⟨k, h1, h2, ?_⟩
        unfold sw
        rw [upd_n (fun z => e2 (by rw [z, ea] at h3; exact ((nI_eq (by omega) (by omega)).mp h3).symm)), upd_n (fun z => e (by rw [z, eb] at h3; exact ((nI_eq (by omega) (by omega)).mp h3).symm))]
        exact h3
theorem shuffle2 {n : Nat} {x1 : Int32} (hn : n ≤ 24) {K : sv_Mem → Prop} : ∀ (i : Nat) (v : Int32) (μ : sv_Mem) (f : Nat → Int32), i < n → (∀ k, k < n → μ 11 k = f k) → pm n f (μ 12) → (∀ μ', (∀ b, b ≠ 11 → b ≠ 12 → μ' b = μ b) → (∀ k, k < n → μ' 11 k = shF i v f k) → pm n (shF i v f) (μ' 12) → K μ') → wp m_X6_shuffle 31 [(0, .ref 9), (1, .int x1), (2, .int v), (3, .int (nI i))] [] μ (sv_QV K)
  | 0, v, μ, f, hi, hf, hp, h => g_X6_shuffle_31 _ _ _ μ K (br_t (by decide) (h μ (fun _ _ _ => rfl) hf hp))
  | i + 1, v, μ, f, hi, hf, hp, h => by
    have L := lj_e v (i := i + 1) (by omega)
    refine g_X6_shuffle_31 _ _ _ μ K (br_f ?_ ?_)
    · exact nI_nlt (b := 1) (by omega) (by omega)
    · have e1 : ((((1103515245 : Int32) * v) + (12345 : Int32)).toUInt32 >>> ((16 : Int32).toUInt32 &&& Int32.toUInt32 31)).toInt32 = sh16 (lot v) := rfl
      rw [e1, L.1, nI_cl (show i + 1 < 2 ^ 31 by omega), nI_cl (show lj v (i + 1) < 2 ^ 31 by omega), pk_m1]
      have nz : ¬ nI (i + 1) + 1 = 0 := by rw [nI_1]; exact nI_ne0 (by omega) (by omega)
      obtain ⟨a, ha, ea, -⟩ := hp.1 (lj v (i + 1)) (by omega)
      obtain ⟨b, hb, eb, -⟩ := hp.1 (i + 1) (by omega)
      rw [hf _ (show lj v (i + 1) < n by omega), hf _ hi, ea, eb]
      refine ⟨nz, vp_in_nI (by omega) (by omega), vp_in_nI (by omega) (by omega), e_X6_place _ _ _ _ ⟨vp_in_nI (by omega) (by omega), vp_in_nI (by omega) (by omega), e_X6_place _ _ _ _ ⟨vp_in_nI (by omega) (by omega), vp_in_nI (by omega) (by omega), ?_⟩⟩⟩
      rw [nI_cl (show i + 1 < 2 ^ 31 by omega), nI_cl (show lj v (i + 1) < 2 ^ 31 by omega), nI_cl (show a < 2 ^ 31 by omega), nI_cl (show b < 2 ^ 31 by omega)]
      refine shuffle2 hn i (lot v) _ (sw f (i + 1) (lj v (i + 1))) (by omega) (fun k hk => ?_) ?_ (fun μ' g1 g2 g3 => h μ' (fun c x y => by rw [g1 c x y, up_pl y, up_pl x, up_pl y, up_pl x]) g2 g3)
      · show upd (upd (μ 11) (i + 1) (nI a)) (lj v (i + 1)) (nI b) k = _
        rw [← ea, ← eb]
        unfold sw
        by_cases e : k = lj v (i + 1)
        · subst e; rw [upd_s, upd_s]
        · rw [upd_n e, upd_n e]
          by_cases e2 : k = i + 1
          · subst e2; rw [upd_s, upd_s]
          · rw [upd_n e2, upd_n e2]; exact hf k hk
      · show pm n _ (upd (upd (μ 12) a (nI (i + 1))) b (nI (lj v (i + 1))))
        exact pm_sw hp hn hi (by omega) ha hb ea eb
theorem shuffle1 {n : Nat} {x1 : Int32} (hn : n ≤ 24) {K : sv_Mem → Prop} : ∀ (m i : Nat) (μ : sv_Mem), i + m = n → μ 9 4 = nI n → (∀ k, k < i → μ 11 k = nI k ∧ μ 12 k = nI k) → (∀ μ', (∀ b, b ≠ 11 → b ≠ 12 → μ' b = μ b) → (∀ k, k < n → μ' 11 k = nI k ∧ μ' 12 k = nI k) → wp m_X6_shuffle 31 [(0, .ref 9), (1, .int x1), (2, .int x1), (3, .int (nI n - 1))] [] μ' (sv_QV K)) → wp m_X6_shuffle 2 [(0, .ref 9), (1, .int x1), (2, .int (nI i))] [] μ (sv_QV K)
  | 0, i, μ, hi, he, hk, h => by
    have hin : i = n := by omega
    subst hin
    refine g_X6_shuffle_2 _ _ μ K (br_t (by rw [he]; exact nI_le (by omega) (by omega)) ?_)
    rw [he]
    exact h μ (fun _ _ _ => rfl) hk
  | m + 1, i, μ, hi, he, hk, h => by
    refine g_X6_shuffle_2 _ _ μ K (br_f (by rw [he]; exact nI_ge (by omega) (by omega)) (e_X6_place _ _ _ _ ⟨vp_in_nI (by omega) (by omega), vp_in_nI (by omega) (by omega), ?_⟩))
    rw [nI_cl (by omega), nI_1]
    refine shuffle1 hn m (i + 1) _ (by omega) he (fun k hk2 => ?_) (fun μ' g1 g2 => h μ' (fun b x y => by rw [g1 b x y, up_pl y, up_pl x]) g2)
    show upd (μ 11) i (nI i) k = nI k ∧ upd (μ 12) i (nI i) k = nI k
    by_cases e : k = i
    · subst e; exact ⟨upd_s, upd_s⟩
    · rw [upd_n e, upd_n e]; exact hk k (by omega)
theorem drawM2 {n : Nat} {x1 : Int32} (hn : n ≤ 24) {K : Int32 → sv_Mem → Prop} : ∀ (i : Nat) (v : Int32) (μ : sv_Mem) (f : Nat → Int32), i < n → μ 40 0 = nI n → (∀ k, k < n → μ 42 k = f k) → (∀ μ', (∀ b, b ≠ 42 → μ' b = μ b) → (∀ k, k < n → μ' 42 k = shF i v f k) → K (shF i v f 0) μ') → wp m_X10_draw 32 [(0, .ref 40), (1, .int x1), (2, .int v), (3, .int (nI i))] [] μ (sv_QI K)
  | 0, v, μ, f, hi, he, hf, h => by
    refine g_X10_draw_32 _ _ _ μ K (br_t (by decide) (br_f (by rw [he]; exact nI_ne0 (by omega) (by omega)) ⟨vp_in_nI (n := 0) (by omega) (by omega), ?_⟩))
    rw [hf 0 (by omega)]
    exact h μ (fun _ _ => rfl) hf
  | i + 1, v, μ, f, hi, he, hf, h => by
    have L := lj_e v (i := i + 1) (by omega)
    refine g_X10_draw_32 _ _ _ μ K (br_f (nI_nle (by omega) (by omega)) ?_)
    have e1 : ((((1103515245 : Int32) * v) + (12345 : Int32)).toUInt32 >>> ((16 : Int32).toUInt32 &&& Int32.toUInt32 31)).toInt32 = sh16 (lot v) := rfl
    rw [e1, L.1, nI_cl (show i + 1 < 2 ^ 31 by omega), nI_cl (show lj v (i + 1) < 2 ^ 31 by omega), pk_m1]
    have nz : ¬ nI (i + 1) + 1 = 0 := by rw [nI_1]; exact nI_ne0 (by omega) (by omega)
    refine ⟨nz, vp_in_nI (by omega) (by omega), vp_in_nI (by omega) (by omega), vp_in_nI (by omega) (by omega), vp_in_nI (by omega) (by omega), ?_⟩
    refine drawM2 hn i (lot v) _ (sw f (i + 1) (lj v (i + 1))) (by omega) he (fun k hk => ?_) (fun μ' g1 g2 => h μ' (fun b x => by rw [g1 b x, up_pl x, up_pl x]) g2)
    show sw (μ 42) (i + 1) (lj v (i + 1)) k = _
    exact sw_e hi (by omega) hf k hk
theorem drawM1 {n : Nat} {x1 : Int32} (hn : n ≤ 24) {K : Int32 → sv_Mem → Prop} : ∀ (m i : Nat) (μ : sv_Mem), i + m = n → μ 40 0 = nI n → (∀ k, k < i → μ 42 k = nI k) → (∀ μ', (∀ b, b ≠ 42 → μ' b = μ b) → (∀ k, k < n → μ' 42 k = nI k) → wp m_X10_draw 32 [(0, .ref 40), (1, .int x1), (2, .int x1), (3, .int (nI n - 1))] [] μ' (sv_QI K)) → wp m_X10_draw 2 [(0, .ref 40), (1, .int x1), (2, .int (nI i))] [] μ (sv_QI K)
  | 0, i, μ, hi, he, hk, h => by
    have hin : i = n := by omega
    subst hin
    refine g_X10_draw_2 _ _ μ K (br_t (by rw [he]; exact nI_le (by omega) (by omega)) ?_)
    rw [he]
    exact h μ (fun _ _ => rfl) hk
  | m + 1, i, μ, hi, he, hk, h => by
    refine g_X10_draw_2 _ _ μ K (br_f (by rw [he]; exact nI_ge (by omega) (by omega)) ⟨vp_in_nI (by omega) (by omega), ?_⟩)
    rw [nI_cl (by omega), nI_1]
    refine drawM1 hn m (i + 1) _ (by omega) he (fun k hk2 => ?_) (fun μ' g1 g2 => h μ' (fun b x => by rw [g1 b x, up_pl x]) g2)
    show upd (μ 42) i (nI i) k = nI k
    by_cases e : k = i
    · subst e; exact upd_s
    · rw [upd_n e]; exact hk k (by omega)
theorem pm_id {n : Nat} {pos : Nat → Int32} (h : ∀ k, k < n → pos k = nI k) : pm n nI pos := ⟨fun i hi => ⟨i, hi, rfl, h i hi⟩, fun p hp => ⟨p, hp, h p hp, rfl⟩⟩
/-- a new order, in both -/
theorem Inv_ord {μ μ' : sv_Mem} (I : Inv μ) {n : Nat} (hn : n ≤ 24) (he : μ 40 0 = nI n) (h : ∀ b, b ≠ 11 → b ≠ 12 → b ≠ 42 → μ' b = μ b) (hr : ∀ k, k < n → μ' 11 k = μ' 42 k) (hp : pm n (μ' 42) (μ' 12)) : Inv μ' := by
  obtain ⟨i1, i2, i3, i4, i5, i6, i7, i8⟩ := I
  refine ⟨?_, ?_, ?_, ?_, ?_, ?_, ?_, ?_⟩
  · obtain ⟨n', n1, n2, n3, n4, -⟩ := i1
    have en : n' = n := (nI_eq (by omega) (by omega)).mp (n3.symm.trans he)
    subst en
    rw [h 9 (by omega) (by omega) (by omega), h 40 (by omega) (by omega) (by omega), h 10 (by omega) (by omega) (by omega), h 41 (by omega) (by omega) (by omega)]
    exact ⟨n', n1, n2, n3, n4, hr, hp.1, hp.2⟩
  · rw [h 9 (by omega) (by omega) (by omega), h 40 (by omega) (by omega) (by omega)]; exact i2
  · rw [h 13 (by omega) (by omega) (by omega), h 40 (by omega) (by omega) (by omega), h 14 (by omega) (by omega) (by omega), h 43 (by omega) (by omega) (by omega), h 15 (by omega) (by omega) (by omega), h 16 (by omega) (by omega) (by omega), h 17 (by omega) (by omega) (by omega)]; exact i3
  · rw [h 39 (by omega) (by omega) (by omega), h 47 (by omega) (by omega) (by omega)]; exact i4
  · rw [h 25 (by omega) (by omega) (by omega), h 40 (by omega) (by omega) (by omega), h 26 (by omega) (by omega) (by omega), h 49 (by omega) (by omega) (by omega), h 27 (by omega) (by omega) (by omega), h 50 (by omega) (by omega) (by omega), h 29 (by omega) (by omega) (by omega), h 30 (by omega) (by omega) (by omega), h 31 (by omega) (by omega) (by omega), h 32 (by omega) (by omega) (by omega), h 33 (by omega) (by omega) (by omega), h 34 (by omega) (by omega) (by omega), h 51 (by omega) (by omega) (by omega)]; exact i5
  · rw [h 35 (by omega) (by omega) (by omega), h 40 (by omega) (by omega) (by omega), h 36 (by omega) (by omega) (by omega), h 52 (by omega) (by omega) (by omega), h 37 (by omega) (by omega) (by omega), h 53 (by omega) (by omega) (by omega), h 38 (by omega) (by omega) (by omega), h 54 (by omega) (by omega) (by omega)]; exact i6
  · rw [h 7 (by omega) (by omega) (by omega), h 8 (by omega) (by omega) (by omega), h 55 (by omega) (by omega) (by omega), h 56 (by omega) (by omega) (by omega), h 57 (by omega) (by omega) (by omega), h 3 (by omega) (by omega) (by omega), h 4 (by omega) (by omega) (by omega), h 5 (by omega) (by omega) (by omega), h 6 (by omega) (by omega) (by omega), h 58 (by omega) (by omega) (by omega)]; exact i7
  · rw [h 1 (by omega) (by omega) (by omega), h 40 (by omega) (by omega) (by omega)]; exact i8
theorem L_draw (a : Int32) {μ : sv_Mem} (I : Inv μ) : Both m_X9_draw m_X10_draw [.int a] μ := by
  obtain ⟨n, hn, e1, e2, -⟩ := id I.1
  refine e_X9_draw a μ _ (e_X6_shuffle a μ _ (shuffle1 hn n 0 μ (by omega) e1 (fun k hk => by omega) (fun μ1 f1 f2 => ?_)))
  cases n with
  | zero =>
    refine g_X6_shuffle_31 _ _ _ μ1 _ (br_t (by decide) ?_)
    refine br_t (by rw [f1 9 (by omega) (by omega), e1]; decide) ?_
    refine e_X10_draw a μ1 _ (drawM1 (n := 0) (by omega) 0 0 μ1 (by omega) (by rw [f1 40 (by omega) (by omega)]; exact e2) (fun k hk => by omega) (fun μ2 g1 g2 => ?_))
    refine g_X10_draw_32 _ _ _ μ2 _ (br_t (by decide) (br_t (by rw [g1 40 (by omega), f1 40 (by omega) (by omega), e2]; rfl) ⟨rfl, ?_⟩))
    exact Inv_ord I (n := 0) (by omega) e2 (fun b x y z => by rw [g1 b z, f1 b x y]) (fun k hk => by omega) ⟨fun i hi => by omega, fun i hi => by omega⟩
  | succ m =>
    rw [nI_pred]
    refine shuffle2 hn m a μ1 nI (by omega) (fun k hk => (f2 k hk).1) (pm_id (fun k hk => (f2 k hk).2)) (fun μ2 g1 g2 g3 => ?_)
    refine br_f (by rw [g1 9 (by omega) (by omega), f1 9 (by omega) (by omega), e1]; exact nI_nle (by omega) (by omega)) ⟨vp_in_nI (n := 0) (by omega) (by omega), ?_⟩
    have q40 : μ2 40 0 = nI (m + 1) := by rw [g1 40 (by omega) (by omega), f1 40 (by omega) (by omega)]; exact e2
    refine e_X10_draw a μ2 _ (drawM1 hn (m + 1) 0 μ2 (by omega) q40 (fun k hk => by omega) (fun μ3 k1 k2 => ?_))
    rw [nI_pred]
    refine drawM2 hn m a μ3 nI (by omega) (by rw [k1 40 (by omega)]; exact q40) k2 (fun μ4 l1 l2 => ⟨g2 0 (by omega), ?_⟩)
    refine Inv_ord I hn e2 (fun b x y z => by rw [l1 b z, k1 b z, g1 b x y, f1 b x y]) (fun k hk => ?_) ?_
    · rw [l2 k hk, l1 11 (by omega), k1 11 (by omega), g2 k hk]
    · have e12 : μ4 12 = μ2 12 := by rw [l1 12 (by omega), k1 12 (by omega)]
      rw [e12]
      refine ⟨fun i hi => ?_, fun p hp => ?_⟩
      · rw [l2 i hi]; exact g3.1 i hi
      · obtain ⟨i, x, y, z⟩ := g3.2 p hp
        exact ⟨i, x, y, by rw [l2 i x]; exact z⟩

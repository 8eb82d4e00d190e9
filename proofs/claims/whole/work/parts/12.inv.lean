/-! ===== numbers; the state of class and reference side by side ===== -/
def rg (v lo hi : Int32) : Prop := ¬ v < lo ∧ ¬ hi < v
theorem rg_nat {v hi : Int32} {n : Nat} (hn : hi.toInt = n) (h : rg v 0 hi) : ∃ j, j ≤ n ∧ v = nI j := nI_of2 hn h.1 (Int32.not_lt.mp h.2)
theorem rg_lt {v : Int32} {n : Nat} (hn : n < 2 ^ 30) (h : rg v 0 (nI n - 1)) : ∃ j, j < n ∧ v = nI j := by
  cases n with
  | zero =>
    have h2 := h.2
    have h1 := h.1
    rw [Int32.not_lt] at h1 h2
    rw [Int32.le_iff_toInt_le] at h1 h2
    have e : (nI 0 - 1 : Int32).toInt = -1 := by decide
    have e0 : (0 : Int32).toInt = 0 := by decide
    omega
  | succ n =>
    rw [nI_pred] at h
    obtain ⟨j, h1, h2⟩ := rg_nat (nI_toInt (by omega)) h
    exact ⟨j, by omega, h2⟩
theorem rg_of {j n : Nat} (h : j < n) (hn : n < 2 ^ 30) : rg (nI j) 0 (nI n - 1) := by
  cases n with
  | zero => omega
  | succ n =>
    rw [nI_pred]
    exact ⟨nI_pos (by omega), nI_nlt (by omega) (by omega)⟩
theorem nI_cl {n : Nat} (h : n < 2 ^ 31) : (nI n).toNatClampNeg = n := nI_clamp h
theorem zb0 : sv_zb 0 := by unfold sv_zb; rfl
theorem zb1 : sv_zb 1 := by unfold sv_zb; rfl
section UP
variable {μ : sv_Mem} {a b i j : Nat} {x : Int32}
theorem up_pl (h : b ≠ a) : sv_up μ a i x b = μ b := if_neg h
theorem up_s : sv_up μ a i x a i = x := by simp [sv_up, upd]
theorem up_n (h : j ≠ i) : sv_up μ a i x a j = μ a j := by simp [sv_up, upd, h]
theorem up_f : sv_up μ a i x a = upd (μ a) i x := by simp [sv_up]
end UP
theorem upd_s {f : Nat → Int32} {i : Nat} {x : Int32} : upd f i x i = x := by simp [upd]
theorem upd_n {f : Nat → Int32} {i j : Nat} {x : Int32} (h : j ≠ i) : upd f i x j = f j := by simp [upd, h]
/-! the bylaw's text, read -/
def pB (t : Nat → Int32) (n k : Nat) : Int32 := if k < n then t k else -1
def pn (t : Nat → Int32) (n : Nat) : Nat → Nat → Int32 → Int32 × Nat
  | 0, k, v => (v, k)
  | f + 1, k, v => if 48 ≤ pB t n k ∧ pB t n k ≤ 57 then pn t n f (k + 1) (10 * v + pB t n k - 48) else (v, k)
noncomputable def pR (t : Nat → Int32) (n k : Nat) : Nat ⊕ (Int32 × Int32 × Int32 × Nat) :=
  if ¬ pB t n k = 118 then .inl k
  else if (pn t n 3 (k + 1) 0).1 < 1 ∨ 100 < (pn t n 3 (k + 1) 0).1 then .inl (k + 1)
  else if ¬ pB t n (pn t n 3 (k + 1) 0).2 = 97 then .inl (pn t n 3 (k + 1) 0).2
  else if (pn t n 3 ((pn t n 3 (k + 1) 0).2 + 1) 0).1 < 1 ∨ 24 < (pn t n 3 ((pn t n 3 (k + 1) 0).2 + 1) 0).1 then .inl ((pn t n 3 (k + 1) 0).2 + 1)
  else if ¬ (pB t n (pn t n 3 ((pn t n 3 (k + 1) 0).2 + 1) 0).2 = 97 ∨ pB t n (pn t n 3 ((pn t n 3 (k + 1) 0).2 + 1) 0).2 = 110 ∨ pB t n (pn t n 3 ((pn t n 3 (k + 1) 0).2 + 1) 0).2 = 100 ∨ pB t n (pn t n 3 ((pn t n 3 (k + 1) 0).2 + 1) 0).2 = 115) then .inl (pn t n 3 ((pn t n 3 (k + 1) 0).2 + 1) 0).2
  else .inr ((pn t n 3 (k + 1) 0).1, (pn t n 3 ((pn t n 3 (k + 1) 0).2 + 1) 0).1, pB t n (pn t n 3 ((pn t n 3 (k + 1) 0).2 + 1) 0).2, (pn t n 3 ((pn t n 3 (k + 1) 0).2 + 1) 0).2 + 1)
noncomputable def pA (t : Nat → Int32) (n : Nat) : Nat → Nat → Nat ⊕ List (Int32 × Int32 × Int32)
  | 0, k => .inl k
  | m + 1, k => match pR t n k with
    | .inl q => .inl q
    | .inr (v, w, b, k') => if n ≤ k' then .inr [(v, w, b)] else if m = 0 then .inl k' else if ¬ pB t n k' = 59 then .inl k' else match pA t n m (k' + 1) with
      | .inl q => .inl q
      | .inr L => .inr ((v, w, b) :: L)
noncomputable def pT (t : Nat → Int32) (n : Nat) : Nat ⊕ List (Int32 × Int32 × Int32) := pA t n 4 0
/-- what the class keeps of the text's reading -/
def pK (P : Nat ⊕ List (Int32 × Int32 × Int32)) (rounds fault : Int32) (sh pl le : Nat → Int32) : Prop := match P with
  | .inl q => fault = nI q ∧ q ≤ 60 ∧ rounds = 0
  | .inr L => fault = -1 ∧ rounds = nI L.length ∧ 1 ≤ L.length ∧ L.length ≤ 4 ∧ ∀ (r : Nat) (z : Int32 × Int32 × Int32), L[r]? = some z → sh r = z.1 ∧ pl r = z.2.1 ∧ le r = z.2.2 ∧ rg z.1 1 100 ∧ rg z.2.1 1 24
/-! the invariant, part by part -/
def jv_pl (a b : Int32) (kc km row line pos : Nat → Int32) : Prop := ∃ n, n ≤ 24 ∧ a = nI n ∧ b = nI n ∧ (∀ i, i < n → kc i = km i) ∧ (∀ i, i < n → row i = line i) ∧ (∀ i, i < n → ∃ p, p < n ∧ line i = nI p ∧ pos p = nI i) ∧ ∀ p, p < n → ∃ i, i < n ∧ pos p = nI i ∧ line i = nI p
def jv_ju (a b : Int32) : Prop := ∃ j, 1 ≤ j ∧ j ≤ 9 ∧ a = nI j ∧ b = nI j
def jv_tx (a b : Int32) (tc tm : Nat → Int32) (rounds fault : Int32) (sh pl le : Nat → Int32) : Prop := ∃ n, n ≤ 60 ∧ a = nI n ∧ b = nI n ∧ (∀ i, i < n → tc i = tm i) ∧ pK (pT tm n) rounds fault sh pl le
def jv_ch (c d : Nat → Int32) : Prop := ∀ i, i < 5 → c i = d i ∧ ∃ x, x ≤ 100 ∧ d i = nI x
def jv_tr (a b : Int32) (on tr wc wm m0 m1 m2 m3 m4 m5 mm : Nat → Int32) : Prop := ∃ t, t ≤ 6 ∧ a = nI t ∧ b = nI t ∧ (∀ i, i < t → on i = tr i) ∧ ∀ i, i < 6 → ∃ w, w ≤ 10 ∧ wc i = nI w ∧ wm i = nI w ∧ ∀ j, j < w → ∃ x, x ≤ 20 ∧ (match i with | 0 => m0 | 1 => m1 | 2 => m2 | 3 => m3 | 4 => m4 | _ => m5) j = nI x ∧ mm (10 * i + j) = nI x
def jv_he (a b : Int32) (n1 n2 y1 y2 r1 r2 : Nat → Int32) : Prop := ∃ k, k ≤ 60 ∧ a = nI k ∧ b = nI k ∧ ∀ i, i < k → n1 i = n2 i ∧ y1 i = y2 i ∧ r1 i = r2 i
/-- sheet s: lost, or there, the same in both -/
def jv_s1 (s : Nat) (fc sc there fm sm row items : Nat → Int32) : Prop := (there s = 0 ∧ fc s = -1 ∧ sc s = 0) ∨ (there s = 1 ∧ fc s = fm s ∧ (∃ f, f ≤ 2 ∧ fm s = nI f) ∧ ∃ n, n ≤ 240 ∧ sc s = nI n ∧ sm s = nI n ∧ ∀ i, i < n → row i = items (240 * s + i))
def jv_sh (fc sc there fm sm r0 r1 r2 r3 items : Nat → Int32) : Prop := jv_s1 0 fc sc there fm sm r0 items ∧ jv_s1 1 fc sc there fm sm r1 items ∧ jv_s1 2 fc sc there fm sm r2 items ∧ jv_s1 3 fc sc there fm sm r3 items
def Inv (μ : sv_Mem) : Prop :=
  jv_pl (μ 9 4) (μ 40 0) (μ 10) (μ 41) (μ 11) (μ 42) (μ 12) ∧ jv_ju (μ 9 5) (μ 40 3) ∧ jv_tx (μ 13 4) (μ 40 4) (μ 14) (μ 43) (μ 13 5) (μ 13 6) (μ 15) (μ 16) (μ 17) ∧ jv_ch (μ 39) (μ 47) ∧
  jv_tr (μ 25 3) (μ 40 14) (μ 26) (μ 49) (μ 27) (μ 50) (μ 29) (μ 30) (μ 31) (μ 32) (μ 33) (μ 34) (μ 51) ∧ jv_he (μ 35 3) (μ 40 18) (μ 36) (μ 52) (μ 37) (μ 53) (μ 38) (μ 54) ∧
  jv_sh (μ 7) (μ 8) (μ 55) (μ 56) (μ 57) (μ 3) (μ 4) (μ 5) (μ 6) (μ 58) ∧ μ 1 3 = μ 40 27
/-! ===== small methods ===== -/
section SM
variable {μ : sv_Mem} {K : Int32 → sv_Mem → Prop} {v lo hi : Int32}
theorem within_s (h1 : rg v lo hi → K 1 μ) (h0 : ¬ rg v lo hi → K 0 μ) : sv_cI m_X9_within [.int v, .int lo, .int hi] μ K :=
  e_X9_within v lo hi μ K ⟨fun a => ⟨zb0, h0 (fun r => r.1 a)⟩, fun a => ⟨fun b => ⟨zb0, h0 (fun r => r.2 b)⟩, fun b => ⟨zb1, h1 ⟨a, b⟩⟩⟩⟩
theorem in_s (h1 : rg v lo hi → K 1 μ) (h0 : ¬ rg v lo hi → K 0 μ) : sv_cI m_X10_in [.int v, .int lo, .int hi] μ K :=
  e_X10_in v lo hi μ K ⟨fun a => ⟨zb0, h0 (fun r => r.1 a)⟩, fun a => ⟨fun b => ⟨zb0, h0 (fun r => r.2 b)⟩, fun b => ⟨zb1, h1 ⟨a, b⟩⟩⟩⟩
theorem isRound_s (h1 : rg v 0 3 → K 1 μ) (h0 : ¬ rg v 0 3 → K 0 μ) : sv_cI m_X9_isRound [.int v] μ K := e_X9_isRound v μ K (within_s (fun h => ⟨zb1, h1 h⟩) (fun h => ⟨zb0, h0 h⟩))
theorem isSheet_s (h1 : rg v 0 3 → K 1 μ) (h0 : ¬ rg v 0 3 → K 0 μ) : sv_cI m_X9_isSheet [.int v] μ K := e_X9_isSheet v μ K (within_s (fun h => ⟨zb1, h1 h⟩) (fun h => ⟨zb0, h0 h⟩))
theorem isForm_s (h1 : rg v 0 2 → K 1 μ) (h0 : ¬ rg v 0 2 → K 0 μ) : sv_cI m_X9_isForm [.int v] μ K := e_X9_isForm v μ K (within_s (fun h => ⟨zb1, h1 h⟩) (fun h => ⟨zb0, h0 h⟩))
theorem inTable_s (h1 : rg v 0 15 → K 1 μ) (h0 : ¬ rg v 0 15 → K 0 μ) : sv_cI m_X9_inTable [.int v] μ K := e_X9_inTable v μ K (within_s (fun h => ⟨zb1, h1 h⟩) (fun h => ⟨zb0, h0 h⟩))
theorem isNumber_s (h1 : rg v 0 999999 → K 1 μ) (h0 : ¬ rg v 0 999999 → K 0 μ) : sv_cI m_X9_isNumber [.int v] μ K := e_X9_isNumber v μ K (within_s (fun h => ⟨zb1, h1 h⟩) (fun h => ⟨zb0, h0 h⟩))
theorem isSkill_s (h1 : rg v 0 4 → K 1 μ) (h0 : ¬ rg v 0 4 → K 0 μ) : sv_cI m_X9_isSkill [.ref 0, .int v] μ K := e_X9_isSkill v μ K (within_s (fun h => ⟨zb1, h1 h⟩) (fun h => ⟨zb0, h0 h⟩))
theorem isPlayer_s (h1 : rg v 0 (μ 9 4 - 1) → K 1 μ) (h0 : ¬ rg v 0 (μ 9 4 - 1) → K 0 μ) : sv_cI m_X9_isPlayer [.ref 0, .int v] μ K := e_X9_isPlayer v μ K (within_s (fun h => ⟨zb1, h1 h⟩) (fun h => ⟨zb0, h0 h⟩))
theorem isPlace_s (h1 : rg v 0 (μ 25 3 - 1) → K 1 μ) (h0 : ¬ rg v 0 (μ 25 3 - 1) → K 0 μ) : sv_cI m_X9_isPlace [.ref 0, .int v] μ K := e_X9_isPlace v μ K (within_s (fun h => ⟨zb1, h1 h⟩) (fun h => ⟨zb0, h0 h⟩))
theorem isSheetM_s (h1 : rg v 0 3 → K 1 μ) (h0 : ¬ rg v 0 3 → K 0 μ) : sv_cI m_X10_isSheet [.int v] μ K := e_X10_isSheet v μ K (in_s (fun h => ⟨zb1, h1 h⟩) (fun h => ⟨zb0, h0 h⟩))
theorem isPlayerM_s (h1 : rg v 0 (μ 40 0 - 1) → K 1 μ) (h0 : ¬ rg v 0 (μ 40 0 - 1) → K 0 μ) : sv_cI m_X10_isPlayer [.ref 40, .int v] μ K := e_X10_isPlayer v μ K (in_s (fun h => ⟨zb1, h1 h⟩) (fun h => ⟨zb0, h0 h⟩))
end SM
/-- a call of the class, then the same of the reference: the same answer, and the state agrees again -/
abbrev Both (mx mm : sv_M) (as : List Value) (μ : sv_Mem) : Prop := sv_cI mx (.ref 0 :: as) μ (fun r μ1 => sv_cI mm (.ref 40 :: as) μ1 (fun r' μ2 => r = r' ∧ Inv μ2))
theorem t01 : ¬ (1 : Int32) = 0 := by decide
theorem L_jurors (a : Int32) {μ : sv_Mem} (I : Inv μ) : Both m_X9_jurors m_X10_jurors [.int a] μ := by
  refine e_X9_jurors a μ _ (within_s (fun h => br_f t01 ?_) (fun h => br_t rfl ?_))
  · refine e_X10_jurors a _ _ (in_s (fun _ => br_f t01 ?_) (fun z => absurd h z))
    obtain ⟨i1, ⟨j, h1, h2, h3, h4⟩, i3⟩ := I
    refine ⟨h3.trans h4.symm, i1, ?_, i3⟩
    obtain ⟨k, hk, e⟩ := rg_nat (n := 9) rfl ⟨fun z => h.1 (Int32.lt_trans z (by decide)), h.2⟩
    refine ⟨k, ?_, hk, e, e⟩
    cases k with
    | zero => exact absurd (by rw [e]; decide) h.1
    | succ k => omega
  · exact e_X10_jurors a _ _ (in_s (fun z => absurd z h) (fun _ => br_t rfl ⟨rfl, I⟩))
theorem L_order (a : Int32) {μ : sv_Mem} (I : Inv μ) : Both m_X9_order m_X10_order [.int a] μ := by
  obtain ⟨n, hn, e1, e2, hk, hr, hp, hq⟩ := id I.1
  refine e_X9_order a μ _ (isPlayer_s (fun h => br_f t01 ?_) (fun h => br_t rfl ?_))
  · rw [e1] at h
    obtain ⟨j, hj, ea⟩ := rg_lt (by omega) h
    subst ea
    refine ⟨vp_in_nI (by omega) (by omega), ?_⟩
    refine e_X10_order _ _ _ (in_s (fun _ => br_f t01 ?_) (fun z => absurd (by rw [e2]; exact h) z))
    refine ⟨vp_in_nI (by omega) (by omega), ?_, I⟩
    rw [nI_cl (by omega)]
    exact hr j hj
  · exact e_X10_order a _ _ (in_s (fun z => absurd (by rw [e1]; rw [e2] at z; exact z) h) (fun _ => br_t rfl ⟨rfl, I⟩))

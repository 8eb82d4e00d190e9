/-! ===== who advances: one round, both ways of saying it ===== -/
section TIE
variable (n : Nat) (P : Nat → Bool) (w : Nat → Nat) (S : Nat) (l : Int32) (bf : Nat → Nat → Bool)
def t_ab (p : Nat) : Nat := cnt (fun q => P q && decide (w p < w q)) n
def t_al (p : Nat) : Nat := cnt (fun q => P q && decide (w q = w p)) n
def t_ah (p : Nat) : Nat := cnt (fun q => P q && decide (w q = w p) && bf q p) n
def t_do (p : Nat) : Bool := P p && (decide (t_ab n P w p + t_al n P w p ≤ S) || (decide (t_ab n P w p < S) && (decide (l = 97) || (!decide (l = 110) && decide (t_ab n P w p + t_ah n P w bf p < S)))))
def t_su (p : Nat) : Bool := P p && decide (t_ab n P w p + t_al n P w p ≤ S)
def t_ti (p : Nat) : Bool := P p && (!decide (t_ab n P w p + t_al n P w p ≤ S) && decide (t_ab n P w p < S))
def t_lf : Nat → Nat
  | 0 => 0
  | i + 1 => if t_ti n P w S i = true then S - t_ab n P w i else t_lf i
def t_ac (p : Nat) : Nat := cnt (fun q => t_ti n P w S q && bf q p) n
def t_fi (p : Nat) : Bool := t_ti n P w S p && decide (t_ac n P w S bf p < t_lf n P w S n)
def t_ot (p : Nat) : Bool := if l = 97 then t_ti n P w S p else if l = 100 ∨ l = 115 then t_fi n P w S bf p else false
variable {n P w S l bf}
theorem ti_e {p : Nat} : t_ti n P w S p = true ↔ P p = true ∧ ¬ t_ab n P w p + t_al n P w p ≤ S ∧ t_ab n P w p < S := by
  unfold t_ti
  simp
theorem ab_e {p q : Nat} (h : w p = w q) : t_ab n P w p = t_ab n P w q := by unfold t_ab; rw [h]
theorem al_e {p q : Nat} (h : w p = w q) : t_al n P w p = t_al n P w q := by unfold t_al; rw [h]
theorem ti_x {p q : Nat} (hp : t_ti n P w S p = true) (hq : t_ti n P w S q = true) : ¬ w p < w q := by
  intro h
  have hp := (ti_e.mp hp).2.2
  have hq := (ti_e.mp hq).2.1
  have c : t_ab n P w q + t_al n P w q ≤ t_ab n P w p := by
    unfold t_ab t_al
    refine cnt_2 n (fun i _ => ?_)
    simp only [Bool.and_eq_true, decide_eq_true_eq]
    refine ⟨fun a => ⟨a.1, by omega⟩, fun a => ⟨a.1, by omega⟩, fun a => ?_⟩
    have h1 := a.1.2
    have h2 := a.2.2
    omega
  omega
theorem ti_w {p q : Nat} (hp : t_ti n P w S p = true) (hq : t_ti n P w S q = true) : w p = w q := by
  have h1 := ti_x hp hq
  have h2 := ti_x hq hp
  omega
theorem ti_i {p q : Nat} (hp : t_ti n P w S p = true) : t_ti n P w S q = true ↔ P q = true ∧ w q = w p := by
  constructor
  · intro hq
    exact ⟨(ti_e.mp hq).1, ti_w hq hp⟩
  · intro h
    have := ti_e.mp hp
    refine ti_e.mpr ⟨h.1, ?_⟩
    rw [ab_e h.2, al_e h.2]
    exact this.2
theorem lf_e {p : Nat} (hp : t_ti n P w S p = true) : ∀ i, p < i → t_lf n P w S i = S - t_ab n P w p
  | 0, h => absurd h (by omega)
  | i + 1, h => by
    unfold t_lf
    split
    · rename_i q
      rw [ab_e (ti_w q hp)]
    · rename_i q
      by_cases e : p = i
      · subst e; exact absurd hp q
      · exact lf_e hp i (by omega)
theorem ac_e {p : Nat} (hp : t_ti n P w S p = true) : t_ac n P w S bf p = t_ah n P w bf p := by
  unfold t_ac t_ah
  refine cnt_c n (fun q _ => ?_)
  have h := ti_i (q := q) hp
  congr 1
  cases a : t_ti n P w S q
  · rw [a] at h
    symm
    rw [Bool.eq_false_iff]
    intro z
    simp only [Bool.and_eq_true, decide_eq_true_eq] at z
    exact absurd (h.mpr z) (by decide)
  · have z := h.mp a
    rw [z.1]
    simp [z.2]
theorem tie_e {p : Nat} (hp : p < n) (hl : l = 97 ∨ l = 110 ∨ l = 100 ∨ l = 115) : (t_su n P w S p || t_ot n P w S l bf p) = t_do n P w S l bf p := by
  by_cases q : P p = true
  · by_cases a : t_ab n P w p + t_al n P w p ≤ S
    · unfold t_su t_do
      simp [q, a]
    · have su0 : t_su n P w S p = false := by unfold t_su; simp [q, a]
      rw [su0, Bool.false_or]
      by_cases b : t_ab n P w p < S
      · have ti1 : t_ti n P w S p = true := ti_e.mpr ⟨q, a, b⟩
        have fi : t_fi n P w S bf p = decide (t_ab n P w p + t_ah n P w bf p < S) := by
          unfold t_fi
          rw [ti1, Bool.true_and, ac_e ti1, lf_e ti1 n hp]
          congr 1
          apply propext
          omega
        unfold t_do t_ot
        rw [fi, ti1]
        rcases hl with h | h | h | h <;> subst h <;> simp [q, a, b]
      · have ti0 : t_ti n P w S p = false := by unfold t_ti; simp [b]
        have fi0 : t_fi n P w S bf p = false := by unfold t_fi; simp [ti0]
        unfold t_ot t_do
        rw [ti0, fi0]
        simp [a, b]
  · have q : P p = false := by simpa using q
    have ti0 : t_ti n P w S p = false := by unfold t_ti; simp [q]
    have fi0 : t_fi n P w S bf p = false := by unfold t_fi; simp [ti0]
    have su0 : t_su n P w S p = false := by unfold t_su; simp [q]
    unfold t_ot t_do
    rw [ti0, fi0, su0, q]
    simp
end TIE

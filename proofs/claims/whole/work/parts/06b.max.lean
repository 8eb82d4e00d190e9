/-- Math.max of two ints -/
def o_mx (nx : Nat) : sv_O := fun k _ lv st μ => sv_p2 st (fun x y t => bif Nat.ble (sv_wn t) 8 then k nx lv (.int (if x < y then y else x) :: t) μ else False)
theorem s_max {M : sv_M} {pc idx : Nat} (h1 : Cond.methodLink M.1.cls idx Lib.Math.max.name ∈ sv_GT) (h2 : Cond.static Lib.Math.max.name ∈ sv_GT) (h3 : Cond.initialized "java/lang/Math" ∈ sv_GT) (h4 : Cond.code Lib.Math.max.name Lib.Math.max.code 2 (some .int) ∈ sv_GT) (hf : 1 ≤ M.2.2.2.2.1) (hl0 : 8 + 13 ≤ M.2.2.2.2.2) (hd : decode M.2.1 pc = .ok (.invokestatic idx, 3)) : sv_Snd M pc (o_mx (pc + 3)) := by
  intro k Q lv st μ hk h
  obtain ⟨x, y, t, rfl, h0⟩ := sv_p2_e h
  obtain ⟨hw, h5⟩ := sv_bif h0
  intro l p e R s m args below meth c cells slots Z A g CC H locs ls hW hl
  have hts := CC.2.2.2.2.1
  have hsum := sv_wn_sum g.2.1 t
  have hle := Nat.le_of_ble_eq_true hw
  exact va_mmax CC.1 CC.2.1 (CC.2.2.1.trans hl.1.symm) CC.2.2.2.1 (hts _ h1) (hts _ h2) (hts _ h3) (hts _ h4) (Nat.le_trans hf CC.2.2.2.2.2.2.1.1) (Nat.le_trans (Nat.add_le_add_right (by rw [hsum]; exact hle) _) (Nat.le_trans hl0 CC.2.2.2.2.2.2.1.2)) CC.2.2.2.2.2.2.2.2.2.1.1 CC.2.2.2.2.2.2.2.2.2.1.2 hd (hk _ _ _ _ h5 l p e R s m args below meth c cells slots Z A g CC H locs ls hW hl)

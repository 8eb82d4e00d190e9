/-! ===== the start: both made, their states agree ===== -/
def mu0 : sv_Mem := fun k => match k with
  | 7 => upd (upd (upd (upd (fun _ => 0) (Int32.toNatClampNeg (0 : Int32)) (-1 : Int32)) (Int32.toNatClampNeg (1 : Int32)) (-1 : Int32)) (Int32.toNatClampNeg (2 : Int32)) (-1 : Int32)) (Int32.toNatClampNeg (3 : Int32)) (-1 : Int32)
  | 9 => fun j => if j = 5 then 5 else 0
  | 39 => upd (upd (upd (upd (upd (fun _ => 0) (Int32.toNatClampNeg (0 : Int32)) (10 : Int32)) (Int32.toNatClampNeg (1 : Int32)) (30 : Int32)) (Int32.toNatClampNeg (2 : Int32)) (50 : Int32)) (Int32.toNatClampNeg (3 : Int32)) (70 : Int32)) (Int32.toNatClampNeg (4 : Int32)) (90 : Int32)
  | 40 => fun j => if j = 3 then 5 else 0
  | 47 => upd (upd (upd (upd (upd (fun _ => 0) (Int32.toNatClampNeg (0 : Int32)) (10 : Int32)) (Int32.toNatClampNeg (1 : Int32)) (30 : Int32)) (Int32.toNatClampNeg (2 : Int32)) (50 : Int32)) (Int32.toNatClampNeg (3 : Int32)) (70 : Int32)) (Int32.toNatClampNeg (4 : Int32)) (90 : Int32)
  | _ => fun _ => 0
def lw_ad (h0 h1 : Nat) (u v : Nat → Nat) : Nat → Nat := fun k => match k with
  | 0 => h0
  | k + 1 => if k < 39 then u k else if k = 39 then h1 else v (k - 40)
theorem pT_0 (t : Nat → Int32) : pT t 0 = .inl 0 := by
  have e : pR t 0 0 = .inl 0 := by
    unfold pR
    rw [if_pos (by unfold pB; rw [if_neg (by omega)]; decide)]
  unfold pT pA
  rw [e]
theorem Inv_0 : Inv mu0 := by
  refine ⟨⟨0, by omega, by decide +kernel, by decide +kernel, fun i h => absurd h (by omega), fun i h => absurd h (by omega), fun i h => absurd h (by omega), fun i h => absurd h (by omega)⟩, ⟨5, by omega, by omega, by decide +kernel, by decide +kernel⟩, ⟨0, by omega, by decide +kernel, by decide +kernel, fun i h => absurd h (by omega), ?_⟩, ?_, ⟨0, by omega, by decide +kernel, by decide +kernel, fun i h => absurd h (by omega), fun i h => ⟨0, by omega, rfl, rfl, fun j h => absurd h (by omega)⟩⟩, ⟨0, by omega, by decide +kernel, by decide +kernel, fun i h => absurd h (by omega)⟩, ?_, by decide +kernel⟩
  · rw [pT_0]
    exact ⟨by decide +kernel, by omega, by decide +kernel⟩
  · intro i hi
    match i, hi with
    | 0, _ => exact ⟨rfl, 10, by omega, by decide +kernel⟩
    | 1, _ => exact ⟨rfl, 30, by omega, by decide +kernel⟩
    | 2, _ => exact ⟨rfl, 50, by omega, by decide +kernel⟩
    | 3, _ => exact ⟨rfl, 70, by omega, by decide +kernel⟩
    | 4, _ => exact ⟨rfl, 90, by omega, by decide +kernel⟩
    | i + 5, h => exact absurd h (by omega)
  · exact ⟨Or.inl ⟨by decide +kernel, by decide +kernel, by decide +kernel⟩, Or.inl ⟨by decide +kernel, by decide +kernel, by decide +kernel⟩, Or.inl ⟨by decide +kernel, by decide +kernel, by decide +kernel⟩, Or.inl ⟨by decide +kernel, by decide +kernel, by decide +kernel⟩⟩
set_option maxHeartbeats 4000000 in
set_option maxRecDepth 100000 in
theorem lw_weq (dG : va_G) (c1 c2 c3 : ClassId) (h0 h1 : Nat) (u v : Nat → Nat) : sv_ws (dG, lw_ad h0 h1 u v, c1, c2, c3) mu0 = Wo_X9 (dG, lw_ad h0 h1 u v, c1, c2, c3) h0 u ++ Wo_X10 (dG, lw_ad h0 h1 u v, c1, c2, c3) h1 v := by
  have e4 : (fun i => if i < 4 then some ([u 2, u 3, u 4, u 5].getD i 0) else none) = (fun i => if i < 4 then some (lw_ad h0 h1 u v (3 + i)) else none) := by
    funext i
    match i with
    | 0 => rfl
    | 1 => rfl
    | 2 => rfl
    | 3 => rfl
    | i + 4 => rw [if_neg (by omega), if_neg (by omega)]
  have e6 : (fun i => if i < 6 then some ([u 28, u 29, u 30, u 31, u 32, u 33].getD i 0) else none) = (fun i => if i < 6 then some (lw_ad h0 h1 u v (29 + i)) else none) := by
    funext i
    match i with
    | 0 => rfl
    | 1 => rfl
    | 2 => rfl
    | 3 => rfl
    | 4 => rfl
    | 5 => rfl
    | i + 6 => rw [if_neg (by omega), if_neg (by omega)]
  unfold Wo_X9 Wo_X10
  rw [e4, e6]
  rfl
set_option maxHeartbeats 4000000 in
set_option maxRecDepth 100000 in
/-- THE LAW, from its entry -/
theorem whole_start {p : Program} {e : Env} {s : State} {m : MethodId} {below : List Frame} {meth : Method} {c : Code} (l : Launch) {b L : Nat} {xs : Nat → Int32} (hL : L ≤ 3072) (C0 : lw_At p s m meth c b L xs) : W p l e room_1 s m #[Value.ref b] below meth c s.heap [] 0 0 (lw_Z below #[Value.ref b] s) (entryFrame m ([Value.ref b] : List Value).toArray 4) := by
  obtain ⟨hx, hb, hr, hml, hown, hts0, hX, hbl, hlocks, hgv⟩ := C0
  have hown : s.vm.findClass RL = some m.cls := hown
  have hts : ∀ w ∈ sv_GT, w.before #[Value.ref b] s = true := fun w h => hts0 w (List.mem_filter.mp h).1
  have hN : sv_Nw s := fun w hw => by
    have h1 := hts0 w (List.mem_filter.mp hw).1
    have h2 := (List.mem_filter.mp hw).2
    cases w <;> first | (exact va_Nw.of rfl h1) | (exact absurd h2 (by decide)) | (simp [sv_isN] at h2)
  have hkN : k_Nw s := by
    refine ⟨fun w hw => ?_, va_AOA.of (hts0 (.arrayOver (.array .int)) (List.mem_of_getElem? (i := 80) (by decide +kernel)))⟩
    have h1 := hts0 w (List.mem_filter.mp hw).1
    have h2 := (List.mem_filter.mp hw).2
    cases w <;> first | (exact va_Nw.of rfl h1) | (exact absurd h2 (by decide)) | (simp [k_isN] at h2)
  have hA : ∀ q : Nat, s.heap.size ≤ q → lw_A s q := fun _ h => h
  obtain ⟨kc0, ks0, hk0⟩ := u_known (C := RX0) (T := TX0) (N := 9) (n := 9) hts cf_X0.2.1 (hts _ ki_is_X0)
  obtain ⟨kc1, ks1, hk1⟩ := u_known (C := RX1) (T := TX1) (N := 5) (n := 5) hts cf_X1.2.1 (hts _ ki_is_X1)
  obtain ⟨kc2, ks2, hk2⟩ := u_known (C := RX2) (T := TX2) (N := 4) (n := 4) hts cf_X2.2.1 (hts _ ki_is_X2)
  obtain ⟨kc3, ks3, hk3⟩ := u_known (C := RX3) (T := TX3) (N := 3) (n := 3) hts cf_X3.2.1 (hts _ ki_is_X3)
  obtain ⟨kc4, ks4, hk4⟩ := u_known (C := RX5) (T := TX5) (N := 2) (n := 2) hts cf_X5.2.1 (hts _ ki_is_X5)
  obtain ⟨kc5, ks5, hk5⟩ := u_known (C := RX6) (T := TX6) (N := 6) (n := 6) hts cf_X6.2.1 (hts _ ki_is_X6)
  obtain ⟨kc6, ks6, hk6⟩ := u_known (C := RX7) (T := TX7) (N := 4) (n := 4) hts cf_X7.2.1 (hts _ ki_is_X7)
  obtain ⟨kc7, ks7, hk7⟩ := u_known (C := RX8) (T := TX8) (N := 4) (n := 4) hts cf_X8.2.1 (hts _ ki_is_X8)
  obtain ⟨kc8, ks8, hk8⟩ := u_known (C := RX9) (T := TX9) (N := 9) (n := 9) hts cf_X9.2.1 (hts _ ki_is_X9)
  obtain ⟨kc9, ks9, hk9⟩ := u_known (C := RX10) (T := TX10) (N := 28) (n := 28) hts cf_X10.2.1 (hts _ ki_is_X10)
  obtain ⟨dC, dI, hKc⟩ : ∃ (dC : Nat → ClassId) (dI : Nat → Nat → Nat), ∀ (k : Nat) (q : vw_C), vwCl[k]? = some q → u_Kn s q.1 q.2.1 q.2.2 (dC k) (dI k) := by
    refine ⟨fun k => match k with | 0 => kc0 | 1 => kc1 | 2 => kc2 | 3 => kc3 | 4 => kc4 | 5 => kc5 | 6 => kc6 | 7 => kc7 | 8 => kc8 | _ => kc9, fun k => match k with | 0 => ks0 | 1 => ks1 | 2 => ks2 | 3 => ks3 | 4 => ks4 | 5 => ks5 | 6 => ks6 | 7 => ks7 | 8 => ks8 | _ => ks9, ?_⟩
    intro k q hq
    match k, hq with
    | 0, hq => cases hq; exact hk0
    | 1, hq => cases hq; exact hk1
    | 2, hq => cases hq; exact hk2
    | 3, hq => cases hq; exact hk3
    | 4, hq => cases hq; exact hk4
    | 5, hq => cases hq; exact hk5
    | 6, hq => cases hq; exact hk6
    | 7, hq => cases hq; exact hk7
    | 8, hq => cases hq; exact hk8
    | 9, hq => cases hq; exact hk9
    | k + 10, hq => simp [vwCl] at hq
  obtain ⟨c1, c1k, c1c, c1f, c1h, c1d⟩ := Cond.arrayClass_spec (hts _ ki_ai)
  obtain ⟨c2, c2k, c2c, c2f, c2h, c2d⟩ := Cond.arrayClass_spec (hts _ ki_ab)
  obtain ⟨c3c, c3, c3k, c3a, c3b, c3h, c3d, c3f⟩ := arrayOverA_spec hkN.2
  have hKall : ∀ ad : Nat → Nat, va_K (dC, dI) vwCl (sv_tys ((dC, dI), ad, c1, c2, c3)) s := fun ad => by
    refine ⟨hKc, fun k q hq => ?_⟩
    match k, hq with
    | 0, hq => cases hq; exact ⟨fun N z => ⟨(fun q hq => by cases hq), c1k, c1h, c1c, c1d⟩, c1f⟩
    | 1, hq => cases hq; exact ⟨fun N z => ⟨(fun q hq => by cases hq), c2k, c2h, c2c, c2d⟩, c2f⟩
    | 2, hq => cases hq; exact ⟨fun N z => ⟨(fun q hq => by cases hq), c3k, c3h, c3c, c3d⟩, c3f⟩
    | k + 3, hq => simp [sv_tys] at hq
  obtain ⟨g, hg⟩ : ∃ g : sv_G, g = ((dC, dI), fun _ => 0, c1, c2, c3) := ⟨_, rfl⟩
  have hK : va_K g.1 vwCl (sv_tys g) s := by rw [hg]; exact hKall _
  have hS : va_S (lw_A s) s.heap s.heap [] := va_S.rf
  have hP : va_P g.1 vwCl [] s.heap := fun k q h => by simp at h
  have hD : va_D (lw_A s) [] := ⟨fun i j p q h => by simp at h, fun k q h => by simp at h⟩
  have hl := lv_entry ([.ref b]) (n := 4) (Nat.le_of_ble_eq_true rfl)
  rw [lg_entry_eq]
  generalize (lg_sl ([.ref b]) ++ List.replicate (4 - (lg_sl ([.ref b])).length) Slot.unset).toArray = ls at hl ⊢
  have hl : lv_has ls 4 [(0, .ref b)] := hl
  refine va_new (ci := 8) (fs := [.null, .null, .null, .null, .null, .null, .null, .null, .null]) (C := RX9) (T := TX9) (N := 9) hx hb hts cf_X9.2.1 tyX9 tyX9_ok hown (hts _ lc_7) (hts _ ki_is_X9) (hts _ ki_ni_X9) hK hP hD hS hA rfl (fun j hj => match j, hj with | 0, _ => rfl | 1, _ => rfl | 2, _ => rfl | 3, _ => rfl | 4, _ => rfl | 5, _ => rfl | 6, _ => rfl | 7, _ => rfl | 8, _ => rfl | j + 9, h => absurd h (by omega)) (Nat.le_of_ble_eq_true rfl) (Nat.le_of_ble_eq_true rfl) dL_law_0 (fun q0 H hP hD hS => ?_)
  have hP : va_P g.1 vwCl [(q0, .inr (8, [.null, .null, .null, .null, .null, .null, .null, .null, .null]))] H := hP
  have hD : va_D (lw_A s) [(q0, .inr (8, [.null, .null, .null, .null, .null, .null, .null, .null, .null]))] := hD
  refine W.widen (k := 1) (n := 9) (Nat.le_of_ble_eq_true rfl) (Nat.le_of_ble_eq_true rfl) ?_
  refine lv_dup hx hb dL_law_3 rfl ?_
  refine k_call (M := m_X9_init) (As := []) (rest := [.ref q0]) (w0 := [(q0, .inr (8, [.null, .null, .null, .null, .null, .null, .null, .null, .null]))]) (wr := []) (Wo := Wo_X9 g q0) (mc := 39) (ms := 1492) ⟨hx, hb, hml, hown, hts⟩ (k_X9 (l := l) (g := g) q0) ca_X9_init rfl rfl im_X9_init (Or.inl lk_9) ⟨(Nat.le_of_ble_eq_true rfl), (Nat.le_of_ble_eq_true rfl)⟩ ⟨(Nat.le_of_ble_eq_true rfl), (Nat.le_of_ble_eq_true rfl)⟩ hK hkN hA hP hD hS [0] [] (hP.sub [0] rfl) (hD.sub [0] (by decide) rfl) rfl rfl (by decide) (by decide) hl.1 rfl rfl (Nat.le_of_ble_eq_true rfl) dL_law_4 (fun u H locs hP hD hS => ?_)
  have hP : va_P g.1 vwCl (Wo_X9 g q0 u) H := hP
  have hD : va_D (lw_A s) (Wo_X9 g q0 u) := hD
  refine W.widen (k := 40) (n := 1501) (Nat.le_of_ble_eq_true rfl) (Nat.le_of_ble_eq_true rfl) ?_
  refine lv_astore_n (lv' := [(1, .ref q0), (0, .ref b)]) hx hb dL_law_7 rfl hl (by decide) rfl (fun ls hl => ?_)
  refine va_new (ci := 9) (fs := [.int 0, .null, .null, .int 0, .int 0, .null, .int 0, .null, .null, .null, .int 0, .int 0, .null, .null, .int 0, .null, .null, .null, .int 0, .null, .null, .null, .null, .null, .null, .null, .null, .int 0]) (C := RX10) (T := TX10) (N := 28) hx hb hts cf_X10.2.1 tyX10 tyX10_ok hown (hts _ lc_10) (hts _ ki_is_X10) (hts _ ki_ni_X10) hK hP hD hS hA rfl (fun j hj => match j, hj with | 0, _ => rfl | 1, _ => rfl | 2, _ => rfl | 3, _ => rfl | 4, _ => rfl | 5, _ => rfl | 6, _ => rfl | 7, _ => rfl | 8, _ => rfl | 9, _ => rfl | 10, _ => rfl | 11, _ => rfl | 12, _ => rfl | 13, _ => rfl | 14, _ => rfl | 15, _ => rfl | 16, _ => rfl | 17, _ => rfl | 18, _ => rfl | 19, _ => rfl | 20, _ => rfl | 21, _ => rfl | 22, _ => rfl | 23, _ => rfl | 24, _ => rfl | 25, _ => rfl | 26, _ => rfl | 27, _ => rfl | j + 28, h => absurd h (by omega)) (Nat.le_of_ble_eq_true rfl) (Nat.le_of_ble_eq_true rfl) dL_law_8 (fun q1 H hP hD hS => ?_)
  refine W.widen (k := 41) (n := 1529) (Nat.le_of_ble_eq_true rfl) (Nat.le_of_ble_eq_true rfl) ?_
  refine lv_dup hx hb dL_law_11 rfl ?_
  refine k_call (M := m_X10_init) (As := []) (rest := [.ref q1]) (w0 := [(q1, .inr (9, [.int 0, .null, .null, .int 0, .int 0, .null, .int 0, .null, .null, .null, .int 0, .int 0, .null, .null, .int 0, .null, .null, .null, .int 0, .null, .null, .null, .null, .null, .null, .null, .null, .int 0]))]) (wr := Wo_X9 g q0 u) (Wo := Wo_X10 g q1) (mc := 19) (ms := 1593) ⟨hx, hb, hml, hown, hts⟩ (k_X10 (l := l) (g := g) q1) ca_X10_init rfl rfl im_X10_init (Or.inl lk_12) ⟨(Nat.le_of_ble_eq_true rfl), (Nat.le_of_ble_eq_true rfl)⟩ ⟨(Nat.le_of_ble_eq_true rfl), (Nat.le_of_ble_eq_true rfl)⟩ hK hkN hA hP hD hS [40] [0, 1, 2, 3, 4, 5, 6, 7, 8, 9, 10, 11, 12, 13, 14, 15, 16, 17, 18, 19, 20, 21, 22, 23, 24, 25, 26, 27, 28, 29, 30, 31, 32, 33, 34, 35, 36, 37, 38, 39] (hP.sub [40] rfl) (hD.sub [40] (by decide) rfl) rfl rfl (by decide) (by decide) hl.1 rfl rfl (Nat.le_of_ble_eq_true rfl) dL_law_12 (fun v H locs hP hD hS => ?_)
  refine W.widen (k := 60) (n := 3122) (Nat.le_of_ble_eq_true rfl) (Nat.le_of_ble_eq_true rfl) ?_
  refine lv_astore_n (lv' := [(2, .ref q1), (1, .ref q0), (0, .ref b)]) hx hb dL_law_15 rfl hl (by decide) rfl (fun ls hl => ?_)
  refine lv_iconst (v := 0) hx hb dL_law_16 (by decide) ?_
  refine lv_istore_n (lv' := [(3, .int 0), (2, .ref q1), (1, .ref q0), (0, .ref b)]) hx hb dL_law_17 rfl hl (by decide) rfl (fun ls hl => ?_)
  subst hg
  have hW : sv_Wd ((dC, dI), lw_ad q0 q1 u v, c1, c2, c3) (lw_A s) s H locs mu0 := ⟨by rw [lw_weq]; exact hP, by rw [lw_weq]; exact hD, hS⟩
  exact law_loop (g := ((dC, dI), lw_ad q0 q1 u v, c1, c2, c3)) ⟨hx, hb, hml, hown, hts, hN, hKall _, hX, hbl, hL⟩ hr hlocks (L + 1) 0 mu0 H locs ls (Nat.zero_le L) (by omega) Inv_0 hW (lv_sub hl [3, 2, 1, 0] rfl)

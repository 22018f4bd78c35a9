set_option maxHeartbeats 4000000 in
set_option maxRecDepth 100000 in
theorem c84_X13_isIn (l : Launch) (dC : Nat → ClassId) (dI : Nat → Nat → Nat) (sz : Nat) (x0 : Int32) : Met l yX13_isIn (.code yX13_isIn cX13_isIn 3 (some .boolean) :: wAll) ({ frames := 1, cells := 0, slots := 0, locals := 40 }) (pP (dC, dI) [.int x0, .int 0, .int (-1)] [] [] sz X0) (qQ (fun (v : Option Value) (t : State) => v = some (.int 0) ∧ va_P (dC, dI) vwCl [] t.heap ∧ va_K (dC, dI) vwCl [] t ∧ va_D (va_A [] sz) []) (va_A [] sz)) 0 0 (va_A [] sz) := by
  refine mkMet (y := yX13_isIn) (bytes := cX13_isIn) (maxL := 3) (ret := (some .boolean)) (rm := { frames := 1, cells := 0, slots := 0, locals := 40 }) (by decide) (Nat.le_of_ble_eq_true rfl) ?_
  intro p e s m args below meth c ls hE hl
  obtain ⟨hx, hb, hml, hr, ht, hown, hlocks, hin, rfl, hP, hK, hD, hX, rfl⟩ := hE
  have hown : s.vm.findClass "CommandHouseModel" = some m.cls := hown
  have hA : ∀ q : Nat, s.heap.size ≤ q → va_A [] s.heap.size q := fun q h => Or.inr h
  generalize hAe : va_A [] s.heap.size = A at hD hX hA ⊢
  have hS : va_S A s.heap s.heap [] := va_S.rf
  have hl : lv_has ls 3 [(0, .int x0), (1, .int 0), (2, .int (-1))] := hl
  refine lv_iload_n hx hb dX13_isIn_0 rfl (lv_at hl 0 rfl) ?_
  refine lv_iload_n hx hb dX13_isIn_1 rfl (lv_at hl 1 rfl) ?_
  refine lv_icmp_lt (tgt := 14) hx hb dX13_isIn_2 (by decide) (fun c_1 => ?_) (fun c_1 => ?_)
  · skip
    refine lv_iconst (v := 0) hx hb dX13_isIn_14 (by decide) ?_
    refine W.widen (k := 0) (n := 0) (Nat.le_of_ble_eq_true rfl) (Nat.le_of_ble_eq_true rfl) ?_
    have hP9 := hP.sub (ws' := []) [] rfl
    have hD9 := hD.sub (ws' := []) [] (by decide) rfl
    have hK9 := hK.sub (tys' := []) [] rfl
    exact W.zret hx hb hr (by decide) (fun t hH hW => ⟨⟨_, rfl, rfl, by rw [hH]; exact hP9, va_K.moved hW.alike hK9, hD9⟩, hS.F hH⟩) hS.2.2 dX13_isIn_15 hlocks
  · skip
    refine lv_iload_n hx hb dX13_isIn_5 rfl (lv_at hl 0 rfl) ?_
    refine lv_iload_n hx hb dX13_isIn_6 rfl (lv_at hl 2 rfl) ?_
    refine lv_icmp_gt (tgt := 14) hx hb dX13_isIn_7 (by decide) (fun c_2 => ?_) (fun c_2 => ?_)
    · skip
      refine lv_iconst (v := 0) hx hb dX13_isIn_14 (by decide) ?_
      refine W.widen (k := 0) (n := 0) (Nat.le_of_ble_eq_true rfl) (Nat.le_of_ble_eq_true rfl) ?_
      have hP9 := hP.sub (ws' := []) [] rfl
      have hD9 := hD.sub (ws' := []) [] (by decide) rfl
      have hK9 := hK.sub (tys' := []) [] rfl
      exact W.zret hx hb hr (by decide) (fun t hH hW => ⟨⟨_, rfl, rfl, by rw [hH]; exact hP9, va_K.moved hW.alike hK9, hD9⟩, hS.F hH⟩) hS.2.2 dX13_isIn_15 hlocks
    · skip
      exact ((by have z0 : (0 : Int32).toInt = 0 := (by decide); have z1 : (-1 : Int32).toInt = -1 := (by decide); have z2 : (20 : Int32).toInt = 20 := (by decide); try simp only [Int32.lt_iff_toInt_lt, Int32.le_iff_toInt_le, ← Int32.toInt_inj, ge_iff_le, gt_iff_lt] at c_1; try simp only [Int32.lt_iff_toInt_lt, Int32.le_iff_toInt_le, ← Int32.toInt_inj, ge_iff_le, gt_iff_lt] at c_2; first | omega | simp_all : False)).elim
set_option maxHeartbeats 4000000 in
set_option maxRecDepth 100000 in
theorem c85_X13_out (l : Launch) (dC : Nat → ClassId) (dI : Nat → Nat → Nat) (sz : Nat) (h0 h1 h2 h3 h4 h5 h6 h7 h8 h9 h10 h11 h12 h13 h14 h15 h16 h17 h18 h19 h20 h21 h22 h23 h24 h25 h26 h27 h28 h29 h30 h31 h32 h33 h34 h35 h36 h37 : Nat) (x0 : Int32) : Met l yX13_out (.code yX13_out cX13_out 2 (some .int) :: wAll) ({ frames := 2, cells := 0, slots := 0, locals := 62 }) (pP (dC, dI) [.ref h0, .int x0] [(h0, .inr (14, [.ref h1, .int 0, .ref h2, .int 0, .ref h3, .int 0, .int 0, .ref h4, .int (-1), .int 0, .int 0, .ref h5, .int 0, .ref h6, .ref h7, .ref h8, .ref h9, .ref h10, .int 0, .ref h11, .int 0, .int 0, .ref h12, .ref h13, .ref h14, .ref h15, .int 0, .ref h16, .ref h17, .int 0, .ref h18, .ref h19, .ref h20, .ref h21, .int 0, .int 0, .int 0, .ref h22, .int 0, .int 0, .ref h23, .ref h24, .ref h25, .ref h26, .int 0, .int 0, .int 0, .int 0, .int 0, .int 0, .int 0, .int 0, .int 0, .int 0, .int 0, .int 0, .int (-1), .int 0, .ref h27, .int 0, .ref h28, .int 0, .int 0, .int 0, .int 0, .int 0, .ref h29, .ref h30, .int 0, .int 0, .ref h31, .ref h32, .ref h33, .ref h34, .long 0, .ref h35, .int 0, .int 0, .int 0, .int 0, .int 0, .int 0, .int 0, .ref h36, .ref h37, .int 0, .int 0, .int 0, .int 0]))] [] sz X0) (qQ (fun (v : Option Value) (t : State) => v = some (.int (-1)) ∧ va_P (dC, dI) vwCl [] t.heap ∧ va_K (dC, dI) vwCl [] t ∧ va_D (va_A [(h0, .inr (14, [.ref h1, .int 0, .ref h2, .int 0, .ref h3, .int 0, .int 0, .ref h4, .int (-1), .int 0, .int 0, .ref h5, .int 0, .ref h6, .ref h7, .ref h8, .ref h9, .ref h10, .int 0, .ref h11, .int 0, .int 0, .ref h12, .ref h13, .ref h14, .ref h15, .int 0, .ref h16, .ref h17, .int 0, .ref h18, .ref h19, .ref h20, .ref h21, .int 0, .int 0, .int 0, .ref h22, .int 0, .int 0, .ref h23, .ref h24, .ref h25, .ref h26, .int 0, .int 0, .int 0, .int 0, .int 0, .int 0, .int 0, .int 0, .int 0, .int 0, .int 0, .int 0, .int (-1), .int 0, .ref h27, .int 0, .ref h28, .int 0, .int 0, .int 0, .int 0, .int 0, .ref h29, .ref h30, .int 0, .int 0, .ref h31, .ref h32, .ref h33, .ref h34, .long 0, .ref h35, .int 0, .int 0, .int 0, .int 0, .int 0, .int 0, .int 0, .ref h36, .ref h37, .int 0, .int 0, .int 0, .int 0]))] sz) []) (va_A [(h0, .inr (14, [.ref h1, .int 0, .ref h2, .int 0, .ref h3, .int 0, .int 0, .ref h4, .int (-1), .int 0, .int 0, .ref h5, .int 0, .ref h6, .ref h7, .ref h8, .ref h9, .ref h10, .int 0, .ref h11, .int 0, .int 0, .ref h12, .ref h13, .ref h14, .ref h15, .int 0, .ref h16, .ref h17, .int 0, .ref h18, .ref h19, .ref h20, .ref h21, .int 0, .int 0, .int 0, .ref h22, .int 0, .int 0, .ref h23, .ref h24, .ref h25, .ref h26, .int 0, .int 0, .int 0, .int 0, .int 0, .int 0, .int 0, .int 0, .int 0, .int 0, .int 0, .int 0, .int (-1), .int 0, .ref h27, .int 0, .ref h28, .int 0, .int 0, .int 0, .int 0, .int 0, .ref h29, .ref h30, .int 0, .int 0, .ref h31, .ref h32, .ref h33, .ref h34, .long 0, .ref h35, .int 0, .int 0, .int 0, .int 0, .int 0, .int 0, .int 0, .ref h36, .ref h37, .int 0, .int 0, .int 0, .int 0]))] sz)) 0 0 (va_A [(h0, .inr (14, [.ref h1, .int 0, .ref h2, .int 0, .ref h3, .int 0, .int 0, .ref h4, .int (-1), .int 0, .int 0, .ref h5, .int 0, .ref h6, .ref h7, .ref h8, .ref h9, .ref h10, .int 0, .ref h11, .int 0, .int 0, .ref h12, .ref h13, .ref h14, .ref h15, .int 0, .ref h16, .ref h17, .int 0, .ref h18, .ref h19, .ref h20, .ref h21, .int 0, .int 0, .int 0, .ref h22, .int 0, .int 0, .ref h23, .ref h24, .ref h25, .ref h26, .int 0, .int 0, .int 0, .int 0, .int 0, .int 0, .int 0, .int 0, .int 0, .int 0, .int 0, .int 0, .int (-1), .int 0, .ref h27, .int 0, .ref h28, .int 0, .int 0, .int 0, .int 0, .int 0, .ref h29, .ref h30, .int 0, .int 0, .ref h31, .ref h32, .ref h33, .ref h34, .long 0, .ref h35, .int 0, .int 0, .int 0, .int 0, .int 0, .int 0, .int 0, .ref h36, .ref h37, .int 0, .int 0, .int 0, .int 0]))] sz) := by
  refine mkMet (y := yX13_out) (bytes := cX13_out) (maxL := 2) (ret := (some .int)) (rm := { frames := 2, cells := 0, slots := 0, locals := 62 }) (by decide) (Nat.le_of_ble_eq_true rfl) ?_
  intro p e s m args below meth c ls hE hl
  obtain ⟨hx, hb, hml, hr, ht, hown, hlocks, hin, rfl, hP, hK, hD, hX, rfl⟩ := hE
  have hown : s.vm.findClass "CommandHouseModel" = some m.cls := hown
  have hA : ∀ q : Nat, s.heap.size ≤ q → va_A [(h0, .inr (14, [.ref h1, .int 0, .ref h2, .int 0, .ref h3, .int 0, .int 0, .ref h4, .int (-1), .int 0, .int 0, .ref h5, .int 0, .ref h6, .ref h7, .ref h8, .ref h9, .ref h10, .int 0, .ref h11, .int 0, .int 0, .ref h12, .ref h13, .ref h14, .ref h15, .int 0, .ref h16, .ref h17, .int 0, .ref h18, .ref h19, .ref h20, .ref h21, .int 0, .int 0, .int 0, .ref h22, .int 0, .int 0, .ref h23, .ref h24, .ref h25, .ref h26, .int 0, .int 0, .int 0, .int 0, .int 0, .int 0, .int 0, .int 0, .int 0, .int 0, .int 0, .int 0, .int (-1), .int 0, .ref h27, .int 0, .ref h28, .int 0, .int 0, .int 0, .int 0, .int 0, .ref h29, .ref h30, .int 0, .int 0, .ref h31, .ref h32, .ref h33, .ref h34, .long 0, .ref h35, .int 0, .int 0, .int 0, .int 0, .int 0, .int 0, .int 0, .ref h36, .ref h37, .int 0, .int 0, .int 0, .int 0]))] s.heap.size q := fun q h => Or.inr h
  generalize hAe : va_A [(h0, .inr (14, [.ref h1, .int 0, .ref h2, .int 0, .ref h3, .int 0, .int 0, .ref h4, .int (-1), .int 0, .int 0, .ref h5, .int 0, .ref h6, .ref h7, .ref h8, .ref h9, .ref h10, .int 0, .ref h11, .int 0, .int 0, .ref h12, .ref h13, .ref h14, .ref h15, .int 0, .ref h16, .ref h17, .int 0, .ref h18, .ref h19, .ref h20, .ref h21, .int 0, .int 0, .int 0, .ref h22, .int 0, .int 0, .ref h23, .ref h24, .ref h25, .ref h26, .int 0, .int 0, .int 0, .int 0, .int 0, .int 0, .int 0, .int 0, .int 0, .int 0, .int 0, .int 0, .int (-1), .int 0, .ref h27, .int 0, .ref h28, .int 0, .int 0, .int 0, .int 0, .int 0, .ref h29, .ref h30, .int 0, .int 0, .ref h31, .ref h32, .ref h33, .ref h34, .long 0, .ref h35, .int 0, .int 0, .int 0, .int 0, .int 0, .int 0, .int 0, .ref h36, .ref h37, .int 0, .int 0, .int 0, .int 0]))] s.heap.size = A at hD hX hA ⊢
  have hS : va_S A s.heap s.heap [] := va_S.rf
  have hl : lv_has ls 2 [(0, .ref h0), (1, .int x0)] := hl
  refine lv_iload_n hx hb dX13_out_0 rfl (lv_at hl 1 rfl) ?_
  refine lv_iconst (v := 0) hx hb dX13_out_1 (by decide) ?_
  refine lv_aload_n hx hb dX13_out_2 rfl (lv_at hl 0 rfl) ?_
  refine va_get (D := (dC, dI)) (ci := 14) (v := .int 0) (C := RX13) (T := TX13) (N := 89) hx hb ht inX13 hown hK hP 0 rfl rfl 5 (by decide) (ht _ mW1888) (fun _ h9 => h9) rfl dX13_out_3 ?_
  refine lv_iconst (v := 1) hx hb dX13_out_6 (by decide) ?_
  refine lv_isub hx hb dX13_out_7 ?_
  refine W.eq (congrArg (fun z => F0 m 8 ls (.int z :: [.int 0, .int x0])) (by decide : (0 - 1 : Int32) = (-1))) ?_
  have hPc := hP.sub (ws' := []) [] rfl
  have hDc := hD.sub (ws' := []) [] (by decide) rfl
  have hKc := hK.sub (tys' := []) [] rfl
  have hFc := va_free (wc := []) hD hS hA [] rfl
  refine pCall (va_runS (As := [.int x0, .int 0, .int (-1)]) (rest := []) ⟨hx, hb, hml, hown, ht⟩ (c84_X13_isIn l dC dI s.heap.size x0) ⟨cbB 3 ht mW2162 mW20 mW2160 (by decide +kernel) ⟨(Nat.le_of_ble_eq_true rfl), (Nat.le_of_ble_eq_true rfl)⟩, ht _ mW2161⟩ ⟨pP_blind X0_blind, fun U hU hW => ⟨rfl, by rw [hU], by rw [hU]; exact hPc, va_K.moved hW.alike hKc, hDc.weaken (fun _ _ _ _ => trivial), trivial⟩⟩ rfl rfl hl.1 rfl (lv_room (Nat.le_of_ble_eq_true rfl)) dX13_out_8 ⟨(Nat.le_of_ble_eq_true rfl), (Nat.le_of_ble_eq_true rfl)⟩) hS (fun q h => hFc q h) hFc (fun v t H1 locs hH hvm hB hk1 hS => ?_)
  obtain ⟨hv, hP1, hK1, hD1⟩ := hB
  subst hv
  rw [hH] at hP1
  have hK1 := va_K.moved hvm.symm hK1
  obtain ⟨hP, hD⟩ := va_join (wr := [(h0, .inr (14, [.ref h1, .int 0, .ref h2, .int 0, .ref h3, .int 0, .int 0, .ref h4, .int (-1), .int 0, .int 0, .ref h5, .int 0, .ref h6, .ref h7, .ref h8, .ref h9, .ref h10, .int 0, .ref h11, .int 0, .int 0, .ref h12, .ref h13, .ref h14, .ref h15, .int 0, .ref h16, .ref h17, .int 0, .ref h18, .ref h19, .ref h20, .ref h21, .int 0, .int 0, .int 0, .ref h22, .int 0, .int 0, .ref h23, .ref h24, .ref h25, .ref h26, .int 0, .int 0, .int 0, .int 0, .int 0, .int 0, .int 0, .int 0, .int 0, .int 0, .int 0, .int 0, .int (-1), .int 0, .ref h27, .int 0, .ref h28, .int 0, .int 0, .int 0, .int 0, .int 0, .ref h29, .ref h30, .int 0, .int 0, .ref h31, .ref h32, .ref h33, .ref h34, .long 0, .ref h35, .int 0, .int 0, .int 0, .int 0, .int 0, .int 0, .int 0, .ref h36, .ref h37, .int 0, .int 0, .int 0, .int 0]))]) (w1 := []) hP hD [] [0] rfl rfl (by decide) (by decide) hk1 hFc hP1 hD1
  have hK := (hK.sub (tys' := []) [] rfl).app hK1
  generalize H1 = H at hP hS ⊢
  have hP : va_P (dC, dI) vwCl [(h0, .inr (14, [.ref h1, .int 0, .ref h2, .int 0, .ref h3, .int 0, .int 0, .ref h4, .int (-1), .int 0, .int 0, .ref h5, .int 0, .ref h6, .ref h7, .ref h8, .ref h9, .ref h10, .int 0, .ref h11, .int 0, .int 0, .ref h12, .ref h13, .ref h14, .ref h15, .int 0, .ref h16, .ref h17, .int 0, .ref h18, .ref h19, .ref h20, .ref h21, .int 0, .int 0, .int 0, .ref h22, .int 0, .int 0, .ref h23, .ref h24, .ref h25, .ref h26, .int 0, .int 0, .int 0, .int 0, .int 0, .int 0, .int 0, .int 0, .int 0, .int 0, .int 0, .int 0, .int (-1), .int 0, .ref h27, .int 0, .ref h28, .int 0, .int 0, .int 0, .int 0, .int 0, .ref h29, .ref h30, .int 0, .int 0, .ref h31, .ref h32, .ref h33, .ref h34, .long 0, .ref h35, .int 0, .int 0, .int 0, .int 0, .int 0, .int 0, .int 0, .ref h36, .ref h37, .int 0, .int 0, .int 0, .int 0]))] H := hP
  have hD : va_D A [(h0, .inr (14, [.ref h1, .int 0, .ref h2, .int 0, .ref h3, .int 0, .int 0, .ref h4, .int (-1), .int 0, .int 0, .ref h5, .int 0, .ref h6, .ref h7, .ref h8, .ref h9, .ref h10, .int 0, .ref h11, .int 0, .int 0, .ref h12, .ref h13, .ref h14, .ref h15, .int 0, .ref h16, .ref h17, .int 0, .ref h18, .ref h19, .ref h20, .ref h21, .int 0, .int 0, .int 0, .ref h22, .int 0, .int 0, .ref h23, .ref h24, .ref h25, .ref h26, .int 0, .int 0, .int 0, .int 0, .int 0, .int 0, .int 0, .int 0, .int 0, .int 0, .int 0, .int 0, .int (-1), .int 0, .ref h27, .int 0, .ref h28, .int 0, .int 0, .int 0, .int 0, .int 0, .ref h29, .ref h30, .int 0, .int 0, .ref h31, .ref h32, .ref h33, .ref h34, .long 0, .ref h35, .int 0, .int 0, .int 0, .int 0, .int 0, .int 0, .int 0, .ref h36, .ref h37, .int 0, .int 0, .int 0, .int 0]))] := hD
  have hK : va_K (dC, dI) vwCl [] s := hK
  refine W.widen (g := F0 m 11 ls [.int 0]) (k := 0) (n := 0) (Nat.le_of_ble_eq_true rfl) (Nat.le_of_ble_eq_true rfl) ?_
  refine lv_if_eq (tgt := 23) hx hb dX13_out_11 (by decide) (fun _ => ?_) (fun c => absurd (by decide) c)
  refine lv_iconst (v := (-1)) hx hb dX13_out_23 (by decide) ?_
  refine W.widen (k := 0) (n := 0) (Nat.le_of_ble_eq_true rfl) (Nat.le_of_ble_eq_true rfl) ?_
  have hP9 := hP.sub (ws' := []) [] rfl
  have hD9 := hD.sub (ws' := []) [] (by decide) rfl
  have hK9 := hK.sub (tys' := []) [] rfl
  exact W.iret hx hb hr (fun t hH hW => ⟨⟨_, rfl, rfl, by rw [hH]; exact hP9, va_K.moved hW.alike hK9, hD9⟩, hS.F hH⟩) hS.2.2 dX13_out_24 hlocks
set_option maxHeartbeats 4000000 in
set_option maxRecDepth 100000 in
theorem c86_X12_diagnostic (l : Launch) (dC : Nat → ClassId) (dI : Nat → Nat → Nat) (sz : Nat) (h0 h1 h2 h3 h4 h5 h6 h7 h8 : Nat) (x0 : Int32) : Met l yX12_diagnostic (.code yX12_diagnostic cX12_diagnostic 2 (some .int) :: wAll) ({ frames := 1, cells := 0, slots := 0, locals := 40 }) (pP (dC, dI) [.ref h0, .int x0] [(h0, .inr (13, [.ref h2, .int 0, .ref h3, .ref h1, .ref h4])), (h1, .inr (1, [.int 0, .int 0, .int 0, .int 0, .int 0, .ref h5, .int 0, .ref h6, .int 0, .ref h7, .ref h8]))] [] sz X0) (qQ (fun (v : Option Value) (t : State) => v = some (.int (-1)) ∧ va_P (dC, dI) vwCl [] t.heap ∧ va_K (dC, dI) vwCl [] t ∧ va_D (va_A [(h0, .inr (13, [.ref h2, .int 0, .ref h3, .ref h1, .ref h4])), (h1, .inr (1, [.int 0, .int 0, .int 0, .int 0, .int 0, .ref h5, .int 0, .ref h6, .int 0, .ref h7, .ref h8]))] sz) []) (va_A [(h0, .inr (13, [.ref h2, .int 0, .ref h3, .ref h1, .ref h4])), (h1, .inr (1, [.int 0, .int 0, .int 0, .int 0, .int 0, .ref h5, .int 0, .ref h6, .int 0, .ref h7, .ref h8]))] sz)) 0 0 (va_A [(h0, .inr (13, [.ref h2, .int 0, .ref h3, .ref h1, .ref h4])), (h1, .inr (1, [.int 0, .int 0, .int 0, .int 0, .int 0, .ref h5, .int 0, .ref h6, .int 0, .ref h7, .ref h8]))] sz) := by
  refine mkMet (y := yX12_diagnostic) (bytes := cX12_diagnostic) (maxL := 2) (ret := (some .int)) (rm := { frames := 1, cells := 0, slots := 0, locals := 40 }) (by decide) (Nat.le_of_ble_eq_true rfl) ?_
  intro p e s m args below meth c ls hE hl
  obtain ⟨hx, hb, hml, hr, ht, hown, hlocks, hin, rfl, hP, hK, hD, hX, rfl⟩ := hE
  have hown : s.vm.findClass "CommandHouse" = some m.cls := hown
  have hA : ∀ q : Nat, s.heap.size ≤ q → va_A [(h0, .inr (13, [.ref h2, .int 0, .ref h3, .ref h1, .ref h4])), (h1, .inr (1, [.int 0, .int 0, .int 0, .int 0, .int 0, .ref h5, .int 0, .ref h6, .int 0, .ref h7, .ref h8]))] s.heap.size q := fun q h => Or.inr h
  generalize hAe : va_A [(h0, .inr (13, [.ref h2, .int 0, .ref h3, .ref h1, .ref h4])), (h1, .inr (1, [.int 0, .int 0, .int 0, .int 0, .int 0, .ref h5, .int 0, .ref h6, .int 0, .ref h7, .ref h8]))] s.heap.size = A at hD hX hA ⊢
  have hS : va_S A s.heap s.heap [] := va_S.rf
  have hl : lv_has ls 2 [(0, .ref h0), (1, .int x0)] := hl
  refine lv_iload_n hx hb dX12_diagnostic_0 rfl (lv_at hl 1 rfl) ?_
  refine lv_if_lt (tgt := 33) hx hb dX12_diagnostic_1 (by decide) (fun c_1 => ?_) (fun c_1 => ?_)
  · skip
    refine lv_iconst (v := (-1)) hx hb dX12_diagnostic_33 (by decide) ?_
    refine W.widen (k := 0) (n := 0) (Nat.le_of_ble_eq_true rfl) (Nat.le_of_ble_eq_true rfl) ?_
    have hP9 := hP.sub (ws' := []) [] rfl
    have hD9 := hD.sub (ws' := []) [] (by decide) rfl
    have hK9 := hK.sub (tys' := []) [] rfl
    exact W.iret hx hb hr (fun t hH hW => ⟨⟨_, rfl, rfl, by rw [hH]; exact hP9, va_K.moved hW.alike hK9, hD9⟩, hS.F hH⟩) hS.2.2 dX12_diagnostic_34 hlocks
  · skip
    refine lv_iload_n hx hb dX12_diagnostic_4 rfl (lv_at hl 1 rfl) ?_
    refine lv_aload_n hx hb dX12_diagnostic_5 rfl (lv_at hl 0 rfl) ?_
    refine va_get (D := (dC, dI)) (ci := 13) (v := .ref h1) (C := RX12) (T := TX12) (N := 5) hx hb ht inX12 hown hK hP 0 rfl rfl 3 (by decide) (ht _ mW631) (fun _ h9 => h9) rfl dX12_diagnostic_6 ?_
    refine va_getN (D := (dC, dI)) (ci := 1) (v := .int 0) (C := RX0) (T := TX0) (N := 11) hx hb ht inX0 hown hK hP 1 rfl rfl 6 (by decide) (ht _ mW112) (fun _ h9 => h9) rfl dX12_diagnostic_9 ?_
    refine lv_icmp_ge (tgt := 33) hx hb dX12_diagnostic_12 (by decide) (fun c_2 => ?_) (fun c_2 => ?_)
    · skip
      refine lv_iconst (v := (-1)) hx hb dX12_diagnostic_33 (by decide) ?_
      refine W.widen (k := 0) (n := 0) (Nat.le_of_ble_eq_true rfl) (Nat.le_of_ble_eq_true rfl) ?_
      have hP9 := hP.sub (ws' := []) [] rfl
      have hD9 := hD.sub (ws' := []) [] (by decide) rfl
      have hK9 := hK.sub (tys' := []) [] rfl
      exact W.iret hx hb hr (fun t hH hW => ⟨⟨_, rfl, rfl, by rw [hH]; exact hP9, va_K.moved hW.alike hK9, hD9⟩, hS.F hH⟩) hS.2.2 dX12_diagnostic_34 hlocks
    · skip
      exact ((by have z0 : (0 : Int32).toInt = 0 := (by decide); have z1 : (-1 : Int32).toInt = -1 := (by decide); have z2 : (20 : Int32).toInt = 20 := (by decide); try simp only [Int32.lt_iff_toInt_lt, Int32.le_iff_toInt_le, ← Int32.toInt_inj, ge_iff_le, gt_iff_lt] at c_1; try simp only [Int32.lt_iff_toInt_lt, Int32.le_iff_toInt_le, ← Int32.toInt_inj, ge_iff_le, gt_iff_lt] at c_2; first | omega | simp_all : False)).elim
set_option maxHeartbeats 4000000 in
set_option maxRecDepth 100000 in
theorem c87_X13_diagnostic (l : Launch) (dC : Nat → ClassId) (dI : Nat → Nat → Nat) (sz : Nat) (h0 h1 h2 h3 h4 h5 h6 h7 h8 h9 h10 h11 h12 h13 h14 h15 h16 h17 h18 h19 h20 h21 h22 h23 h24 h25 h26 h27 h28 h29 h30 h31 h32 h33 h34 h35 h36 h37 : Nat) (x0 : Int32) : Met l yX13_diagnostic (.code yX13_diagnostic cX13_diagnostic 2 (some .int) :: wAll) ({ frames := 2, cells := 0, slots := 0, locals := 62 }) (pP (dC, dI) [.ref h0, .int x0] [(h0, .inr (14, [.ref h1, .int 0, .ref h2, .int 0, .ref h3, .int 0, .int 0, .ref h4, .int (-1), .int 0, .int 0, .ref h5, .int 0, .ref h6, .ref h7, .ref h8, .ref h9, .ref h10, .int 0, .ref h11, .int 0, .int 0, .ref h12, .ref h13, .ref h14, .ref h15, .int 0, .ref h16, .ref h17, .int 0, .ref h18, .ref h19, .ref h20, .ref h21, .int 0, .int 0, .int 0, .ref h22, .int 0, .int 0, .ref h23, .ref h24, .ref h25, .ref h26, .int 0, .int 0, .int 0, .int 0, .int 0, .int 0, .int 0, .int 0, .int 0, .int 0, .int 0, .int 0, .int (-1), .int 0, .ref h27, .int 0, .ref h28, .int 0, .int 0, .int 0, .int 0, .int 0, .ref h29, .ref h30, .int 0, .int 0, .ref h31, .ref h32, .ref h33, .ref h34, .long 0, .ref h35, .int 0, .int 0, .int 0, .int 0, .int 0, .int 0, .int 0, .ref h36, .ref h37, .int 0, .int 0, .int 0, .int 0]))] [] sz X0) (qQ (fun (v : Option Value) (t : State) => v = some (.int (-1)) ∧ va_P (dC, dI) vwCl [] t.heap ∧ va_K (dC, dI) vwCl [] t ∧ va_D (va_A [(h0, .inr (14, [.ref h1, .int 0, .ref h2, .int 0, .ref h3, .int 0, .int 0, .ref h4, .int (-1), .int 0, .int 0, .ref h5, .int 0, .ref h6, .ref h7, .ref h8, .ref h9, .ref h10, .int 0, .ref h11, .int 0, .int 0, .ref h12, .ref h13, .ref h14, .ref h15, .int 0, .ref h16, .ref h17, .int 0, .ref h18, .ref h19, .ref h20, .ref h21, .int 0, .int 0, .int 0, .ref h22, .int 0, .int 0, .ref h23, .ref h24, .ref h25, .ref h26, .int 0, .int 0, .int 0, .int 0, .int 0, .int 0, .int 0, .int 0, .int 0, .int 0, .int 0, .int 0, .int (-1), .int 0, .ref h27, .int 0, .ref h28, .int 0, .int 0, .int 0, .int 0, .int 0, .ref h29, .ref h30, .int 0, .int 0, .ref h31, .ref h32, .ref h33, .ref h34, .long 0, .ref h35, .int 0, .int 0, .int 0, .int 0, .int 0, .int 0, .int 0, .ref h36, .ref h37, .int 0, .int 0, .int 0, .int 0]))] sz) []) (va_A [(h0, .inr (14, [.ref h1, .int 0, .ref h2, .int 0, .ref h3, .int 0, .int 0, .ref h4, .int (-1), .int 0, .int 0, .ref h5, .int 0, .ref h6, .ref h7, .ref h8, .ref h9, .ref h10, .int 0, .ref h11, .int 0, .int 0, .ref h12, .ref h13, .ref h14, .ref h15, .int 0, .ref h16, .ref h17, .int 0, .ref h18, .ref h19, .ref h20, .ref h21, .int 0, .int 0, .int 0, .ref h22, .int 0, .int 0, .ref h23, .ref h24, .ref h25, .ref h26, .int 0, .int 0, .int 0, .int 0, .int 0, .int 0, .int 0, .int 0, .int 0, .int 0, .int 0, .int 0, .int (-1), .int 0, .ref h27, .int 0, .ref h28, .int 0, .int 0, .int 0, .int 0, .int 0, .ref h29, .ref h30, .int 0, .int 0, .ref h31, .ref h32, .ref h33, .ref h34, .long 0, .ref h35, .int 0, .int 0, .int 0, .int 0, .int 0, .int 0, .int 0, .ref h36, .ref h37, .int 0, .int 0, .int 0, .int 0]))] sz)) 0 0 (va_A [(h0, .inr (14, [.ref h1, .int 0, .ref h2, .int 0, .ref h3, .int 0, .int 0, .ref h4, .int (-1), .int 0, .int 0, .ref h5, .int 0, .ref h6, .ref h7, .ref h8, .ref h9, .ref h10, .int 0, .ref h11, .int 0, .int 0, .ref h12, .ref h13, .ref h14, .ref h15, .int 0, .ref h16, .ref h17, .int 0, .ref h18, .ref h19, .ref h20, .ref h21, .int 0, .int 0, .int 0, .ref h22, .int 0, .int 0, .ref h23, .ref h24, .ref h25, .ref h26, .int 0, .int 0, .int 0, .int 0, .int 0, .int 0, .int 0, .int 0, .int 0, .int 0, .int 0, .int 0, .int (-1), .int 0, .ref h27, .int 0, .ref h28, .int 0, .int 0, .int 0, .int 0, .int 0, .ref h29, .ref h30, .int 0, .int 0, .ref h31, .ref h32, .ref h33, .ref h34, .long 0, .ref h35, .int 0, .int 0, .int 0, .int 0, .int 0, .int 0, .int 0, .ref h36, .ref h37, .int 0, .int 0, .int 0, .int 0]))] sz) := by
  refine mkMet (y := yX13_diagnostic) (bytes := cX13_diagnostic) (maxL := 2) (ret := (some .int)) (rm := { frames := 2, cells := 0, slots := 0, locals := 62 }) (by decide) (Nat.le_of_ble_eq_true rfl) ?_
  intro p e s m args below meth c ls hE hl
  obtain ⟨hx, hb, hml, hr, ht, hown, hlocks, hin, rfl, hP, hK, hD, hX, rfl⟩ := hE
  have hown : s.vm.findClass "CommandHouseModel" = some m.cls := hown
  have hA : ∀ q : Nat, s.heap.size ≤ q → va_A [(h0, .inr (14, [.ref h1, .int 0, .ref h2, .int 0, .ref h3, .int 0, .int 0, .ref h4, .int (-1), .int 0, .int 0, .ref h5, .int 0, .ref h6, .ref h7, .ref h8, .ref h9, .ref h10, .int 0, .ref h11, .int 0, .int 0, .ref h12, .ref h13, .ref h14, .ref h15, .int 0, .ref h16, .ref h17, .int 0, .ref h18, .ref h19, .ref h20, .ref h21, .int 0, .int 0, .int 0, .ref h22, .int 0, .int 0, .ref h23, .ref h24, .ref h25, .ref h26, .int 0, .int 0, .int 0, .int 0, .int 0, .int 0, .int 0, .int 0, .int 0, .int 0, .int 0, .int 0, .int (-1), .int 0, .ref h27, .int 0, .ref h28, .int 0, .int 0, .int 0, .int 0, .int 0, .ref h29, .ref h30, .int 0, .int 0, .ref h31, .ref h32, .ref h33, .ref h34, .long 0, .ref h35, .int 0, .int 0, .int 0, .int 0, .int 0, .int 0, .int 0, .ref h36, .ref h37, .int 0, .int 0, .int 0, .int 0]))] s.heap.size q := fun q h => Or.inr h
  generalize hAe : va_A [(h0, .inr (14, [.ref h1, .int 0, .ref h2, .int 0, .ref h3, .int 0, .int 0, .ref h4, .int (-1), .int 0, .int 0, .ref h5, .int 0, .ref h6, .ref h7, .ref h8, .ref h9, .ref h10, .int 0, .ref h11, .int 0, .int 0, .ref h12, .ref h13, .ref h14, .ref h15, .int 0, .ref h16, .ref h17, .int 0, .ref h18, .ref h19, .ref h20, .ref h21, .int 0, .int 0, .int 0, .ref h22, .int 0, .int 0, .ref h23, .ref h24, .ref h25, .ref h26, .int 0, .int 0, .int 0, .int 0, .int 0, .int 0, .int 0, .int 0, .int 0, .int 0, .int 0, .int 0, .int (-1), .int 0, .ref h27, .int 0, .ref h28, .int 0, .int 0, .int 0, .int 0, .int 0, .ref h29, .ref h30, .int 0, .int 0, .ref h31, .ref h32, .ref h33, .ref h34, .long 0, .ref h35, .int 0, .int 0, .int 0, .int 0, .int 0, .int 0, .int 0, .ref h36, .ref h37, .int 0, .int 0, .int 0, .int 0]))] s.heap.size = A at hD hX hA ⊢
  have hS : va_S A s.heap s.heap [] := va_S.rf
  have hl : lv_has ls 2 [(0, .ref h0), (1, .int x0)] := hl
  refine lv_iload_n hx hb dX13_diagnostic_0 rfl (lv_at hl 1 rfl) ?_
  refine lv_iconst (v := 0) hx hb dX13_diagnostic_1 (by decide) ?_
  refine lv_aload_n hx hb dX13_diagnostic_2 rfl (lv_at hl 0 rfl) ?_
  refine va_get (D := (dC, dI)) (ci := 14) (v := .int 0) (C := RX13) (T := TX13) (N := 89) hx hb ht inX13 hown hK hP 0 rfl rfl 6 (by decide) (ht _ mW1889) (fun _ h9 => h9) rfl dX13_diagnostic_3 ?_
  refine lv_iconst (v := 1) hx hb dX13_diagnostic_6 (by decide) ?_
  refine lv_isub hx hb dX13_diagnostic_7 ?_
  refine W.eq (congrArg (fun z => F0 m 8 ls (.int z :: [.int 0, .int x0])) (by decide : (0 - 1 : Int32) = (-1))) ?_
  have hPc := hP.sub (ws' := []) [] rfl
  have hDc := hD.sub (ws' := []) [] (by decide) rfl
  have hKc := hK.sub (tys' := []) [] rfl
  have hFc := va_free (wc := []) hD hS hA [] rfl
  refine pCall (va_runS (As := [.int x0, .int 0, .int (-1)]) (rest := []) ⟨hx, hb, hml, hown, ht⟩ (c84_X13_isIn l dC dI s.heap.size x0) ⟨cbB 3 ht mW2162 mW20 mW2160 (by decide +kernel) ⟨(Nat.le_of_ble_eq_true rfl), (Nat.le_of_ble_eq_true rfl)⟩, ht _ mW2161⟩ ⟨pP_blind X0_blind, fun U hU hW => ⟨rfl, by rw [hU], by rw [hU]; exact hPc, va_K.moved hW.alike hKc, hDc.weaken (fun _ _ _ _ => trivial), trivial⟩⟩ rfl rfl hl.1 rfl (lv_room (Nat.le_of_ble_eq_true rfl)) dX13_diagnostic_8 ⟨(Nat.le_of_ble_eq_true rfl), (Nat.le_of_ble_eq_true rfl)⟩) hS (fun q h => hFc q h) hFc (fun v t H1 locs hH hvm hB hk1 hS => ?_)
  obtain ⟨hv, hP1, hK1, hD1⟩ := hB
  subst hv
  rw [hH] at hP1
  have hK1 := va_K.moved hvm.symm hK1
  obtain ⟨hP, hD⟩ := va_join (wr := [(h0, .inr (14, [.ref h1, .int 0, .ref h2, .int 0, .ref h3, .int 0, .int 0, .ref h4, .int (-1), .int 0, .int 0, .ref h5, .int 0, .ref h6, .ref h7, .ref h8, .ref h9, .ref h10, .int 0, .ref h11, .int 0, .int 0, .ref h12, .ref h13, .ref h14, .ref h15, .int 0, .ref h16, .ref h17, .int 0, .ref h18, .ref h19, .ref h20, .ref h21, .int 0, .int 0, .int 0, .ref h22, .int 0, .int 0, .ref h23, .ref h24, .ref h25, .ref h26, .int 0, .int 0, .int 0, .int 0, .int 0, .int 0, .int 0, .int 0, .int 0, .int 0, .int 0, .int 0, .int (-1), .int 0, .ref h27, .int 0, .ref h28, .int 0, .int 0, .int 0, .int 0, .int 0, .ref h29, .ref h30, .int 0, .int 0, .ref h31, .ref h32, .ref h33, .ref h34, .long 0, .ref h35, .int 0, .int 0, .int 0, .int 0, .int 0, .int 0, .int 0, .ref h36, .ref h37, .int 0, .int 0, .int 0, .int 0]))]) (w1 := []) hP hD [] [0] rfl rfl (by decide) (by decide) hk1 hFc hP1 hD1
  have hK := (hK.sub (tys' := []) [] rfl).app hK1
  generalize H1 = H at hP hS ⊢
  have hP : va_P (dC, dI) vwCl [(h0, .inr (14, [.ref h1, .int 0, .ref h2, .int 0, .ref h3, .int 0, .int 0, .ref h4, .int (-1), .int 0, .int 0, .ref h5, .int 0, .ref h6, .ref h7, .ref h8, .ref h9, .ref h10, .int 0, .ref h11, .int 0, .int 0, .ref h12, .ref h13, .ref h14, .ref h15, .int 0, .ref h16, .ref h17, .int 0, .ref h18, .ref h19, .ref h20, .ref h21, .int 0, .int 0, .int 0, .ref h22, .int 0, .int 0, .ref h23, .ref h24, .ref h25, .ref h26, .int 0, .int 0, .int 0, .int 0, .int 0, .int 0, .int 0, .int 0, .int 0, .int 0, .int 0, .int 0, .int (-1), .int 0, .ref h27, .int 0, .ref h28, .int 0, .int 0, .int 0, .int 0, .int 0, .ref h29, .ref h30, .int 0, .int 0, .ref h31, .ref h32, .ref h33, .ref h34, .long 0, .ref h35, .int 0, .int 0, .int 0, .int 0, .int 0, .int 0, .int 0, .ref h36, .ref h37, .int 0, .int 0, .int 0, .int 0]))] H := hP
  have hD : va_D A [(h0, .inr (14, [.ref h1, .int 0, .ref h2, .int 0, .ref h3, .int 0, .int 0, .ref h4, .int (-1), .int 0, .int 0, .ref h5, .int 0, .ref h6, .ref h7, .ref h8, .ref h9, .ref h10, .int 0, .ref h11, .int 0, .int 0, .ref h12, .ref h13, .ref h14, .ref h15, .int 0, .ref h16, .ref h17, .int 0, .ref h18, .ref h19, .ref h20, .ref h21, .int 0, .int 0, .int 0, .ref h22, .int 0, .int 0, .ref h23, .ref h24, .ref h25, .ref h26, .int 0, .int 0, .int 0, .int 0, .int 0, .int 0, .int 0, .int 0, .int 0, .int 0, .int 0, .int 0, .int (-1), .int 0, .ref h27, .int 0, .ref h28, .int 0, .int 0, .int 0, .int 0, .int 0, .ref h29, .ref h30, .int 0, .int 0, .ref h31, .ref h32, .ref h33, .ref h34, .long 0, .ref h35, .int 0, .int 0, .int 0, .int 0, .int 0, .int 0, .int 0, .ref h36, .ref h37, .int 0, .int 0, .int 0, .int 0]))] := hD
  have hK : va_K (dC, dI) vwCl [] s := hK
  refine W.widen (g := F0 m 11 ls [.int 0]) (k := 0) (n := 0) (Nat.le_of_ble_eq_true rfl) (Nat.le_of_ble_eq_true rfl) ?_
  refine lv_if_eq (tgt := 23) hx hb dX13_diagnostic_11 (by decide) (fun _ => ?_) (fun c => absurd (by decide) c)
  refine lv_iconst (v := (-1)) hx hb dX13_diagnostic_23 (by decide) ?_
  refine W.widen (k := 0) (n := 0) (Nat.le_of_ble_eq_true rfl) (Nat.le_of_ble_eq_true rfl) ?_
  have hP9 := hP.sub (ws' := []) [] rfl
  have hD9 := hD.sub (ws' := []) [] (by decide) rfl
  have hK9 := hK.sub (tys' := []) [] rfl
  exact W.iret hx hb hr (fun t hH hW => ⟨⟨_, rfl, rfl, by rw [hH]; exact hP9, va_K.moved hW.alike hK9, hD9⟩, hS.F hH⟩) hS.2.2 dX13_diagnostic_24 hlocks
set_option maxHeartbeats 4000000 in
set_option maxRecDepth 100000 in
theorem c88_X12_wrong (l : Launch) (dC : Nat → ClassId) (dI : Nat → Nat → Nat) (sz : Nat) (h0 h1 h2 h3 h4 h5 h6 h7 h8 h9 h10 h11 h12 : Nat) : Met l yX12_wrong (.code yX12_wrong cX12_wrong 1 (some .int) :: wAll) ({ frames := 1, cells := 0, slots := 0, locals := 40 }) (pP (dC, dI) [.ref h0] [(h0, .inr (13, [.ref h2, .int 0, .ref h3, .ref h4, .ref h1])), (h1, .inr (8, [.ref h4, .ref h5, .ref h6, .ref h7, .int 0, .ref h8, .ref h9, .ref h8, .ref h10, .int 0, .ref h11, .ref h12, .int 0, .int (-1)]))] [] sz X0) (qQ (fun (v : Option Value) (t : State) => v = some (.int (-1)) ∧ va_P (dC, dI) vwCl [] t.heap ∧ va_K (dC, dI) vwCl [] t ∧ va_D (va_A [(h0, .inr (13, [.ref h2, .int 0, .ref h3, .ref h4, .ref h1])), (h1, .inr (8, [.ref h4, .ref h5, .ref h6, .ref h7, .int 0, .ref h8, .ref h9, .ref h8, .ref h10, .int 0, .ref h11, .ref h12, .int 0, .int (-1)]))] sz) []) (va_A [(h0, .inr (13, [.ref h2, .int 0, .ref h3, .ref h4, .ref h1])), (h1, .inr (8, [.ref h4, .ref h5, .ref h6, .ref h7, .int 0, .ref h8, .ref h9, .ref h8, .ref h10, .int 0, .ref h11, .ref h12, .int 0, .int (-1)]))] sz)) 0 0 (va_A [(h0, .inr (13, [.ref h2, .int 0, .ref h3, .ref h4, .ref h1])), (h1, .inr (8, [.ref h4, .ref h5, .ref h6, .ref h7, .int 0, .ref h8, .ref h9, .ref h8, .ref h10, .int 0, .ref h11, .ref h12, .int 0, .int (-1)]))] sz) := by
  refine mkMet (y := yX12_wrong) (bytes := cX12_wrong) (maxL := 1) (ret := (some .int)) (rm := { frames := 1, cells := 0, slots := 0, locals := 40 }) (by decide) (Nat.le_of_ble_eq_true rfl) ?_
  intro p e s m args below meth c ls hE hl
  obtain ⟨hx, hb, hml, hr, ht, hown, hlocks, hin, rfl, hP, hK, hD, hX, rfl⟩ := hE
  have hown : s.vm.findClass "CommandHouse" = some m.cls := hown
  have hA : ∀ q : Nat, s.heap.size ≤ q → va_A [(h0, .inr (13, [.ref h2, .int 0, .ref h3, .ref h4, .ref h1])), (h1, .inr (8, [.ref h4, .ref h5, .ref h6, .ref h7, .int 0, .ref h8, .ref h9, .ref h8, .ref h10, .int 0, .ref h11, .ref h12, .int 0, .int (-1)]))] s.heap.size q := fun q h => Or.inr h
  generalize hAe : va_A [(h0, .inr (13, [.ref h2, .int 0, .ref h3, .ref h4, .ref h1])), (h1, .inr (8, [.ref h4, .ref h5, .ref h6, .ref h7, .int 0, .ref h8, .ref h9, .ref h8, .ref h10, .int 0, .ref h11, .ref h12, .int 0, .int (-1)]))] s.heap.size = A at hD hX hA ⊢
  have hS : va_S A s.heap s.heap [] := va_S.rf
  have hl : lv_has ls 1 [(0, .ref h0)] := hl
  refine lv_aload_n hx hb dX12_wrong_0 rfl (lv_at hl 0 rfl) ?_
  refine va_get (D := (dC, dI)) (ci := 13) (v := .ref h1) (C := RX12) (T := TX12) (N := 5) hx hb ht inX12 hown hK hP 0 rfl rfl 4 (by decide) (ht _ mW632) (fun _ h9 => h9) rfl dX12_wrong_1 ?_
  refine va_getN (D := (dC, dI)) (ci := 8) (v := .int (-1)) (C := RX7) (T := TX7) (N := 14) hx hb ht inX7 hown hK hP 1 rfl rfl 13 (by decide) (ht _ mW596) (fun _ h9 => h9) rfl dX12_wrong_4 ?_
  refine W.widen (k := 0) (n := 0) (Nat.le_of_ble_eq_true rfl) (Nat.le_of_ble_eq_true rfl) ?_
  have hP9 := hP.sub (ws' := []) [] rfl
  have hD9 := hD.sub (ws' := []) [] (by decide) rfl
  have hK9 := hK.sub (tys' := []) [] rfl
  exact W.iret hx hb hr (fun t hH hW => ⟨⟨_, rfl, rfl, by rw [hH]; exact hP9, va_K.moved hW.alike hK9, hD9⟩, hS.F hH⟩) hS.2.2 dX12_wrong_7 hlocks
set_option maxHeartbeats 4000000 in
set_option maxRecDepth 100000 in
theorem c89_X13_wrong (l : Launch) (dC : Nat → ClassId) (dI : Nat → Nat → Nat) (sz : Nat) (h0 h1 h2 h3 h4 h5 h6 h7 h8 h9 h10 h11 h12 h13 h14 h15 h16 h17 h18 h19 h20 h21 h22 h23 h24 h25 h26 h27 h28 h29 h30 h31 h32 h33 h34 h35 h36 h37 : Nat) : Met l yX13_wrong (.code yX13_wrong cX13_wrong 1 (some .int) :: wAll) ({ frames := 1, cells := 0, slots := 0, locals := 40 }) (pP (dC, dI) [.ref h0] [(h0, .inr (14, [.ref h1, .int 0, .ref h2, .int 0, .ref h3, .int 0, .int 0, .ref h4, .int (-1), .int 0, .int 0, .ref h5, .int 0, .ref h6, .ref h7, .ref h8, .ref h9, .ref h10, .int 0, .ref h11, .int 0, .int 0, .ref h12, .ref h13, .ref h14, .ref h15, .int 0, .ref h16, .ref h17, .int 0, .ref h18, .ref h19, .ref h20, .ref h21, .int 0, .int 0, .int 0, .ref h22, .int 0, .int 0, .ref h23, .ref h24, .ref h25, .ref h26, .int 0, .int 0, .int 0, .int 0, .int 0, .int 0, .int 0, .int 0, .int 0, .int 0, .int 0, .int 0, .int (-1), .int 0, .ref h27, .int 0, .ref h28, .int 0, .int 0, .int 0, .int 0, .int 0, .ref h29, .ref h30, .int 0, .int 0, .ref h31, .ref h32, .ref h33, .ref h34, .long 0, .ref h35, .int 0, .int 0, .int 0, .int 0, .int 0, .int 0, .int 0, .ref h36, .ref h37, .int 0, .int 0, .int 0, .int 0]))] [] sz X0) (qQ (fun (v : Option Value) (t : State) => v = some (.int (-1)) ∧ va_P (dC, dI) vwCl [] t.heap ∧ va_K (dC, dI) vwCl [] t ∧ va_D (va_A [(h0, .inr (14, [.ref h1, .int 0, .ref h2, .int 0, .ref h3, .int 0, .int 0, .ref h4, .int (-1), .int 0, .int 0, .ref h5, .int 0, .ref h6, .ref h7, .ref h8, .ref h9, .ref h10, .int 0, .ref h11, .int 0, .int 0, .ref h12, .ref h13, .ref h14, .ref h15, .int 0, .ref h16, .ref h17, .int 0, .ref h18, .ref h19, .ref h20, .ref h21, .int 0, .int 0, .int 0, .ref h22, .int 0, .int 0, .ref h23, .ref h24, .ref h25, .ref h26, .int 0, .int 0, .int 0, .int 0, .int 0, .int 0, .int 0, .int 0, .int 0, .int 0, .int 0, .int 0, .int (-1), .int 0, .ref h27, .int 0, .ref h28, .int 0, .int 0, .int 0, .int 0, .int 0, .ref h29, .ref h30, .int 0, .int 0, .ref h31, .ref h32, .ref h33, .ref h34, .long 0, .ref h35, .int 0, .int 0, .int 0, .int 0, .int 0, .int 0, .int 0, .ref h36, .ref h37, .int 0, .int 0, .int 0, .int 0]))] sz) []) (va_A [(h0, .inr (14, [.ref h1, .int 0, .ref h2, .int 0, .ref h3, .int 0, .int 0, .ref h4, .int (-1), .int 0, .int 0, .ref h5, .int 0, .ref h6, .ref h7, .ref h8, .ref h9, .ref h10, .int 0, .ref h11, .int 0, .int 0, .ref h12, .ref h13, .ref h14, .ref h15, .int 0, .ref h16, .ref h17, .int 0, .ref h18, .ref h19, .ref h20, .ref h21, .int 0, .int 0, .int 0, .ref h22, .int 0, .int 0, .ref h23, .ref h24, .ref h25, .ref h26, .int 0, .int 0, .int 0, .int 0, .int 0, .int 0, .int 0, .int 0, .int 0, .int 0, .int 0, .int 0, .int (-1), .int 0, .ref h27, .int 0, .ref h28, .int 0, .int 0, .int 0, .int 0, .int 0, .ref h29, .ref h30, .int 0, .int 0, .ref h31, .ref h32, .ref h33, .ref h34, .long 0, .ref h35, .int 0, .int 0, .int 0, .int 0, .int 0, .int 0, .int 0, .ref h36, .ref h37, .int 0, .int 0, .int 0, .int 0]))] sz)) 0 0 (va_A [(h0, .inr (14, [.ref h1, .int 0, .ref h2, .int 0, .ref h3, .int 0, .int 0, .ref h4, .int (-1), .int 0, .int 0, .ref h5, .int 0, .ref h6, .ref h7, .ref h8, .ref h9, .ref h10, .int 0, .ref h11, .int 0, .int 0, .ref h12, .ref h13, .ref h14, .ref h15, .int 0, .ref h16, .ref h17, .int 0, .ref h18, .ref h19, .ref h20, .ref h21, .int 0, .int 0, .int 0, .ref h22, .int 0, .int 0, .ref h23, .ref h24, .ref h25, .ref h26, .int 0, .int 0, .int 0, .int 0, .int 0, .int 0, .int 0, .int 0, .int 0, .int 0, .int 0, .int 0, .int (-1), .int 0, .ref h27, .int 0, .ref h28, .int 0, .int 0, .int 0, .int 0, .int 0, .ref h29, .ref h30, .int 0, .int 0, .ref h31, .ref h32, .ref h33, .ref h34, .long 0, .ref h35, .int 0, .int 0, .int 0, .int 0, .int 0, .int 0, .int 0, .ref h36, .ref h37, .int 0, .int 0, .int 0, .int 0]))] sz) := by
  refine mkMet (y := yX13_wrong) (bytes := cX13_wrong) (maxL := 1) (ret := (some .int)) (rm := { frames := 1, cells := 0, slots := 0, locals := 40 }) (by decide) (Nat.le_of_ble_eq_true rfl) ?_
  intro p e s m args below meth c ls hE hl
  obtain ⟨hx, hb, hml, hr, ht, hown, hlocks, hin, rfl, hP, hK, hD, hX, rfl⟩ := hE
  have hown : s.vm.findClass "CommandHouseModel" = some m.cls := hown
  have hA : ∀ q : Nat, s.heap.size ≤ q → va_A [(h0, .inr (14, [.ref h1, .int 0, .ref h2, .int 0, .ref h3, .int 0, .int 0, .ref h4, .int (-1), .int 0, .int 0, .ref h5, .int 0, .ref h6, .ref h7, .ref h8, .ref h9, .ref h10, .int 0, .ref h11, .int 0, .int 0, .ref h12, .ref h13, .ref h14, .ref h15, .int 0, .ref h16, .ref h17, .int 0, .ref h18, .ref h19, .ref h20, .ref h21, .int 0, .int 0, .int 0, .ref h22, .int 0, .int 0, .ref h23, .ref h24, .ref h25, .ref h26, .int 0, .int 0, .int 0, .int 0, .int 0, .int 0, .int 0, .int 0, .int 0, .int 0, .int 0, .int 0, .int (-1), .int 0, .ref h27, .int 0, .ref h28, .int 0, .int 0, .int 0, .int 0, .int 0, .ref h29, .ref h30, .int 0, .int 0, .ref h31, .ref h32, .ref h33, .ref h34, .long 0, .ref h35, .int 0, .int 0, .int 0, .int 0, .int 0, .int 0, .int 0, .ref h36, .ref h37, .int 0, .int 0, .int 0, .int 0]))] s.heap.size q := fun q h => Or.inr h
  generalize hAe : va_A [(h0, .inr (14, [.ref h1, .int 0, .ref h2, .int 0, .ref h3, .int 0, .int 0, .ref h4, .int (-1), .int 0, .int 0, .ref h5, .int 0, .ref h6, .ref h7, .ref h8, .ref h9, .ref h10, .int 0, .ref h11, .int 0, .int 0, .ref h12, .ref h13, .ref h14, .ref h15, .int 0, .ref h16, .ref h17, .int 0, .ref h18, .ref h19, .ref h20, .ref h21, .int 0, .int 0, .int 0, .ref h22, .int 0, .int 0, .ref h23, .ref h24, .ref h25, .ref h26, .int 0, .int 0, .int 0, .int 0, .int 0, .int 0, .int 0, .int 0, .int 0, .int 0, .int 0, .int 0, .int (-1), .int 0, .ref h27, .int 0, .ref h28, .int 0, .int 0, .int 0, .int 0, .int 0, .ref h29, .ref h30, .int 0, .int 0, .ref h31, .ref h32, .ref h33, .ref h34, .long 0, .ref h35, .int 0, .int 0, .int 0, .int 0, .int 0, .int 0, .int 0, .ref h36, .ref h37, .int 0, .int 0, .int 0, .int 0]))] s.heap.size = A at hD hX hA ⊢
  have hS : va_S A s.heap s.heap [] := va_S.rf
  have hl : lv_has ls 1 [(0, .ref h0)] := hl
  refine lv_aload_n hx hb dX13_wrong_0 rfl (lv_at hl 0 rfl) ?_
  refine va_get (D := (dC, dI)) (ci := 14) (v := .int (-1)) (C := RX13) (T := TX13) (N := 89) hx hb ht inX13 hown hK hP 0 rfl rfl 8 (by decide) (ht _ mW1891) (fun _ h9 => h9) rfl dX13_wrong_1 ?_
  refine W.widen (k := 0) (n := 0) (Nat.le_of_ble_eq_true rfl) (Nat.le_of_ble_eq_true rfl) ?_
  have hP9 := hP.sub (ws' := []) [] rfl
  have hD9 := hD.sub (ws' := []) [] (by decide) rfl
  have hK9 := hK.sub (tys' := []) [] rfl
  exact W.iret hx hb hr (fun t hH hW => ⟨⟨_, rfl, rfl, by rw [hH]; exact hP9, va_K.moved hW.alike hK9, hD9⟩, hS.F hH⟩) hS.2.2 dX13_wrong_4 hlocks
set_option maxHeartbeats 4000000 in
set_option maxRecDepth 100000 in
theorem c90_X0_fileBytes (l : Launch) (dC : Nat → ClassId) (dI : Nat → Nat → Nat) (sz : Nat) (h0 h1 h2 h3 h4 : Nat) : Met l yX0_fileBytes (.code yX0_fileBytes cX0_fileBytes 3 (some .int) :: wAll) ({ frames := 1, cells := 0, slots := 0, locals := 40 }) (pP (dC, dI) [.ref h0] [(h0, .inr (1, [.int 0, .int 0, .int 0, .int 0, .int 0, .ref h1, .int 0, .ref h2, .int 0, .ref h3, .ref h4]))] [] sz X0) (qQ (fun (v : Option Value) (t : State) => v = some (.int 0) ∧ va_P (dC, dI) vwCl [(h0, .inr (1, [.int 0, .int 0, .int 0, .int 0, .int 0, .ref h1, .int 0, .ref h2, .int 0, .ref h3, .ref h4]))] t.heap ∧ va_K (dC, dI) vwCl [] t ∧ va_D (va_A [(h0, .inr (1, [.int 0, .int 0, .int 0, .int 0, .int 0, .ref h1, .int 0, .ref h2, .int 0, .ref h3, .ref h4]))] sz) [(h0, .inr (1, [.int 0, .int 0, .int 0, .int 0, .int 0, .ref h1, .int 0, .ref h2, .int 0, .ref h3, .ref h4]))]) (va_A [(h0, .inr (1, [.int 0, .int 0, .int 0, .int 0, .int 0, .ref h1, .int 0, .ref h2, .int 0, .ref h3, .ref h4]))] sz)) 0 0 (va_A [(h0, .inr (1, [.int 0, .int 0, .int 0, .int 0, .int 0, .ref h1, .int 0, .ref h2, .int 0, .ref h3, .ref h4]))] sz) := by
  refine mkMet (y := yX0_fileBytes) (bytes := cX0_fileBytes) (maxL := 3) (ret := (some .int)) (rm := { frames := 1, cells := 0, slots := 0, locals := 40 }) (by decide) (Nat.le_of_ble_eq_true rfl) ?_
  intro p e s m args below meth c ls hE hl
  obtain ⟨hx, hb, hml, hr, ht, hown, hlocks, hin, rfl, hP, hK, hD, hX, rfl⟩ := hE
  have hown : s.vm.findClass "CommandHouse$Book" = some m.cls := hown
  have hA : ∀ q : Nat, s.heap.size ≤ q → va_A [(h0, .inr (1, [.int 0, .int 0, .int 0, .int 0, .int 0, .ref h1, .int 0, .ref h2, .int 0, .ref h3, .ref h4]))] s.heap.size q := fun q h => Or.inr h
  generalize hAe : va_A [(h0, .inr (1, [.int 0, .int 0, .int 0, .int 0, .int 0, .ref h1, .int 0, .ref h2, .int 0, .ref h3, .ref h4]))] s.heap.size = A at hD hX hA ⊢
  have hS : va_S A s.heap s.heap [] := va_S.rf
  have hl : lv_has ls 3 [(0, .ref h0)] := hl
  refine lv_iconst (v := 0) hx hb dX0_fileBytes_0 (by decide) ?_
  refine lv_istore_n (lv' := [(1, .int 0), (0, .ref h0)]) hx hb dX0_fileBytes_1 rfl hl (by decide) rfl (fun ls hl => ?_)
  refine lv_iconst (v := 0) hx hb dX0_fileBytes_2 (by decide) ?_
  refine lv_istore_n (lv' := [(2, .int 0), (1, .int 0), (0, .ref h0)]) hx hb dX0_fileBytes_3 rfl hl (by decide) rfl (fun ls hl => ?_)
  refine lv_iload_n hx hb dX0_fileBytes_4 rfl (lv_at hl 0 rfl) ?_
  refine lv_aload_n hx hb dX0_fileBytes_5 rfl (lv_at hl 2 rfl) ?_
  refine va_get (D := (dC, dI)) (ci := 1) (v := .int 0) (C := RX0) (T := TX0) (N := 11) hx hb ht inX0 hown hK hP 0 rfl rfl 8 (by decide) (ht _ mW114) (fun _ h9 => h9) rfl dX0_fileBytes_6 ?_
  refine lv_icmp_ge (tgt := 49) hx hb dX0_fileBytes_9 (by decide) (fun _ => ?_) (fun c => absurd (by decide) c)
  refine lv_iload_n hx hb dX0_fileBytes_49 rfl (lv_at hl 1 rfl) ?_
  refine W.widen (k := 0) (n := 0) (Nat.le_of_ble_eq_true rfl) (Nat.le_of_ble_eq_true rfl) ?_
  have hP9 := hP.sub (ws' := [(h0, .inr (1, [.int 0, .int 0, .int 0, .int 0, .int 0, .ref h1, .int 0, .ref h2, .int 0, .ref h3, .ref h4]))]) [0] rfl
  have hD9 := hD.sub (ws' := [(h0, .inr (1, [.int 0, .int 0, .int 0, .int 0, .int 0, .ref h1, .int 0, .ref h2, .int 0, .ref h3, .ref h4]))]) [0] (by decide) rfl
  have hK9 := hK.sub (tys' := []) [] rfl
  exact W.iret hx hb hr (fun t hH hW => ⟨⟨_, rfl, rfl, by rw [hH]; exact hP9, va_K.moved hW.alike hK9, hD9⟩, hS.F hH⟩) hS.2.2 dX0_fileBytes_50 hlocks
set_option maxHeartbeats 4000000 in
set_option maxRecDepth 100000 in
theorem c91_X12_count (l : Launch) (dC : Nat → ClassId) (dI : Nat → Nat → Nat) (sz : Nat) (h0 h1 h2 h3 h4 h5 h6 h7 h8 : Nat) (x0 : Int32) : Met l yX12_count (.code yX12_count cX12_count 2 (some .int) :: wAll) ({ frames := 2, cells := 0, slots := 0, locals := 62 }) (pP (dC, dI) [.ref h0, .int x0] [(h0, .inr (13, [.ref h2, .int 0, .ref h3, .ref h1, .ref h4])), (h1, .inr (1, [.int 0, .int 0, .int 0, .int 0, .int 0, .ref h5, .int 0, .ref h6, .int 0, .ref h7, .ref h8]))] [] sz X0) (qQ (fun (v : Option Value) (t : State) => v = some (.int (if 0 ≤ x0.toInt ∧ x0.toInt ≤ 5 then 0 else -1)) ∧ va_P (dC, dI) vwCl [] t.heap ∧ va_K (dC, dI) vwCl [] t ∧ va_D (va_A [(h0, .inr (13, [.ref h2, .int 0, .ref h3, .ref h1, .ref h4])), (h1, .inr (1, [.int 0, .int 0, .int 0, .int 0, .int 0, .ref h5, .int 0, .ref h6, .int 0, .ref h7, .ref h8]))] sz) []) (va_A [(h0, .inr (13, [.ref h2, .int 0, .ref h3, .ref h1, .ref h4])), (h1, .inr (1, [.int 0, .int 0, .int 0, .int 0, .int 0, .ref h5, .int 0, .ref h6, .int 0, .ref h7, .ref h8]))] sz)) 0 0 (va_A [(h0, .inr (13, [.ref h2, .int 0, .ref h3, .ref h1, .ref h4])), (h1, .inr (1, [.int 0, .int 0, .int 0, .int 0, .int 0, .ref h5, .int 0, .ref h6, .int 0, .ref h7, .ref h8]))] sz) := by
  refine mkMet (y := yX12_count) (bytes := cX12_count) (maxL := 2) (ret := (some .int)) (rm := { frames := 2, cells := 0, slots := 0, locals := 62 }) (by decide) (Nat.le_of_ble_eq_true rfl) ?_
  intro p e s m args below meth c ls hE hl
  obtain ⟨hx, hb, hml, hr, ht, hown, hlocks, hin, rfl, hP, hK, hD, hX, rfl⟩ := hE
  have hown : s.vm.findClass "CommandHouse" = some m.cls := hown
  have hA : ∀ q : Nat, s.heap.size ≤ q → va_A [(h0, .inr (13, [.ref h2, .int 0, .ref h3, .ref h1, .ref h4])), (h1, .inr (1, [.int 0, .int 0, .int 0, .int 0, .int 0, .ref h5, .int 0, .ref h6, .int 0, .ref h7, .ref h8]))] s.heap.size q := fun q h => Or.inr h
  generalize hAe : va_A [(h0, .inr (13, [.ref h2, .int 0, .ref h3, .ref h1, .ref h4])), (h1, .inr (1, [.int 0, .int 0, .int 0, .int 0, .int 0, .ref h5, .int 0, .ref h6, .int 0, .ref h7, .ref h8]))] s.heap.size = A at hD hX hA ⊢
  have hS : va_S A s.heap s.heap [] := va_S.rf
  have hl : lv_has ls 2 [(0, .ref h0), (1, .int x0)] := hl
  refine lv_iload_n hx hb dX12_count_0 rfl (lv_at hl 1 rfl) ?_
  by_cases e1_0 : x0 = 0
  · subst e1_0
    refine lv_tableIn (tgt := 40) hx hb dX12_count_1 (by decide) (by decide) rfl (by decide) ?_
    refine lv_aload_n hx hb dX12_count_40 rfl (lv_at hl 0 rfl) ?_
    refine va_get (D := (dC, dI)) (ci := 13) (v := .ref h1) (C := RX12) (T := TX12) (N := 5) hx hb ht inX12 hown hK hP 0 rfl rfl 3 (by decide) (ht _ mW631) (fun _ h9 => h9) rfl dX12_count_41 ?_
    refine va_getN (D := (dC, dI)) (ci := 1) (v := .int 0) (C := RX0) (T := TX0) (N := 11) hx hb ht inX0 hown hK hP 1 rfl rfl 0 (by decide) (ht _ mW98) (fun _ h9 => h9) rfl dX12_count_44 ?_
    refine W.widen (k := 0) (n := 0) (Nat.le_of_ble_eq_true rfl) (Nat.le_of_ble_eq_true rfl) ?_
    have hP9 := hP.sub (ws' := []) [] rfl
    have hD9 := hD.sub (ws' := []) [] (by decide) rfl
    have hK9 := hK.sub (tys' := []) [] rfl
    exact W.iret hx hb hr (fun t hH hW => ⟨⟨_, rfl, congrArg (fun z : Int32 => some (Value.int z)) (if_pos (by decide)).symm, by rw [hH]; exact hP9, va_K.moved hW.alike hK9, hD9⟩, hS.F hH⟩) hS.2.2 dX12_count_47 hlocks
  by_cases e1_1 : x0 = 1
  · subst e1_1
    refine lv_tableIn (tgt := 48) hx hb dX12_count_1 (by decide) (by decide) rfl (by decide) ?_
    refine lv_aload_n hx hb dX12_count_48 rfl (lv_at hl 0 rfl) ?_
    refine va_get (D := (dC, dI)) (ci := 13) (v := .ref h1) (C := RX12) (T := TX12) (N := 5) hx hb ht inX12 hown hK hP 0 rfl rfl 3 (by decide) (ht _ mW631) (fun _ h9 => h9) rfl dX12_count_49 ?_
    refine va_getN (D := (dC, dI)) (ci := 1) (v := .int 0) (C := RX0) (T := TX0) (N := 11) hx hb ht inX0 hown hK hP 1 rfl rfl 3 (by decide) (ht _ mW105) (fun _ h9 => h9) rfl dX12_count_52 ?_
    refine W.widen (k := 0) (n := 0) (Nat.le_of_ble_eq_true rfl) (Nat.le_of_ble_eq_true rfl) ?_
    have hP9 := hP.sub (ws' := []) [] rfl
    have hD9 := hD.sub (ws' := []) [] (by decide) rfl
    have hK9 := hK.sub (tys' := []) [] rfl
    exact W.iret hx hb hr (fun t hH hW => ⟨⟨_, rfl, congrArg (fun z : Int32 => some (Value.int z)) (if_pos (by decide)).symm, by rw [hH]; exact hP9, va_K.moved hW.alike hK9, hD9⟩, hS.F hH⟩) hS.2.2 dX12_count_55 hlocks
  by_cases e1_2 : x0 = 2
  · subst e1_2
    refine lv_tableIn (tgt := 56) hx hb dX12_count_1 (by decide) (by decide) rfl (by decide) ?_
    refine lv_aload_n hx hb dX12_count_56 rfl (lv_at hl 0 rfl) ?_
    refine va_get (D := (dC, dI)) (ci := 13) (v := .ref h1) (C := RX12) (T := TX12) (N := 5) hx hb ht inX12 hown hK hP 0 rfl rfl 3 (by decide) (ht _ mW631) (fun _ h9 => h9) rfl dX12_count_57 ?_
    refine va_getN (D := (dC, dI)) (ci := 1) (v := .int 0) (C := RX0) (T := TX0) (N := 11) hx hb ht inX0 hown hK hP 1 rfl rfl 8 (by decide) (ht _ mW115) (fun _ h9 => h9) rfl dX12_count_60 ?_
    refine W.widen (k := 0) (n := 0) (Nat.le_of_ble_eq_true rfl) (Nat.le_of_ble_eq_true rfl) ?_
    have hP9 := hP.sub (ws' := []) [] rfl
    have hD9 := hD.sub (ws' := []) [] (by decide) rfl
    have hK9 := hK.sub (tys' := []) [] rfl
    exact W.iret hx hb hr (fun t hH hW => ⟨⟨_, rfl, congrArg (fun z : Int32 => some (Value.int z)) (if_pos (by decide)).symm, by rw [hH]; exact hP9, va_K.moved hW.alike hK9, hD9⟩, hS.F hH⟩) hS.2.2 dX12_count_63 hlocks
  by_cases e1_3 : x0 = 3
  · subst e1_3
    refine lv_tableIn (tgt := 64) hx hb dX12_count_1 (by decide) (by decide) rfl (by decide) ?_
    refine lv_aload_n hx hb dX12_count_64 rfl (lv_at hl 0 rfl) ?_
    refine va_get (D := (dC, dI)) (ci := 13) (v := .ref h1) (C := RX12) (T := TX12) (N := 5) hx hb ht inX12 hown hK hP 0 rfl rfl 3 (by decide) (ht _ mW631) (fun _ h9 => h9) rfl dX12_count_65 ?_
    have hPc := hP.sub (ws' := [(h1, .inr (1, [.int 0, .int 0, .int 0, .int 0, .int 0, .ref h5, .int 0, .ref h6, .int 0, .ref h7, .ref h8]))]) [1] rfl
    have hDc := hD.sub (ws' := [(h1, .inr (1, [.int 0, .int 0, .int 0, .int 0, .int 0, .ref h5, .int 0, .ref h6, .int 0, .ref h7, .ref h8]))]) [1] (by decide) rfl
    have hKc := hK.sub (tys' := []) [] rfl
    have hFc := va_free (wc := [(h1, .inr (1, [.int 0, .int 0, .int 0, .int 0, .int 0, .ref h5, .int 0, .ref h6, .int 0, .ref h7, .ref h8]))]) hD hS hA [1] rfl
    refine pCall (va_runVN (As := []) (rest := []) ⟨hx, hb, hml, hown, ht⟩ (c90_X0_fileBytes l dC dI s.heap.size h1 h5 h6 h7 h8) ⟨cbN 0 ht mW1861 mW2 mW1858 (by decide +kernel) ⟨(Nat.le_of_ble_eq_true rfl), (Nat.le_of_ble_eq_true rfl)⟩, ht _ mW1860, ht _ mS39⟩ ⟨pP_blind X0_blind, va_recv hKc hPc (ci := 1) (q0 := 0) rfl rfl, fun U hU hW => ⟨rfl, by rw [hU], by rw [hU]; exact hPc, va_K.moved hW.alike hKc, hDc.weaken (fun _ _ _ _ => trivial), trivial⟩⟩ rfl rfl hl.1 rfl (lv_room (Nat.le_of_ble_eq_true rfl)) dX12_count_68 ⟨(Nat.le_of_ble_eq_true rfl), (Nat.le_of_ble_eq_true rfl)⟩) hS (fun q h => hFc q h) hFc (fun v t H1 locs hH hvm hB hk1 hS => ?_)
    obtain ⟨hv, hP1, hK1, hD1⟩ := hB
    subst hv
    rw [hH] at hP1
    have hK1 := va_K.moved hvm.symm hK1
    obtain ⟨hP, hD⟩ := va_join (wr := [(h0, .inr (13, [.ref h2, .int 0, .ref h3, .ref h1, .ref h4]))]) (w1 := [(h1, .inr (1, [.int 0, .int 0, .int 0, .int 0, .int 0, .ref h5, .int 0, .ref h6, .int 0, .ref h7, .ref h8]))]) hP hD [1] [0] rfl rfl (by decide) (by decide) hk1 hFc hP1 hD1
    have hK := (hK.sub (tys' := []) [] rfl).app hK1
    generalize H1 = H at hP hS ⊢
    have hP : va_P (dC, dI) vwCl [(h0, .inr (13, [.ref h2, .int 0, .ref h3, .ref h1, .ref h4])), (h1, .inr (1, [.int 0, .int 0, .int 0, .int 0, .int 0, .ref h5, .int 0, .ref h6, .int 0, .ref h7, .ref h8]))] H := hP
    have hD : va_D A [(h0, .inr (13, [.ref h2, .int 0, .ref h3, .ref h1, .ref h4])), (h1, .inr (1, [.int 0, .int 0, .int 0, .int 0, .int 0, .ref h5, .int 0, .ref h6, .int 0, .ref h7, .ref h8]))] := hD
    have hK : va_K (dC, dI) vwCl [] s := hK
    refine W.widen (g := F0 m 71 ls [.int 0]) (k := 0) (n := 0) (Nat.le_of_ble_eq_true rfl) (Nat.le_of_ble_eq_true rfl) ?_
    refine W.widen (k := 0) (n := 0) (Nat.le_of_ble_eq_true rfl) (Nat.le_of_ble_eq_true rfl) ?_
    have hP9 := hP.sub (ws' := []) [] rfl
    have hD9 := hD.sub (ws' := []) [] (by decide) rfl
    have hK9 := hK.sub (tys' := []) [] rfl
    exact W.iret hx hb hr (fun t hH hW => ⟨⟨_, rfl, congrArg (fun z : Int32 => some (Value.int z)) (if_pos (by decide)).symm, by rw [hH]; exact hP9, va_K.moved hW.alike hK9, hD9⟩, hS.F hH⟩) hS.2.2 dX12_count_71 hlocks
  by_cases e1_4 : x0 = 4
  · subst e1_4
    refine lv_tableIn (tgt := 72) hx hb dX12_count_1 (by decide) (by decide) rfl (by decide) ?_
    refine lv_aload_n hx hb dX12_count_72 rfl (lv_at hl 0 rfl) ?_
    refine va_get (D := (dC, dI)) (ci := 13) (v := .ref h1) (C := RX12) (T := TX12) (N := 5) hx hb ht inX12 hown hK hP 0 rfl rfl 3 (by decide) (ht _ mW631) (fun _ h9 => h9) rfl dX12_count_73 ?_
    refine va_getN (D := (dC, dI)) (ci := 1) (v := .int 0) (C := RX0) (T := TX0) (N := 11) hx hb ht inX0 hown hK hP 1 rfl rfl 6 (by decide) (ht _ mW112) (fun _ h9 => h9) rfl dX12_count_76 ?_
    refine W.widen (k := 0) (n := 0) (Nat.le_of_ble_eq_true rfl) (Nat.le_of_ble_eq_true rfl) ?_
    have hP9 := hP.sub (ws' := []) [] rfl
    have hD9 := hD.sub (ws' := []) [] (by decide) rfl
    have hK9 := hK.sub (tys' := []) [] rfl
    exact W.iret hx hb hr (fun t hH hW => ⟨⟨_, rfl, congrArg (fun z : Int32 => some (Value.int z)) (if_pos (by decide)).symm, by rw [hH]; exact hP9, va_K.moved hW.alike hK9, hD9⟩, hS.F hH⟩) hS.2.2 dX12_count_79 hlocks
  by_cases e1_5 : x0 = 5
  · subst e1_5
    refine lv_tableIn (tgt := 80) hx hb dX12_count_1 (by decide) (by decide) rfl (by decide) ?_
    refine lv_aload_n hx hb dX12_count_80 rfl (lv_at hl 0 rfl) ?_
    refine va_get (D := (dC, dI)) (ci := 13) (v := .int 0) (C := RX12) (T := TX12) (N := 5) hx hb ht inX12 hown hK hP 0 rfl rfl 1 (by decide) (ht _ mW629) (fun _ h9 => h9) rfl dX12_count_81 ?_
    refine W.widen (k := 0) (n := 0) (Nat.le_of_ble_eq_true rfl) (Nat.le_of_ble_eq_true rfl) ?_
    have hP9 := hP.sub (ws' := []) [] rfl
    have hD9 := hD.sub (ws' := []) [] (by decide) rfl
    have hK9 := hK.sub (tys' := []) [] rfl
    exact W.iret hx hb hr (fun t hH hW => ⟨⟨_, rfl, congrArg (fun z : Int32 => some (Value.int z)) (if_pos (by decide)).symm, by rw [hH]; exact hP9, va_K.moved hW.alike hK9, hD9⟩, hS.F hH⟩) hS.2.2 dX12_count_84 hlocks
  have f0 := i32_ne e1_0 (z := 0) (by decide)
  have f1 := i32_ne e1_1 (z := 1) (by decide)
  have f2 := i32_ne e1_2 (z := 2) (by decide)
  have f3 := i32_ne e1_3 (z := 3) (by decide)
  have f4 := i32_ne e1_4 (z := 4) (by decide)
  have f5 := i32_ne e1_5 (z := 5) (by decide)
  refine lv_tableOut (tgt := 85) hx hb dX12_count_1 (by omega) (by decide) ?_
  refine lv_iconst (v := (-1)) hx hb dX12_count_85 (by decide) ?_
  refine W.widen (k := 0) (n := 0) (Nat.le_of_ble_eq_true rfl) (Nat.le_of_ble_eq_true rfl) ?_
  have hP9 := hP.sub (ws' := []) [] rfl
  have hD9 := hD.sub (ws' := []) [] (by decide) rfl
  have hK9 := hK.sub (tys' := []) [] rfl
  exact W.iret hx hb hr (fun t hH hW => ⟨⟨_, rfl, congrArg (fun z : Int32 => some (Value.int z)) (if_neg (by omega)).symm, by rw [hH]; exact hP9, va_K.moved hW.alike hK9, hD9⟩, hS.F hH⟩) hS.2.2 dX12_count_86 hlocks
set_option maxHeartbeats 4000000 in
set_option maxRecDepth 100000 in
theorem c92_X13_count (l : Launch) (dC : Nat → ClassId) (dI : Nat → Nat → Nat) (sz : Nat) (h0 h1 h2 h3 h4 h5 h6 h7 h8 h9 h10 h11 h12 h13 h14 h15 h16 h17 h18 h19 h20 h21 h22 h23 h24 h25 h26 h27 h28 h29 h30 h31 h32 h33 h34 h35 h36 h37 : Nat) (x0 : Int32) : Met l yX13_count (.code yX13_count cX13_count 4 (some .int) :: wAll) ({ frames := 1, cells := 0, slots := 0, locals := 40 }) (pP (dC, dI) [.ref h0, .int x0] [(h0, .inr (14, [.ref h1, .int 0, .ref h2, .int 0, .ref h3, .int 0, .int 0, .ref h4, .int (-1), .int 0, .int 0, .ref h5, .int 0, .ref h6, .ref h7, .ref h8, .ref h9, .ref h10, .int 0, .ref h11, .int 0, .int 0, .ref h12, .ref h13, .ref h14, .ref h15, .int 0, .ref h16, .ref h17, .int 0, .ref h18, .ref h19, .ref h20, .ref h21, .int 0, .int 0, .int 0, .ref h22, .int 0, .int 0, .ref h23, .ref h24, .ref h25, .ref h26, .int 0, .int 0, .int 0, .int 0, .int 0, .int 0, .int 0, .int 0, .int 0, .int 0, .int 0, .int 0, .int (-1), .int 0, .ref h27, .int 0, .ref h28, .int 0, .int 0, .int 0, .int 0, .int 0, .ref h29, .ref h30, .int 0, .int 0, .ref h31, .ref h32, .ref h33, .ref h34, .long 0, .ref h35, .int 0, .int 0, .int 0, .int 0, .int 0, .int 0, .int 0, .ref h36, .ref h37, .int 0, .int 0, .int 0, .int 0]))] [] sz X0) (qQ (fun (v : Option Value) (t : State) => v = some (.int (if 0 ≤ x0.toInt ∧ x0.toInt ≤ 5 then 0 else -1)) ∧ va_P (dC, dI) vwCl [] t.heap ∧ va_K (dC, dI) vwCl [] t ∧ va_D (va_A [(h0, .inr (14, [.ref h1, .int 0, .ref h2, .int 0, .ref h3, .int 0, .int 0, .ref h4, .int (-1), .int 0, .int 0, .ref h5, .int 0, .ref h6, .ref h7, .ref h8, .ref h9, .ref h10, .int 0, .ref h11, .int 0, .int 0, .ref h12, .ref h13, .ref h14, .ref h15, .int 0, .ref h16, .ref h17, .int 0, .ref h18, .ref h19, .ref h20, .ref h21, .int 0, .int 0, .int 0, .ref h22, .int 0, .int 0, .ref h23, .ref h24, .ref h25, .ref h26, .int 0, .int 0, .int 0, .int 0, .int 0, .int 0, .int 0, .int 0, .int 0, .int 0, .int 0, .int 0, .int (-1), .int 0, .ref h27, .int 0, .ref h28, .int 0, .int 0, .int 0, .int 0, .int 0, .ref h29, .ref h30, .int 0, .int 0, .ref h31, .ref h32, .ref h33, .ref h34, .long 0, .ref h35, .int 0, .int 0, .int 0, .int 0, .int 0, .int 0, .int 0, .ref h36, .ref h37, .int 0, .int 0, .int 0, .int 0]))] sz) []) (va_A [(h0, .inr (14, [.ref h1, .int 0, .ref h2, .int 0, .ref h3, .int 0, .int 0, .ref h4, .int (-1), .int 0, .int 0, .ref h5, .int 0, .ref h6, .ref h7, .ref h8, .ref h9, .ref h10, .int 0, .ref h11, .int 0, .int 0, .ref h12, .ref h13, .ref h14, .ref h15, .int 0, .ref h16, .ref h17, .int 0, .ref h18, .ref h19, .ref h20, .ref h21, .int 0, .int 0, .int 0, .ref h22, .int 0, .int 0, .ref h23, .ref h24, .ref h25, .ref h26, .int 0, .int 0, .int 0, .int 0, .int 0, .int 0, .int 0, .int 0, .int 0, .int 0, .int 0, .int 0, .int (-1), .int 0, .ref h27, .int 0, .ref h28, .int 0, .int 0, .int 0, .int 0, .int 0, .ref h29, .ref h30, .int 0, .int 0, .ref h31, .ref h32, .ref h33, .ref h34, .long 0, .ref h35, .int 0, .int 0, .int 0, .int 0, .int 0, .int 0, .int 0, .ref h36, .ref h37, .int 0, .int 0, .int 0, .int 0]))] sz)) 0 0 (va_A [(h0, .inr (14, [.ref h1, .int 0, .ref h2, .int 0, .ref h3, .int 0, .int 0, .ref h4, .int (-1), .int 0, .int 0, .ref h5, .int 0, .ref h6, .ref h7, .ref h8, .ref h9, .ref h10, .int 0, .ref h11, .int 0, .int 0, .ref h12, .ref h13, .ref h14, .ref h15, .int 0, .ref h16, .ref h17, .int 0, .ref h18, .ref h19, .ref h20, .ref h21, .int 0, .int 0, .int 0, .ref h22, .int 0, .int 0, .ref h23, .ref h24, .ref h25, .ref h26, .int 0, .int 0, .int 0, .int 0, .int 0, .int 0, .int 0, .int 0, .int 0, .int 0, .int 0, .int 0, .int (-1), .int 0, .ref h27, .int 0, .ref h28, .int 0, .int 0, .int 0, .int 0, .int 0, .ref h29, .ref h30, .int 0, .int 0, .ref h31, .ref h32, .ref h33, .ref h34, .long 0, .ref h35, .int 0, .int 0, .int 0, .int 0, .int 0, .int 0, .int 0, .ref h36, .ref h37, .int 0, .int 0, .int 0, .int 0]))] sz) := by
  refine mkMet (y := yX13_count) (bytes := cX13_count) (maxL := 4) (ret := (some .int)) (rm := { frames := 1, cells := 0, slots := 0, locals := 40 }) (by decide) (Nat.le_of_ble_eq_true rfl) ?_
  intro p e s m args below meth c ls hE hl
  obtain ⟨hx, hb, hml, hr, ht, hown, hlocks, hin, rfl, hP, hK, hD, hX, rfl⟩ := hE
  have hown : s.vm.findClass "CommandHouseModel" = some m.cls := hown
  have hA : ∀ q : Nat, s.heap.size ≤ q → va_A [(h0, .inr (14, [.ref h1, .int 0, .ref h2, .int 0, .ref h3, .int 0, .int 0, .ref h4, .int (-1), .int 0, .int 0, .ref h5, .int 0, .ref h6, .ref h7, .ref h8, .ref h9, .ref h10, .int 0, .ref h11, .int 0, .int 0, .ref h12, .ref h13, .ref h14, .ref h15, .int 0, .ref h16, .ref h17, .int 0, .ref h18, .ref h19, .ref h20, .ref h21, .int 0, .int 0, .int 0, .ref h22, .int 0, .int 0, .ref h23, .ref h24, .ref h25, .ref h26, .int 0, .int 0, .int 0, .int 0, .int 0, .int 0, .int 0, .int 0, .int 0, .int 0, .int 0, .int 0, .int (-1), .int 0, .ref h27, .int 0, .ref h28, .int 0, .int 0, .int 0, .int 0, .int 0, .ref h29, .ref h30, .int 0, .int 0, .ref h31, .ref h32, .ref h33, .ref h34, .long 0, .ref h35, .int 0, .int 0, .int 0, .int 0, .int 0, .int 0, .int 0, .ref h36, .ref h37, .int 0, .int 0, .int 0, .int 0]))] s.heap.size q := fun q h => Or.inr h
  generalize hAe : va_A [(h0, .inr (14, [.ref h1, .int 0, .ref h2, .int 0, .ref h3, .int 0, .int 0, .ref h4, .int (-1), .int 0, .int 0, .ref h5, .int 0, .ref h6, .ref h7, .ref h8, .ref h9, .ref h10, .int 0, .ref h11, .int 0, .int 0, .ref h12, .ref h13, .ref h14, .ref h15, .int 0, .ref h16, .ref h17, .int 0, .ref h18, .ref h19, .ref h20, .ref h21, .int 0, .int 0, .int 0, .ref h22, .int 0, .int 0, .ref h23, .ref h24, .ref h25, .ref h26, .int 0, .int 0, .int 0, .int 0, .int 0, .int 0, .int 0, .int 0, .int 0, .int 0, .int 0, .int 0, .int (-1), .int 0, .ref h27, .int 0, .ref h28, .int 0, .int 0, .int 0, .int 0, .int 0, .ref h29, .ref h30, .int 0, .int 0, .ref h31, .ref h32, .ref h33, .ref h34, .long 0, .ref h35, .int 0, .int 0, .int 0, .int 0, .int 0, .int 0, .int 0, .ref h36, .ref h37, .int 0, .int 0, .int 0, .int 0]))] s.heap.size = A at hD hX hA ⊢
  have hS : va_S A s.heap s.heap [] := va_S.rf
  have hl : lv_has ls 4 [(0, .ref h0), (1, .int x0)] := hl
  refine lv_iload_n hx hb dX13_count_0 rfl (lv_at hl 1 rfl) ?_
  by_cases e1_0 : x0 = 0
  · subst e1_0
    refine lv_tableIn (tgt := 40) hx hb dX13_count_1 (by decide) (by decide) rfl (by decide) ?_
    refine lv_aload_n hx hb dX13_count_40 rfl (lv_at hl 0 rfl) ?_
    refine va_get (D := (dC, dI)) (ci := 14) (v := .int 0) (C := RX13) (T := TX13) (N := 89) hx hb ht inX13 hown hK hP 0 rfl rfl 9 (by decide) (ht _ mW1892) (fun _ h9 => h9) rfl dX13_count_41 ?_
    refine W.widen (k := 0) (n := 0) (Nat.le_of_ble_eq_true rfl) (Nat.le_of_ble_eq_true rfl) ?_
    have hP9 := hP.sub (ws' := []) [] rfl
    have hD9 := hD.sub (ws' := []) [] (by decide) rfl
    have hK9 := hK.sub (tys' := []) [] rfl
    exact W.iret hx hb hr (fun t hH hW => ⟨⟨_, rfl, congrArg (fun z : Int32 => some (Value.int z)) (if_pos (by decide)).symm, by rw [hH]; exact hP9, va_K.moved hW.alike hK9, hD9⟩, hS.F hH⟩) hS.2.2 dX13_count_44 hlocks
  by_cases e1_1 : x0 = 1
  · subst e1_1
    refine lv_tableIn (tgt := 45) hx hb dX13_count_1 (by decide) (by decide) rfl (by decide) ?_
    refine lv_aload_n hx hb dX13_count_45 rfl (lv_at hl 0 rfl) ?_
    refine va_get (D := (dC, dI)) (ci := 14) (v := .int 0) (C := RX13) (T := TX13) (N := 89) hx hb ht inX13 hown hK hP 0 rfl rfl 10 (by decide) (ht _ mW1893) (fun _ h9 => h9) rfl dX13_count_46 ?_
    refine W.widen (k := 0) (n := 0) (Nat.le_of_ble_eq_true rfl) (Nat.le_of_ble_eq_true rfl) ?_
    have hP9 := hP.sub (ws' := []) [] rfl
    have hD9 := hD.sub (ws' := []) [] (by decide) rfl
    have hK9 := hK.sub (tys' := []) [] rfl
    exact W.iret hx hb hr (fun t hH hW => ⟨⟨_, rfl, congrArg (fun z : Int32 => some (Value.int z)) (if_pos (by decide)).symm, by rw [hH]; exact hP9, va_K.moved hW.alike hK9, hD9⟩, hS.F hH⟩) hS.2.2 dX13_count_49 hlocks
  by_cases e1_2 : x0 = 2
  · subst e1_2
    refine lv_tableIn (tgt := 50) hx hb dX13_count_1 (by decide) (by decide) rfl (by decide) ?_
    refine lv_aload_n hx hb dX13_count_50 rfl (lv_at hl 0 rfl) ?_
    refine va_get (D := (dC, dI)) (ci := 14) (v := .int 0) (C := RX13) (T := TX13) (N := 89) hx hb ht inX13 hown hK hP 0 rfl rfl 39 (by decide) (ht _ mW1922) (fun _ h9 => h9) rfl dX13_count_51 ?_
    refine W.widen (k := 0) (n := 0) (Nat.le_of_ble_eq_true rfl) (Nat.le_of_ble_eq_true rfl) ?_
    have hP9 := hP.sub (ws' := []) [] rfl
    have hD9 := hD.sub (ws' := []) [] (by decide) rfl
    have hK9 := hK.sub (tys' := []) [] rfl
    exact W.iret hx hb hr (fun t hH hW => ⟨⟨_, rfl, congrArg (fun z : Int32 => some (Value.int z)) (if_pos (by decide)).symm, by rw [hH]; exact hP9, va_K.moved hW.alike hK9, hD9⟩, hS.F hH⟩) hS.2.2 dX13_count_54 hlocks
  by_cases e1_3 : x0 = 3
  · subst e1_3
    refine lv_tableIn (tgt := 55) hx hb dX13_count_1 (by decide) (by decide) rfl (by decide) ?_
    refine lv_iconst (v := 0) hx hb dX13_count_55 (by decide) ?_
    refine lv_istore_n (lv' := [(2, .int 0), (0, .ref h0), (1, .int 3)]) hx hb dX13_count_56 rfl hl (by decide) rfl (fun ls hl => ?_)
    refine lv_iconst (v := 0) hx hb dX13_count_57 (by decide) ?_
    refine lv_istore_n (lv' := [(3, .int 0), (2, .int 0), (0, .ref h0), (1, .int 3)]) hx hb dX13_count_58 rfl hl (by decide) rfl (fun ls hl => ?_)
    refine lv_iload_n hx hb dX13_count_59 rfl (lv_at hl 0 rfl) ?_
    refine lv_aload_n hx hb dX13_count_60 rfl (lv_at hl 2 rfl) ?_
    refine va_get (D := (dC, dI)) (ci := 14) (v := .int 0) (C := RX13) (T := TX13) (N := 89) hx hb ht inX13 hown hK hP 0 rfl rfl 39 (by decide) (ht _ mW1922) (fun _ h9 => h9) rfl dX13_count_61 ?_
    refine lv_icmp_ge (tgt := 82) hx hb dX13_count_64 (by decide) (fun _ => ?_) (fun c => absurd (by decide) c)
    refine lv_iload_n hx hb dX13_count_82 rfl (lv_at hl 1 rfl) ?_
    refine W.widen (k := 0) (n := 0) (Nat.le_of_ble_eq_true rfl) (Nat.le_of_ble_eq_true rfl) ?_
    have hP9 := hP.sub (ws' := []) [] rfl
    have hD9 := hD.sub (ws' := []) [] (by decide) rfl
    have hK9 := hK.sub (tys' := []) [] rfl
    exact W.iret hx hb hr (fun t hH hW => ⟨⟨_, rfl, congrArg (fun z : Int32 => some (Value.int z)) (if_pos (by decide)).symm, by rw [hH]; exact hP9, va_K.moved hW.alike hK9, hD9⟩, hS.F hH⟩) hS.2.2 dX13_count_83 hlocks
  by_cases e1_4 : x0 = 4
  · subst e1_4
    refine lv_tableIn (tgt := 84) hx hb dX13_count_1 (by decide) (by decide) rfl (by decide) ?_
    refine lv_aload_n hx hb dX13_count_84 rfl (lv_at hl 0 rfl) ?_
    refine va_get (D := (dC, dI)) (ci := 14) (v := .int 0) (C := RX13) (T := TX13) (N := 89) hx hb ht inX13 hown hK hP 0 rfl rfl 6 (by decide) (ht _ mW1889) (fun _ h9 => h9) rfl dX13_count_85 ?_
    refine W.widen (k := 0) (n := 0) (Nat.le_of_ble_eq_true rfl) (Nat.le_of_ble_eq_true rfl) ?_
    have hP9 := hP.sub (ws' := []) [] rfl
    have hD9 := hD.sub (ws' := []) [] (by decide) rfl
    have hK9 := hK.sub (tys' := []) [] rfl
    exact W.iret hx hb hr (fun t hH hW => ⟨⟨_, rfl, congrArg (fun z : Int32 => some (Value.int z)) (if_pos (by decide)).symm, by rw [hH]; exact hP9, va_K.moved hW.alike hK9, hD9⟩, hS.F hH⟩) hS.2.2 dX13_count_88 hlocks
  by_cases e1_5 : x0 = 5
  · subst e1_5
    refine lv_tableIn (tgt := 89) hx hb dX13_count_1 (by decide) (by decide) rfl (by decide) ?_
    refine lv_aload_n hx hb dX13_count_89 rfl (lv_at hl 0 rfl) ?_
    refine va_get (D := (dC, dI)) (ci := 14) (v := .int 0) (C := RX13) (T := TX13) (N := 89) hx hb ht inX13 hown hK hP 0 rfl rfl 1 (by decide) (ht _ mW1884) (fun _ h9 => h9) rfl dX13_count_90 ?_
    refine W.widen (k := 0) (n := 0) (Nat.le_of_ble_eq_true rfl) (Nat.le_of_ble_eq_true rfl) ?_
    have hP9 := hP.sub (ws' := []) [] rfl
    have hD9 := hD.sub (ws' := []) [] (by decide) rfl
    have hK9 := hK.sub (tys' := []) [] rfl
    exact W.iret hx hb hr (fun t hH hW => ⟨⟨_, rfl, congrArg (fun z : Int32 => some (Value.int z)) (if_pos (by decide)).symm, by rw [hH]; exact hP9, va_K.moved hW.alike hK9, hD9⟩, hS.F hH⟩) hS.2.2 dX13_count_93 hlocks
  have f0 := i32_ne e1_0 (z := 0) (by decide)
  have f1 := i32_ne e1_1 (z := 1) (by decide)
  have f2 := i32_ne e1_2 (z := 2) (by decide)
  have f3 := i32_ne e1_3 (z := 3) (by decide)
  have f4 := i32_ne e1_4 (z := 4) (by decide)
  have f5 := i32_ne e1_5 (z := 5) (by decide)
  refine lv_tableOut (tgt := 94) hx hb dX13_count_1 (by omega) (by decide) ?_
  refine lv_iconst (v := (-1)) hx hb dX13_count_94 (by decide) ?_
  refine W.widen (k := 0) (n := 0) (Nat.le_of_ble_eq_true rfl) (Nat.le_of_ble_eq_true rfl) ?_
  have hP9 := hP.sub (ws' := []) [] rfl
  have hD9 := hD.sub (ws' := []) [] (by decide) rfl
  have hK9 := hK.sub (tys' := []) [] rfl
  exact W.iret hx hb hr (fun t hH hW => ⟨⟨_, rfl, congrArg (fun z : Int32 => some (Value.int z)) (if_neg (by omega)).symm, by rw [hH]; exact hP9, va_K.moved hW.alike hK9, hD9⟩, hS.F hH⟩) hS.2.2 dX13_count_95 hlocks
set_option maxHeartbeats 4000000 in
set_option maxRecDepth 100000 in
theorem c93_X0_fileAt (l : Launch) (dC : Nat → ClassId) (dI : Nat → Nat → Nat) (sz : Nat) (h0 h1 h2 h3 h4 : Nat) (x0 : Int32) : Met l yX0_fileAt (.code yX0_fileAt cX0_fileAt 2 (some (.object "CommandHouse$Bytes")) :: wAll) ({ frames := 1, cells := 0, slots := 0, locals := 40 }) (pP (dC, dI) [.ref h0, .int x0] [(h0, .inr (1, [.int 0, .int 0, .int 0, .int 0, .int 0, .ref h1, .int 0, .ref h2, .int 0, .ref h3, .ref h4]))] [] sz X0) (qQ (fun (v : Option Value) (t : State) => v = some (.null) ∧ va_P (dC, dI) vwCl [(h0, .inr (1, [.int 0, .int 0, .int 0, .int 0, .int 0, .ref h1, .int 0, .ref h2, .int 0, .ref h3, .ref h4]))] t.heap ∧ va_K (dC, dI) vwCl [] t ∧ va_D (va_A [(h0, .inr (1, [.int 0, .int 0, .int 0, .int 0, .int 0, .ref h1, .int 0, .ref h2, .int 0, .ref h3, .ref h4]))] sz) [(h0, .inr (1, [.int 0, .int 0, .int 0, .int 0, .int 0, .ref h1, .int 0, .ref h2, .int 0, .ref h3, .ref h4]))]) (va_A [(h0, .inr (1, [.int 0, .int 0, .int 0, .int 0, .int 0, .ref h1, .int 0, .ref h2, .int 0, .ref h3, .ref h4]))] sz)) 0 0 (va_A [(h0, .inr (1, [.int 0, .int 0, .int 0, .int 0, .int 0, .ref h1, .int 0, .ref h2, .int 0, .ref h3, .ref h4]))] sz) := by
  refine mkMet (y := yX0_fileAt) (bytes := cX0_fileAt) (maxL := 2) (ret := (some (.object "CommandHouse$Bytes"))) (rm := { frames := 1, cells := 0, slots := 0, locals := 40 }) (by decide) (Nat.le_of_ble_eq_true rfl) ?_
  intro p e s m args below meth c ls hE hl
  obtain ⟨hx, hb, hml, hr, ht, hown, hlocks, hin, rfl, hP, hK, hD, hX, rfl⟩ := hE
  have hown : s.vm.findClass "CommandHouse$Book" = some m.cls := hown
  have hA : ∀ q : Nat, s.heap.size ≤ q → va_A [(h0, .inr (1, [.int 0, .int 0, .int 0, .int 0, .int 0, .ref h1, .int 0, .ref h2, .int 0, .ref h3, .ref h4]))] s.heap.size q := fun q h => Or.inr h
  generalize hAe : va_A [(h0, .inr (1, [.int 0, .int 0, .int 0, .int 0, .int 0, .ref h1, .int 0, .ref h2, .int 0, .ref h3, .ref h4]))] s.heap.size = A at hD hX hA ⊢
  have hS : va_S A s.heap s.heap [] := va_S.rf
  have hl : lv_has ls 2 [(0, .ref h0), (1, .int x0)] := hl
  refine lv_iload_n hx hb dX0_fileAt_0 rfl (lv_at hl 1 rfl) ?_
  refine lv_if_lt (tgt := 27) hx hb dX0_fileAt_1 (by decide) (fun c_1 => ?_) (fun c_1 => ?_)
  · skip
    refine lv_null hx hb dX0_fileAt_27 ?_
    refine W.widen (k := 0) (n := 0) (Nat.le_of_ble_eq_true rfl) (Nat.le_of_ble_eq_true rfl) ?_
    have hP9 := hP.sub (ws' := [(h0, .inr (1, [.int 0, .int 0, .int 0, .int 0, .int 0, .ref h1, .int 0, .ref h2, .int 0, .ref h3, .ref h4]))]) [0] rfl
    have hD9 := hD.sub (ws' := [(h0, .inr (1, [.int 0, .int 0, .int 0, .int 0, .int 0, .ref h1, .int 0, .ref h2, .int 0, .ref h3, .ref h4]))]) [0] (by decide) rfl
    have hK9 := hK.sub (tys' := []) [] rfl
    exact W.aret (v := .null) hx hb hr (by first | exact Or.inl ⟨_, rfl⟩ | exact Or.inr ⟨_, rfl⟩) (by first | exact Or.inl rfl | exact Or.inr ⟨_, rfl⟩) (fun t hH hW => ⟨⟨_, rfl, rfl, by rw [hH]; exact hP9, va_K.moved hW.alike hK9, hD9⟩, hS.F hH⟩) hS.2.2 dX0_fileAt_28 hlocks
  · skip
    refine lv_iload_n hx hb dX0_fileAt_4 rfl (lv_at hl 1 rfl) ?_
    refine lv_aload_n hx hb dX0_fileAt_5 rfl (lv_at hl 0 rfl) ?_
    refine va_get (D := (dC, dI)) (ci := 1) (v := .int 0) (C := RX0) (T := TX0) (N := 11) hx hb ht inX0 hown hK hP 0 rfl rfl 8 (by decide) (ht _ mW114) (fun _ h9 => h9) rfl dX0_fileAt_6 ?_
    refine lv_icmp_ge (tgt := 27) hx hb dX0_fileAt_9 (by decide) (fun c_2 => ?_) (fun c_2 => ?_)
    · skip
      refine lv_null hx hb dX0_fileAt_27 ?_
      refine W.widen (k := 0) (n := 0) (Nat.le_of_ble_eq_true rfl) (Nat.le_of_ble_eq_true rfl) ?_
      have hP9 := hP.sub (ws' := [(h0, .inr (1, [.int 0, .int 0, .int 0, .int 0, .int 0, .ref h1, .int 0, .ref h2, .int 0, .ref h3, .ref h4]))]) [0] rfl
      have hD9 := hD.sub (ws' := [(h0, .inr (1, [.int 0, .int 0, .int 0, .int 0, .int 0, .ref h1, .int 0, .ref h2, .int 0, .ref h3, .ref h4]))]) [0] (by decide) rfl
      have hK9 := hK.sub (tys' := []) [] rfl
      exact W.aret (v := .null) hx hb hr (by first | exact Or.inl ⟨_, rfl⟩ | exact Or.inr ⟨_, rfl⟩) (by first | exact Or.inl rfl | exact Or.inr ⟨_, rfl⟩) (fun t hH hW => ⟨⟨_, rfl, rfl, by rw [hH]; exact hP9, va_K.moved hW.alike hK9, hD9⟩, hS.F hH⟩) hS.2.2 dX0_fileAt_28 hlocks
    · skip
      exact ((by have z0 : (0 : Int32).toInt = 0 := (by decide); have z1 : (-1 : Int32).toInt = -1 := (by decide); have z2 : (20 : Int32).toInt = 20 := (by decide); try simp only [Int32.lt_iff_toInt_lt, Int32.le_iff_toInt_le, ← Int32.toInt_inj, ge_iff_le, gt_iff_lt] at c_1; try simp only [Int32.lt_iff_toInt_lt, Int32.le_iff_toInt_le, ← Int32.toInt_inj, ge_iff_le, gt_iff_lt] at c_2; first | omega | simp_all : False)).elim
set_option maxHeartbeats 4000000 in
set_option maxRecDepth 100000 in
theorem c94_X12_file (l : Launch) (dC : Nat → ClassId) (dI : Nat → Nat → Nat) (sz : Nat) (h0 h1 h2 h3 h4 h5 h6 h7 h8 : Nat) (x0 : Int32) : Met l yX12_file (.code yX12_file cX12_file 3 (some .int) :: wAll) ({ frames := 2, cells := 0, slots := 0, locals := 61 }) (pP (dC, dI) [.ref h0, .int x0] [(h0, .inr (13, [.ref h2, .int 0, .ref h3, .ref h1, .ref h4])), (h1, .inr (1, [.int 0, .int 0, .int 0, .int 0, .int 0, .ref h5, .int 0, .ref h6, .int 0, .ref h7, .ref h8]))] [] sz X0) (qQ (fun (v : Option Value) (t : State) => v = some (.int (-1)) ∧ va_P (dC, dI) vwCl [] t.heap ∧ va_K (dC, dI) vwCl [] t ∧ va_D (va_A [(h0, .inr (13, [.ref h2, .int 0, .ref h3, .ref h1, .ref h4])), (h1, .inr (1, [.int 0, .int 0, .int 0, .int 0, .int 0, .ref h5, .int 0, .ref h6, .int 0, .ref h7, .ref h8]))] sz) []) (va_A [(h0, .inr (13, [.ref h2, .int 0, .ref h3, .ref h1, .ref h4])), (h1, .inr (1, [.int 0, .int 0, .int 0, .int 0, .int 0, .ref h5, .int 0, .ref h6, .int 0, .ref h7, .ref h8]))] sz)) 0 0 (va_A [(h0, .inr (13, [.ref h2, .int 0, .ref h3, .ref h1, .ref h4])), (h1, .inr (1, [.int 0, .int 0, .int 0, .int 0, .int 0, .ref h5, .int 0, .ref h6, .int 0, .ref h7, .ref h8]))] sz) := by
  refine mkMet (y := yX12_file) (bytes := cX12_file) (maxL := 3) (ret := (some .int)) (rm := { frames := 2, cells := 0, slots := 0, locals := 61 }) (by decide) (Nat.le_of_ble_eq_true rfl) ?_
  intro p e s m args below meth c ls hE hl
  obtain ⟨hx, hb, hml, hr, ht, hown, hlocks, hin, rfl, hP, hK, hD, hX, rfl⟩ := hE
  have hown : s.vm.findClass "CommandHouse" = some m.cls := hown
  have hA : ∀ q : Nat, s.heap.size ≤ q → va_A [(h0, .inr (13, [.ref h2, .int 0, .ref h3, .ref h1, .ref h4])), (h1, .inr (1, [.int 0, .int 0, .int 0, .int 0, .int 0, .ref h5, .int 0, .ref h6, .int 0, .ref h7, .ref h8]))] s.heap.size q := fun q h => Or.inr h
  generalize hAe : va_A [(h0, .inr (13, [.ref h2, .int 0, .ref h3, .ref h1, .ref h4])), (h1, .inr (1, [.int 0, .int 0, .int 0, .int 0, .int 0, .ref h5, .int 0, .ref h6, .int 0, .ref h7, .ref h8]))] s.heap.size = A at hD hX hA ⊢
  have hS : va_S A s.heap s.heap [] := va_S.rf
  have hl : lv_has ls 3 [(0, .ref h0), (1, .int x0)] := hl
  refine lv_aload_n hx hb dX12_file_0 rfl (lv_at hl 0 rfl) ?_
  refine va_get (D := (dC, dI)) (ci := 13) (v := .ref h1) (C := RX12) (T := TX12) (N := 5) hx hb ht inX12 hown hK hP 0 rfl rfl 3 (by decide) (ht _ mW631) (fun _ h9 => h9) rfl dX12_file_1 ?_
  refine lv_iload_n hx hb dX12_file_4 rfl (lv_at hl 1 rfl) ?_
  have hPc := hP.sub (ws' := [(h1, .inr (1, [.int 0, .int 0, .int 0, .int 0, .int 0, .ref h5, .int 0, .ref h6, .int 0, .ref h7, .ref h8]))]) [1] rfl
  have hDc := hD.sub (ws' := [(h1, .inr (1, [.int 0, .int 0, .int 0, .int 0, .int 0, .ref h5, .int 0, .ref h6, .int 0, .ref h7, .ref h8]))]) [1] (by decide) rfl
  have hKc := hK.sub (tys' := []) [] rfl
  have hFc := va_free (wc := [(h1, .inr (1, [.int 0, .int 0, .int 0, .int 0, .int 0, .ref h5, .int 0, .ref h6, .int 0, .ref h7, .ref h8]))]) hD hS hA [1] rfl
  refine pCall (va_runVN (As := [.int x0]) (rest := []) ⟨hx, hb, hml, hown, ht⟩ (c93_X0_fileAt l dC dI s.heap.size h1 h5 h6 h7 h8 x0) ⟨cbN 1 ht mW1291 mW2 mW1866 (by decide +kernel) ⟨(Nat.le_of_ble_eq_true rfl), (Nat.le_of_ble_eq_true rfl)⟩, ht _ mW1290, ht _ mS40⟩ ⟨pP_blind X0_blind, va_recv hKc hPc (ci := 1) (q0 := 0) rfl rfl, fun U hU hW => ⟨rfl, by rw [hU], by rw [hU]; exact hPc, va_K.moved hW.alike hKc, hDc.weaken (fun _ _ _ _ => trivial), trivial⟩⟩ rfl rfl hl.1 rfl (lv_room (Nat.le_of_ble_eq_true rfl)) dX12_file_5 ⟨(Nat.le_of_ble_eq_true rfl), (Nat.le_of_ble_eq_true rfl)⟩) hS (fun q h => hFc q h) hFc (fun v t H1 locs hH hvm hB hk1 hS => ?_)
  obtain ⟨hv, hP1, hK1, hD1⟩ := hB
  subst hv
  rw [hH] at hP1
  have hK1 := va_K.moved hvm.symm hK1
  obtain ⟨hP, hD⟩ := va_join (wr := [(h0, .inr (13, [.ref h2, .int 0, .ref h3, .ref h1, .ref h4]))]) (w1 := [(h1, .inr (1, [.int 0, .int 0, .int 0, .int 0, .int 0, .ref h5, .int 0, .ref h6, .int 0, .ref h7, .ref h8]))]) hP hD [1] [0] rfl rfl (by decide) (by decide) hk1 hFc hP1 hD1
  have hK := (hK.sub (tys' := []) [] rfl).app hK1
  generalize H1 = H at hP hS ⊢
  have hP : va_P (dC, dI) vwCl [(h0, .inr (13, [.ref h2, .int 0, .ref h3, .ref h1, .ref h4])), (h1, .inr (1, [.int 0, .int 0, .int 0, .int 0, .int 0, .ref h5, .int 0, .ref h6, .int 0, .ref h7, .ref h8]))] H := hP
  have hD : va_D A [(h0, .inr (13, [.ref h2, .int 0, .ref h3, .ref h1, .ref h4])), (h1, .inr (1, [.int 0, .int 0, .int 0, .int 0, .int 0, .ref h5, .int 0, .ref h6, .int 0, .ref h7, .ref h8]))] := hD
  have hK : va_K (dC, dI) vwCl [] s := hK
  refine W.widen (g := F0 m 8 ls [.null]) (k := 0) (n := 0) (Nat.le_of_ble_eq_true rfl) (Nat.le_of_ble_eq_true rfl) ?_
  refine lv_astore_nN (lv' := [(2, .null), (0, .ref h0), (1, .int x0)]) hx hb dX12_file_8 rfl hl (by decide) rfl (fun ls hl => ?_)
  refine lv_aload_nN hx hb dX12_file_9 rfl (lv_at hl 0 rfl) ?_
  refine lv_ifnonnullN hx hb dX12_file_10 ?_
  refine lv_iconst (v := (-1)) hx hb dX12_file_13 (by decide) ?_
  refine lv_goto (tgt := 21) hx hb dX12_file_14 (by decide) ?_
  refine W.widen (k := 0) (n := 0) (Nat.le_of_ble_eq_true rfl) (Nat.le_of_ble_eq_true rfl) ?_
  have hP9 := hP.sub (ws' := []) [] rfl
  have hD9 := hD.sub (ws' := []) [] (by decide) rfl
  have hK9 := hK.sub (tys' := []) [] rfl
  exact W.iret hx hb hr (fun t hH hW => ⟨⟨_, rfl, rfl, by rw [hH]; exact hP9, va_K.moved hW.alike hK9, hD9⟩, hS.F hH⟩) hS.2.2 dX12_file_21 hlocks
set_option maxHeartbeats 4000000 in
set_option maxRecDepth 100000 in
theorem c95_X13_ranked (l : Launch) (dC : Nat → ClassId) (dI : Nat → Nat → Nat) (sz : Nat) (h0 h1 h2 h3 h4 h5 h6 h7 h8 h9 h10 h11 h12 h13 h14 h15 h16 h17 h18 h19 h20 h21 h22 h23 h24 h25 h26 h27 h28 h29 h30 h31 h32 h33 h34 h35 h36 h37 : Nat) (x0 : Int32) : Met l yX13_ranked (.code yX13_ranked cX13_ranked 5 (some .int) :: wAll) ({ frames := 1, cells := 0, slots := 0, locals := 40 }) (pP (dC, dI) [.ref h0, .int x0] [(h0, .inr (14, [.ref h1, .int 0, .ref h2, .int 0, .ref h3, .int 0, .int 0, .ref h4, .int (-1), .int 0, .int 0, .ref h5, .int 0, .ref h6, .ref h7, .ref h8, .ref h9, .ref h10, .int 0, .ref h11, .int 0, .int 0, .ref h12, .ref h13, .ref h14, .ref h15, .int 0, .ref h16, .ref h17, .int 0, .ref h18, .ref h19, .ref h20, .ref h21, .int 0, .int 0, .int 0, .ref h22, .int 0, .int 0, .ref h23, .ref h24, .ref h25, .ref h26, .int 0, .int 0, .int 0, .int 0, .int 0, .int 0, .int 0, .int 0, .int 0, .int 0, .int 0, .int 0, .int (-1), .int 0, .ref h27, .int 0, .ref h28, .int 0, .int 0, .int 0, .int 0, .int 0, .ref h29, .ref h30, .int 0, .int 0, .ref h31, .ref h32, .ref h33, .ref h34, .long 0, .ref h35, .int 0, .int 0, .int 0, .int 0, .int 0, .int 0, .int 0, .ref h36, .ref h37, .int 0, .int 0, .int 0, .int 0]))] [] sz X0) (qQ (fun (v : Option Value) (t : State) => v = some (.int (-1)) ∧ va_P (dC, dI) vwCl [(h0, .inr (14, [.ref h1, .int 0, .ref h2, .int 0, .ref h3, .int 0, .int 0, .ref h4, .int (-1), .int 0, .int 0, .ref h5, .int 0, .ref h6, .ref h7, .ref h8, .ref h9, .ref h10, .int 0, .ref h11, .int 0, .int 0, .ref h12, .ref h13, .ref h14, .ref h15, .int 0, .ref h16, .ref h17, .int 0, .ref h18, .ref h19, .ref h20, .ref h21, .int 0, .int 0, .int 0, .ref h22, .int 0, .int 0, .ref h23, .ref h24, .ref h25, .ref h26, .int 0, .int 0, .int 0, .int 0, .int 0, .int 0, .int 0, .int 0, .int 0, .int 0, .int 0, .int 0, .int (-1), .int 0, .ref h27, .int 0, .ref h28, .int 0, .int 0, .int 0, .int 0, .int 0, .ref h29, .ref h30, .int 0, .int 0, .ref h31, .ref h32, .ref h33, .ref h34, .long 0, .ref h35, .int 0, .int 0, .int 0, .int 0, .int 0, .int 0, .int 0, .ref h36, .ref h37, .int 0, .int 0, .int 0, .int 0]))] t.heap ∧ va_K (dC, dI) vwCl [] t ∧ va_D (va_A [(h0, .inr (14, [.ref h1, .int 0, .ref h2, .int 0, .ref h3, .int 0, .int 0, .ref h4, .int (-1), .int 0, .int 0, .ref h5, .int 0, .ref h6, .ref h7, .ref h8, .ref h9, .ref h10, .int 0, .ref h11, .int 0, .int 0, .ref h12, .ref h13, .ref h14, .ref h15, .int 0, .ref h16, .ref h17, .int 0, .ref h18, .ref h19, .ref h20, .ref h21, .int 0, .int 0, .int 0, .ref h22, .int 0, .int 0, .ref h23, .ref h24, .ref h25, .ref h26, .int 0, .int 0, .int 0, .int 0, .int 0, .int 0, .int 0, .int 0, .int 0, .int 0, .int 0, .int 0, .int (-1), .int 0, .ref h27, .int 0, .ref h28, .int 0, .int 0, .int 0, .int 0, .int 0, .ref h29, .ref h30, .int 0, .int 0, .ref h31, .ref h32, .ref h33, .ref h34, .long 0, .ref h35, .int 0, .int 0, .int 0, .int 0, .int 0, .int 0, .int 0, .ref h36, .ref h37, .int 0, .int 0, .int 0, .int 0]))] sz) [(h0, .inr (14, [.ref h1, .int 0, .ref h2, .int 0, .ref h3, .int 0, .int 0, .ref h4, .int (-1), .int 0, .int 0, .ref h5, .int 0, .ref h6, .ref h7, .ref h8, .ref h9, .ref h10, .int 0, .ref h11, .int 0, .int 0, .ref h12, .ref h13, .ref h14, .ref h15, .int 0, .ref h16, .ref h17, .int 0, .ref h18, .ref h19, .ref h20, .ref h21, .int 0, .int 0, .int 0, .ref h22, .int 0, .int 0, .ref h23, .ref h24, .ref h25, .ref h26, .int 0, .int 0, .int 0, .int 0, .int 0, .int 0, .int 0, .int 0, .int 0, .int 0, .int 0, .int 0, .int (-1), .int 0, .ref h27, .int 0, .ref h28, .int 0, .int 0, .int 0, .int 0, .int 0, .ref h29, .ref h30, .int 0, .int 0, .ref h31, .ref h32, .ref h33, .ref h34, .long 0, .ref h35, .int 0, .int 0, .int 0, .int 0, .int 0, .int 0, .int 0, .ref h36, .ref h37, .int 0, .int 0, .int 0, .int 0]))]) (va_A [(h0, .inr (14, [.ref h1, .int 0, .ref h2, .int 0, .ref h3, .int 0, .int 0, .ref h4, .int (-1), .int 0, .int 0, .ref h5, .int 0, .ref h6, .ref h7, .ref h8, .ref h9, .ref h10, .int 0, .ref h11, .int 0, .int 0, .ref h12, .ref h13, .ref h14, .ref h15, .int 0, .ref h16, .ref h17, .int 0, .ref h18, .ref h19, .ref h20, .ref h21, .int 0, .int 0, .int 0, .ref h22, .int 0, .int 0, .ref h23, .ref h24, .ref h25, .ref h26, .int 0, .int 0, .int 0, .int 0, .int 0, .int 0, .int 0, .int 0, .int 0, .int 0, .int 0, .int 0, .int (-1), .int 0, .ref h27, .int 0, .ref h28, .int 0, .int 0, .int 0, .int 0, .int 0, .ref h29, .ref h30, .int 0, .int 0, .ref h31, .ref h32, .ref h33, .ref h34, .long 0, .ref h35, .int 0, .int 0, .int 0, .int 0, .int 0, .int 0, .int 0, .ref h36, .ref h37, .int 0, .int 0, .int 0, .int 0]))] sz)) 0 0 (va_A [(h0, .inr (14, [.ref h1, .int 0, .ref h2, .int 0, .ref h3, .int 0, .int 0, .ref h4, .int (-1), .int 0, .int 0, .ref h5, .int 0, .ref h6, .ref h7, .ref h8, .ref h9, .ref h10, .int 0, .ref h11, .int 0, .int 0, .ref h12, .ref h13, .ref h14, .ref h15, .int 0, .ref h16, .ref h17, .int 0, .ref h18, .ref h19, .ref h20, .ref h21, .int 0, .int 0, .int 0, .ref h22, .int 0, .int 0, .ref h23, .ref h24, .ref h25, .ref h26, .int 0, .int 0, .int 0, .int 0, .int 0, .int 0, .int 0, .int 0, .int 0, .int 0, .int 0, .int 0, .int (-1), .int 0, .ref h27, .int 0, .ref h28, .int 0, .int 0, .int 0, .int 0, .int 0, .ref h29, .ref h30, .int 0, .int 0, .ref h31, .ref h32, .ref h33, .ref h34, .long 0, .ref h35, .int 0, .int 0, .int 0, .int 0, .int 0, .int 0, .int 0, .ref h36, .ref h37, .int 0, .int 0, .int 0, .int 0]))] sz) := by
  refine mkMet (y := yX13_ranked) (bytes := cX13_ranked) (maxL := 5) (ret := (some .int)) (rm := { frames := 1, cells := 0, slots := 0, locals := 40 }) (by decide) (Nat.le_of_ble_eq_true rfl) ?_
  intro p e s m args below meth c ls hE hl
  obtain ⟨hx, hb, hml, hr, ht, hown, hlocks, hin, rfl, hP, hK, hD, hX, rfl⟩ := hE
  have hown : s.vm.findClass "CommandHouseModel" = some m.cls := hown
  have hA : ∀ q : Nat, s.heap.size ≤ q → va_A [(h0, .inr (14, [.ref h1, .int 0, .ref h2, .int 0, .ref h3, .int 0, .int 0, .ref h4, .int (-1), .int 0, .int 0, .ref h5, .int 0, .ref h6, .ref h7, .ref h8, .ref h9, .ref h10, .int 0, .ref h11, .int 0, .int 0, .ref h12, .ref h13, .ref h14, .ref h15, .int 0, .ref h16, .ref h17, .int 0, .ref h18, .ref h19, .ref h20, .ref h21, .int 0, .int 0, .int 0, .ref h22, .int 0, .int 0, .ref h23, .ref h24, .ref h25, .ref h26, .int 0, .int 0, .int 0, .int 0, .int 0, .int 0, .int 0, .int 0, .int 0, .int 0, .int 0, .int 0, .int (-1), .int 0, .ref h27, .int 0, .ref h28, .int 0, .int 0, .int 0, .int 0, .int 0, .ref h29, .ref h30, .int 0, .int 0, .ref h31, .ref h32, .ref h33, .ref h34, .long 0, .ref h35, .int 0, .int 0, .int 0, .int 0, .int 0, .int 0, .int 0, .ref h36, .ref h37, .int 0, .int 0, .int 0, .int 0]))] s.heap.size q := fun q h => Or.inr h
  generalize hAe : va_A [(h0, .inr (14, [.ref h1, .int 0, .ref h2, .int 0, .ref h3, .int 0, .int 0, .ref h4, .int (-1), .int 0, .int 0, .ref h5, .int 0, .ref h6, .ref h7, .ref h8, .ref h9, .ref h10, .int 0, .ref h11, .int 0, .int 0, .ref h12, .ref h13, .ref h14, .ref h15, .int 0, .ref h16, .ref h17, .int 0, .ref h18, .ref h19, .ref h20, .ref h21, .int 0, .int 0, .int 0, .ref h22, .int 0, .int 0, .ref h23, .ref h24, .ref h25, .ref h26, .int 0, .int 0, .int 0, .int 0, .int 0, .int 0, .int 0, .int 0, .int 0, .int 0, .int 0, .int 0, .int (-1), .int 0, .ref h27, .int 0, .ref h28, .int 0, .int 0, .int 0, .int 0, .int 0, .ref h29, .ref h30, .int 0, .int 0, .ref h31, .ref h32, .ref h33, .ref h34, .long 0, .ref h35, .int 0, .int 0, .int 0, .int 0, .int 0, .int 0, .int 0, .ref h36, .ref h37, .int 0, .int 0, .int 0, .int 0]))] s.heap.size = A at hD hX hA ⊢
  have hS : va_S A s.heap s.heap [] := va_S.rf
  have hl : lv_has ls 5 [(0, .ref h0), (1, .int x0)] := hl
  refine lv_iconst (v := 0) hx hb dX13_ranked_0 (by decide) ?_
  refine lv_istore_n (lv' := [(2, .int 0), (0, .ref h0), (1, .int x0)]) hx hb dX13_ranked_1 rfl hl (by decide) rfl (fun ls hl => ?_)
  refine lv_iload_n hx hb dX13_ranked_2 rfl (lv_at hl 0 rfl) ?_
  refine lv_aload_n hx hb dX13_ranked_3 rfl (lv_at hl 1 rfl) ?_
  refine va_get (D := (dC, dI)) (ci := 14) (v := .int 0) (C := RX13) (T := TX13) (N := 89) hx hb ht inX13 hown hK hP 0 rfl rfl 39 (by decide) (ht _ mW1922) (fun _ h9 => h9) rfl dX13_ranked_4 ?_
  refine lv_icmp_ge (tgt := 61) hx hb dX13_ranked_7 (by decide) (fun _ => ?_) (fun c => absurd (by decide) c)
  refine lv_iconst (v := (-1)) hx hb dX13_ranked_61 (by decide) ?_
  refine W.widen (k := 0) (n := 0) (Nat.le_of_ble_eq_true rfl) (Nat.le_of_ble_eq_true rfl) ?_
  have hP9 := hP.sub (ws' := [(h0, .inr (14, [.ref h1, .int 0, .ref h2, .int 0, .ref h3, .int 0, .int 0, .ref h4, .int (-1), .int 0, .int 0, .ref h5, .int 0, .ref h6, .ref h7, .ref h8, .ref h9, .ref h10, .int 0, .ref h11, .int 0, .int 0, .ref h12, .ref h13, .ref h14, .ref h15, .int 0, .ref h16, .ref h17, .int 0, .ref h18, .ref h19, .ref h20, .ref h21, .int 0, .int 0, .int 0, .ref h22, .int 0, .int 0, .ref h23, .ref h24, .ref h25, .ref h26, .int 0, .int 0, .int 0, .int 0, .int 0, .int 0, .int 0, .int 0, .int 0, .int 0, .int 0, .int 0, .int (-1), .int 0, .ref h27, .int 0, .ref h28, .int 0, .int 0, .int 0, .int 0, .int 0, .ref h29, .ref h30, .int 0, .int 0, .ref h31, .ref h32, .ref h33, .ref h34, .long 0, .ref h35, .int 0, .int 0, .int 0, .int 0, .int 0, .int 0, .int 0, .ref h36, .ref h37, .int 0, .int 0, .int 0, .int 0]))]) [0] rfl
  have hD9 := hD.sub (ws' := [(h0, .inr (14, [.ref h1, .int 0, .ref h2, .int 0, .ref h3, .int 0, .int 0, .ref h4, .int (-1), .int 0, .int 0, .ref h5, .int 0, .ref h6, .ref h7, .ref h8, .ref h9, .ref h10, .int 0, .ref h11, .int 0, .int 0, .ref h12, .ref h13, .ref h14, .ref h15, .int 0, .ref h16, .ref h17, .int 0, .ref h18, .ref h19, .ref h20, .ref h21, .int 0, .int 0, .int 0, .ref h22, .int 0, .int 0, .ref h23, .ref h24, .ref h25, .ref h26, .int 0, .int 0, .int 0, .int 0, .int 0, .int 0, .int 0, .int 0, .int 0, .int 0, .int 0, .int 0, .int (-1), .int 0, .ref h27, .int 0, .ref h28, .int 0, .int 0, .int 0, .int 0, .int 0, .ref h29, .ref h30, .int 0, .int 0, .ref h31, .ref h32, .ref h33, .ref h34, .long 0, .ref h35, .int 0, .int 0, .int 0, .int 0, .int 0, .int 0, .int 0, .ref h36, .ref h37, .int 0, .int 0, .int 0, .int 0]))]) [0] (by decide) rfl
  have hK9 := hK.sub (tys' := []) [] rfl
  exact W.iret hx hb hr (fun t hH hW => ⟨⟨_, rfl, rfl, by rw [hH]; exact hP9, va_K.moved hW.alike hK9, hD9⟩, hS.F hH⟩) hS.2.2 dX13_ranked_62 hlocks

set_option maxHeartbeats 4000000 in
set_option maxRecDepth 100000 in
theorem c36_X13_input (l : Launch) (dC : Nat → ClassId) (dI : Nat → Nat → Nat) (sz : Nat) (h0 h1 h2 h3 h4 h5 h6 h7 h8 h9 h10 h11 h12 h13 h14 h15 h16 h17 h18 h19 h20 h21 h22 h23 h24 h25 h26 h27 h28 h29 h30 h31 h32 h33 h34 h35 h36 h37 : Nat) : Met l yX13_input (.code yX13_input cX13_input 2 (some .int) :: wAll) ({ frames := 1, cells := 0, slots := 0, locals := 40 }) (pP (dC, dI) [.ref h0] [(h0, .inr (14, [.ref h1, .int 0, .ref h2, .int 0, .ref h3, .int 0, .int 0, .ref h4, .int (-1), .int 0, .int 0, .ref h5, .int 0, .ref h6, .ref h7, .ref h8, .ref h9, .ref h10, .int 0, .ref h11, .int 0, .int 0, .ref h12, .ref h13, .ref h14, .ref h15, .int 0, .ref h16, .ref h17, .int 0, .ref h18, .ref h19, .ref h20, .ref h21, .int 0, .int 0, .int 0, .ref h22, .int 0, .int 0, .ref h23, .ref h24, .ref h25, .ref h26, .int 0, .int 0, .int 0, .int 0, .int 0, .int 0, .int 0, .int 0, .int 0, .int 0, .int 0, .int 0, .int (-1), .int 0, .ref h27, .int 0, .ref h28, .int 0, .int 0, .int 0, .int 0, .int 0, .ref h29, .ref h30, .int 0, .int 0, .ref h31, .ref h32, .ref h33, .ref h34, .long 0, .ref h35, .int 0, .int 0, .int 0, .int 0, .int 0, .int 0, .int 0, .ref h36, .ref h37, .int 0, .int 0, .int 0, .int 0]))] [] sz X0) (qQ (fun (v : Option Value) (t : State) => v = some (.int 0) ∧ va_P (dC, dI) vwCl [] t.heap ∧ va_K (dC, dI) vwCl [] t ∧ va_D (va_A [(h0, .inr (14, [.ref h1, .int 0, .ref h2, .int 0, .ref h3, .int 0, .int 0, .ref h4, .int (-1), .int 0, .int 0, .ref h5, .int 0, .ref h6, .ref h7, .ref h8, .ref h9, .ref h10, .int 0, .ref h11, .int 0, .int 0, .ref h12, .ref h13, .ref h14, .ref h15, .int 0, .ref h16, .ref h17, .int 0, .ref h18, .ref h19, .ref h20, .ref h21, .int 0, .int 0, .int 0, .ref h22, .int 0, .int 0, .ref h23, .ref h24, .ref h25, .ref h26, .int 0, .int 0, .int 0, .int 0, .int 0, .int 0, .int 0, .int 0, .int 0, .int 0, .int 0, .int 0, .int (-1), .int 0, .ref h27, .int 0, .ref h28, .int 0, .int 0, .int 0, .int 0, .int 0, .ref h29, .ref h30, .int 0, .int 0, .ref h31, .ref h32, .ref h33, .ref h34, .long 0, .ref h35, .int 0, .int 0, .int 0, .int 0, .int 0, .int 0, .int 0, .ref h36, .ref h37, .int 0, .int 0, .int 0, .int 0]))] sz) []) (va_A [(h0, .inr (14, [.ref h1, .int 0, .ref h2, .int 0, .ref h3, .int 0, .int 0, .ref h4, .int (-1), .int 0, .int 0, .ref h5, .int 0, .ref h6, .ref h7, .ref h8, .ref h9, .ref h10, .int 0, .ref h11, .int 0, .int 0, .ref h12, .ref h13, .ref h14, .ref h15, .int 0, .ref h16, .ref h17, .int 0, .ref h18, .ref h19, .ref h20, .ref h21, .int 0, .int 0, .int 0, .ref h22, .int 0, .int 0, .ref h23, .ref h24, .ref h25, .ref h26, .int 0, .int 0, .int 0, .int 0, .int 0, .int 0, .int 0, .int 0, .int 0, .int 0, .int 0, .int 0, .int (-1), .int 0, .ref h27, .int 0, .ref h28, .int 0, .int 0, .int 0, .int 0, .int 0, .ref h29, .ref h30, .int 0, .int 0, .ref h31, .ref h32, .ref h33, .ref h34, .long 0, .ref h35, .int 0, .int 0, .int 0, .int 0, .int 0, .int 0, .int 0, .ref h36, .ref h37, .int 0, .int 0, .int 0, .int 0]))] sz)) 0 0 (va_A [(h0, .inr (14, [.ref h1, .int 0, .ref h2, .int 0, .ref h3, .int 0, .int 0, .ref h4, .int (-1), .int 0, .int 0, .ref h5, .int 0, .ref h6, .ref h7, .ref h8, .ref h9, .ref h10, .int 0, .ref h11, .int 0, .int 0, .ref h12, .ref h13, .ref h14, .ref h15, .int 0, .ref h16, .ref h17, .int 0, .ref h18, .ref h19, .ref h20, .ref h21, .int 0, .int 0, .int 0, .ref h22, .int 0, .int 0, .ref h23, .ref h24, .ref h25, .ref h26, .int 0, .int 0, .int 0, .int 0, .int 0, .int 0, .int 0, .int 0, .int 0, .int 0, .int 0, .int 0, .int (-1), .int 0, .ref h27, .int 0, .ref h28, .int 0, .int 0, .int 0, .int 0, .int 0, .ref h29, .ref h30, .int 0, .int 0, .ref h31, .ref h32, .ref h33, .ref h34, .long 0, .ref h35, .int 0, .int 0, .int 0, .int 0, .int 0, .int 0, .int 0, .ref h36, .ref h37, .int 0, .int 0, .int 0, .int 0]))] sz) := by
  refine mkMet (y := yX13_input) (bytes := cX13_input) (maxL := 2) (ret := (some .int)) (rm := { frames := 1, cells := 0, slots := 0, locals := 40 }) (by decide) (Nat.le_of_ble_eq_true rfl) ?_
  intro p e s m args below meth c ls hE hl
  obtain ⟨hx, hb, hml, hr, ht, hown, hlocks, hin, rfl, hP, hK, hD, hX, rfl⟩ := hE
  have hown : s.vm.findClass "CommandHouseModel" = some m.cls := hown
  have hA : ∀ q : Nat, s.heap.size ≤ q → va_A [(h0, .inr (14, [.ref h1, .int 0, .ref h2, .int 0, .ref h3, .int 0, .int 0, .ref h4, .int (-1), .int 0, .int 0, .ref h5, .int 0, .ref h6, .ref h7, .ref h8, .ref h9, .ref h10, .int 0, .ref h11, .int 0, .int 0, .ref h12, .ref h13, .ref h14, .ref h15, .int 0, .ref h16, .ref h17, .int 0, .ref h18, .ref h19, .ref h20, .ref h21, .int 0, .int 0, .int 0, .ref h22, .int 0, .int 0, .ref h23, .ref h24, .ref h25, .ref h26, .int 0, .int 0, .int 0, .int 0, .int 0, .int 0, .int 0, .int 0, .int 0, .int 0, .int 0, .int 0, .int (-1), .int 0, .ref h27, .int 0, .ref h28, .int 0, .int 0, .int 0, .int 0, .int 0, .ref h29, .ref h30, .int 0, .int 0, .ref h31, .ref h32, .ref h33, .ref h34, .long 0, .ref h35, .int 0, .int 0, .int 0, .int 0, .int 0, .int 0, .int 0, .ref h36, .ref h37, .int 0, .int 0, .int 0, .int 0]))] s.heap.size q := fun q h => Or.inr h
  generalize hAe : va_A [(h0, .inr (14, [.ref h1, .int 0, .ref h2, .int 0, .ref h3, .int 0, .int 0, .ref h4, .int (-1), .int 0, .int 0, .ref h5, .int 0, .ref h6, .ref h7, .ref h8, .ref h9, .ref h10, .int 0, .ref h11, .int 0, .int 0, .ref h12, .ref h13, .ref h14, .ref h15, .int 0, .ref h16, .ref h17, .int 0, .ref h18, .ref h19, .ref h20, .ref h21, .int 0, .int 0, .int 0, .ref h22, .int 0, .int 0, .ref h23, .ref h24, .ref h25, .ref h26, .int 0, .int 0, .int 0, .int 0, .int 0, .int 0, .int 0, .int 0, .int 0, .int 0, .int 0, .int 0, .int (-1), .int 0, .ref h27, .int 0, .ref h28, .int 0, .int 0, .int 0, .int 0, .int 0, .ref h29, .ref h30, .int 0, .int 0, .ref h31, .ref h32, .ref h33, .ref h34, .long 0, .ref h35, .int 0, .int 0, .int 0, .int 0, .int 0, .int 0, .int 0, .ref h36, .ref h37, .int 0, .int 0, .int 0, .int 0]))] s.heap.size = A at hD hX hA ⊢
  have hS : va_S A s.heap s.heap [] := va_S.rf
  have hl : lv_has ls 2 [(0, .ref h0)] := hl
  refine lv_aload_n hx hb dX13_input_0 rfl (lv_at hl 0 rfl) ?_
  refine lv_aload_n hx hb dX13_input_1 rfl (lv_at hl 0 rfl) ?_
  refine va_get (D := (dC, dI)) (ci := 14) (v := .int 0) (C := RX13) (T := TX13) (N := 89) hx hb ht inX13 hown hK hP 0 rfl rfl 1 (by decide) (ht _ mW1884) (fun _ h9 => h9) rfl dX13_input_2 ?_
  refine va_put (D := (dC, dI)) (ci := 14) (v := .int 0) (ty := .int) (C := RX13) (T := TX13) (N := 89) hx hb ht inX13 tyX13 tyX13_ok nmX13 hown hK hP hD hS 0 rfl rfl 3 (by decide) (ht _ mW1886) (fun _ h9 => h9) rfl (by decide +kernel) rfl rfl (Nat.le_of_ble_eq_true rfl) dX13_input_5 (fun H locs hP hD hS => ?_)
  have hP : va_P (dC, dI) vwCl [(h0, .inr (14, [.ref h1, .int 0, .ref h2, .int 0, .ref h3, .int 0, .int 0, .ref h4, .int (-1), .int 0, .int 0, .ref h5, .int 0, .ref h6, .ref h7, .ref h8, .ref h9, .ref h10, .int 0, .ref h11, .int 0, .int 0, .ref h12, .ref h13, .ref h14, .ref h15, .int 0, .ref h16, .ref h17, .int 0, .ref h18, .ref h19, .ref h20, .ref h21, .int 0, .int 0, .int 0, .ref h22, .int 0, .int 0, .ref h23, .ref h24, .ref h25, .ref h26, .int 0, .int 0, .int 0, .int 0, .int 0, .int 0, .int 0, .int 0, .int 0, .int 0, .int 0, .int 0, .int (-1), .int 0, .ref h27, .int 0, .ref h28, .int 0, .int 0, .int 0, .int 0, .int 0, .ref h29, .ref h30, .int 0, .int 0, .ref h31, .ref h32, .ref h33, .ref h34, .long 0, .ref h35, .int 0, .int 0, .int 0, .int 0, .int 0, .int 0, .int 0, .ref h36, .ref h37, .int 0, .int 0, .int 0, .int 0]))] H := hP
  have hD : va_D A [(h0, .inr (14, [.ref h1, .int 0, .ref h2, .int 0, .ref h3, .int 0, .int 0, .ref h4, .int (-1), .int 0, .int 0, .ref h5, .int 0, .ref h6, .ref h7, .ref h8, .ref h9, .ref h10, .int 0, .ref h11, .int 0, .int 0, .ref h12, .ref h13, .ref h14, .ref h15, .int 0, .ref h16, .ref h17, .int 0, .ref h18, .ref h19, .ref h20, .ref h21, .int 0, .int 0, .int 0, .ref h22, .int 0, .int 0, .ref h23, .ref h24, .ref h25, .ref h26, .int 0, .int 0, .int 0, .int 0, .int 0, .int 0, .int 0, .int 0, .int 0, .int 0, .int 0, .int 0, .int (-1), .int 0, .ref h27, .int 0, .ref h28, .int 0, .int 0, .int 0, .int 0, .int 0, .ref h29, .ref h30, .int 0, .int 0, .ref h31, .ref h32, .ref h33, .ref h34, .long 0, .ref h35, .int 0, .int 0, .int 0, .int 0, .int 0, .int 0, .int 0, .ref h36, .ref h37, .int 0, .int 0, .int 0, .int 0]))] := hD
  refine lv_aload_n hx hb dX13_input_8 rfl (lv_at hl 0 rfl) ?_
  refine lv_iconst (v := 0) hx hb dX13_input_9 (by decide) ?_
  refine va_put (D := (dC, dI)) (ci := 14) (v := .int 0) (ty := .int) (C := RX13) (T := TX13) (N := 89) hx hb ht inX13 tyX13 tyX13_ok nmX13 hown hK hP hD hS 0 rfl rfl 1 (by decide) (ht _ mW1884) (fun _ h9 => h9) rfl (by decide +kernel) rfl rfl (Nat.le_of_ble_eq_true rfl) dX13_input_10 (fun H locs hP hD hS => ?_)
  have hP : va_P (dC, dI) vwCl [(h0, .inr (14, [.ref h1, .int 0, .ref h2, .int 0, .ref h3, .int 0, .int 0, .ref h4, .int (-1), .int 0, .int 0, .ref h5, .int 0, .ref h6, .ref h7, .ref h8, .ref h9, .ref h10, .int 0, .ref h11, .int 0, .int 0, .ref h12, .ref h13, .ref h14, .ref h15, .int 0, .ref h16, .ref h17, .int 0, .ref h18, .ref h19, .ref h20, .ref h21, .int 0, .int 0, .int 0, .ref h22, .int 0, .int 0, .ref h23, .ref h24, .ref h25, .ref h26, .int 0, .int 0, .int 0, .int 0, .int 0, .int 0, .int 0, .int 0, .int 0, .int 0, .int 0, .int 0, .int (-1), .int 0, .ref h27, .int 0, .ref h28, .int 0, .int 0, .int 0, .int 0, .int 0, .ref h29, .ref h30, .int 0, .int 0, .ref h31, .ref h32, .ref h33, .ref h34, .long 0, .ref h35, .int 0, .int 0, .int 0, .int 0, .int 0, .int 0, .int 0, .ref h36, .ref h37, .int 0, .int 0, .int 0, .int 0]))] H := hP
  have hD : va_D A [(h0, .inr (14, [.ref h1, .int 0, .ref h2, .int 0, .ref h3, .int 0, .int 0, .ref h4, .int (-1), .int 0, .int 0, .ref h5, .int 0, .ref h6, .ref h7, .ref h8, .ref h9, .ref h10, .int 0, .ref h11, .int 0, .int 0, .ref h12, .ref h13, .ref h14, .ref h15, .int 0, .ref h16, .ref h17, .int 0, .ref h18, .ref h19, .ref h20, .ref h21, .int 0, .int 0, .int 0, .ref h22, .int 0, .int 0, .ref h23, .ref h24, .ref h25, .ref h26, .int 0, .int 0, .int 0, .int 0, .int 0, .int 0, .int 0, .int 0, .int 0, .int 0, .int 0, .int 0, .int (-1), .int 0, .ref h27, .int 0, .ref h28, .int 0, .int 0, .int 0, .int 0, .int 0, .ref h29, .ref h30, .int 0, .int 0, .ref h31, .ref h32, .ref h33, .ref h34, .long 0, .ref h35, .int 0, .int 0, .int 0, .int 0, .int 0, .int 0, .int 0, .ref h36, .ref h37, .int 0, .int 0, .int 0, .int 0]))] := hD
  refine lv_iconst (v := 0) hx hb dX13_input_13 (by decide) ?_
  refine lv_istore_n (lv' := [(1, .int 0), (0, .ref h0)]) hx hb dX13_input_14 rfl hl (by decide) rfl (fun ls hl => ?_)
  refine lv_iload_n hx hb dX13_input_15 rfl (lv_at hl 0 rfl) ?_
  refine lv_aload_n hx hb dX13_input_16 rfl (lv_at hl 1 rfl) ?_
  refine va_get (D := (dC, dI)) (ci := 14) (v := .int 0) (C := RX13) (T := TX13) (N := 89) hx hb ht inX13 hown hK hP 0 rfl rfl 3 (by decide) (ht _ mW1886) (fun _ h9 => h9) rfl dX13_input_17 ?_
  refine lv_icmp_ge (tgt := 41) hx hb dX13_input_20 (by decide) (fun _ => ?_) (fun c => absurd (by decide) c)
  refine lv_aload_n hx hb dX13_input_41 rfl (lv_at hl 1 rfl) ?_
  refine va_get (D := (dC, dI)) (ci := 14) (v := .int 0) (C := RX13) (T := TX13) (N := 89) hx hb ht inX13 hown hK hP 0 rfl rfl 3 (by decide) (ht _ mW1886) (fun _ h9 => h9) rfl dX13_input_42 ?_
  refine W.widen (k := 0) (n := 0) (Nat.le_of_ble_eq_true rfl) (Nat.le_of_ble_eq_true rfl) ?_
  have hP9 := hP.sub (ws' := []) [] rfl
  have hD9 := hD.sub (ws' := []) [] (by decide) rfl
  have hK9 := hK.sub (tys' := []) [] rfl
  exact W.iret hx hb hr (fun t hH hW => ⟨⟨_, rfl, rfl, by rw [hH]; exact hP9, va_K.moved hW.alike hK9, hD9⟩, hS.F hH⟩) hS.2.2 dX13_input_45 hlocks
set_option maxHeartbeats 4000000 in
set_option maxRecDepth 100000 in
theorem c37_X0_begin (l : Launch) (dC : Nat → ClassId) (dI : Nat → Nat → Nat) (sz : Nat) (h0 h1 h2 h3 h4 h5 : Nat) : Met l yX0_begin (.code yX0_begin cX0_begin 1 none :: wAll) ({ frames := 1, cells := 0, slots := 0, locals := 40 }) (pP (dC, dI) [.ref h0] [(h0, .inr (1, [.int 0, .int 0, .int 0, .int 0, .int 0, .ref h2, .int 0, .ref h3, .int 0, .ref h1, .ref h4])), (h1, .inr (4, [.ref h5, .int 0, .int 4000, .null]))] [] sz X0) (qQ (fun (v : Option Value) (t : State) => v = none ∧ va_P (dC, dI) vwCl [(h0, .inr (1, [.int 0, .int 0, .int 0, .int 0, .int (-1), .ref h2, .int 0, .ref h3, .int 0, .ref h1, .ref h4])), (h1, .inr (4, [.ref h5, .int 0, .int 4000, .null]))] t.heap ∧ va_K (dC, dI) vwCl [] t ∧ va_D (va_A [(h0, .inr (1, [.int 0, .int 0, .int 0, .int 0, .int 0, .ref h2, .int 0, .ref h3, .int 0, .ref h1, .ref h4])), (h1, .inr (4, [.ref h5, .int 0, .int 4000, .null]))] sz) [(h0, .inr (1, [.int 0, .int 0, .int 0, .int 0, .int (-1), .ref h2, .int 0, .ref h3, .int 0, .ref h1, .ref h4])), (h1, .inr (4, [.ref h5, .int 0, .int 4000, .null]))]) (va_A [(h0, .inr (1, [.int 0, .int 0, .int 0, .int 0, .int 0, .ref h2, .int 0, .ref h3, .int 0, .ref h1, .ref h4])), (h1, .inr (4, [.ref h5, .int 0, .int 4000, .null]))] sz)) 0 0 (va_A [(h0, .inr (1, [.int 0, .int 0, .int 0, .int 0, .int 0, .ref h2, .int 0, .ref h3, .int 0, .ref h1, .ref h4])), (h1, .inr (4, [.ref h5, .int 0, .int 4000, .null]))] sz) := by
  refine mkMet (y := yX0_begin) (bytes := cX0_begin) (maxL := 1) (ret := none) (rm := { frames := 1, cells := 0, slots := 0, locals := 40 }) (by decide) (Nat.le_of_ble_eq_true rfl) ?_
  intro p e s m args below meth c ls hE hl
  obtain ⟨hx, hb, hml, hr, ht, hown, hlocks, hin, rfl, hP, hK, hD, hX, rfl⟩ := hE
  have hown : s.vm.findClass "CommandHouse$Book" = some m.cls := hown
  have hA : ∀ q : Nat, s.heap.size ≤ q → va_A [(h0, .inr (1, [.int 0, .int 0, .int 0, .int 0, .int 0, .ref h2, .int 0, .ref h3, .int 0, .ref h1, .ref h4])), (h1, .inr (4, [.ref h5, .int 0, .int 4000, .null]))] s.heap.size q := fun q h => Or.inr h
  generalize hAe : va_A [(h0, .inr (1, [.int 0, .int 0, .int 0, .int 0, .int 0, .ref h2, .int 0, .ref h3, .int 0, .ref h1, .ref h4])), (h1, .inr (4, [.ref h5, .int 0, .int 4000, .null]))] s.heap.size = A at hD hX hA ⊢
  have hS : va_S A s.heap s.heap [] := va_S.rf
  have hl : lv_has ls 1 [(0, .ref h0)] := hl
  refine lv_aload_n hx hb dX0_begin_0 rfl (lv_at hl 0 rfl) ?_
  refine lv_iconst (v := 0) hx hb dX0_begin_1 (by decide) ?_
  refine va_put (D := (dC, dI)) (ci := 1) (v := .int 0) (ty := .int) (C := RX0) (T := TX0) (N := 11) hx hb ht inX0 tyX0 tyX0_ok nmX0 hown hK hP hD hS 0 rfl rfl 1 (by decide) (ht _ mW99) (fun _ h9 => h9) rfl (by decide +kernel) rfl rfl (Nat.le_of_ble_eq_true rfl) dX0_begin_2 (fun H locs hP hD hS => ?_)
  have hP : va_P (dC, dI) vwCl [(h0, .inr (1, [.int 0, .int 0, .int 0, .int 0, .int 0, .ref h2, .int 0, .ref h3, .int 0, .ref h1, .ref h4])), (h1, .inr (4, [.ref h5, .int 0, .int 4000, .null]))] H := hP
  have hD : va_D A [(h0, .inr (1, [.int 0, .int 0, .int 0, .int 0, .int 0, .ref h2, .int 0, .ref h3, .int 0, .ref h1, .ref h4])), (h1, .inr (4, [.ref h5, .int 0, .int 4000, .null]))] := hD
  refine lv_aload_n hx hb dX0_begin_5 rfl (lv_at hl 0 rfl) ?_
  refine lv_iconst (v := 0) hx hb dX0_begin_6 (by decide) ?_
  refine va_put (D := (dC, dI)) (ci := 1) (v := .int 0) (ty := .int) (C := RX0) (T := TX0) (N := 11) hx hb ht inX0 tyX0 tyX0_ok nmX0 hown hK hP hD hS 0 rfl rfl 2 (by decide) (ht _ mW102) (fun _ h9 => h9) rfl (by decide +kernel) rfl rfl (Nat.le_of_ble_eq_true rfl) dX0_begin_7 (fun H locs hP hD hS => ?_)
  have hP : va_P (dC, dI) vwCl [(h0, .inr (1, [.int 0, .int 0, .int 0, .int 0, .int 0, .ref h2, .int 0, .ref h3, .int 0, .ref h1, .ref h4])), (h1, .inr (4, [.ref h5, .int 0, .int 4000, .null]))] H := hP
  have hD : va_D A [(h0, .inr (1, [.int 0, .int 0, .int 0, .int 0, .int 0, .ref h2, .int 0, .ref h3, .int 0, .ref h1, .ref h4])), (h1, .inr (4, [.ref h5, .int 0, .int 4000, .null]))] := hD
  refine lv_aload_n hx hb dX0_begin_10 rfl (lv_at hl 0 rfl) ?_
  refine lv_iconst (v := 0) hx hb dX0_begin_11 (by decide) ?_
  refine va_put (D := (dC, dI)) (ci := 1) (v := .int 0) (ty := .int) (C := RX0) (T := TX0) (N := 11) hx hb ht inX0 tyX0 tyX0_ok nmX0 hown hK hP hD hS 0 rfl rfl 3 (by decide) (ht _ mW104) (fun _ h9 => h9) rfl (by decide +kernel) rfl rfl (Nat.le_of_ble_eq_true rfl) dX0_begin_12 (fun H locs hP hD hS => ?_)
  have hP : va_P (dC, dI) vwCl [(h0, .inr (1, [.int 0, .int 0, .int 0, .int 0, .int 0, .ref h2, .int 0, .ref h3, .int 0, .ref h1, .ref h4])), (h1, .inr (4, [.ref h5, .int 0, .int 4000, .null]))] H := hP
  have hD : va_D A [(h0, .inr (1, [.int 0, .int 0, .int 0, .int 0, .int 0, .ref h2, .int 0, .ref h3, .int 0, .ref h1, .ref h4])), (h1, .inr (4, [.ref h5, .int 0, .int 4000, .null]))] := hD
  refine lv_aload_n hx hb dX0_begin_15 rfl (lv_at hl 0 rfl) ?_
  refine lv_iconst (v := (-1)) hx hb dX0_begin_16 (by decide) ?_
  refine va_put (D := (dC, dI)) (ci := 1) (v := .int (-1)) (ty := .int) (C := RX0) (T := TX0) (N := 11) hx hb ht inX0 tyX0 tyX0_ok nmX0 hown hK hP hD hS 0 rfl rfl 4 (by decide) (ht _ mW107) (fun _ h9 => h9) rfl (by decide +kernel) rfl rfl (Nat.le_of_ble_eq_true rfl) dX0_begin_17 (fun H locs hP hD hS => ?_)
  have hP : va_P (dC, dI) vwCl [(h0, .inr (1, [.int 0, .int 0, .int 0, .int 0, .int (-1), .ref h2, .int 0, .ref h3, .int 0, .ref h1, .ref h4])), (h1, .inr (4, [.ref h5, .int 0, .int 4000, .null]))] H := hP
  have hD : va_D A [(h0, .inr (1, [.int 0, .int 0, .int 0, .int 0, .int (-1), .ref h2, .int 0, .ref h3, .int 0, .ref h1, .ref h4])), (h1, .inr (4, [.ref h5, .int 0, .int 4000, .null]))] := hD
  refine lv_aload_n hx hb dX0_begin_20 rfl (lv_at hl 0 rfl) ?_
  refine lv_iconst (v := 0) hx hb dX0_begin_21 (by decide) ?_
  refine va_put (D := (dC, dI)) (ci := 1) (v := .int 0) (ty := .int) (C := RX0) (T := TX0) (N := 11) hx hb ht inX0 tyX0 tyX0_ok nmX0 hown hK hP hD hS 0 rfl rfl 6 (by decide) (ht _ mW111) (fun _ h9 => h9) rfl (by decide +kernel) rfl rfl (Nat.le_of_ble_eq_true rfl) dX0_begin_22 (fun H locs hP hD hS => ?_)
  have hP : va_P (dC, dI) vwCl [(h0, .inr (1, [.int 0, .int 0, .int 0, .int 0, .int (-1), .ref h2, .int 0, .ref h3, .int 0, .ref h1, .ref h4])), (h1, .inr (4, [.ref h5, .int 0, .int 4000, .null]))] H := hP
  have hD : va_D A [(h0, .inr (1, [.int 0, .int 0, .int 0, .int 0, .int (-1), .ref h2, .int 0, .ref h3, .int 0, .ref h1, .ref h4])), (h1, .inr (4, [.ref h5, .int 0, .int 4000, .null]))] := hD
  refine lv_aload_n hx hb dX0_begin_25 rfl (lv_at hl 0 rfl) ?_
  refine va_get (D := (dC, dI)) (ci := 1) (v := .ref h1) (C := RX0) (T := TX0) (N := 11) hx hb ht inX0 hown hK hP 0 rfl rfl 9 (by decide) (ht _ mW117) (fun _ h9 => h9) rfl dX0_begin_26 ?_
  refine lv_iconst (v := 0) hx hb dX0_begin_29 (by decide) ?_
  refine va_putN (D := (dC, dI)) (ci := 4) (v := .int 0) (ty := .int) (C := RX3) (T := TX3) (N := 4) hx hb ht inX3 tyX3 tyX3_ok nmX3 hown hK hP hD hS 1 rfl rfl 1 (by decide) (ht _ mW59) (fun _ h9 => h9) rfl (by decide +kernel) rfl rfl (Nat.le_of_ble_eq_true rfl) dX0_begin_30 (fun H locs hP hD hS => ?_)
  have hP : va_P (dC, dI) vwCl [(h0, .inr (1, [.int 0, .int 0, .int 0, .int 0, .int (-1), .ref h2, .int 0, .ref h3, .int 0, .ref h1, .ref h4])), (h1, .inr (4, [.ref h5, .int 0, .int 4000, .null]))] H := hP
  have hD : va_D A [(h0, .inr (1, [.int 0, .int 0, .int 0, .int 0, .int (-1), .ref h2, .int 0, .ref h3, .int 0, .ref h1, .ref h4])), (h1, .inr (4, [.ref h5, .int 0, .int 4000, .null]))] := hD
  refine W.widen (k := 0) (n := 0) (Nat.le_of_ble_eq_true rfl) (Nat.le_of_ble_eq_true rfl) ?_
  have hP9 := hP.sub (ws' := [(h0, .inr (1, [.int 0, .int 0, .int 0, .int 0, .int (-1), .ref h2, .int 0, .ref h3, .int 0, .ref h1, .ref h4])), (h1, .inr (4, [.ref h5, .int 0, .int 4000, .null]))]) [0, 1] rfl
  have hD9 := hD.sub (ws' := [(h0, .inr (1, [.int 0, .int 0, .int 0, .int 0, .int (-1), .ref h2, .int 0, .ref h3, .int 0, .ref h1, .ref h4])), (h1, .inr (4, [.ref h5, .int 0, .int 4000, .null]))]) [0, 1] (by decide) rfl
  have hK9 := hK.sub (tys' := []) [] rfl
  exact W.vret hx hb hr (fun t hH hW => ⟨⟨_, rfl, rfl, by rw [hH]; exact hP9, va_K.moved hW.alike hK9, hD9⟩, hS.F hH⟩) hS.2.2 dX0_begin_33 hlocks
set_option maxHeartbeats 4000000 in
set_option maxRecDepth 100000 in
theorem c38_X11_begin (l : Launch) (dC : Nat → ClassId) (dI : Nat → Nat → Nat) (sz : Nat) (h0 h1 h2 h3 h4 h5 h6 h7 h8 : Nat) : Met l yX11_begin (.code yX11_begin cX11_begin 1 none :: wAll) ({ frames := 1, cells := 0, slots := 0, locals := 40 }) (pP (dC, dI) [.ref h0] [(h0, .inr (12, [.ref h1, .ref h2, .ref h3, .ref h4, .ref h5, .int 0, .ref h6, .ref h7, .ref h8]))] [] sz X0) (qQ (fun (v : Option Value) (t : State) => v = none ∧ va_P (dC, dI) vwCl [(h0, .inr (12, [.ref h1, .ref h2, .ref h3, .ref h4, .ref h5, .int 0, .ref h6, .ref h7, .ref h8]))] t.heap ∧ va_K (dC, dI) vwCl [] t ∧ va_D (va_A [(h0, .inr (12, [.ref h1, .ref h2, .ref h3, .ref h4, .ref h5, .int 0, .ref h6, .ref h7, .ref h8]))] sz) [(h0, .inr (12, [.ref h1, .ref h2, .ref h3, .ref h4, .ref h5, .int 0, .ref h6, .ref h7, .ref h8]))]) (va_A [(h0, .inr (12, [.ref h1, .ref h2, .ref h3, .ref h4, .ref h5, .int 0, .ref h6, .ref h7, .ref h8]))] sz)) 0 0 (va_A [(h0, .inr (12, [.ref h1, .ref h2, .ref h3, .ref h4, .ref h5, .int 0, .ref h6, .ref h7, .ref h8]))] sz) := by
  refine mkMet (y := yX11_begin) (bytes := cX11_begin) (maxL := 1) (ret := none) (rm := { frames := 1, cells := 0, slots := 0, locals := 40 }) (by decide) (Nat.le_of_ble_eq_true rfl) ?_
  intro p e s m args below meth c ls hE hl
  obtain ⟨hx, hb, hml, hr, ht, hown, hlocks, hin, rfl, hP, hK, hD, hX, rfl⟩ := hE
  have hown : s.vm.findClass "CommandHouse$Words" = some m.cls := hown
  have hA : ∀ q : Nat, s.heap.size ≤ q → va_A [(h0, .inr (12, [.ref h1, .ref h2, .ref h3, .ref h4, .ref h5, .int 0, .ref h6, .ref h7, .ref h8]))] s.heap.size q := fun q h => Or.inr h
  generalize hAe : va_A [(h0, .inr (12, [.ref h1, .ref h2, .ref h3, .ref h4, .ref h5, .int 0, .ref h6, .ref h7, .ref h8]))] s.heap.size = A at hD hX hA ⊢
  have hS : va_S A s.heap s.heap [] := va_S.rf
  have hl : lv_has ls 1 [(0, .ref h0)] := hl
  refine lv_aload_n hx hb dX11_begin_0 rfl (lv_at hl 0 rfl) ?_
  refine lv_iconst (v := 0) hx hb dX11_begin_1 (by decide) ?_
  refine va_put (D := (dC, dI)) (ci := 12) (v := .int 0) (ty := .int) (C := RX11) (T := TX11) (N := 9) hx hb ht inX11 tyX11 tyX11_ok nmX11 hown hK hP hD hS 0 rfl rfl 5 (by decide) (ht _ mW256) (fun _ h9 => h9) rfl (by decide +kernel) rfl rfl (Nat.le_of_ble_eq_true rfl) dX11_begin_2 (fun H locs hP hD hS => ?_)
  have hP : va_P (dC, dI) vwCl [(h0, .inr (12, [.ref h1, .ref h2, .ref h3, .ref h4, .ref h5, .int 0, .ref h6, .ref h7, .ref h8]))] H := hP
  have hD : va_D A [(h0, .inr (12, [.ref h1, .ref h2, .ref h3, .ref h4, .ref h5, .int 0, .ref h6, .ref h7, .ref h8]))] := hD
  refine W.widen (k := 0) (n := 0) (Nat.le_of_ble_eq_true rfl) (Nat.le_of_ble_eq_true rfl) ?_
  have hP9 := hP.sub (ws' := [(h0, .inr (12, [.ref h1, .ref h2, .ref h3, .ref h4, .ref h5, .int 0, .ref h6, .ref h7, .ref h8]))]) [0] rfl
  have hD9 := hD.sub (ws' := [(h0, .inr (12, [.ref h1, .ref h2, .ref h3, .ref h4, .ref h5, .int 0, .ref h6, .ref h7, .ref h8]))]) [0] (by decide) rfl
  have hK9 := hK.sub (tys' := []) [] rfl
  exact W.vret hx hb hr (fun t hH hW => ⟨⟨_, rfl, rfl, by rw [hH]; exact hP9, va_K.moved hW.alike hK9, hD9⟩, hS.F hH⟩) hS.2.2 dX11_begin_5 hlocks
set_option maxHeartbeats 4000000 in
set_option maxRecDepth 100000 in
theorem c39_X10_setParameters (l : Launch) (dC : Nat → ClassId) (dI : Nat → Nat → Nat) (sz : Nat) (h0 h1 h2 h3 h4 h5 h6 h7 h8 h9 h10 : Nat) : Met l yX10_setParameters (.code yX10_setParameters cX10_setParameters 3 none :: wAll) ({ frames := 1, cells := 0, slots := 0, locals := 40 }) (pP (dC, dI) [.ref h0, .ref h1, .int 0] [(h0, .inr (11, [.ref h2, .ref h3, .ref h4, .ref h5, .int 0, .ref h6, .int 0, .ref h7, .ref h8, .ref h9, .ref h10, .int 0, .int 0, .int 0, .int 0, .null]))] [] sz X0) (qQ (fun (v : Option Value) (t : State) => v = none ∧ va_P (dC, dI) vwCl [(h0, .inr (11, [.ref h2, .ref h3, .ref h4, .ref h5, .int 0, .ref h1, .int 0, .ref h7, .ref h8, .ref h9, .ref h10, .int 0, .int 0, .int 0, .int 0, .null]))] t.heap ∧ va_K (dC, dI) vwCl [] t ∧ va_D (va_A [(h0, .inr (11, [.ref h2, .ref h3, .ref h4, .ref h5, .int 0, .ref h6, .int 0, .ref h7, .ref h8, .ref h9, .ref h10, .int 0, .int 0, .int 0, .int 0, .null]))] sz) [(h0, .inr (11, [.ref h2, .ref h3, .ref h4, .ref h5, .int 0, .ref h1, .int 0, .ref h7, .ref h8, .ref h9, .ref h10, .int 0, .int 0, .int 0, .int 0, .null]))]) (va_A [(h0, .inr (11, [.ref h2, .ref h3, .ref h4, .ref h5, .int 0, .ref h6, .int 0, .ref h7, .ref h8, .ref h9, .ref h10, .int 0, .int 0, .int 0, .int 0, .null]))] sz)) 0 0 (va_A [(h0, .inr (11, [.ref h2, .ref h3, .ref h4, .ref h5, .int 0, .ref h6, .int 0, .ref h7, .ref h8, .ref h9, .ref h10, .int 0, .int 0, .int 0, .int 0, .null]))] sz) := by
  refine mkMet (y := yX10_setParameters) (bytes := cX10_setParameters) (maxL := 3) (ret := none) (rm := { frames := 1, cells := 0, slots := 0, locals := 40 }) (by decide) (Nat.le_of_ble_eq_true rfl) ?_
  intro p e s m args below meth c ls hE hl
  obtain ⟨hx, hb, hml, hr, ht, hown, hlocks, hin, rfl, hP, hK, hD, hX, rfl⟩ := hE
  have hown : s.vm.findClass "CommandHouse$State" = some m.cls := hown
  have hA : ∀ q : Nat, s.heap.size ≤ q → va_A [(h0, .inr (11, [.ref h2, .ref h3, .ref h4, .ref h5, .int 0, .ref h6, .int 0, .ref h7, .ref h8, .ref h9, .ref h10, .int 0, .int 0, .int 0, .int 0, .null]))] s.heap.size q := fun q h => Or.inr h
  generalize hAe : va_A [(h0, .inr (11, [.ref h2, .ref h3, .ref h4, .ref h5, .int 0, .ref h6, .int 0, .ref h7, .ref h8, .ref h9, .ref h10, .int 0, .int 0, .int 0, .int 0, .null]))] s.heap.size = A at hD hX hA ⊢
  have hS : va_S A s.heap s.heap [] := va_S.rf
  have hl : lv_has ls 3 [(0, .ref h0), (1, .ref h1), (2, .int 0)] := hl
  refine lv_aload_n hx hb dX10_setParameters_0 rfl (lv_at hl 0 rfl) ?_
  refine lv_aload_n hx hb dX10_setParameters_1 rfl (lv_at hl 1 rfl) ?_
  refine va_put (D := (dC, dI)) (ci := 11) (v := .ref h1) (ty := (.array (.object "CommandHouse$Bytes"))) (C := RX10) (T := TX10) (N := 16) hx hb ht inX10 tyX10 tyX10_ok nmX10 hown hK hP hD hS 0 rfl rfl 5 (by decide) (ht _ mW315) (fun _ h9 => h9) rfl (by decide +kernel) rfl rfl (Nat.le_of_ble_eq_true rfl) dX10_setParameters_2 (fun H locs hP hD hS => ?_)
  have hP : va_P (dC, dI) vwCl [(h0, .inr (11, [.ref h2, .ref h3, .ref h4, .ref h5, .int 0, .ref h1, .int 0, .ref h7, .ref h8, .ref h9, .ref h10, .int 0, .int 0, .int 0, .int 0, .null]))] H := hP
  have hD : va_D A [(h0, .inr (11, [.ref h2, .ref h3, .ref h4, .ref h5, .int 0, .ref h1, .int 0, .ref h7, .ref h8, .ref h9, .ref h10, .int 0, .int 0, .int 0, .int 0, .null]))] := hD
  refine lv_aload_n hx hb dX10_setParameters_5 rfl (lv_at hl 0 rfl) ?_
  refine lv_iload_n hx hb dX10_setParameters_6 rfl (lv_at hl 2 rfl) ?_
  refine va_put (D := (dC, dI)) (ci := 11) (v := .int 0) (ty := .int) (C := RX10) (T := TX10) (N := 16) hx hb ht inX10 tyX10 tyX10_ok nmX10 hown hK hP hD hS 0 rfl rfl 6 (by decide) (ht _ mW317) (fun _ h9 => h9) rfl (by decide +kernel) rfl rfl (Nat.le_of_ble_eq_true rfl) dX10_setParameters_7 (fun H locs hP hD hS => ?_)
  have hP : va_P (dC, dI) vwCl [(h0, .inr (11, [.ref h2, .ref h3, .ref h4, .ref h5, .int 0, .ref h1, .int 0, .ref h7, .ref h8, .ref h9, .ref h10, .int 0, .int 0, .int 0, .int 0, .null]))] H := hP
  have hD : va_D A [(h0, .inr (11, [.ref h2, .ref h3, .ref h4, .ref h5, .int 0, .ref h1, .int 0, .ref h7, .ref h8, .ref h9, .ref h10, .int 0, .int 0, .int 0, .int 0, .null]))] := hD
  refine W.widen (k := 0) (n := 0) (Nat.le_of_ble_eq_true rfl) (Nat.le_of_ble_eq_true rfl) ?_
  have hP9 := hP.sub (ws' := [(h0, .inr (11, [.ref h2, .ref h3, .ref h4, .ref h5, .int 0, .ref h1, .int 0, .ref h7, .ref h8, .ref h9, .ref h10, .int 0, .int 0, .int 0, .int 0, .null]))]) [0] rfl
  have hD9 := hD.sub (ws' := [(h0, .inr (11, [.ref h2, .ref h3, .ref h4, .ref h5, .int 0, .ref h1, .int 0, .ref h7, .ref h8, .ref h9, .ref h10, .int 0, .int 0, .int 0, .int 0, .null]))]) [0] (by decide) rfl
  have hK9 := hK.sub (tys' := []) [] rfl
  exact W.vret hx hb hr (fun t hH hW => ⟨⟨_, rfl, rfl, by rw [hH]; exact hP9, va_K.moved hW.alike hK9, hD9⟩, hS.F hH⟩) hS.2.2 dX10_setParameters_10 hlocks
set_option maxHeartbeats 4000000 in
set_option maxRecDepth 100000 in
theorem c40_X10_clear (l : Launch) (dC : Nat → ClassId) (dI : Nat → Nat → Nat) (sz : Nat) (h0 h1 h2 h3 h4 h5 h6 h7 h8 h9 h10 : Nat) : Met l yX10_clear (.code yX10_clear cX10_clear 2 none :: wAll) ({ frames := 2, cells := 0, slots := 0, locals := 62 }) (pP (dC, dI) [.ref h0, .ref h1] [(h0, .inr (11, [.ref h2, .ref h3, .ref h4, .ref h5, .int 0, .ref h6, .int 0, .ref h7, .ref h8, .ref h9, .ref h10, .int 0, .int 0, .int 0, .int 0, .null]))] [] sz X0) (qQ (fun (v : Option Value) (t : State) => v = none ∧ va_P (dC, dI) vwCl [(h0, .inr (11, [.ref h2, .ref h3, .ref h4, .ref h5, .int 0, .ref h1, .int 0, .ref h7, .ref h8, .ref h9, .ref h10, .int 0, .int 0, .int 0, .int 0, .null]))] t.heap ∧ va_K (dC, dI) vwCl [] t ∧ va_D (va_A [(h0, .inr (11, [.ref h2, .ref h3, .ref h4, .ref h5, .int 0, .ref h6, .int 0, .ref h7, .ref h8, .ref h9, .ref h10, .int 0, .int 0, .int 0, .int 0, .null]))] sz) [(h0, .inr (11, [.ref h2, .ref h3, .ref h4, .ref h5, .int 0, .ref h1, .int 0, .ref h7, .ref h8, .ref h9, .ref h10, .int 0, .int 0, .int 0, .int 0, .null]))]) (va_A [(h0, .inr (11, [.ref h2, .ref h3, .ref h4, .ref h5, .int 0, .ref h6, .int 0, .ref h7, .ref h8, .ref h9, .ref h10, .int 0, .int 0, .int 0, .int 0, .null]))] sz)) 0 0 (va_A [(h0, .inr (11, [.ref h2, .ref h3, .ref h4, .ref h5, .int 0, .ref h6, .int 0, .ref h7, .ref h8, .ref h9, .ref h10, .int 0, .int 0, .int 0, .int 0, .null]))] sz) := by
  refine mkMet (y := yX10_clear) (bytes := cX10_clear) (maxL := 2) (ret := none) (rm := { frames := 2, cells := 0, slots := 0, locals := 62 }) (by decide) (Nat.le_of_ble_eq_true rfl) ?_
  intro p e s m args below meth c ls hE hl
  obtain ⟨hx, hb, hml, hr, ht, hown, hlocks, hin, rfl, hP, hK, hD, hX, rfl⟩ := hE
  have hown : s.vm.findClass "CommandHouse$State" = some m.cls := hown
  have hA : ∀ q : Nat, s.heap.size ≤ q → va_A [(h0, .inr (11, [.ref h2, .ref h3, .ref h4, .ref h5, .int 0, .ref h6, .int 0, .ref h7, .ref h8, .ref h9, .ref h10, .int 0, .int 0, .int 0, .int 0, .null]))] s.heap.size q := fun q h => Or.inr h
  generalize hAe : va_A [(h0, .inr (11, [.ref h2, .ref h3, .ref h4, .ref h5, .int 0, .ref h6, .int 0, .ref h7, .ref h8, .ref h9, .ref h10, .int 0, .int 0, .int 0, .int 0, .null]))] s.heap.size = A at hD hX hA ⊢
  have hS : va_S A s.heap s.heap [] := va_S.rf
  have hl : lv_has ls 2 [(0, .ref h0), (1, .ref h1)] := hl
  refine lv_aload_n hx hb dX10_clear_0 rfl (lv_at hl 0 rfl) ?_
  refine lv_iconst (v := 0) hx hb dX10_clear_1 (by decide) ?_
  refine va_put (D := (dC, dI)) (ci := 11) (v := .int 0) (ty := .int) (C := RX10) (T := TX10) (N := 16) hx hb ht inX10 tyX10 tyX10_ok nmX10 hown hK hP hD hS 0 rfl rfl 4 (by decide) (ht _ mW314) (fun _ h9 => h9) rfl (by decide +kernel) rfl rfl (Nat.le_of_ble_eq_true rfl) dX10_clear_2 (fun H locs hP hD hS => ?_)
  have hP : va_P (dC, dI) vwCl [(h0, .inr (11, [.ref h2, .ref h3, .ref h4, .ref h5, .int 0, .ref h6, .int 0, .ref h7, .ref h8, .ref h9, .ref h10, .int 0, .int 0, .int 0, .int 0, .null]))] H := hP
  have hD : va_D A [(h0, .inr (11, [.ref h2, .ref h3, .ref h4, .ref h5, .int 0, .ref h6, .int 0, .ref h7, .ref h8, .ref h9, .ref h10, .int 0, .int 0, .int 0, .int 0, .null]))] := hD
  refine lv_aload_n hx hb dX10_clear_5 rfl (lv_at hl 0 rfl) ?_
  refine lv_aload_n hx hb dX10_clear_6 rfl (lv_at hl 1 rfl) ?_
  refine lv_iconst (v := 0) hx hb dX10_clear_7 (by decide) ?_
  have hPc := hP.sub (ws' := [(h0, .inr (11, [.ref h2, .ref h3, .ref h4, .ref h5, .int 0, .ref h6, .int 0, .ref h7, .ref h8, .ref h9, .ref h10, .int 0, .int 0, .int 0, .int 0, .null]))]) [0] rfl
  have hDc := hD.sub (ws' := [(h0, .inr (11, [.ref h2, .ref h3, .ref h4, .ref h5, .int 0, .ref h6, .int 0, .ref h7, .ref h8, .ref h9, .ref h10, .int 0, .int 0, .int 0, .int 0, .null]))]) [0] (by decide) rfl
  have hKc := hK.sub (tys' := []) [] rfl
  have hFc := va_free (wc := [(h0, .inr (11, [.ref h2, .ref h3, .ref h4, .ref h5, .int 0, .ref h6, .int 0, .ref h7, .ref h8, .ref h9, .ref h10, .int 0, .int 0, .int 0, .int 0, .null]))]) hD hS hA [0] rfl
  refine pCall (va_runV (As := [.ref h1, .int 0]) (rest := []) ⟨hx, hb, hml, hown, ht⟩ (c39_X10_setParameters l dC dI H.size h0 h1 h2 h3 h4 h5 h6 h7 h8 h9 h10) ⟨cbB 2 ht mW685 mW14 mW682 (by decide +kernel) ⟨(Nat.le_of_ble_eq_true rfl), (Nat.le_of_ble_eq_true rfl)⟩, ht _ mW684, ht _ mS7⟩ ⟨pP_blind X0_blind, va_recv hKc hPc (ci := 11) (q0 := 0) rfl rfl, fun U hU hW => ⟨rfl, by rw [hU], by rw [hU]; exact hPc, va_K.moved hW.alike hKc, hDc.weaken (fun _ _ _ _ => trivial), trivial⟩⟩ rfl rfl hl.1 rfl (lv_room (Nat.le_of_ble_eq_true rfl)) dX10_clear_8 ⟨(Nat.le_of_ble_eq_true rfl), (Nat.le_of_ble_eq_true rfl)⟩) hS (fun q h => hFc q h) hFc (fun v t H1 locs hH hvm hB hk1 hS => ?_)
  obtain ⟨hv, hP1, hK1, hD1⟩ := hB
  subst hv
  rw [hH] at hP1
  have hK1 := va_K.moved hvm.symm hK1
  obtain ⟨hP, hD⟩ := va_join (wr := []) (w1 := [(h0, .inr (11, [.ref h2, .ref h3, .ref h4, .ref h5, .int 0, .ref h1, .int 0, .ref h7, .ref h8, .ref h9, .ref h10, .int 0, .int 0, .int 0, .int 0, .null]))]) hP hD [0] [] rfl rfl (by decide) (by decide) hk1 hFc hP1 hD1
  have hK := (hK.sub (tys' := []) [] rfl).app hK1
  generalize H1 = H at hP hS ⊢
  have hP : va_P (dC, dI) vwCl [(h0, .inr (11, [.ref h2, .ref h3, .ref h4, .ref h5, .int 0, .ref h1, .int 0, .ref h7, .ref h8, .ref h9, .ref h10, .int 0, .int 0, .int 0, .int 0, .null]))] H := hP
  have hD : va_D A [(h0, .inr (11, [.ref h2, .ref h3, .ref h4, .ref h5, .int 0, .ref h1, .int 0, .ref h7, .ref h8, .ref h9, .ref h10, .int 0, .int 0, .int 0, .int 0, .null]))] := hD
  have hK : va_K (dC, dI) vwCl [] s := hK
  refine W.widen (g := F0 m 11 ls []) (k := 0) (n := 0) (Nat.le_of_ble_eq_true rfl) (Nat.le_of_ble_eq_true rfl) ?_
  refine lv_aload_n hx hb dX10_clear_11 rfl (lv_at hl 0 rfl) ?_
  refine lv_iconst (v := 0) hx hb dX10_clear_12 (by decide) ?_
  refine va_put (D := (dC, dI)) (ci := 11) (v := .int 0) (ty := .int) (C := RX10) (T := TX10) (N := 16) hx hb ht inX10 tyX10 tyX10_ok nmX10 hown hK hP hD hS 0 rfl rfl 11 (by decide) (ht _ mW324) (fun _ h9 => h9) rfl (by decide +kernel) rfl rfl (Nat.le_of_ble_eq_true rfl) dX10_clear_13 (fun H locs hP hD hS => ?_)
  have hP : va_P (dC, dI) vwCl [(h0, .inr (11, [.ref h2, .ref h3, .ref h4, .ref h5, .int 0, .ref h1, .int 0, .ref h7, .ref h8, .ref h9, .ref h10, .int 0, .int 0, .int 0, .int 0, .null]))] H := hP
  have hD : va_D A [(h0, .inr (11, [.ref h2, .ref h3, .ref h4, .ref h5, .int 0, .ref h1, .int 0, .ref h7, .ref h8, .ref h9, .ref h10, .int 0, .int 0, .int 0, .int 0, .null]))] := hD
  refine lv_aload_n hx hb dX10_clear_16 rfl (lv_at hl 0 rfl) ?_
  refine lv_iconst (v := 0) hx hb dX10_clear_17 (by decide) ?_
  refine va_put (D := (dC, dI)) (ci := 11) (v := .int 0) (ty := .boolean) (C := RX10) (T := TX10) (N := 16) hx hb ht inX10 tyX10 tyX10_ok nmX10 hown hK hP hD hS 0 rfl rfl 12 (by decide) (ht _ mW325) (fun _ h9 => h9) rfl (by decide +kernel) rfl rfl (Nat.le_of_ble_eq_true rfl) dX10_clear_18 (fun H locs hP hD hS => ?_)
  have hP : va_P (dC, dI) vwCl [(h0, .inr (11, [.ref h2, .ref h3, .ref h4, .ref h5, .int 0, .ref h1, .int 0, .ref h7, .ref h8, .ref h9, .ref h10, .int 0, .int 0, .int 0, .int 0, .null]))] H := hP
  have hD : va_D A [(h0, .inr (11, [.ref h2, .ref h3, .ref h4, .ref h5, .int 0, .ref h1, .int 0, .ref h7, .ref h8, .ref h9, .ref h10, .int 0, .int 0, .int 0, .int 0, .null]))] := hD
  refine lv_aload_n hx hb dX10_clear_21 rfl (lv_at hl 0 rfl) ?_
  refine lv_iconst (v := 0) hx hb dX10_clear_22 (by decide) ?_
  refine va_put (D := (dC, dI)) (ci := 11) (v := .int 0) (ty := .boolean) (C := RX10) (T := TX10) (N := 16) hx hb ht inX10 tyX10 tyX10_ok nmX10 hown hK hP hD hS 0 rfl rfl 13 (by decide) (ht _ mW328) (fun _ h9 => h9) rfl (by decide +kernel) rfl rfl (Nat.le_of_ble_eq_true rfl) dX10_clear_23 (fun H locs hP hD hS => ?_)
  have hP : va_P (dC, dI) vwCl [(h0, .inr (11, [.ref h2, .ref h3, .ref h4, .ref h5, .int 0, .ref h1, .int 0, .ref h7, .ref h8, .ref h9, .ref h10, .int 0, .int 0, .int 0, .int 0, .null]))] H := hP
  have hD : va_D A [(h0, .inr (11, [.ref h2, .ref h3, .ref h4, .ref h5, .int 0, .ref h1, .int 0, .ref h7, .ref h8, .ref h9, .ref h10, .int 0, .int 0, .int 0, .int 0, .null]))] := hD
  refine lv_aload_n hx hb dX10_clear_26 rfl (lv_at hl 0 rfl) ?_
  refine lv_iconst (v := 0) hx hb dX10_clear_27 (by decide) ?_
  refine va_put (D := (dC, dI)) (ci := 11) (v := .int 0) (ty := .int) (C := RX10) (T := TX10) (N := 16) hx hb ht inX10 tyX10 tyX10_ok nmX10 hown hK hP hD hS 0 rfl rfl 14 (by decide) (ht _ mW331) (fun _ h9 => h9) rfl (by decide +kernel) rfl rfl (Nat.le_of_ble_eq_true rfl) dX10_clear_28 (fun H locs hP hD hS => ?_)
  have hP : va_P (dC, dI) vwCl [(h0, .inr (11, [.ref h2, .ref h3, .ref h4, .ref h5, .int 0, .ref h1, .int 0, .ref h7, .ref h8, .ref h9, .ref h10, .int 0, .int 0, .int 0, .int 0, .null]))] H := hP
  have hD : va_D A [(h0, .inr (11, [.ref h2, .ref h3, .ref h4, .ref h5, .int 0, .ref h1, .int 0, .ref h7, .ref h8, .ref h9, .ref h10, .int 0, .int 0, .int 0, .int 0, .null]))] := hD
  refine W.widen (k := 0) (n := 0) (Nat.le_of_ble_eq_true rfl) (Nat.le_of_ble_eq_true rfl) ?_
  have hP9 := hP.sub (ws' := [(h0, .inr (11, [.ref h2, .ref h3, .ref h4, .ref h5, .int 0, .ref h1, .int 0, .ref h7, .ref h8, .ref h9, .ref h10, .int 0, .int 0, .int 0, .int 0, .null]))]) [0] rfl
  have hD9 := hD.sub (ws' := [(h0, .inr (11, [.ref h2, .ref h3, .ref h4, .ref h5, .int 0, .ref h1, .int 0, .ref h7, .ref h8, .ref h9, .ref h10, .int 0, .int 0, .int 0, .int 0, .null]))]) [0] (by decide) rfl
  have hK9 := hK.sub (tys' := []) [] rfl
  exact W.vret hx hb hr (fun t hH hW => ⟨⟨_, rfl, rfl, by rw [hH]; exact hP9, va_K.moved hW.alike hK9, hD9⟩, hS.F hH⟩) hS.2.2 dX10_clear_31 hlocks
set_option maxHeartbeats 4000000 in
set_option maxRecDepth 100000 in
theorem c41_X9_init (l : Launch) (dC : Nat → ClassId) (dI : Nat → Nat → Nat) (sz : Nat) (h0 h1 h2 : Nat) : Met l yX9_init (.code yX9_init cX9_init 3 none :: wAll) ({ frames := 2, cells := 1, slots := 16, locals := 40 }) (pP (dC, dI) [.ref h0, .ref h1, .int 1] [(h0, .inr (10, [.null, .null, .int 0, .int 0, .int 0, .int 0, .int 0, .null, .int 0, .int 0, .int 0, .int 0, .null, .int 0, .int 0])), (h1, .inr (4, [.ref h2, .int 0, .int 0, .null]))] [] sz X0) (qQ (fun (v : Option Value) (t : State) => ∃ (qn0 : Nat), ∃ (Kn0 : ClassId), v = none ∧ va_P (dC, dI) vwCl [(h0, .inr (10, [.ref h1, .ref h2, .int 0, .int 0, .int 0, .int 0, .int 0, .ref qn0, .int 0, .int 0, .int (-1), .int 0, .null, .int 0, .int 1])), (h1, .inr (4, [.ref h2, .int 0, .int 0, .null])), (qn0, .inl (Kn0, 16, .inl (fun _ => 0)))] t.heap ∧ va_K (dC, dI) vwCl [(Kn0, .int)] t ∧ va_D (va_A [(h0, .inr (10, [.null, .null, .int 0, .int 0, .int 0, .int 0, .int 0, .null, .int 0, .int 0, .int 0, .int 0, .null, .int 0, .int 0])), (h1, .inr (4, [.ref h2, .int 0, .int 0, .null]))] sz) [(h0, .inr (10, [.ref h1, .ref h2, .int 0, .int 0, .int 0, .int 0, .int 0, .ref qn0, .int 0, .int 0, .int (-1), .int 0, .null, .int 0, .int 1])), (h1, .inr (4, [.ref h2, .int 0, .int 0, .null])), (qn0, .inl (Kn0, 16, .inl (fun _ => 0)))]) (va_A [(h0, .inr (10, [.null, .null, .int 0, .int 0, .int 0, .int 0, .int 0, .null, .int 0, .int 0, .int 0, .int 0, .null, .int 0, .int 0])), (h1, .inr (4, [.ref h2, .int 0, .int 0, .null]))] sz)) 1 16 (va_A [(h0, .inr (10, [.null, .null, .int 0, .int 0, .int 0, .int 0, .int 0, .null, .int 0, .int 0, .int 0, .int 0, .null, .int 0, .int 0])), (h1, .inr (4, [.ref h2, .int 0, .int 0, .null]))] sz) := by
  refine mkMet (y := yX9_init) (bytes := cX9_init) (maxL := 3) (ret := none) (rm := { frames := 2, cells := 1, slots := 16, locals := 40 }) (by decide) (Nat.le_of_ble_eq_true rfl) ?_
  intro p e s m args below meth c ls hE hl
  obtain ⟨hx, hb, hml, hr, ht, hown, hlocks, hin, rfl, hP, hK, hD, hX, rfl⟩ := hE
  have hown : s.vm.findClass "CommandHouse$Script" = some m.cls := hown
  have hA : ∀ q : Nat, s.heap.size ≤ q → va_A [(h0, .inr (10, [.null, .null, .int 0, .int 0, .int 0, .int 0, .int 0, .null, .int 0, .int 0, .int 0, .int 0, .null, .int 0, .int 0])), (h1, .inr (4, [.ref h2, .int 0, .int 0, .null]))] s.heap.size q := fun q h => Or.inr h
  generalize hAe : va_A [(h0, .inr (10, [.null, .null, .int 0, .int 0, .int 0, .int 0, .int 0, .null, .int 0, .int 0, .int 0, .int 0, .null, .int 0, .int 0])), (h1, .inr (4, [.ref h2, .int 0, .int 0, .null]))] s.heap.size = A at hD hX hA ⊢
  have hS : va_S A s.heap s.heap [] := va_S.rf
  have hl : lv_has ls 3 [(0, .ref h0), (1, .ref h1), (2, .int 1)] := hl
  refine lv_aload_n hx hb dX9_init_0 rfl (lv_at hl 0 rfl) ?_
  refine W.objInit hx hb hown (ht _ mW400) (ht _ mW33) (ht _ mW34) rfl (by rw [hml]; exact hl.1) rfl dX9_init_1 (Nat.le_of_ble_eq_true rfl) (Nat.le_of_ble_eq_true rfl) ?_
  refine W.eq (g2 := F0 m 4 ls []) rfl ?_
  refine lv_aload_n hx hb dX9_init_4 rfl (lv_at hl 0 rfl) ?_
  refine lv_iconst (v := (-1)) hx hb dX9_init_5 (by decide) ?_
  refine va_put (D := (dC, dI)) (ci := 10) (v := .int (-1)) (ty := .int) (C := RX9) (T := TX9) (N := 15) hx hb ht inX9 tyX9 tyX9_ok nmX9 hown hK hP hD hS 0 rfl rfl 10 (by decide) (ht _ mW416) (fun _ h9 => h9) rfl (by decide +kernel) rfl rfl (Nat.le_of_ble_eq_true rfl) dX9_init_6 (fun H locs hP hD hS => ?_)
  have hP : va_P (dC, dI) vwCl [(h0, .inr (10, [.null, .null, .int 0, .int 0, .int 0, .int 0, .int 0, .null, .int 0, .int 0, .int (-1), .int 0, .null, .int 0, .int 0])), (h1, .inr (4, [.ref h2, .int 0, .int 0, .null]))] H := hP
  have hD : va_D A [(h0, .inr (10, [.null, .null, .int 0, .int 0, .int 0, .int 0, .int 0, .null, .int 0, .int 0, .int (-1), .int 0, .null, .int 0, .int 0])), (h1, .inr (4, [.ref h2, .int 0, .int 0, .null]))] := hD
  refine lv_aload_n hx hb dX9_init_9 rfl (lv_at hl 0 rfl) ?_
  refine lv_aload_n hx hb dX9_init_10 rfl (lv_at hl 1 rfl) ?_
  refine va_putF (D := (dC, dI)) (ci := 10) (v := .ref h1) (ty := (.object "CommandHouse$Bytes")) (C := RX9) (T := TX9) (N := 15) hx hb ht inX9 tyX9 tyX9_ok nmX9 hown hK hP hD hS 0 rfl rfl 0 (by decide) (ht _ mW401) (fun _ h9 => h9) rfl hin rfl (by decide +kernel) rfl rfl (Nat.le_of_ble_eq_true rfl) dX9_init_11 (fun H locs hP hD hS => ?_)
  have hP : va_P (dC, dI) vwCl [(h0, .inr (10, [.ref h1, .null, .int 0, .int 0, .int 0, .int 0, .int 0, .null, .int 0, .int 0, .int (-1), .int 0, .null, .int 0, .int 0])), (h1, .inr (4, [.ref h2, .int 0, .int 0, .null]))] H := hP
  have hD : va_D A [(h0, .inr (10, [.ref h1, .null, .int 0, .int 0, .int 0, .int 0, .int 0, .null, .int 0, .int 0, .int (-1), .int 0, .null, .int 0, .int 0])), (h1, .inr (4, [.ref h2, .int 0, .int 0, .null]))] := hD
  refine lv_aload_n hx hb dX9_init_14 rfl (lv_at hl 0 rfl) ?_
  refine lv_aload_n hx hb dX9_init_15 rfl (lv_at hl 1 rfl) ?_
  refine va_getN (D := (dC, dI)) (ci := 4) (v := .ref h2) (C := RX3) (T := TX3) (N := 4) hx hb ht inX3 hown hK hP 1 rfl rfl 0 (by decide) (ht _ mW48) (fun _ h9 => h9) rfl dX9_init_16 ?_
  refine va_putF (D := (dC, dI)) (ci := 10) (v := .ref h2) (ty := (.array .byte)) (C := RX9) (T := TX9) (N := 15) hx hb ht inX9 tyX9 tyX9_ok nmX9 hown hK hP hD hS 0 rfl rfl 1 (by decide) (ht _ mW404) (fun _ h9 => h9) rfl hin rfl (by decide +kernel) rfl rfl (Nat.le_of_ble_eq_true rfl) dX9_init_19 (fun H locs hP hD hS => ?_)
  have hP : va_P (dC, dI) vwCl [(h0, .inr (10, [.ref h1, .ref h2, .int 0, .int 0, .int 0, .int 0, .int 0, .null, .int 0, .int 0, .int (-1), .int 0, .null, .int 0, .int 0])), (h1, .inr (4, [.ref h2, .int 0, .int 0, .null]))] H := hP
  have hD : va_D A [(h0, .inr (10, [.ref h1, .ref h2, .int 0, .int 0, .int 0, .int 0, .int 0, .null, .int 0, .int 0, .int (-1), .int 0, .null, .int 0, .int 0])), (h1, .inr (4, [.ref h2, .int 0, .int 0, .null]))] := hD
  refine lv_aload_n hx hb dX9_init_22 rfl (lv_at hl 0 rfl) ?_
  refine lv_aload_n hx hb dX9_init_23 rfl (lv_at hl 1 rfl) ?_
  refine va_getN (D := (dC, dI)) (ci := 4) (v := .int 0) (C := RX3) (T := TX3) (N := 4) hx hb ht inX3 hown hK hP 1 rfl rfl 1 (by decide) (ht _ mW56) (fun _ h9 => h9) rfl dX9_init_24 ?_
  refine va_putF (D := (dC, dI)) (ci := 10) (v := .int 0) (ty := .int) (C := RX9) (T := TX9) (N := 15) hx hb ht inX9 tyX9 tyX9_ok nmX9 hown hK hP hD hS 0 rfl rfl 2 (by decide) (ht _ mW407) (fun _ h9 => h9) rfl hin rfl (by decide +kernel) rfl rfl (Nat.le_of_ble_eq_true rfl) dX9_init_27 (fun H locs hP hD hS => ?_)
  have hP : va_P (dC, dI) vwCl [(h0, .inr (10, [.ref h1, .ref h2, .int 0, .int 0, .int 0, .int 0, .int 0, .null, .int 0, .int 0, .int (-1), .int 0, .null, .int 0, .int 0])), (h1, .inr (4, [.ref h2, .int 0, .int 0, .null]))] H := hP
  have hD : va_D A [(h0, .inr (10, [.ref h1, .ref h2, .int 0, .int 0, .int 0, .int 0, .int 0, .null, .int 0, .int 0, .int (-1), .int 0, .null, .int 0, .int 0])), (h1, .inr (4, [.ref h2, .int 0, .int 0, .null]))] := hD
  refine lv_aload_n hx hb dX9_init_30 rfl (lv_at hl 0 rfl) ?_
  refine lv_bipush (v := 16) hx hb dX9_init_31 (by decide) ?_
  refine lv_iconst (v := 5) hx hb dX9_init_33 (by decide) ?_
  refine lv_aload_n hx hb dX9_init_34 rfl (lv_at hl 0 rfl) ?_
  refine va_get (D := (dC, dI)) (ci := 10) (v := .int 0) (C := RX9) (T := TX9) (N := 15) hx hb ht inX9 hown hK hP 0 rfl rfl 2 (by decide) (ht _ mW407) (fun _ h9 => h9) rfl dX9_init_35 ?_
  refine lv_imul hx hb dX9_init_38 ?_
  refine W.eq (congrArg (fun z => F0 m 39 ls (.int z :: [.int 16, .ref h0])) (by decide : (5 * 0 : Int32) = 0)) ?_
  refine lv_iadd hx hb dX9_init_39 ?_
  refine W.eq (congrArg (fun z => F0 m 40 ls (.int z :: [.ref h0])) (by decide : (16 + 0 : Int32) = 16)) ?_
  refine va_newa (atype := .int) (a0 := (16, .inl (fun _ => 0))) hx hb (ht _ mW82) rfl hK hP hD hS hA (fun _ => rfl) (by decide) (by decide) (Nat.le_of_ble_eq_true rfl) (Nat.le_of_ble_eq_true rfl) (Nat.le_of_ble_eq_true rfl) dX9_init_40 (fun q1026 k1027 H hK hP hD hS => ?_)
  have hP : va_P (dC, dI) vwCl [(h0, .inr (10, [.ref h1, .ref h2, .int 0, .int 0, .int 0, .int 0, .int 0, .null, .int 0, .int 0, .int (-1), .int 0, .null, .int 0, .int 0])), (h1, .inr (4, [.ref h2, .int 0, .int 0, .null])), (q1026, .inl (k1027, 16, .inl (fun _ => 0)))] H := hP
  have hD : va_D A [(h0, .inr (10, [.ref h1, .ref h2, .int 0, .int 0, .int 0, .int 0, .int 0, .null, .int 0, .int 0, .int (-1), .int 0, .null, .int 0, .int 0])), (h1, .inr (4, [.ref h2, .int 0, .int 0, .null])), (q1026, .inl (k1027, 16, .inl (fun _ => 0)))] := hD
  have hK : va_K (dC, dI) vwCl [(k1027, .int)] s := hK
  refine W.widen (k := 1) (n := 16) (Nat.le_of_ble_eq_true rfl) (Nat.le_of_ble_eq_true rfl) ?_
  refine va_put (D := (dC, dI)) (ci := 10) (v := .ref q1026) (ty := (.array .int)) (C := RX9) (T := TX9) (N := 15) hx hb ht inX9 tyX9 tyX9_ok nmX9 hown hK hP hD hS 0 rfl rfl 7 (by decide) (ht _ mW412) (fun _ h9 => h9) rfl (by decide +kernel) rfl rfl (Nat.le_of_ble_eq_true rfl) dX9_init_42 (fun H locs hP hD hS => ?_)
  have hP : va_P (dC, dI) vwCl [(h0, .inr (10, [.ref h1, .ref h2, .int 0, .int 0, .int 0, .int 0, .int 0, .ref q1026, .int 0, .int 0, .int (-1), .int 0, .null, .int 0, .int 0])), (h1, .inr (4, [.ref h2, .int 0, .int 0, .null])), (q1026, .inl (k1027, 16, .inl (fun _ => 0)))] H := hP
  have hD : va_D A [(h0, .inr (10, [.ref h1, .ref h2, .int 0, .int 0, .int 0, .int 0, .int 0, .ref q1026, .int 0, .int 0, .int (-1), .int 0, .null, .int 0, .int 0])), (h1, .inr (4, [.ref h2, .int 0, .int 0, .null])), (q1026, .inl (k1027, 16, .inl (fun _ => 0)))] := hD
  refine lv_aload_n hx hb dX9_init_45 rfl (lv_at hl 0 rfl) ?_
  refine lv_iload_n hx hb dX9_init_46 rfl (lv_at hl 2 rfl) ?_
  refine va_putF (D := (dC, dI)) (ci := 10) (v := .int 1) (ty := .boolean) (C := RX9) (T := TX9) (N := 15) hx hb ht inX9 tyX9 tyX9_ok nmX9 hown hK hP hD hS 0 rfl rfl 14 (by decide) (ht _ mW422) (fun _ h9 => h9) rfl hin rfl (by decide +kernel) rfl rfl (Nat.le_of_ble_eq_true rfl) dX9_init_47 (fun H locs hP hD hS => ?_)
  have hP : va_P (dC, dI) vwCl [(h0, .inr (10, [.ref h1, .ref h2, .int 0, .int 0, .int 0, .int 0, .int 0, .ref q1026, .int 0, .int 0, .int (-1), .int 0, .null, .int 0, .int 1])), (h1, .inr (4, [.ref h2, .int 0, .int 0, .null])), (q1026, .inl (k1027, 16, .inl (fun _ => 0)))] H := hP
  have hD : va_D A [(h0, .inr (10, [.ref h1, .ref h2, .int 0, .int 0, .int 0, .int 0, .int 0, .ref q1026, .int 0, .int 0, .int (-1), .int 0, .null, .int 0, .int 1])), (h1, .inr (4, [.ref h2, .int 0, .int 0, .null])), (q1026, .inl (k1027, 16, .inl (fun _ => 0)))] := hD
  refine W.widen (k := 1) (n := 16) (Nat.le_of_ble_eq_true rfl) (Nat.le_of_ble_eq_true rfl) ?_
  have hP9 := hP.sub (ws' := [(h0, .inr (10, [.ref h1, .ref h2, .int 0, .int 0, .int 0, .int 0, .int 0, .ref q1026, .int 0, .int 0, .int (-1), .int 0, .null, .int 0, .int 1])), (h1, .inr (4, [.ref h2, .int 0, .int 0, .null])), (q1026, .inl (k1027, 16, .inl (fun _ => 0)))]) [0, 1, 2] rfl
  have hD9 := hD.sub (ws' := [(h0, .inr (10, [.ref h1, .ref h2, .int 0, .int 0, .int 0, .int 0, .int 0, .ref q1026, .int 0, .int 0, .int (-1), .int 0, .null, .int 0, .int 1])), (h1, .inr (4, [.ref h2, .int 0, .int 0, .null])), (q1026, .inl (k1027, 16, .inl (fun _ => 0)))]) [0, 1, 2] (by decide) rfl
  have hK9 := hK.sub (tys' := [(k1027, .int)]) [0] rfl
  exact W.vret hx hb hr (fun t hH hW => ⟨⟨_, rfl, q1026, k1027, rfl, by rw [hH]; exact hP9, va_K.moved hW.alike hK9, hD9⟩, hS.F hH⟩) hS.2.2 dX9_init_50 hlocks
set_option maxHeartbeats 4000000 in
set_option maxRecDepth 100000 in
theorem c42_Jx4a65c_size (l : Launch) (dC : Nat → ClassId) (dI : Nat → Nat → Nat) (sz : Nat) (h0 h1 : Nat) : Met l yJx4a65c_size_8abf5 (.code yJx4a65c_size_8abf5 cJx4a65c_size_8abf5 1 (some .int) :: wAll) ({ frames := 1, cells := 0, slots := 0, locals := 40 }) (pP (dC, dI) [.ref h0] [(h0, .inr (0, [.int 1, .ref h1, .int 1]))] [] sz X0) (qQ (fun (v : Option Value) (t : State) => v = some (.int 1) ∧ va_P (dC, dI) vwCl [(h0, .inr (0, [.int 1, .ref h1, .int 1]))] t.heap ∧ va_K (dC, dI) vwCl [] t ∧ va_D (va_A [(h0, .inr (0, [.int 1, .ref h1, .int 1]))] sz) [(h0, .inr (0, [.int 1, .ref h1, .int 1]))]) (va_A [(h0, .inr (0, [.int 1, .ref h1, .int 1]))] sz)) 0 0 (va_A [(h0, .inr (0, [.int 1, .ref h1, .int 1]))] sz) := by
  refine mkMet (y := yJx4a65c_size_8abf5) (bytes := cJx4a65c_size_8abf5) (maxL := 1) (ret := (some .int)) (rm := { frames := 1, cells := 0, slots := 0, locals := 40 }) (by decide) (Nat.le_of_ble_eq_true rfl) ?_
  intro p e s m args below meth c ls hE hl
  obtain ⟨hx, hb, hml, hr, ht, hown, hlocks, hin, rfl, hP, hK, hD, hX, rfl⟩ := hE
  have hown : s.vm.findClass "java/util/ArrayList" = some m.cls := hown
  have hA : ∀ q : Nat, s.heap.size ≤ q → va_A [(h0, .inr (0, [.int 1, .ref h1, .int 1]))] s.heap.size q := fun q h => Or.inr h
  generalize hAe : va_A [(h0, .inr (0, [.int 1, .ref h1, .int 1]))] s.heap.size = A at hD hX hA ⊢
  have hS : va_S A s.heap s.heap [] := va_S.rf
  have hl : lv_has ls 1 [(0, .ref h0)] := hl
  refine lv_aload_n hx hb dJx4a65c_size_8abf5_0 rfl (lv_at hl 0 rfl) ?_
  refine va_get (D := (dC, dI)) (ci := 0) (v := .int 1) (C := RJx4a65c) (T := TJx4a65c) (N := 3) hx hb ht inJx4a65c hown hK hP 0 rfl rfl 2 (by decide) (ht _ mW237) (fun _ h9 => h9) rfl dJx4a65c_size_8abf5_1 ?_
  refine W.widen (k := 0) (n := 0) (Nat.le_of_ble_eq_true rfl) (Nat.le_of_ble_eq_true rfl) ?_
  have hP9 := hP.sub (ws' := [(h0, .inr (0, [.int 1, .ref h1, .int 1]))]) [0] rfl
  have hD9 := hD.sub (ws' := [(h0, .inr (0, [.int 1, .ref h1, .int 1]))]) [0] (by decide) rfl
  have hK9 := hK.sub (tys' := []) [] rfl
  exact W.iret hx hb hr (fun t hH hW => ⟨⟨_, rfl, rfl, by rw [hH]; exact hP9, va_K.moved hW.alike hK9, hD9⟩, hS.F hH⟩) hS.2.2 dJx4a65c_size_8abf5_4 hlocks
set_option maxHeartbeats 4000000 in
set_option maxRecDepth 100000 in
theorem c43_J_checkIndex (l : Launch) (dC : Nat → ClassId) (dI : Nat → Nat → Nat) (sz : Nat) : Met l yJ3_checkIndex_8e157 (.code yJ3_checkIndex_8e157 cJ3_checkIndex_8e157 3 (some .int) :: wAll) ({ frames := 1, cells := 0, slots := 0, locals := 40 }) (pP (dC, dI) [.int 0, .int 1, .null] [] [] sz X0) (qQ (fun (v : Option Value) (t : State) => v = some (.int 0) ∧ va_P (dC, dI) vwCl [] t.heap ∧ va_K (dC, dI) vwCl [] t ∧ va_D (va_A [] sz) []) (va_A [] sz)) 0 0 (va_A [] sz) := by
  refine mkMet (y := yJ3_checkIndex_8e157) (bytes := cJ3_checkIndex_8e157) (maxL := 3) (ret := (some .int)) (rm := { frames := 1, cells := 0, slots := 0, locals := 40 }) (by decide) (Nat.le_of_ble_eq_true rfl) ?_
  intro p e s m args below meth c ls hE hl
  obtain ⟨hx, hb, hml, hr, ht, hown, hlocks, hin, rfl, hP, hK, hD, hX, rfl⟩ := hE
  have hown : s.vm.findClass "jdk/internal/util/Preconditions" = some m.cls := hown
  have hA : ∀ q : Nat, s.heap.size ≤ q → va_A [] s.heap.size q := fun q h => Or.inr h
  generalize hAe : va_A [] s.heap.size = A at hD hX hA ⊢
  have hS : va_S A s.heap s.heap [] := va_S.rf
  have hl : lv_has ls 3 [(0, .int 0), (1, .int 1), (2, .null)] := hl
  refine lv_iload_n hx hb dJ3_checkIndex_8e157_0 rfl (lv_at hl 0 rfl) ?_
  refine lv_if_lt (tgt := 9) hx hb dJ3_checkIndex_8e157_1 (by decide) (fun c => absurd c (by decide)) (fun _ => ?_)
  refine lv_iload_n hx hb dJ3_checkIndex_8e157_4 rfl (lv_at hl 0 rfl) ?_
  refine lv_iload_n hx hb dJ3_checkIndex_8e157_5 rfl (lv_at hl 1 rfl) ?_
  refine lv_icmp_lt (tgt := 16) hx hb dJ3_checkIndex_8e157_6 (by decide) (fun _ => ?_) (fun c => absurd (by decide) c)
  refine lv_iload_n hx hb dJ3_checkIndex_8e157_16 rfl (lv_at hl 0 rfl) ?_
  refine W.widen (k := 0) (n := 0) (Nat.le_of_ble_eq_true rfl) (Nat.le_of_ble_eq_true rfl) ?_
  have hP9 := hP.sub (ws' := []) [] rfl
  have hD9 := hD.sub (ws' := []) [] (by decide) rfl
  have hK9 := hK.sub (tys' := []) [] rfl
  exact W.iret hx hb hr (fun t hH hW => ⟨⟨_, rfl, rfl, by rw [hH]; exact hP9, va_K.moved hW.alike hK9, hD9⟩, hS.F hH⟩) hS.2.2 dJ3_checkIndex_8e157_17 hlocks
set_option maxHeartbeats 4000000 in
set_option maxRecDepth 100000 in
theorem c44_J_checkIndex (l : Launch) (dC : Nat → ClassId) (dI : Nat → Nat → Nat) (sz : Nat) : Met l yJ15_checkIndex_7cf53 (.code yJ15_checkIndex_7cf53 cJ15_checkIndex_7cf53 2 (some .int) :: wAll) ({ frames := 2, cells := 0, slots := 0, locals := 62 }) (pP (dC, dI) [.int 0, .int 1] [] [] sz X0) (qQ (fun (v : Option Value) (t : State) => v = some (.int 0) ∧ va_P (dC, dI) vwCl [] t.heap ∧ va_K (dC, dI) vwCl [] t ∧ va_D (va_A [] sz) []) (va_A [] sz)) 0 0 (va_A [] sz) := by
  refine mkMet (y := yJ15_checkIndex_7cf53) (bytes := cJ15_checkIndex_7cf53) (maxL := 2) (ret := (some .int)) (rm := { frames := 2, cells := 0, slots := 0, locals := 62 }) (by decide) (Nat.le_of_ble_eq_true rfl) ?_
  intro p e s m args below meth c ls hE hl
  obtain ⟨hx, hb, hml, hr, ht, hown, hlocks, hin, rfl, hP, hK, hD, hX, rfl⟩ := hE
  have hown : s.vm.findClass "java/util/Objects" = some m.cls := hown
  have hA : ∀ q : Nat, s.heap.size ≤ q → va_A [] s.heap.size q := fun q h => Or.inr h
  generalize hAe : va_A [] s.heap.size = A at hD hX hA ⊢
  have hS : va_S A s.heap s.heap [] := va_S.rf
  have hl : lv_has ls 2 [(0, .int 0), (1, .int 1)] := hl
  refine lv_iload_n hx hb dJ15_checkIndex_7cf53_0 rfl (lv_at hl 0 rfl) ?_
  refine lv_iload_n hx hb dJ15_checkIndex_7cf53_1 rfl (lv_at hl 1 rfl) ?_
  refine lv_null hx hb dJ15_checkIndex_7cf53_2 ?_
  have hPc := hP.sub (ws' := []) [] rfl
  have hDc := hD.sub (ws' := []) [] (by decide) rfl
  have hKc := hK.sub (tys' := []) [] rfl
  have hFc := va_free (wc := []) hD hS hA [] rfl
  refine pCall (va_runS (As := [.int 0, .int 1, .null]) (rest := []) ⟨hx, hb, hml, hown, ht⟩ (c43_J_checkIndex l dC dI s.heap.size) ⟨cbB 3 ht mW703 mW22 mW701 (by decide +kernel) ⟨(Nat.le_of_ble_eq_true rfl), (Nat.le_of_ble_eq_true rfl)⟩, ht _ mW702⟩ ⟨pP_blind X0_blind, fun U hU hW => ⟨rfl, by rw [hU], by rw [hU]; exact hPc, va_K.moved hW.alike hKc, hDc.weaken (fun _ _ _ _ => trivial), trivial⟩⟩ rfl rfl hl.1 rfl (lv_room (Nat.le_of_ble_eq_true rfl)) dJ15_checkIndex_7cf53_3 ⟨(Nat.le_of_ble_eq_true rfl), (Nat.le_of_ble_eq_true rfl)⟩) hS (fun q h => hFc q h) hFc (fun v t H1 locs hH hvm hB hk1 hS => ?_)
  obtain ⟨hv, hP1, hK1, hD1⟩ := hB
  subst hv
  rw [hH] at hP1
  have hK1 := va_K.moved hvm.symm hK1
  obtain ⟨hP, hD⟩ := va_join (wr := []) (w1 := []) hP hD [] [] rfl rfl (by decide) (by decide) hk1 hFc hP1 hD1
  have hK := (hK.sub (tys' := []) [] rfl).app hK1
  generalize H1 = H at hP hS ⊢
  have hP : va_P (dC, dI) vwCl [] H := hP
  have hD : va_D A [] := hD
  have hK : va_K (dC, dI) vwCl [] s := hK
  refine W.widen (g := F0 m 6 ls [.int 0]) (k := 0) (n := 0) (Nat.le_of_ble_eq_true rfl) (Nat.le_of_ble_eq_true rfl) ?_
  refine W.widen (k := 0) (n := 0) (Nat.le_of_ble_eq_true rfl) (Nat.le_of_ble_eq_true rfl) ?_
  have hP9 := hP.sub (ws' := []) [] rfl
  have hD9 := hD.sub (ws' := []) [] (by decide) rfl
  have hK9 := hK.sub (tys' := []) [] rfl
  exact W.iret hx hb hr (fun t hH hW => ⟨⟨_, rfl, rfl, by rw [hH]; exact hP9, va_K.moved hW.alike hK9, hD9⟩, hS.F hH⟩) hS.2.2 dJ15_checkIndex_7cf53_6 hlocks
set_option maxHeartbeats 4000000 in
set_option maxRecDepth 100000 in
theorem c45_Jx4a65c_elementData (l : Launch) (dC : Nat → ClassId) (dI : Nat → Nat → Nat) (sz : Nat) (h0 h1 h2 : Nat) (k0 : ClassId) : Met l yJx4a65c_elementData_915e3 (.code yJx4a65c_elementData_915e3 cJx4a65c_elementData_915e3 2 (some (.object "java/lang/Object")) :: wAll) ({ frames := 1, cells := 0, slots := 0, locals := 40 }) (pP (dC, dI) [.ref h0, .int 0] [(h0, .inr (0, [.int 1, .ref h1, .int 1])), (h1, .inl (k0, 10, .inr (.inr (.inr (.inr (va_up (fun _ => none) 0 (some h2)))))))] [(k0, .object "java/lang/Object")] sz X0) (qQ (fun (v : Option Value) (t : State) => v = some (.ref h2) ∧ va_P (dC, dI) vwCl [(h0, .inr (0, [.int 1, .ref h1, .int 1])), (h1, .inl (k0, 10, .inr (.inr (.inr (.inr (va_up (fun _ => none) 0 (some h2)))))))] t.heap ∧ va_K (dC, dI) vwCl [(k0, .object "java/lang/Object")] t ∧ va_D (va_A [(h0, .inr (0, [.int 1, .ref h1, .int 1])), (h1, .inl (k0, 10, .inr (.inr (.inr (.inr (va_up (fun _ => none) 0 (some h2)))))))] sz) [(h0, .inr (0, [.int 1, .ref h1, .int 1])), (h1, .inl (k0, 10, .inr (.inr (.inr (.inr (va_up (fun _ => none) 0 (some h2)))))))]) (va_A [(h0, .inr (0, [.int 1, .ref h1, .int 1])), (h1, .inl (k0, 10, .inr (.inr (.inr (.inr (va_up (fun _ => none) 0 (some h2)))))))] sz)) 0 0 (va_A [(h0, .inr (0, [.int 1, .ref h1, .int 1])), (h1, .inl (k0, 10, .inr (.inr (.inr (.inr (va_up (fun _ => none) 0 (some h2)))))))] sz) := by
  refine mkMet (y := yJx4a65c_elementData_915e3) (bytes := cJx4a65c_elementData_915e3) (maxL := 2) (ret := (some (.object "java/lang/Object"))) (rm := { frames := 1, cells := 0, slots := 0, locals := 40 }) (by decide) (Nat.le_of_ble_eq_true rfl) ?_
  intro p e s m args below meth c ls hE hl
  obtain ⟨hx, hb, hml, hr, ht, hown, hlocks, hin, rfl, hP, hK, hD, hX, rfl⟩ := hE
  have hown : s.vm.findClass "java/util/ArrayList" = some m.cls := hown
  have hA : ∀ q : Nat, s.heap.size ≤ q → va_A [(h0, .inr (0, [.int 1, .ref h1, .int 1])), (h1, .inl (k0, 10, .inr (.inr (.inr (.inr (va_up (fun _ => none) 0 (some h2)))))))] s.heap.size q := fun q h => Or.inr h
  generalize hAe : va_A [(h0, .inr (0, [.int 1, .ref h1, .int 1])), (h1, .inl (k0, 10, .inr (.inr (.inr (.inr (va_up (fun _ => none) 0 (some h2)))))))] s.heap.size = A at hD hX hA ⊢
  have hS : va_S A s.heap s.heap [] := va_S.rf
  have hl : lv_has ls 2 [(0, .ref h0), (1, .int 0)] := hl
  refine lv_aload_n hx hb dJx4a65c_elementData_915e3_0 rfl (lv_at hl 0 rfl) ?_
  refine va_get (D := (dC, dI)) (ci := 0) (v := .ref h1) (C := RJx4a65c) (T := TJx4a65c) (N := 3) hx hb ht inJx4a65c hown hK hP 0 rfl rfl 1 (by decide) (ht _ mW236) (fun _ h9 => h9) rfl dJx4a65c_elementData_915e3_1 ?_
  refine lv_iload_n hx hb dJx4a65c_elementData_915e3_4 rfl (lv_at hl 1 rfl) ?_
  refine va_aldq hx hb hK hP 1 0 rfl rfl (by unfold vp_in; decide) dJx4a65c_elementData_915e3_5 ?_
  refine W.eq (g2 := F0 m 6 ls (.ref h2 :: [])) rfl ?_
  refine W.widen (k := 0) (n := 0) (Nat.le_of_ble_eq_true rfl) (Nat.le_of_ble_eq_true rfl) ?_
  have hP9 := hP.sub (ws' := [(h0, .inr (0, [.int 1, .ref h1, .int 1])), (h1, .inl (k0, 10, .inr (.inr (.inr (.inr (va_up (fun _ => none) 0 (some h2)))))))]) [0, 1] rfl
  have hD9 := hD.sub (ws' := [(h0, .inr (0, [.int 1, .ref h1, .int 1])), (h1, .inl (k0, 10, .inr (.inr (.inr (.inr (va_up (fun _ => none) 0 (some h2)))))))]) [0, 1] (by decide) rfl
  have hK9 := hK.sub (tys' := [(k0, .object "java/lang/Object")]) [0] rfl
  exact W.aret (v := .ref h2) hx hb hr (by first | exact Or.inl ⟨_, rfl⟩ | exact Or.inr ⟨_, rfl⟩) (by first | exact Or.inl rfl | exact Or.inr ⟨_, rfl⟩) (fun t hH hW => ⟨⟨_, rfl, rfl, by rw [hH]; exact hP9, va_K.moved hW.alike hK9, hD9⟩, hS.F hH⟩) hS.2.2 dJx4a65c_elementData_915e3_6 hlocks
set_option maxHeartbeats 4000000 in
set_option maxRecDepth 100000 in
theorem c46_Jx4a65c_get (l : Launch) (dC : Nat → ClassId) (dI : Nat → Nat → Nat) (sz : Nat) (h0 h1 h2 : Nat) (k0 : ClassId) : Met l yJx4a65c_get_915e3 (.code yJx4a65c_get_915e3 cJx4a65c_get_915e3 2 (some (.object "java/lang/Object")) :: wAll) ({ frames := 3, cells := 0, slots := 0, locals := 83 }) (pP (dC, dI) [.ref h0, .int 0] [(h0, .inr (0, [.int 1, .ref h1, .int 1])), (h1, .inl (k0, 10, .inr (.inr (.inr (.inr (va_up (fun _ => none) 0 (some h2)))))))] [(k0, .object "java/lang/Object")] sz X0) (qQ (fun (v : Option Value) (t : State) => v = some (.ref h2) ∧ va_P (dC, dI) vwCl [(h0, .inr (0, [.int 1, .ref h1, .int 1])), (h1, .inl (k0, 10, .inr (.inr (.inr (.inr (va_up (fun _ => none) 0 (some h2)))))))] t.heap ∧ va_K (dC, dI) vwCl [(k0, .object "java/lang/Object")] t ∧ va_D (va_A [(h0, .inr (0, [.int 1, .ref h1, .int 1])), (h1, .inl (k0, 10, .inr (.inr (.inr (.inr (va_up (fun _ => none) 0 (some h2)))))))] sz) [(h0, .inr (0, [.int 1, .ref h1, .int 1])), (h1, .inl (k0, 10, .inr (.inr (.inr (.inr (va_up (fun _ => none) 0 (some h2)))))))]) (va_A [(h0, .inr (0, [.int 1, .ref h1, .int 1])), (h1, .inl (k0, 10, .inr (.inr (.inr (.inr (va_up (fun _ => none) 0 (some h2)))))))] sz)) 0 0 (va_A [(h0, .inr (0, [.int 1, .ref h1, .int 1])), (h1, .inl (k0, 10, .inr (.inr (.inr (.inr (va_up (fun _ => none) 0 (some h2)))))))] sz) := by
  refine mkMet (y := yJx4a65c_get_915e3) (bytes := cJx4a65c_get_915e3) (maxL := 2) (ret := (some (.object "java/lang/Object"))) (rm := { frames := 3, cells := 0, slots := 0, locals := 83 }) (by decide) (Nat.le_of_ble_eq_true rfl) ?_
  intro p e s m args below meth c ls hE hl
  obtain ⟨hx, hb, hml, hr, ht, hown, hlocks, hin, rfl, hP, hK, hD, hX, rfl⟩ := hE
  have hown : s.vm.findClass "java/util/ArrayList" = some m.cls := hown
  have hA : ∀ q : Nat, s.heap.size ≤ q → va_A [(h0, .inr (0, [.int 1, .ref h1, .int 1])), (h1, .inl (k0, 10, .inr (.inr (.inr (.inr (va_up (fun _ => none) 0 (some h2)))))))] s.heap.size q := fun q h => Or.inr h
  generalize hAe : va_A [(h0, .inr (0, [.int 1, .ref h1, .int 1])), (h1, .inl (k0, 10, .inr (.inr (.inr (.inr (va_up (fun _ => none) 0 (some h2)))))))] s.heap.size = A at hD hX hA ⊢
  have hS : va_S A s.heap s.heap [] := va_S.rf
  have hl : lv_has ls 2 [(0, .ref h0), (1, .int 0)] := hl
  refine lv_iload_n hx hb dJx4a65c_get_915e3_0 rfl (lv_at hl 1 rfl) ?_
  refine lv_aload_n hx hb dJx4a65c_get_915e3_1 rfl (lv_at hl 0 rfl) ?_
  refine va_get (D := (dC, dI)) (ci := 0) (v := .int 1) (C := RJx4a65c) (T := TJx4a65c) (N := 3) hx hb ht inJx4a65c hown hK hP 0 rfl rfl 2 (by decide) (ht _ mW237) (fun _ h9 => h9) rfl dJx4a65c_get_915e3_2 ?_
  have hPc := hP.sub (ws' := []) [] rfl
  have hDc := hD.sub (ws' := []) [] (by decide) rfl
  have hKc := hK.sub (tys' := []) [] rfl
  have hFc := va_free (wc := []) hD hS hA [] rfl
  refine pCall (va_runS (As := [.int 0, .int 1]) (rest := []) ⟨hx, hb, hml, hown, ht⟩ (c44_J_checkIndex l dC dI s.heap.size) ⟨cbB 2 ht mW700 mW21 mW698 (by decide +kernel) ⟨(Nat.le_of_ble_eq_true rfl), (Nat.le_of_ble_eq_true rfl)⟩, ht _ mW699⟩ ⟨pP_blind X0_blind, fun U hU hW => ⟨rfl, by rw [hU], by rw [hU]; exact hPc, va_K.moved hW.alike hKc, hDc.weaken (fun _ _ _ _ => trivial), trivial⟩⟩ rfl rfl hl.1 rfl (lv_room (Nat.le_of_ble_eq_true rfl)) dJx4a65c_get_915e3_5 ⟨(Nat.le_of_ble_eq_true rfl), (Nat.le_of_ble_eq_true rfl)⟩) hS (fun q h => hFc q h) hFc (fun v t H1 locs hH hvm hB hk1 hS => ?_)
  obtain ⟨hv, hP1, hK1, hD1⟩ := hB
  subst hv
  rw [hH] at hP1
  have hK1 := va_K.moved hvm.symm hK1
  obtain ⟨hP, hD⟩ := va_join (wr := [(h0, .inr (0, [.int 1, .ref h1, .int 1])), (h1, .inl (k0, 10, .inr (.inr (.inr (.inr (va_up (fun _ => none) 0 (some h2)))))))]) (w1 := []) hP hD [] [0, 1] rfl rfl (by decide) (by decide) hk1 hFc hP1 hD1
  have hK := (hK.sub (tys' := [(k0, .object "java/lang/Object")]) [0] rfl).app hK1
  generalize H1 = H at hP hS ⊢
  have hP : va_P (dC, dI) vwCl [(h0, .inr (0, [.int 1, .ref h1, .int 1])), (h1, .inl (k0, 10, .inr (.inr (.inr (.inr (va_up (fun _ => none) 0 (some h2)))))))] H := hP
  have hD : va_D A [(h0, .inr (0, [.int 1, .ref h1, .int 1])), (h1, .inl (k0, 10, .inr (.inr (.inr (.inr (va_up (fun _ => none) 0 (some h2)))))))] := hD
  have hK : va_K (dC, dI) vwCl [(k0, .object "java/lang/Object")] s := hK
  refine W.widen (g := F0 m 8 ls [.int 0]) (k := 0) (n := 0) (Nat.le_of_ble_eq_true rfl) (Nat.le_of_ble_eq_true rfl) ?_
  refine lv_pop hx hb dJx4a65c_get_915e3_8 rfl ?_
  refine lv_aload_n hx hb dJx4a65c_get_915e3_9 rfl (lv_at hl 0 rfl) ?_
  refine lv_iload_n hx hb dJx4a65c_get_915e3_10 rfl (lv_at hl 1 rfl) ?_
  have hPc := hP.sub (ws' := [(h0, .inr (0, [.int 1, .ref h1, .int 1])), (h1, .inl (k0, 10, .inr (.inr (.inr (.inr (va_up (fun _ => none) 0 (some h2)))))))]) [0, 1] rfl
  have hDc := hD.sub (ws' := [(h0, .inr (0, [.int 1, .ref h1, .int 1])), (h1, .inl (k0, 10, .inr (.inr (.inr (.inr (va_up (fun _ => none) 0 (some h2)))))))]) [0, 1] (by decide) rfl
  have hKc := hK.sub (tys' := [(k0, .object "java/lang/Object")]) [0] rfl
  have hFc := va_free (wc := [(h0, .inr (0, [.int 1, .ref h1, .int 1])), (h1, .inl (k0, 10, .inr (.inr (.inr (.inr (va_up (fun _ => none) 0 (some h2)))))))]) hD hS hA [0, 1] rfl
  refine pCall (va_runV (As := [.int 0]) (rest := []) ⟨hx, hb, hml, hown, ht⟩ (c45_Jx4a65c_elementData l dC dI H.size h0 h1 h2 k0) ⟨cbB 1 ht mW707 mW11 mW704 (by decide +kernel) ⟨(Nat.le_of_ble_eq_true rfl), (Nat.le_of_ble_eq_true rfl)⟩, ht _ mW705, ht _ mW706⟩ ⟨pP_blind X0_blind, va_recv hKc hPc (ci := 0) (q0 := 0) rfl rfl, fun U hU hW => ⟨rfl, by rw [hU], by rw [hU]; exact hPc, va_K.moved hW.alike hKc, hDc.weaken (fun _ _ _ _ => trivial), trivial⟩⟩ rfl rfl hl.1 rfl (lv_room (Nat.le_of_ble_eq_true rfl)) dJx4a65c_get_915e3_11 ⟨(Nat.le_of_ble_eq_true rfl), (Nat.le_of_ble_eq_true rfl)⟩) hS (fun q h => hFc q h) hFc (fun v t H1 locs hH hvm hB hk1 hS => ?_)
  obtain ⟨hv, hP1, hK1, hD1⟩ := hB
  subst hv
  rw [hH] at hP1
  have hK1 := va_K.moved hvm.symm hK1
  obtain ⟨hP, hD⟩ := va_join (wr := []) (w1 := [(h0, .inr (0, [.int 1, .ref h1, .int 1])), (h1, .inl (k0, 10, .inr (.inr (.inr (.inr (va_up (fun _ => none) 0 (some h2)))))))]) hP hD [0, 1] [] rfl rfl (by decide) (by decide) hk1 hFc hP1 hD1
  have hK := (hK.sub (tys' := []) [] rfl).app hK1
  generalize H1 = H at hP hS ⊢
  have hP : va_P (dC, dI) vwCl [(h0, .inr (0, [.int 1, .ref h1, .int 1])), (h1, .inl (k0, 10, .inr (.inr (.inr (.inr (va_up (fun _ => none) 0 (some h2)))))))] H := hP
  have hD : va_D A [(h0, .inr (0, [.int 1, .ref h1, .int 1])), (h1, .inl (k0, 10, .inr (.inr (.inr (.inr (va_up (fun _ => none) 0 (some h2)))))))] := hD
  have hK : va_K (dC, dI) vwCl [(k0, .object "java/lang/Object")] s := hK
  refine W.widen (g := F0 m 14 ls [.ref h2]) (k := 0) (n := 0) (Nat.le_of_ble_eq_true rfl) (Nat.le_of_ble_eq_true rfl) ?_
  refine W.widen (k := 0) (n := 0) (Nat.le_of_ble_eq_true rfl) (Nat.le_of_ble_eq_true rfl) ?_
  have hP9 := hP.sub (ws' := [(h0, .inr (0, [.int 1, .ref h1, .int 1])), (h1, .inl (k0, 10, .inr (.inr (.inr (.inr (va_up (fun _ => none) 0 (some h2)))))))]) [0, 1] rfl
  have hD9 := hD.sub (ws' := [(h0, .inr (0, [.int 1, .ref h1, .int 1])), (h1, .inl (k0, 10, .inr (.inr (.inr (.inr (va_up (fun _ => none) 0 (some h2)))))))]) [0, 1] (by decide) rfl
  have hK9 := hK.sub (tys' := [(k0, .object "java/lang/Object")]) [0] rfl
  exact W.aret (v := .ref h2) hx hb hr (by first | exact Or.inl ⟨_, rfl⟩ | exact Or.inr ⟨_, rfl⟩) (by first | exact Or.inl rfl | exact Or.inr ⟨_, rfl⟩) (fun t hH hW => ⟨⟨_, rfl, rfl, by rw [hH]; exact hP9, va_K.moved hW.alike hK9, hD9⟩, hS.F hH⟩) hS.2.2 dJx4a65c_get_915e3_14 hlocks
set_option maxHeartbeats 4000000 in
set_option maxRecDepth 100000 in
theorem c47_X7_push (l : Launch) (dC : Nat → ClassId) (dI : Nat → Nat → Nat) (sz : Nat) (h0 h1 h2 h3 h4 h5 h6 h7 h8 h9 h10 h11 : Nat) (k0 : ClassId) : Met l yX7_push (.code yX7_push cX7_push 3 (some (.object "CommandHouse$Frame")) :: wAll) ({ frames := 4, cells := 0, slots := 0, locals := 104 }) (pP (dC, dI) [.ref h0, .int 0] [(h0, .inr (8, [.ref h4, .ref h5, .ref h6, .ref h1, .int 0, .ref h7, .ref h8, .ref h7, .ref h9, .int 0, .ref h10, .ref h11, .int 0, .int (-1)])), (h1, .inr (0, [.int 1, .ref h2, .int 1])), (h2, .inl (k0, 10, .inr (.inr (.inr (.inr (va_up (fun _ => none) 0 (some h3))))))), (h3, .inr (6, [.int 0, .null, .int 0, .null, .null, .int 0, .null, .int 0, .int 0, .int 0, .int 0, .null, .int 0, .null, .int 0, .null, .int 0, .null, .null]))] [(k0, .object "java/lang/Object")] sz X0) (qQ (fun (v : Option Value) (t : State) => v = some (.ref h3) ∧ va_P (dC, dI) vwCl [(h0, .inr (8, [.ref h4, .ref h5, .ref h6, .ref h1, .int 1, .ref h7, .ref h8, .ref h7, .ref h9, .int 0, .ref h10, .ref h11, .int 0, .int (-1)])), (h1, .inr (0, [.int 1, .ref h2, .int 1])), (h2, .inl (k0, 10, .inr (.inr (.inr (.inr (va_up (fun _ => none) 0 (some h3))))))), (h3, .inr (6, [.int 0, .ref h9, .int 0, .ref h10, .ref h11, .int 0, .null, .int 0, .int 0, .int 0, .int 0, .null, .int 0, .null, .int 0, .null, .int 0, .null, .null]))] t.heap ∧ va_K (dC, dI) vwCl [(k0, .object "java/lang/Object")] t ∧ va_D (va_A [(h0, .inr (8, [.ref h4, .ref h5, .ref h6, .ref h1, .int 0, .ref h7, .ref h8, .ref h7, .ref h9, .int 0, .ref h10, .ref h11, .int 0, .int (-1)])), (h1, .inr (0, [.int 1, .ref h2, .int 1])), (h2, .inl (k0, 10, .inr (.inr (.inr (.inr (va_up (fun _ => none) 0 (some h3))))))), (h3, .inr (6, [.int 0, .null, .int 0, .null, .null, .int 0, .null, .int 0, .int 0, .int 0, .int 0, .null, .int 0, .null, .int 0, .null, .int 0, .null, .null]))] sz) [(h0, .inr (8, [.ref h4, .ref h5, .ref h6, .ref h1, .int 1, .ref h7, .ref h8, .ref h7, .ref h9, .int 0, .ref h10, .ref h11, .int 0, .int (-1)])), (h1, .inr (0, [.int 1, .ref h2, .int 1])), (h2, .inl (k0, 10, .inr (.inr (.inr (.inr (va_up (fun _ => none) 0 (some h3))))))), (h3, .inr (6, [.int 0, .ref h9, .int 0, .ref h10, .ref h11, .int 0, .null, .int 0, .int 0, .int 0, .int 0, .null, .int 0, .null, .int 0, .null, .int 0, .null, .null]))]) (va_A [(h0, .inr (8, [.ref h4, .ref h5, .ref h6, .ref h1, .int 0, .ref h7, .ref h8, .ref h7, .ref h9, .int 0, .ref h10, .ref h11, .int 0, .int (-1)])), (h1, .inr (0, [.int 1, .ref h2, .int 1])), (h2, .inl (k0, 10, .inr (.inr (.inr (.inr (va_up (fun _ => none) 0 (some h3))))))), (h3, .inr (6, [.int 0, .null, .int 0, .null, .null, .int 0, .null, .int 0, .int 0, .int 0, .int 0, .null, .int 0, .null, .int 0, .null, .int 0, .null, .null]))] sz)) 0 0 (va_A [(h0, .inr (8, [.ref h4, .ref h5, .ref h6, .ref h1, .int 0, .ref h7, .ref h8, .ref h7, .ref h9, .int 0, .ref h10, .ref h11, .int 0, .int (-1)])), (h1, .inr (0, [.int 1, .ref h2, .int 1])), (h2, .inl (k0, 10, .inr (.inr (.inr (.inr (va_up (fun _ => none) 0 (some h3))))))), (h3, .inr (6, [.int 0, .null, .int 0, .null, .null, .int 0, .null, .int 0, .int 0, .int 0, .int 0, .null, .int 0, .null, .int 0, .null, .int 0, .null, .null]))] sz) := by
  refine mkMet (y := yX7_push) (bytes := cX7_push) (maxL := 3) (ret := (some (.object "CommandHouse$Frame"))) (rm := { frames := 4, cells := 0, slots := 0, locals := 104 }) (by decide) (Nat.le_of_ble_eq_true rfl) ?_
  intro p e s m args below meth c ls hE hl
  obtain ⟨hx, hb, hml, hr, ht, hown, hlocks, hin, rfl, hP, hK, hD, hX, rfl⟩ := hE
  have hown : s.vm.findClass "CommandHouse$Machine" = some m.cls := hown
  have hA : ∀ q : Nat, s.heap.size ≤ q → va_A [(h0, .inr (8, [.ref h4, .ref h5, .ref h6, .ref h1, .int 0, .ref h7, .ref h8, .ref h7, .ref h9, .int 0, .ref h10, .ref h11, .int 0, .int (-1)])), (h1, .inr (0, [.int 1, .ref h2, .int 1])), (h2, .inl (k0, 10, .inr (.inr (.inr (.inr (va_up (fun _ => none) 0 (some h3))))))), (h3, .inr (6, [.int 0, .null, .int 0, .null, .null, .int 0, .null, .int 0, .int 0, .int 0, .int 0, .null, .int 0, .null, .int 0, .null, .int 0, .null, .null]))] s.heap.size q := fun q h => Or.inr h
  generalize hAe : va_A [(h0, .inr (8, [.ref h4, .ref h5, .ref h6, .ref h1, .int 0, .ref h7, .ref h8, .ref h7, .ref h9, .int 0, .ref h10, .ref h11, .int 0, .int (-1)])), (h1, .inr (0, [.int 1, .ref h2, .int 1])), (h2, .inl (k0, 10, .inr (.inr (.inr (.inr (va_up (fun _ => none) 0 (some h3))))))), (h3, .inr (6, [.int 0, .null, .int 0, .null, .null, .int 0, .null, .int 0, .int 0, .int 0, .int 0, .null, .int 0, .null, .int 0, .null, .int 0, .null, .null]))] s.heap.size = A at hD hX hA ⊢
  have hS : va_S A s.heap s.heap [] := va_S.rf
  have hl : lv_has ls 3 [(0, .ref h0), (1, .int 0)] := hl
  refine lv_aload_n hx hb dX7_push_0 rfl (lv_at hl 0 rfl) ?_
  refine va_get (D := (dC, dI)) (ci := 8) (v := .int 0) (C := RX7) (T := TX7) (N := 14) hx hb ht inX7 hown hK hP 0 rfl rfl 4 (by decide) (ht _ mW581) (fun _ h9 => h9) rfl dX7_push_1 ?_
  refine lv_aload_n hx hb dX7_push_4 rfl (lv_at hl 0 rfl) ?_
  refine va_get (D := (dC, dI)) (ci := 8) (v := .ref h1) (C := RX7) (T := TX7) (N := 14) hx hb ht inX7 hown hK hP 0 rfl rfl 3 (by decide) (ht _ mW580) (fun _ h9 => h9) rfl dX7_push_5 ?_
  have hPc := hP.sub (ws' := [(h1, .inr (0, [.int 1, .ref h2, .int 1]))]) [1] rfl
  have hDc := hD.sub (ws' := [(h1, .inr (0, [.int 1, .ref h2, .int 1]))]) [1] (by decide) rfl
  have hKc := hK.sub (tys' := []) [] rfl
  have hFc := va_free (wc := [(h1, .inr (0, [.int 1, .ref h2, .int 1]))]) hD hS hA [1] rfl
  refine pCall (va_runV (As := []) (rest := [.int 0]) ⟨hx, hb, hml, hown, ht⟩ (c42_Jx4a65c_size l dC dI s.heap.size h1 h2) ⟨cbB 0 ht mW693 mW11 mW690 (by decide +kernel) ⟨(Nat.le_of_ble_eq_true rfl), (Nat.le_of_ble_eq_true rfl)⟩, ht _ mW691, ht _ mW692⟩ ⟨pP_blind X0_blind, va_recv hKc hPc (ci := 0) (q0 := 0) rfl rfl, fun U hU hW => ⟨rfl, by rw [hU], by rw [hU]; exact hPc, va_K.moved hW.alike hKc, hDc.weaken (fun _ _ _ _ => trivial), trivial⟩⟩ rfl rfl hl.1 rfl (lv_room (Nat.le_of_ble_eq_true rfl)) dX7_push_8 ⟨(Nat.le_of_ble_eq_true rfl), (Nat.le_of_ble_eq_true rfl)⟩) hS (fun q h => hFc q h) hFc (fun v t H1 locs hH hvm hB hk1 hS => ?_)
  obtain ⟨hv, hP1, hK1, hD1⟩ := hB
  subst hv
  rw [hH] at hP1
  have hK1 := va_K.moved hvm.symm hK1
  obtain ⟨hP, hD⟩ := va_join (wr := [(h0, .inr (8, [.ref h4, .ref h5, .ref h6, .ref h1, .int 0, .ref h7, .ref h8, .ref h7, .ref h9, .int 0, .ref h10, .ref h11, .int 0, .int (-1)])), (h2, .inl (k0, 10, .inr (.inr (.inr (.inr (va_up (fun _ => none) 0 (some h3))))))), (h3, .inr (6, [.int 0, .null, .int 0, .null, .null, .int 0, .null, .int 0, .int 0, .int 0, .int 0, .null, .int 0, .null, .int 0, .null, .int 0, .null, .null]))]) (w1 := [(h1, .inr (0, [.int 1, .ref h2, .int 1]))]) hP hD [1] [0, 2, 3] rfl rfl (by decide) (by decide) hk1 hFc hP1 hD1
  have hK := (hK.sub (tys' := [(k0, .object "java/lang/Object")]) [0] rfl).app hK1
  generalize H1 = H at hP hS ⊢
  have hP : va_P (dC, dI) vwCl [(h0, .inr (8, [.ref h4, .ref h5, .ref h6, .ref h1, .int 0, .ref h7, .ref h8, .ref h7, .ref h9, .int 0, .ref h10, .ref h11, .int 0, .int (-1)])), (h2, .inl (k0, 10, .inr (.inr (.inr (.inr (va_up (fun _ => none) 0 (some h3))))))), (h3, .inr (6, [.int 0, .null, .int 0, .null, .null, .int 0, .null, .int 0, .int 0, .int 0, .int 0, .null, .int 0, .null, .int 0, .null, .int 0, .null, .null])), (h1, .inr (0, [.int 1, .ref h2, .int 1]))] H := hP
  have hD : va_D A [(h0, .inr (8, [.ref h4, .ref h5, .ref h6, .ref h1, .int 0, .ref h7, .ref h8, .ref h7, .ref h9, .int 0, .ref h10, .ref h11, .int 0, .int (-1)])), (h2, .inl (k0, 10, .inr (.inr (.inr (.inr (va_up (fun _ => none) 0 (some h3))))))), (h3, .inr (6, [.int 0, .null, .int 0, .null, .null, .int 0, .null, .int 0, .int 0, .int 0, .int 0, .null, .int 0, .null, .int 0, .null, .int 0, .null, .null])), (h1, .inr (0, [.int 1, .ref h2, .int 1]))] := hD
  have hK : va_K (dC, dI) vwCl [(k0, .object "java/lang/Object")] s := hK
  refine W.widen (g := F0 m 11 ls [.int 1, .int 0]) (k := 0) (n := 0) (Nat.le_of_ble_eq_true rfl) (Nat.le_of_ble_eq_true rfl) ?_
  refine lv_icmp_lt (tgt := 40) hx hb dX7_push_11 (by decide) (fun _ => ?_) (fun c => absurd (by decide) c)
  refine lv_aload_n hx hb dX7_push_40 rfl (lv_at hl 0 rfl) ?_
  refine va_get (D := (dC, dI)) (ci := 8) (v := .ref h1) (C := RX7) (T := TX7) (N := 14) hx hb ht inX7 hown hK hP 0 rfl rfl 3 (by decide) (ht _ mW580) (fun _ h9 => h9) rfl dX7_push_41 ?_
  refine lv_aload_n hx hb dX7_push_44 rfl (lv_at hl 0 rfl) ?_
  refine va_get (D := (dC, dI)) (ci := 8) (v := .int 0) (C := RX7) (T := TX7) (N := 14) hx hb ht inX7 hown hK hP 0 rfl rfl 4 (by decide) (ht _ mW581) (fun _ h9 => h9) rfl dX7_push_45 ?_
  have hPc := hP.sub (ws' := [(h1, .inr (0, [.int 1, .ref h2, .int 1])), (h2, .inl (k0, 10, .inr (.inr (.inr (.inr (va_up (fun _ => none) 0 (some h3)))))))]) [3, 1] rfl
  have hDc := hD.sub (ws' := [(h1, .inr (0, [.int 1, .ref h2, .int 1])), (h2, .inl (k0, 10, .inr (.inr (.inr (.inr (va_up (fun _ => none) 0 (some h3)))))))]) [3, 1] (by decide) rfl
  have hKc := hK.sub (tys' := [(k0, .object "java/lang/Object")]) [0] rfl
  have hFc := va_free (wc := [(h1, .inr (0, [.int 1, .ref h2, .int 1])), (h2, .inl (k0, 10, .inr (.inr (.inr (.inr (va_up (fun _ => none) 0 (some h3)))))))]) hD hS hA [3, 1] rfl
  refine pCall (va_runV (As := [.int 0]) (rest := []) ⟨hx, hb, hml, hown, ht⟩ (c46_Jx4a65c_get l dC dI H.size h1 h2 h3 k0) ⟨cbB 1 ht mW697 mW11 mW694 (by decide +kernel) ⟨(Nat.le_of_ble_eq_true rfl), (Nat.le_of_ble_eq_true rfl)⟩, ht _ mW695, ht _ mW696⟩ ⟨pP_blind X0_blind, va_recv hKc hPc (ci := 0) (q0 := 0) rfl rfl, fun U hU hW => ⟨rfl, by rw [hU], by rw [hU]; exact hPc, va_K.moved hW.alike hKc, hDc.weaken (fun _ _ _ _ => trivial), trivial⟩⟩ rfl rfl hl.1 rfl (lv_room (Nat.le_of_ble_eq_true rfl)) dX7_push_48 ⟨(Nat.le_of_ble_eq_true rfl), (Nat.le_of_ble_eq_true rfl)⟩) hS (fun q h => hFc q h) hFc (fun v t H1 locs hH hvm hB hk1 hS => ?_)
  obtain ⟨hv, hP1, hK1, hD1⟩ := hB
  subst hv
  rw [hH] at hP1
  have hK1 := va_K.moved hvm.symm hK1
  obtain ⟨hP, hD⟩ := va_join (wr := [(h0, .inr (8, [.ref h4, .ref h5, .ref h6, .ref h1, .int 0, .ref h7, .ref h8, .ref h7, .ref h9, .int 0, .ref h10, .ref h11, .int 0, .int (-1)])), (h3, .inr (6, [.int 0, .null, .int 0, .null, .null, .int 0, .null, .int 0, .int 0, .int 0, .int 0, .null, .int 0, .null, .int 0, .null, .int 0, .null, .null]))]) (w1 := [(h1, .inr (0, [.int 1, .ref h2, .int 1])), (h2, .inl (k0, 10, .inr (.inr (.inr (.inr (va_up (fun _ => none) 0 (some h3)))))))]) hP hD [3, 1] [0, 2] rfl rfl (by decide) (by decide) hk1 hFc hP1 hD1
  have hK := (hK.sub (tys' := []) [] rfl).app hK1
  generalize H1 = H at hP hS ⊢
  have hP : va_P (dC, dI) vwCl [(h0, .inr (8, [.ref h4, .ref h5, .ref h6, .ref h1, .int 0, .ref h7, .ref h8, .ref h7, .ref h9, .int 0, .ref h10, .ref h11, .int 0, .int (-1)])), (h3, .inr (6, [.int 0, .null, .int 0, .null, .null, .int 0, .null, .int 0, .int 0, .int 0, .int 0, .null, .int 0, .null, .int 0, .null, .int 0, .null, .null])), (h1, .inr (0, [.int 1, .ref h2, .int 1])), (h2, .inl (k0, 10, .inr (.inr (.inr (.inr (va_up (fun _ => none) 0 (some h3)))))))] H := hP
  have hD : va_D A [(h0, .inr (8, [.ref h4, .ref h5, .ref h6, .ref h1, .int 0, .ref h7, .ref h8, .ref h7, .ref h9, .int 0, .ref h10, .ref h11, .int 0, .int (-1)])), (h3, .inr (6, [.int 0, .null, .int 0, .null, .null, .int 0, .null, .int 0, .int 0, .int 0, .int 0, .null, .int 0, .null, .int 0, .null, .int 0, .null, .null])), (h1, .inr (0, [.int 1, .ref h2, .int 1])), (h2, .inl (k0, 10, .inr (.inr (.inr (.inr (va_up (fun _ => none) 0 (some h3)))))))] := hD
  have hK : va_K (dC, dI) vwCl [(k0, .object "java/lang/Object")] s := hK
  refine W.widen (g := F0 m 51 ls [.ref h3]) (k := 0) (n := 0) (Nat.le_of_ble_eq_true rfl) (Nat.le_of_ble_eq_true rfl) ?_
  refine va_castS hx hb hown (ht _ mW455) (hK.1 6 _ rfl).2 (va_recv hK hP (ci := 6) (q0 := 1) rfl rfl) dX7_push_51 ?_
  refine lv_astore_n (lv' := [(2, .ref h3), (0, .ref h0), (1, .int 0)]) hx hb dX7_push_54 rfl hl (by decide) rfl (fun ls hl => ?_)
  refine lv_aload_n hx hb dX7_push_55 rfl (lv_at hl 1 rfl) ?_
  refine lv_dup hx hb dX7_push_56 rfl ?_
  refine va_get (D := (dC, dI)) (ci := 8) (v := .int 0) (C := RX7) (T := TX7) (N := 14) hx hb ht inX7 hown hK hP 0 rfl rfl 4 (by decide) (ht _ mW581) (fun _ h9 => h9) rfl dX7_push_57 ?_
  refine lv_iconst (v := 1) hx hb dX7_push_60 (by decide) ?_
  refine lv_iadd hx hb dX7_push_61 ?_
  refine W.eq (congrArg (fun z => F0 m 62 ls (.int z :: [.ref h0])) (by decide : (0 + 1 : Int32) = 1)) ?_
  refine va_put (D := (dC, dI)) (ci := 8) (v := .int 1) (ty := .int) (C := RX7) (T := TX7) (N := 14) hx hb ht inX7 tyX7 tyX7_ok nmX7 hown hK hP hD hS 0 rfl rfl 4 (by decide) (ht _ mW581) (fun _ h9 => h9) rfl (by decide +kernel) rfl rfl (Nat.le_of_ble_eq_true rfl) dX7_push_62 (fun H locs hP hD hS => ?_)
  have hP : va_P (dC, dI) vwCl [(h0, .inr (8, [.ref h4, .ref h5, .ref h6, .ref h1, .int 1, .ref h7, .ref h8, .ref h7, .ref h9, .int 0, .ref h10, .ref h11, .int 0, .int (-1)])), (h3, .inr (6, [.int 0, .null, .int 0, .null, .null, .int 0, .null, .int 0, .int 0, .int 0, .int 0, .null, .int 0, .null, .int 0, .null, .int 0, .null, .null])), (h1, .inr (0, [.int 1, .ref h2, .int 1])), (h2, .inl (k0, 10, .inr (.inr (.inr (.inr (va_up (fun _ => none) 0 (some h3)))))))] H := hP
  have hD : va_D A [(h0, .inr (8, [.ref h4, .ref h5, .ref h6, .ref h1, .int 1, .ref h7, .ref h8, .ref h7, .ref h9, .int 0, .ref h10, .ref h11, .int 0, .int (-1)])), (h3, .inr (6, [.int 0, .null, .int 0, .null, .null, .int 0, .null, .int 0, .int 0, .int 0, .int 0, .null, .int 0, .null, .int 0, .null, .int 0, .null, .null])), (h1, .inr (0, [.int 1, .ref h2, .int 1])), (h2, .inl (k0, 10, .inr (.inr (.inr (.inr (va_up (fun _ => none) 0 (some h3)))))))] := hD
  refine lv_aload_n hx hb dX7_push_65 rfl (lv_at hl 0 rfl) ?_
  refine lv_iload_n hx hb dX7_push_66 rfl (lv_at hl 2 rfl) ?_
  refine va_putN (D := (dC, dI)) (ci := 6) (v := .int 0) (ty := .int) (C := RX5) (T := TX5) (N := 19) hx hb ht inX5 tyX5 tyX5_ok nmX5 hown hK hP hD hS 1 rfl rfl 0 (by decide) (ht _ mW461) (fun _ h9 => h9) rfl (by decide +kernel) rfl rfl (Nat.le_of_ble_eq_true rfl) dX7_push_67 (fun H locs hP hD hS => ?_)
  have hP : va_P (dC, dI) vwCl [(h0, .inr (8, [.ref h4, .ref h5, .ref h6, .ref h1, .int 1, .ref h7, .ref h8, .ref h7, .ref h9, .int 0, .ref h10, .ref h11, .int 0, .int (-1)])), (h3, .inr (6, [.int 0, .null, .int 0, .null, .null, .int 0, .null, .int 0, .int 0, .int 0, .int 0, .null, .int 0, .null, .int 0, .null, .int 0, .null, .null])), (h1, .inr (0, [.int 1, .ref h2, .int 1])), (h2, .inl (k0, 10, .inr (.inr (.inr (.inr (va_up (fun _ => none) 0 (some h3)))))))] H := hP
  have hD : va_D A [(h0, .inr (8, [.ref h4, .ref h5, .ref h6, .ref h1, .int 1, .ref h7, .ref h8, .ref h7, .ref h9, .int 0, .ref h10, .ref h11, .int 0, .int (-1)])), (h3, .inr (6, [.int 0, .null, .int 0, .null, .null, .int 0, .null, .int 0, .int 0, .int 0, .int 0, .null, .int 0, .null, .int 0, .null, .int 0, .null, .null])), (h1, .inr (0, [.int 1, .ref h2, .int 1])), (h2, .inl (k0, 10, .inr (.inr (.inr (.inr (va_up (fun _ => none) 0 (some h3)))))))] := hD
  refine lv_aload_n hx hb dX7_push_70 rfl (lv_at hl 0 rfl) ?_
  refine lv_aload_n hx hb dX7_push_71 rfl (lv_at hl 1 rfl) ?_
  refine va_get (D := (dC, dI)) (ci := 8) (v := .ref h9) (C := RX7) (T := TX7) (N := 14) hx hb ht inX7 hown hK hP 0 rfl rfl 8 (by decide) (ht _ mW588) (fun _ h9 => h9) rfl dX7_push_72 ?_
  refine va_putN (D := (dC, dI)) (ci := 6) (v := .ref h9) (ty := (.object "CommandHouse$Script")) (C := RX5) (T := TX5) (N := 19) hx hb ht inX5 tyX5 tyX5_ok nmX5 hown hK hP hD hS 1 rfl rfl 1 (by decide) (ht _ mW462) (fun _ h9 => h9) rfl (by decide +kernel) rfl rfl (Nat.le_of_ble_eq_true rfl) dX7_push_75 (fun H locs hP hD hS => ?_)
  have hP : va_P (dC, dI) vwCl [(h0, .inr (8, [.ref h4, .ref h5, .ref h6, .ref h1, .int 1, .ref h7, .ref h8, .ref h7, .ref h9, .int 0, .ref h10, .ref h11, .int 0, .int (-1)])), (h3, .inr (6, [.int 0, .ref h9, .int 0, .null, .null, .int 0, .null, .int 0, .int 0, .int 0, .int 0, .null, .int 0, .null, .int 0, .null, .int 0, .null, .null])), (h1, .inr (0, [.int 1, .ref h2, .int 1])), (h2, .inl (k0, 10, .inr (.inr (.inr (.inr (va_up (fun _ => none) 0 (some h3)))))))] H := hP
  have hD : va_D A [(h0, .inr (8, [.ref h4, .ref h5, .ref h6, .ref h1, .int 1, .ref h7, .ref h8, .ref h7, .ref h9, .int 0, .ref h10, .ref h11, .int 0, .int (-1)])), (h3, .inr (6, [.int 0, .ref h9, .int 0, .null, .null, .int 0, .null, .int 0, .int 0, .int 0, .int 0, .null, .int 0, .null, .int 0, .null, .int 0, .null, .null])), (h1, .inr (0, [.int 1, .ref h2, .int 1])), (h2, .inl (k0, 10, .inr (.inr (.inr (.inr (va_up (fun _ => none) 0 (some h3)))))))] := hD
  refine lv_aload_n hx hb dX7_push_78 rfl (lv_at hl 0 rfl) ?_
  refine lv_aload_n hx hb dX7_push_79 rfl (lv_at hl 1 rfl) ?_
  refine va_get (D := (dC, dI)) (ci := 8) (v := .int 0) (C := RX7) (T := TX7) (N := 14) hx hb ht inX7 hown hK hP 0 rfl rfl 9 (by decide) (ht _ mW590) (fun _ h9 => h9) rfl dX7_push_80 ?_
  refine va_putN (D := (dC, dI)) (ci := 6) (v := .int 0) (ty := .int) (C := RX5) (T := TX5) (N := 19) hx hb ht inX5 tyX5 tyX5_ok nmX5 hown hK hP hD hS 1 rfl rfl 2 (by decide) (ht _ mW463) (fun _ h9 => h9) rfl (by decide +kernel) rfl rfl (Nat.le_of_ble_eq_true rfl) dX7_push_83 (fun H locs hP hD hS => ?_)
  have hP : va_P (dC, dI) vwCl [(h0, .inr (8, [.ref h4, .ref h5, .ref h6, .ref h1, .int 1, .ref h7, .ref h8, .ref h7, .ref h9, .int 0, .ref h10, .ref h11, .int 0, .int (-1)])), (h3, .inr (6, [.int 0, .ref h9, .int 0, .null, .null, .int 0, .null, .int 0, .int 0, .int 0, .int 0, .null, .int 0, .null, .int 0, .null, .int 0, .null, .null])), (h1, .inr (0, [.int 1, .ref h2, .int 1])), (h2, .inl (k0, 10, .inr (.inr (.inr (.inr (va_up (fun _ => none) 0 (some h3)))))))] H := hP
  have hD : va_D A [(h0, .inr (8, [.ref h4, .ref h5, .ref h6, .ref h1, .int 1, .ref h7, .ref h8, .ref h7, .ref h9, .int 0, .ref h10, .ref h11, .int 0, .int (-1)])), (h3, .inr (6, [.int 0, .ref h9, .int 0, .null, .null, .int 0, .null, .int 0, .int 0, .int 0, .int 0, .null, .int 0, .null, .int 0, .null, .int 0, .null, .null])), (h1, .inr (0, [.int 1, .ref h2, .int 1])), (h2, .inl (k0, 10, .inr (.inr (.inr (.inr (va_up (fun _ => none) 0 (some h3)))))))] := hD
  refine lv_aload_n hx hb dX7_push_86 rfl (lv_at hl 0 rfl) ?_
  refine lv_aload_n hx hb dX7_push_87 rfl (lv_at hl 1 rfl) ?_
  refine va_get (D := (dC, dI)) (ci := 8) (v := .ref h10) (C := RX7) (T := TX7) (N := 14) hx hb ht inX7 hown hK hP 0 rfl rfl 10 (by decide) (ht _ mW591) (fun _ h9 => h9) rfl dX7_push_88 ?_
  refine va_putN (D := (dC, dI)) (ci := 6) (v := .ref h10) (ty := (.object "CommandHouse$Input")) (C := RX5) (T := TX5) (N := 19) hx hb ht inX5 tyX5 tyX5_ok nmX5 hown hK hP hD hS 1 rfl rfl 3 (by decide) (ht _ mW464) (fun _ h9 => h9) rfl (by decide +kernel) rfl rfl (Nat.le_of_ble_eq_true rfl) dX7_push_91 (fun H locs hP hD hS => ?_)
  have hP : va_P (dC, dI) vwCl [(h0, .inr (8, [.ref h4, .ref h5, .ref h6, .ref h1, .int 1, .ref h7, .ref h8, .ref h7, .ref h9, .int 0, .ref h10, .ref h11, .int 0, .int (-1)])), (h3, .inr (6, [.int 0, .ref h9, .int 0, .ref h10, .null, .int 0, .null, .int 0, .int 0, .int 0, .int 0, .null, .int 0, .null, .int 0, .null, .int 0, .null, .null])), (h1, .inr (0, [.int 1, .ref h2, .int 1])), (h2, .inl (k0, 10, .inr (.inr (.inr (.inr (va_up (fun _ => none) 0 (some h3)))))))] H := hP
  have hD : va_D A [(h0, .inr (8, [.ref h4, .ref h5, .ref h6, .ref h1, .int 1, .ref h7, .ref h8, .ref h7, .ref h9, .int 0, .ref h10, .ref h11, .int 0, .int (-1)])), (h3, .inr (6, [.int 0, .ref h9, .int 0, .ref h10, .null, .int 0, .null, .int 0, .int 0, .int 0, .int 0, .null, .int 0, .null, .int 0, .null, .int 0, .null, .null])), (h1, .inr (0, [.int 1, .ref h2, .int 1])), (h2, .inl (k0, 10, .inr (.inr (.inr (.inr (va_up (fun _ => none) 0 (some h3)))))))] := hD
  refine lv_aload_n hx hb dX7_push_94 rfl (lv_at hl 0 rfl) ?_
  refine lv_aload_n hx hb dX7_push_95 rfl (lv_at hl 1 rfl) ?_
  refine va_get (D := (dC, dI)) (ci := 8) (v := .ref h11) (C := RX7) (T := TX7) (N := 14) hx hb ht inX7 hown hK hP 0 rfl rfl 11 (by decide) (ht _ mW593) (fun _ h9 => h9) rfl dX7_push_96 ?_
  refine va_putN (D := (dC, dI)) (ci := 6) (v := .ref h11) (ty := (.object "CommandHouse$Bytes")) (C := RX5) (T := TX5) (N := 19) hx hb ht inX5 tyX5 tyX5_ok nmX5 hown hK hP hD hS 1 rfl rfl 4 (by decide) (ht _ mW465) (fun _ h9 => h9) rfl (by decide +kernel) rfl rfl (Nat.le_of_ble_eq_true rfl) dX7_push_99 (fun H locs hP hD hS => ?_)
  have hP : va_P (dC, dI) vwCl [(h0, .inr (8, [.ref h4, .ref h5, .ref h6, .ref h1, .int 1, .ref h7, .ref h8, .ref h7, .ref h9, .int 0, .ref h10, .ref h11, .int 0, .int (-1)])), (h3, .inr (6, [.int 0, .ref h9, .int 0, .ref h10, .ref h11, .int 0, .null, .int 0, .int 0, .int 0, .int 0, .null, .int 0, .null, .int 0, .null, .int 0, .null, .null])), (h1, .inr (0, [.int 1, .ref h2, .int 1])), (h2, .inl (k0, 10, .inr (.inr (.inr (.inr (va_up (fun _ => none) 0 (some h3)))))))] H := hP
  have hD : va_D A [(h0, .inr (8, [.ref h4, .ref h5, .ref h6, .ref h1, .int 1, .ref h7, .ref h8, .ref h7, .ref h9, .int 0, .ref h10, .ref h11, .int 0, .int (-1)])), (h3, .inr (6, [.int 0, .ref h9, .int 0, .ref h10, .ref h11, .int 0, .null, .int 0, .int 0, .int 0, .int 0, .null, .int 0, .null, .int 0, .null, .int 0, .null, .null])), (h1, .inr (0, [.int 1, .ref h2, .int 1])), (h2, .inl (k0, 10, .inr (.inr (.inr (.inr (va_up (fun _ => none) 0 (some h3)))))))] := hD
  refine lv_aload_n hx hb dX7_push_102 rfl (lv_at hl 0 rfl) ?_
  refine lv_aload_n hx hb dX7_push_103 rfl (lv_at hl 1 rfl) ?_
  refine va_get (D := (dC, dI)) (ci := 8) (v := .int 0) (C := RX7) (T := TX7) (N := 14) hx hb ht inX7 hown hK hP 0 rfl rfl 12 (by decide) (ht _ mW594) (fun _ h9 => h9) rfl dX7_push_104 ?_
  refine va_putN (D := (dC, dI)) (ci := 6) (v := .int 0) (ty := .int) (C := RX5) (T := TX5) (N := 19) hx hb ht inX5 tyX5 tyX5_ok nmX5 hown hK hP hD hS 1 rfl rfl 5 (by decide) (ht _ mW466) (fun _ h9 => h9) rfl (by decide +kernel) rfl rfl (Nat.le_of_ble_eq_true rfl) dX7_push_107 (fun H locs hP hD hS => ?_)
  have hP : va_P (dC, dI) vwCl [(h0, .inr (8, [.ref h4, .ref h5, .ref h6, .ref h1, .int 1, .ref h7, .ref h8, .ref h7, .ref h9, .int 0, .ref h10, .ref h11, .int 0, .int (-1)])), (h3, .inr (6, [.int 0, .ref h9, .int 0, .ref h10, .ref h11, .int 0, .null, .int 0, .int 0, .int 0, .int 0, .null, .int 0, .null, .int 0, .null, .int 0, .null, .null])), (h1, .inr (0, [.int 1, .ref h2, .int 1])), (h2, .inl (k0, 10, .inr (.inr (.inr (.inr (va_up (fun _ => none) 0 (some h3)))))))] H := hP
  have hD : va_D A [(h0, .inr (8, [.ref h4, .ref h5, .ref h6, .ref h1, .int 1, .ref h7, .ref h8, .ref h7, .ref h9, .int 0, .ref h10, .ref h11, .int 0, .int (-1)])), (h3, .inr (6, [.int 0, .ref h9, .int 0, .ref h10, .ref h11, .int 0, .null, .int 0, .int 0, .int 0, .int 0, .null, .int 0, .null, .int 0, .null, .int 0, .null, .null])), (h1, .inr (0, [.int 1, .ref h2, .int 1])), (h2, .inl (k0, 10, .inr (.inr (.inr (.inr (va_up (fun _ => none) 0 (some h3)))))))] := hD
  refine lv_aload_n hx hb dX7_push_110 rfl (lv_at hl 0 rfl) ?_
  refine lv_iconst (v := 0) hx hb dX7_push_111 (by decide) ?_
  refine va_putN (D := (dC, dI)) (ci := 6) (v := .int 0) (ty := .boolean) (C := RX5) (T := TX5) (N := 19) hx hb ht inX5 tyX5 tyX5_ok nmX5 hown hK hP hD hS 1 rfl rfl 14 (by decide) (ht _ mW477) (fun _ h9 => h9) rfl (by decide +kernel) rfl rfl (Nat.le_of_ble_eq_true rfl) dX7_push_112 (fun H locs hP hD hS => ?_)
  have hP : va_P (dC, dI) vwCl [(h0, .inr (8, [.ref h4, .ref h5, .ref h6, .ref h1, .int 1, .ref h7, .ref h8, .ref h7, .ref h9, .int 0, .ref h10, .ref h11, .int 0, .int (-1)])), (h3, .inr (6, [.int 0, .ref h9, .int 0, .ref h10, .ref h11, .int 0, .null, .int 0, .int 0, .int 0, .int 0, .null, .int 0, .null, .int 0, .null, .int 0, .null, .null])), (h1, .inr (0, [.int 1, .ref h2, .int 1])), (h2, .inl (k0, 10, .inr (.inr (.inr (.inr (va_up (fun _ => none) 0 (some h3)))))))] H := hP
  have hD : va_D A [(h0, .inr (8, [.ref h4, .ref h5, .ref h6, .ref h1, .int 1, .ref h7, .ref h8, .ref h7, .ref h9, .int 0, .ref h10, .ref h11, .int 0, .int (-1)])), (h3, .inr (6, [.int 0, .ref h9, .int 0, .ref h10, .ref h11, .int 0, .null, .int 0, .int 0, .int 0, .int 0, .null, .int 0, .null, .int 0, .null, .int 0, .null, .null])), (h1, .inr (0, [.int 1, .ref h2, .int 1])), (h2, .inl (k0, 10, .inr (.inr (.inr (.inr (va_up (fun _ => none) 0 (some h3)))))))] := hD
  refine lv_aload_n hx hb dX7_push_115 rfl (lv_at hl 0 rfl) ?_
  refine lv_null hx hb dX7_push_116 ?_
  refine va_putN (D := (dC, dI)) (ci := 6) (v := .null) (ty := (.object "CommandHouse$Bytes")) (C := RX5) (T := TX5) (N := 19) hx hb ht inX5 tyX5 tyX5_ok nmX5 hown hK hP hD hS 1 rfl rfl 17 (by decide) (ht _ mW480) (fun _ h9 => h9) rfl (by decide +kernel) rfl rfl (Nat.le_of_ble_eq_true rfl) dX7_push_117 (fun H locs hP hD hS => ?_)
  have hP : va_P (dC, dI) vwCl [(h0, .inr (8, [.ref h4, .ref h5, .ref h6, .ref h1, .int 1, .ref h7, .ref h8, .ref h7, .ref h9, .int 0, .ref h10, .ref h11, .int 0, .int (-1)])), (h3, .inr (6, [.int 0, .ref h9, .int 0, .ref h10, .ref h11, .int 0, .null, .int 0, .int 0, .int 0, .int 0, .null, .int 0, .null, .int 0, .null, .int 0, .null, .null])), (h1, .inr (0, [.int 1, .ref h2, .int 1])), (h2, .inl (k0, 10, .inr (.inr (.inr (.inr (va_up (fun _ => none) 0 (some h3)))))))] H := hP
  have hD : va_D A [(h0, .inr (8, [.ref h4, .ref h5, .ref h6, .ref h1, .int 1, .ref h7, .ref h8, .ref h7, .ref h9, .int 0, .ref h10, .ref h11, .int 0, .int (-1)])), (h3, .inr (6, [.int 0, .ref h9, .int 0, .ref h10, .ref h11, .int 0, .null, .int 0, .int 0, .int 0, .int 0, .null, .int 0, .null, .int 0, .null, .int 0, .null, .null])), (h1, .inr (0, [.int 1, .ref h2, .int 1])), (h2, .inl (k0, 10, .inr (.inr (.inr (.inr (va_up (fun _ => none) 0 (some h3)))))))] := hD
  refine lv_aload_n hx hb dX7_push_120 rfl (lv_at hl 0 rfl) ?_
  refine W.widen (k := 0) (n := 0) (Nat.le_of_ble_eq_true rfl) (Nat.le_of_ble_eq_true rfl) ?_
  have hP9 := hP.sub (ws' := [(h0, .inr (8, [.ref h4, .ref h5, .ref h6, .ref h1, .int 1, .ref h7, .ref h8, .ref h7, .ref h9, .int 0, .ref h10, .ref h11, .int 0, .int (-1)])), (h1, .inr (0, [.int 1, .ref h2, .int 1])), (h2, .inl (k0, 10, .inr (.inr (.inr (.inr (va_up (fun _ => none) 0 (some h3))))))), (h3, .inr (6, [.int 0, .ref h9, .int 0, .ref h10, .ref h11, .int 0, .null, .int 0, .int 0, .int 0, .int 0, .null, .int 0, .null, .int 0, .null, .int 0, .null, .null]))]) [0, 2, 3, 1] rfl
  have hD9 := hD.sub (ws' := [(h0, .inr (8, [.ref h4, .ref h5, .ref h6, .ref h1, .int 1, .ref h7, .ref h8, .ref h7, .ref h9, .int 0, .ref h10, .ref h11, .int 0, .int (-1)])), (h1, .inr (0, [.int 1, .ref h2, .int 1])), (h2, .inl (k0, 10, .inr (.inr (.inr (.inr (va_up (fun _ => none) 0 (some h3))))))), (h3, .inr (6, [.int 0, .ref h9, .int 0, .ref h10, .ref h11, .int 0, .null, .int 0, .int 0, .int 0, .int 0, .null, .int 0, .null, .int 0, .null, .int 0, .null, .null]))]) [0, 2, 3, 1] (by decide) rfl
  have hK9 := hK.sub (tys' := [(k0, .object "java/lang/Object")]) [0] rfl
  exact W.aret (v := .ref h3) hx hb hr (by first | exact Or.inl ⟨_, rfl⟩ | exact Or.inr ⟨_, rfl⟩) (by first | exact Or.inl rfl | exact Or.inr ⟨_, rfl⟩) (fun t hH hW => ⟨⟨_, rfl, rfl, by rw [hH]; exact hP9, va_K.moved hW.alike hK9, hD9⟩, hS.F hH⟩) hS.2.2 dX7_push_121 hlocks

set_option maxHeartbeats 4000000 in
set_option maxRecDepth 100000 in
theorem c24_X12_lay (l : Launch) (dC : Nat → ClassId) (dI : Nat → Nat → Nat) (sz : Nat) (h0 h1 h2 h3 h4 : Nat) (k0 : ClassId) (x0 : Int32) : Met l yX12_lay (.code yX12_lay cX12_lay 3 none :: wAll) ({ frames := 1, cells := 0, slots := 0, locals := 40 }) (pP (dC, dI) [.ref h0, .int x0] [(h0, .inr (13, [.ref h1, .int 0, .ref h2, .ref h3, .ref h4])), (h1, .inl (k0, 2000, .inl (fun _ => 0)))] [(k0, .byte)] sz X0) (qQ (fun (v : Option Value) (t : State) => ∃ (gn0 : Nat → Int32), v = none ∧ va_P (dC, dI) vwCl [(h0, .inr (13, [.ref h1, .int 4, .ref h2, .ref h3, .ref h4])), (h1, .inl (k0, 2000, .inl gn0))] t.heap ∧ va_K (dC, dI) vwCl [(k0, .byte)] t ∧ va_D (va_A [(h0, .inr (13, [.ref h1, .int 0, .ref h2, .ref h3, .ref h4])), (h1, .inl (k0, 2000, .inl (fun _ => 0)))] sz) [(h0, .inr (13, [.ref h1, .int 4, .ref h2, .ref h3, .ref h4])), (h1, .inl (k0, 2000, .inl gn0))]) (va_A [(h0, .inr (13, [.ref h1, .int 0, .ref h2, .ref h3, .ref h4])), (h1, .inl (k0, 2000, .inl (fun _ => 0)))] sz)) 0 0 (va_A [(h0, .inr (13, [.ref h1, .int 0, .ref h2, .ref h3, .ref h4])), (h1, .inl (k0, 2000, .inl (fun _ => 0)))] sz) := by
  refine mkMet (y := yX12_lay) (bytes := cX12_lay) (maxL := 3) (ret := none) (rm := { frames := 1, cells := 0, slots := 0, locals := 40 }) (by decide) (Nat.le_of_ble_eq_true rfl) ?_
  intro p e s m args below meth c ls hE hl
  obtain ⟨hx, hb, hml, hr, ht, hown, hlocks, hin, rfl, hP, hK, hD, hX, rfl⟩ := hE
  have hown : s.vm.findClass "CommandHouse" = some m.cls := hown
  have hA : ∀ q : Nat, s.heap.size ≤ q → va_A [(h0, .inr (13, [.ref h1, .int 0, .ref h2, .ref h3, .ref h4])), (h1, .inl (k0, 2000, .inl (fun _ => 0)))] s.heap.size q := fun q h => Or.inr h
  generalize hAe : va_A [(h0, .inr (13, [.ref h1, .int 0, .ref h2, .ref h3, .ref h4])), (h1, .inl (k0, 2000, .inl (fun _ => 0)))] s.heap.size = A at hD hX hA ⊢
  have hS : va_S A s.heap s.heap [] := va_S.rf
  have hl : lv_has ls 3 [(0, .ref h0), (1, .int x0)] := hl
  refine lv_bipush (v := 24) hx hb dX12_lay_0 (by decide) ?_
  refine lv_istore_n (lv' := [(2, .int 24), (0, .ref h0), (1, .int x0)]) hx hb dX12_lay_2 rfl hl (by decide) rfl (fun ls hl => ?_)
  refine lv_iload_n hx hb dX12_lay_3 rfl (lv_at hl 0 rfl) ?_
  refine lv_if_lt (tgt := 46) hx hb dX12_lay_4 (by decide) (fun c => absurd c (by decide)) (fun _ => ?_)
  refine lv_aload_n hx hb dX12_lay_7 rfl (lv_at hl 1 rfl) ?_
  refine va_get (D := (dC, dI)) (ci := 13) (v := .int 0) (C := RX12) (T := TX12) (N := 5) hx hb ht inX12 hown hK hP 0 rfl rfl 1 (by decide) (ht _ mW629) (fun _ h9 => h9) rfl dX12_lay_8 ?_
  refine lv_sipush (v := 2000) hx hb dX12_lay_11 (by decide) ?_
  refine lv_icmp_ge (tgt := 46) hx hb dX12_lay_14 (by decide) (fun c => absurd c (by decide)) (fun _ => ?_)
  refine lv_aload_n hx hb dX12_lay_17 rfl (lv_at hl 1 rfl) ?_
  refine va_get (D := (dC, dI)) (ci := 13) (v := .ref h1) (C := RX12) (T := TX12) (N := 5) hx hb ht inX12 hown hK hP 0 rfl rfl 0 (by decide) (ht _ mW628) (fun _ h9 => h9) rfl dX12_lay_18 ?_
  refine lv_aload_n hx hb dX12_lay_21 rfl (lv_at hl 1 rfl) ?_
  refine va_get (D := (dC, dI)) (ci := 13) (v := .int 0) (C := RX12) (T := TX12) (N := 5) hx hb ht inX12 hown hK hP 0 rfl rfl 1 (by decide) (ht _ mW629) (fun _ h9 => h9) rfl dX12_lay_22 ?_
  refine lv_iload_n hx hb dX12_lay_25 rfl (lv_at hl 2 rfl) ?_
  refine lv_iload_n hx hb dX12_lay_26 rfl (lv_at hl 0 rfl) ?_
  refine lv_iushr hx hb dX12_lay_27 rfl ?_
  refine lv_topi (fun n758 en758 => ?_)
  refine lv_i2b hx hb dX12_lay_28 rfl ?_
  refine lv_topi (fun n759 en759 => ?_)
  refine va_bast hx hb hK hP hD hS 1 0 rfl rfl (by unfold vp_in; decide) dX12_lay_29 (fun H locs hP hD hS => ?_)
  obtain ⟨f760, ef760⟩ : ∃ z : Nat → Int32, z = upd (fun _ => 0) 0 (vp_nar .byte n759) := ⟨_, rfl⟩
  have hP : va_P (dC, dI) vwCl [(h0, .inr (13, [.ref h1, .int 0, .ref h2, .ref h3, .ref h4])), (h1, .inl (k0, 2000, .inl f760))] H := by rw [ef760]; exact hP
  have hD : va_D A [(h0, .inr (13, [.ref h1, .int 0, .ref h2, .ref h3, .ref h4])), (h1, .inl (k0, 2000, .inl f760))] := by rw [ef760]; exact hD
  refine lv_aload_n hx hb dX12_lay_30 rfl (lv_at hl 1 rfl) ?_
  refine lv_dup hx hb dX12_lay_31 rfl ?_
  refine va_get (D := (dC, dI)) (ci := 13) (v := .int 0) (C := RX12) (T := TX12) (N := 5) hx hb ht inX12 hown hK hP 0 rfl rfl 1 (by decide) (ht _ mW629) (fun _ h9 => h9) rfl dX12_lay_32 ?_
  refine lv_iconst (v := 1) hx hb dX12_lay_35 (by decide) ?_
  refine lv_iadd hx hb dX12_lay_36 ?_
  refine W.eq (congrArg (fun z => F0 m 37 ls (.int z :: [.ref h0])) (by decide : (0 + 1 : Int32) = 1)) ?_
  refine va_put (D := (dC, dI)) (ci := 13) (v := .int 1) (ty := .int) (C := RX12) (T := TX12) (N := 5) hx hb ht inX12 tyX12 tyX12_ok nmX12 hown hK hP hD hS 0 rfl rfl 1 (by decide) (ht _ mW629) (fun _ h9 => h9) rfl (by decide +kernel) rfl rfl (Nat.le_of_ble_eq_true rfl) dX12_lay_37 (fun H locs hP hD hS => ?_)
  have hP : va_P (dC, dI) vwCl [(h0, .inr (13, [.ref h1, .int 1, .ref h2, .ref h3, .ref h4])), (h1, .inl (k0, 2000, .inl f760))] H := hP
  have hD : va_D A [(h0, .inr (13, [.ref h1, .int 1, .ref h2, .ref h3, .ref h4])), (h1, .inl (k0, 2000, .inl f760))] := hD
  refine lv_iinc (v := 16) (lv' := [(2, .int 16), (0, .ref h0), (1, .int x0)]) hx hb dX12_lay_40 hl (k := 0) rfl (by decide) (by decide) rfl (fun ls hl => ?_)
  refine lv_goto (tgt := 3) hx hb dX12_lay_43 (by decide) ?_
  refine lv_iload_n hx hb dX12_lay_3 rfl (lv_at hl 0 rfl) ?_
  refine lv_if_lt (tgt := 46) hx hb dX12_lay_4 (by decide) (fun c => absurd c (by decide)) (fun _ => ?_)
  refine lv_aload_n hx hb dX12_lay_7 rfl (lv_at hl 1 rfl) ?_
  refine va_get (D := (dC, dI)) (ci := 13) (v := .int 1) (C := RX12) (T := TX12) (N := 5) hx hb ht inX12 hown hK hP 0 rfl rfl 1 (by decide) (ht _ mW629) (fun _ h9 => h9) rfl dX12_lay_8 ?_
  refine lv_sipush (v := 2000) hx hb dX12_lay_11 (by decide) ?_
  refine lv_icmp_ge (tgt := 46) hx hb dX12_lay_14 (by decide) (fun c => absurd c (by decide)) (fun _ => ?_)
  refine lv_aload_n hx hb dX12_lay_17 rfl (lv_at hl 1 rfl) ?_
  refine va_get (D := (dC, dI)) (ci := 13) (v := .ref h1) (C := RX12) (T := TX12) (N := 5) hx hb ht inX12 hown hK hP 0 rfl rfl 0 (by decide) (ht _ mW628) (fun _ h9 => h9) rfl dX12_lay_18 ?_
  refine lv_aload_n hx hb dX12_lay_21 rfl (lv_at hl 1 rfl) ?_
  refine va_get (D := (dC, dI)) (ci := 13) (v := .int 1) (C := RX12) (T := TX12) (N := 5) hx hb ht inX12 hown hK hP 0 rfl rfl 1 (by decide) (ht _ mW629) (fun _ h9 => h9) rfl dX12_lay_22 ?_
  refine lv_iload_n hx hb dX12_lay_25 rfl (lv_at hl 2 rfl) ?_
  refine lv_iload_n hx hb dX12_lay_26 rfl (lv_at hl 0 rfl) ?_
  refine lv_iushr hx hb dX12_lay_27 rfl ?_
  refine lv_topi (fun n761 en761 => ?_)
  refine lv_i2b hx hb dX12_lay_28 rfl ?_
  refine lv_topi (fun n762 en762 => ?_)
  refine va_bast hx hb hK hP hD hS 1 0 rfl rfl (by unfold vp_in; decide) dX12_lay_29 (fun H locs hP hD hS => ?_)
  obtain ⟨f763, ef763⟩ : ∃ z : Nat → Int32, z = upd f760 1 (vp_nar .byte n762) := ⟨_, rfl⟩
  have hP : va_P (dC, dI) vwCl [(h0, .inr (13, [.ref h1, .int 1, .ref h2, .ref h3, .ref h4])), (h1, .inl (k0, 2000, .inl f763))] H := by rw [ef763]; exact hP
  have hD : va_D A [(h0, .inr (13, [.ref h1, .int 1, .ref h2, .ref h3, .ref h4])), (h1, .inl (k0, 2000, .inl f763))] := by rw [ef763]; exact hD
  refine lv_aload_n hx hb dX12_lay_30 rfl (lv_at hl 1 rfl) ?_
  refine lv_dup hx hb dX12_lay_31 rfl ?_
  refine va_get (D := (dC, dI)) (ci := 13) (v := .int 1) (C := RX12) (T := TX12) (N := 5) hx hb ht inX12 hown hK hP 0 rfl rfl 1 (by decide) (ht _ mW629) (fun _ h9 => h9) rfl dX12_lay_32 ?_
  refine lv_iconst (v := 1) hx hb dX12_lay_35 (by decide) ?_
  refine lv_iadd hx hb dX12_lay_36 ?_
  refine W.eq (congrArg (fun z => F0 m 37 ls (.int z :: [.ref h0])) (by decide : (1 + 1 : Int32) = 2)) ?_
  refine va_put (D := (dC, dI)) (ci := 13) (v := .int 2) (ty := .int) (C := RX12) (T := TX12) (N := 5) hx hb ht inX12 tyX12 tyX12_ok nmX12 hown hK hP hD hS 0 rfl rfl 1 (by decide) (ht _ mW629) (fun _ h9 => h9) rfl (by decide +kernel) rfl rfl (Nat.le_of_ble_eq_true rfl) dX12_lay_37 (fun H locs hP hD hS => ?_)
  have hP : va_P (dC, dI) vwCl [(h0, .inr (13, [.ref h1, .int 2, .ref h2, .ref h3, .ref h4])), (h1, .inl (k0, 2000, .inl f763))] H := hP
  have hD : va_D A [(h0, .inr (13, [.ref h1, .int 2, .ref h2, .ref h3, .ref h4])), (h1, .inl (k0, 2000, .inl f763))] := hD
  refine lv_iinc (v := 8) (lv' := [(2, .int 8), (0, .ref h0), (1, .int x0)]) hx hb dX12_lay_40 hl (k := 0) rfl (by decide) (by decide) rfl (fun ls hl => ?_)
  refine lv_goto (tgt := 3) hx hb dX12_lay_43 (by decide) ?_
  refine lv_iload_n hx hb dX12_lay_3 rfl (lv_at hl 0 rfl) ?_
  refine lv_if_lt (tgt := 46) hx hb dX12_lay_4 (by decide) (fun c => absurd c (by decide)) (fun _ => ?_)
  refine lv_aload_n hx hb dX12_lay_7 rfl (lv_at hl 1 rfl) ?_
  refine va_get (D := (dC, dI)) (ci := 13) (v := .int 2) (C := RX12) (T := TX12) (N := 5) hx hb ht inX12 hown hK hP 0 rfl rfl 1 (by decide) (ht _ mW629) (fun _ h9 => h9) rfl dX12_lay_8 ?_
  refine lv_sipush (v := 2000) hx hb dX12_lay_11 (by decide) ?_
  refine lv_icmp_ge (tgt := 46) hx hb dX12_lay_14 (by decide) (fun c => absurd c (by decide)) (fun _ => ?_)
  refine lv_aload_n hx hb dX12_lay_17 rfl (lv_at hl 1 rfl) ?_
  refine va_get (D := (dC, dI)) (ci := 13) (v := .ref h1) (C := RX12) (T := TX12) (N := 5) hx hb ht inX12 hown hK hP 0 rfl rfl 0 (by decide) (ht _ mW628) (fun _ h9 => h9) rfl dX12_lay_18 ?_
  refine lv_aload_n hx hb dX12_lay_21 rfl (lv_at hl 1 rfl) ?_
  refine va_get (D := (dC, dI)) (ci := 13) (v := .int 2) (C := RX12) (T := TX12) (N := 5) hx hb ht inX12 hown hK hP 0 rfl rfl 1 (by decide) (ht _ mW629) (fun _ h9 => h9) rfl dX12_lay_22 ?_
  refine lv_iload_n hx hb dX12_lay_25 rfl (lv_at hl 2 rfl) ?_
  refine lv_iload_n hx hb dX12_lay_26 rfl (lv_at hl 0 rfl) ?_
  refine lv_iushr hx hb dX12_lay_27 rfl ?_
  refine lv_topi (fun n764 en764 => ?_)
  refine lv_i2b hx hb dX12_lay_28 rfl ?_
  refine lv_topi (fun n765 en765 => ?_)
  refine va_bast hx hb hK hP hD hS 1 0 rfl rfl (by unfold vp_in; decide) dX12_lay_29 (fun H locs hP hD hS => ?_)
  obtain ⟨f766, ef766⟩ : ∃ z : Nat → Int32, z = upd f763 2 (vp_nar .byte n765) := ⟨_, rfl⟩
  have hP : va_P (dC, dI) vwCl [(h0, .inr (13, [.ref h1, .int 2, .ref h2, .ref h3, .ref h4])), (h1, .inl (k0, 2000, .inl f766))] H := by rw [ef766]; exact hP
  have hD : va_D A [(h0, .inr (13, [.ref h1, .int 2, .ref h2, .ref h3, .ref h4])), (h1, .inl (k0, 2000, .inl f766))] := by rw [ef766]; exact hD
  refine lv_aload_n hx hb dX12_lay_30 rfl (lv_at hl 1 rfl) ?_
  refine lv_dup hx hb dX12_lay_31 rfl ?_
  refine va_get (D := (dC, dI)) (ci := 13) (v := .int 2) (C := RX12) (T := TX12) (N := 5) hx hb ht inX12 hown hK hP 0 rfl rfl 1 (by decide) (ht _ mW629) (fun _ h9 => h9) rfl dX12_lay_32 ?_
  refine lv_iconst (v := 1) hx hb dX12_lay_35 (by decide) ?_
  refine lv_iadd hx hb dX12_lay_36 ?_
  refine W.eq (congrArg (fun z => F0 m 37 ls (.int z :: [.ref h0])) (by decide : (2 + 1 : Int32) = 3)) ?_
  refine va_put (D := (dC, dI)) (ci := 13) (v := .int 3) (ty := .int) (C := RX12) (T := TX12) (N := 5) hx hb ht inX12 tyX12 tyX12_ok nmX12 hown hK hP hD hS 0 rfl rfl 1 (by decide) (ht _ mW629) (fun _ h9 => h9) rfl (by decide +kernel) rfl rfl (Nat.le_of_ble_eq_true rfl) dX12_lay_37 (fun H locs hP hD hS => ?_)
  have hP : va_P (dC, dI) vwCl [(h0, .inr (13, [.ref h1, .int 3, .ref h2, .ref h3, .ref h4])), (h1, .inl (k0, 2000, .inl f766))] H := hP
  have hD : va_D A [(h0, .inr (13, [.ref h1, .int 3, .ref h2, .ref h3, .ref h4])), (h1, .inl (k0, 2000, .inl f766))] := hD
  refine lv_iinc (v := 0) (lv' := [(2, .int 0), (0, .ref h0), (1, .int x0)]) hx hb dX12_lay_40 hl (k := 0) rfl (by decide) (by decide) rfl (fun ls hl => ?_)
  refine lv_goto (tgt := 3) hx hb dX12_lay_43 (by decide) ?_
  refine lv_iload_n hx hb dX12_lay_3 rfl (lv_at hl 0 rfl) ?_
  refine lv_if_lt (tgt := 46) hx hb dX12_lay_4 (by decide) (fun c => absurd c (by decide)) (fun _ => ?_)
  refine lv_aload_n hx hb dX12_lay_7 rfl (lv_at hl 1 rfl) ?_
  refine va_get (D := (dC, dI)) (ci := 13) (v := .int 3) (C := RX12) (T := TX12) (N := 5) hx hb ht inX12 hown hK hP 0 rfl rfl 1 (by decide) (ht _ mW629) (fun _ h9 => h9) rfl dX12_lay_8 ?_
  refine lv_sipush (v := 2000) hx hb dX12_lay_11 (by decide) ?_
  refine lv_icmp_ge (tgt := 46) hx hb dX12_lay_14 (by decide) (fun c => absurd c (by decide)) (fun _ => ?_)
  refine lv_aload_n hx hb dX12_lay_17 rfl (lv_at hl 1 rfl) ?_
  refine va_get (D := (dC, dI)) (ci := 13) (v := .ref h1) (C := RX12) (T := TX12) (N := 5) hx hb ht inX12 hown hK hP 0 rfl rfl 0 (by decide) (ht _ mW628) (fun _ h9 => h9) rfl dX12_lay_18 ?_
  refine lv_aload_n hx hb dX12_lay_21 rfl (lv_at hl 1 rfl) ?_
  refine va_get (D := (dC, dI)) (ci := 13) (v := .int 3) (C := RX12) (T := TX12) (N := 5) hx hb ht inX12 hown hK hP 0 rfl rfl 1 (by decide) (ht _ mW629) (fun _ h9 => h9) rfl dX12_lay_22 ?_
  refine lv_iload_n hx hb dX12_lay_25 rfl (lv_at hl 2 rfl) ?_
  refine lv_iload_n hx hb dX12_lay_26 rfl (lv_at hl 0 rfl) ?_
  refine lv_iushr hx hb dX12_lay_27 rfl ?_
  refine lv_topi (fun n767 en767 => ?_)
  refine lv_i2b hx hb dX12_lay_28 rfl ?_
  refine lv_topi (fun n768 en768 => ?_)
  refine va_bast hx hb hK hP hD hS 1 0 rfl rfl (by unfold vp_in; decide) dX12_lay_29 (fun H locs hP hD hS => ?_)
  obtain ⟨f769, ef769⟩ : ∃ z : Nat → Int32, z = upd f766 3 (vp_nar .byte n768) := ⟨_, rfl⟩
  have hP : va_P (dC, dI) vwCl [(h0, .inr (13, [.ref h1, .int 3, .ref h2, .ref h3, .ref h4])), (h1, .inl (k0, 2000, .inl f769))] H := by rw [ef769]; exact hP
  have hD : va_D A [(h0, .inr (13, [.ref h1, .int 3, .ref h2, .ref h3, .ref h4])), (h1, .inl (k0, 2000, .inl f769))] := by rw [ef769]; exact hD
  refine lv_aload_n hx hb dX12_lay_30 rfl (lv_at hl 1 rfl) ?_
  refine lv_dup hx hb dX12_lay_31 rfl ?_
  refine va_get (D := (dC, dI)) (ci := 13) (v := .int 3) (C := RX12) (T := TX12) (N := 5) hx hb ht inX12 hown hK hP 0 rfl rfl 1 (by decide) (ht _ mW629) (fun _ h9 => h9) rfl dX12_lay_32 ?_
  refine lv_iconst (v := 1) hx hb dX12_lay_35 (by decide) ?_
  refine lv_iadd hx hb dX12_lay_36 ?_
  refine W.eq (congrArg (fun z => F0 m 37 ls (.int z :: [.ref h0])) (by decide : (3 + 1 : Int32) = 4)) ?_
  refine va_put (D := (dC, dI)) (ci := 13) (v := .int 4) (ty := .int) (C := RX12) (T := TX12) (N := 5) hx hb ht inX12 tyX12 tyX12_ok nmX12 hown hK hP hD hS 0 rfl rfl 1 (by decide) (ht _ mW629) (fun _ h9 => h9) rfl (by decide +kernel) rfl rfl (Nat.le_of_ble_eq_true rfl) dX12_lay_37 (fun H locs hP hD hS => ?_)
  have hP : va_P (dC, dI) vwCl [(h0, .inr (13, [.ref h1, .int 4, .ref h2, .ref h3, .ref h4])), (h1, .inl (k0, 2000, .inl f769))] H := hP
  have hD : va_D A [(h0, .inr (13, [.ref h1, .int 4, .ref h2, .ref h3, .ref h4])), (h1, .inl (k0, 2000, .inl f769))] := hD
  refine lv_iinc (v := (-8)) (lv' := [(2, .int (-8)), (0, .ref h0), (1, .int x0)]) hx hb dX12_lay_40 hl (k := 0) rfl (by decide) (by decide) rfl (fun ls hl => ?_)
  refine lv_goto (tgt := 3) hx hb dX12_lay_43 (by decide) ?_
  refine lv_iload_n hx hb dX12_lay_3 rfl (lv_at hl 0 rfl) ?_
  refine lv_if_lt (tgt := 46) hx hb dX12_lay_4 (by decide) (fun _ => ?_) (fun c => absurd (by decide) c)
  refine W.widen (k := 0) (n := 0) (Nat.le_of_ble_eq_true rfl) (Nat.le_of_ble_eq_true rfl) ?_
  have hP9 := hP.sub (ws' := [(h0, .inr (13, [.ref h1, .int 4, .ref h2, .ref h3, .ref h4])), (h1, .inl (k0, 2000, .inl f769))]) [0, 1] rfl
  have hD9 := hD.sub (ws' := [(h0, .inr (13, [.ref h1, .int 4, .ref h2, .ref h3, .ref h4])), (h1, .inl (k0, 2000, .inl f769))]) [0, 1] (by decide) rfl
  have hK9 := hK.sub (tys' := [(k0, .byte)]) [0] rfl
  exact W.vret hx hb hr (fun t hH hW => ⟨⟨_, rfl, f769, rfl, by rw [hH]; exact hP9, va_K.moved hW.alike hK9, hD9⟩, hS.F hH⟩) hS.2.2 dX12_lay_46 hlocks
set_option maxHeartbeats 4000000 in
set_option maxRecDepth 100000 in
theorem c25_X12_lay (l : Launch) (dC : Nat → ClassId) (dI : Nat → Nat → Nat) (sz : Nat) (h0 h1 h2 h3 h4 : Nat) (k0 : ClassId) (f0 : Nat → Int32) (x0 : Int32) : Met l yX12_lay (.code yX12_lay cX12_lay 3 none :: wAll) ({ frames := 1, cells := 0, slots := 0, locals := 40 }) (pP (dC, dI) [.ref h0, .int x0] [(h0, .inr (13, [.ref h1, .int 4, .ref h2, .ref h3, .ref h4])), (h1, .inl (k0, 2000, .inl f0))] [(k0, .byte)] sz X0) (qQ (fun (v : Option Value) (t : State) => ∃ (gn0 : Nat → Int32), v = none ∧ va_P (dC, dI) vwCl [(h0, .inr (13, [.ref h1, .int 8, .ref h2, .ref h3, .ref h4])), (h1, .inl (k0, 2000, .inl gn0))] t.heap ∧ va_K (dC, dI) vwCl [(k0, .byte)] t ∧ va_D (va_A [(h0, .inr (13, [.ref h1, .int 4, .ref h2, .ref h3, .ref h4])), (h1, .inl (k0, 2000, .inl f0))] sz) [(h0, .inr (13, [.ref h1, .int 8, .ref h2, .ref h3, .ref h4])), (h1, .inl (k0, 2000, .inl gn0))]) (va_A [(h0, .inr (13, [.ref h1, .int 4, .ref h2, .ref h3, .ref h4])), (h1, .inl (k0, 2000, .inl f0))] sz)) 0 0 (va_A [(h0, .inr (13, [.ref h1, .int 4, .ref h2, .ref h3, .ref h4])), (h1, .inl (k0, 2000, .inl f0))] sz) := by
  refine mkMet (y := yX12_lay) (bytes := cX12_lay) (maxL := 3) (ret := none) (rm := { frames := 1, cells := 0, slots := 0, locals := 40 }) (by decide) (Nat.le_of_ble_eq_true rfl) ?_
  intro p e s m args below meth c ls hE hl
  obtain ⟨hx, hb, hml, hr, ht, hown, hlocks, hin, rfl, hP, hK, hD, hX, rfl⟩ := hE
  have hown : s.vm.findClass "CommandHouse" = some m.cls := hown
  have hA : ∀ q : Nat, s.heap.size ≤ q → va_A [(h0, .inr (13, [.ref h1, .int 4, .ref h2, .ref h3, .ref h4])), (h1, .inl (k0, 2000, .inl f0))] s.heap.size q := fun q h => Or.inr h
  generalize hAe : va_A [(h0, .inr (13, [.ref h1, .int 4, .ref h2, .ref h3, .ref h4])), (h1, .inl (k0, 2000, .inl f0))] s.heap.size = A at hD hX hA ⊢
  have hS : va_S A s.heap s.heap [] := va_S.rf
  have hl : lv_has ls 3 [(0, .ref h0), (1, .int x0)] := hl
  refine lv_bipush (v := 24) hx hb dX12_lay_0 (by decide) ?_
  refine lv_istore_n (lv' := [(2, .int 24), (0, .ref h0), (1, .int x0)]) hx hb dX12_lay_2 rfl hl (by decide) rfl (fun ls hl => ?_)
  refine lv_iload_n hx hb dX12_lay_3 rfl (lv_at hl 0 rfl) ?_
  refine lv_if_lt (tgt := 46) hx hb dX12_lay_4 (by decide) (fun c => absurd c (by decide)) (fun _ => ?_)
  refine lv_aload_n hx hb dX12_lay_7 rfl (lv_at hl 1 rfl) ?_
  refine va_get (D := (dC, dI)) (ci := 13) (v := .int 4) (C := RX12) (T := TX12) (N := 5) hx hb ht inX12 hown hK hP 0 rfl rfl 1 (by decide) (ht _ mW629) (fun _ h9 => h9) rfl dX12_lay_8 ?_
  refine lv_sipush (v := 2000) hx hb dX12_lay_11 (by decide) ?_
  refine lv_icmp_ge (tgt := 46) hx hb dX12_lay_14 (by decide) (fun c => absurd c (by decide)) (fun _ => ?_)
  refine lv_aload_n hx hb dX12_lay_17 rfl (lv_at hl 1 rfl) ?_
  refine va_get (D := (dC, dI)) (ci := 13) (v := .ref h1) (C := RX12) (T := TX12) (N := 5) hx hb ht inX12 hown hK hP 0 rfl rfl 0 (by decide) (ht _ mW628) (fun _ h9 => h9) rfl dX12_lay_18 ?_
  refine lv_aload_n hx hb dX12_lay_21 rfl (lv_at hl 1 rfl) ?_
  refine va_get (D := (dC, dI)) (ci := 13) (v := .int 4) (C := RX12) (T := TX12) (N := 5) hx hb ht inX12 hown hK hP 0 rfl rfl 1 (by decide) (ht _ mW629) (fun _ h9 => h9) rfl dX12_lay_22 ?_
  refine lv_iload_n hx hb dX12_lay_25 rfl (lv_at hl 2 rfl) ?_
  refine lv_iload_n hx hb dX12_lay_26 rfl (lv_at hl 0 rfl) ?_
  refine lv_iushr hx hb dX12_lay_27 rfl ?_
  refine lv_topi (fun n783 en783 => ?_)
  refine lv_i2b hx hb dX12_lay_28 rfl ?_
  refine lv_topi (fun n784 en784 => ?_)
  refine va_bast hx hb hK hP hD hS 1 0 rfl rfl (by unfold vp_in; decide) dX12_lay_29 (fun H locs hP hD hS => ?_)
  obtain ⟨f785, ef785⟩ : ∃ z : Nat → Int32, z = upd f0 4 (vp_nar .byte n784) := ⟨_, rfl⟩
  have hP : va_P (dC, dI) vwCl [(h0, .inr (13, [.ref h1, .int 4, .ref h2, .ref h3, .ref h4])), (h1, .inl (k0, 2000, .inl f785))] H := by rw [ef785]; exact hP
  have hD : va_D A [(h0, .inr (13, [.ref h1, .int 4, .ref h2, .ref h3, .ref h4])), (h1, .inl (k0, 2000, .inl f785))] := by rw [ef785]; exact hD
  refine lv_aload_n hx hb dX12_lay_30 rfl (lv_at hl 1 rfl) ?_
  refine lv_dup hx hb dX12_lay_31 rfl ?_
  refine va_get (D := (dC, dI)) (ci := 13) (v := .int 4) (C := RX12) (T := TX12) (N := 5) hx hb ht inX12 hown hK hP 0 rfl rfl 1 (by decide) (ht _ mW629) (fun _ h9 => h9) rfl dX12_lay_32 ?_
  refine lv_iconst (v := 1) hx hb dX12_lay_35 (by decide) ?_
  refine lv_iadd hx hb dX12_lay_36 ?_
  refine W.eq (congrArg (fun z => F0 m 37 ls (.int z :: [.ref h0])) (by decide : (4 + 1 : Int32) = 5)) ?_
  refine va_put (D := (dC, dI)) (ci := 13) (v := .int 5) (ty := .int) (C := RX12) (T := TX12) (N := 5) hx hb ht inX12 tyX12 tyX12_ok nmX12 hown hK hP hD hS 0 rfl rfl 1 (by decide) (ht _ mW629) (fun _ h9 => h9) rfl (by decide +kernel) rfl rfl (Nat.le_of_ble_eq_true rfl) dX12_lay_37 (fun H locs hP hD hS => ?_)
  have hP : va_P (dC, dI) vwCl [(h0, .inr (13, [.ref h1, .int 5, .ref h2, .ref h3, .ref h4])), (h1, .inl (k0, 2000, .inl f785))] H := hP
  have hD : va_D A [(h0, .inr (13, [.ref h1, .int 5, .ref h2, .ref h3, .ref h4])), (h1, .inl (k0, 2000, .inl f785))] := hD
  refine lv_iinc (v := 16) (lv' := [(2, .int 16), (0, .ref h0), (1, .int x0)]) hx hb dX12_lay_40 hl (k := 0) rfl (by decide) (by decide) rfl (fun ls hl => ?_)
  refine lv_goto (tgt := 3) hx hb dX12_lay_43 (by decide) ?_
  refine lv_iload_n hx hb dX12_lay_3 rfl (lv_at hl 0 rfl) ?_
  refine lv_if_lt (tgt := 46) hx hb dX12_lay_4 (by decide) (fun c => absurd c (by decide)) (fun _ => ?_)
  refine lv_aload_n hx hb dX12_lay_7 rfl (lv_at hl 1 rfl) ?_
  refine va_get (D := (dC, dI)) (ci := 13) (v := .int 5) (C := RX12) (T := TX12) (N := 5) hx hb ht inX12 hown hK hP 0 rfl rfl 1 (by decide) (ht _ mW629) (fun _ h9 => h9) rfl dX12_lay_8 ?_
  refine lv_sipush (v := 2000) hx hb dX12_lay_11 (by decide) ?_
  refine lv_icmp_ge (tgt := 46) hx hb dX12_lay_14 (by decide) (fun c => absurd c (by decide)) (fun _ => ?_)
  refine lv_aload_n hx hb dX12_lay_17 rfl (lv_at hl 1 rfl) ?_
  refine va_get (D := (dC, dI)) (ci := 13) (v := .ref h1) (C := RX12) (T := TX12) (N := 5) hx hb ht inX12 hown hK hP 0 rfl rfl 0 (by decide) (ht _ mW628) (fun _ h9 => h9) rfl dX12_lay_18 ?_
  refine lv_aload_n hx hb dX12_lay_21 rfl (lv_at hl 1 rfl) ?_
  refine va_get (D := (dC, dI)) (ci := 13) (v := .int 5) (C := RX12) (T := TX12) (N := 5) hx hb ht inX12 hown hK hP 0 rfl rfl 1 (by decide) (ht _ mW629) (fun _ h9 => h9) rfl dX12_lay_22 ?_
  refine lv_iload_n hx hb dX12_lay_25 rfl (lv_at hl 2 rfl) ?_
  refine lv_iload_n hx hb dX12_lay_26 rfl (lv_at hl 0 rfl) ?_
  refine lv_iushr hx hb dX12_lay_27 rfl ?_
  refine lv_topi (fun n786 en786 => ?_)
  refine lv_i2b hx hb dX12_lay_28 rfl ?_
  refine lv_topi (fun n787 en787 => ?_)
  refine va_bast hx hb hK hP hD hS 1 0 rfl rfl (by unfold vp_in; decide) dX12_lay_29 (fun H locs hP hD hS => ?_)
  obtain ⟨f788, ef788⟩ : ∃ z : Nat → Int32, z = upd f785 5 (vp_nar .byte n787) := ⟨_, rfl⟩
  have hP : va_P (dC, dI) vwCl [(h0, .inr (13, [.ref h1, .int 5, .ref h2, .ref h3, .ref h4])), (h1, .inl (k0, 2000, .inl f788))] H := by rw [ef788]; exact hP
  have hD : va_D A [(h0, .inr (13, [.ref h1, .int 5, .ref h2, .ref h3, .ref h4])), (h1, .inl (k0, 2000, .inl f788))] := by rw [ef788]; exact hD
  refine lv_aload_n hx hb dX12_lay_30 rfl (lv_at hl 1 rfl) ?_
  refine lv_dup hx hb dX12_lay_31 rfl ?_
  refine va_get (D := (dC, dI)) (ci := 13) (v := .int 5) (C := RX12) (T := TX12) (N := 5) hx hb ht inX12 hown hK hP 0 rfl rfl 1 (by decide) (ht _ mW629) (fun _ h9 => h9) rfl dX12_lay_32 ?_
  refine lv_iconst (v := 1) hx hb dX12_lay_35 (by decide) ?_
  refine lv_iadd hx hb dX12_lay_36 ?_
  refine W.eq (congrArg (fun z => F0 m 37 ls (.int z :: [.ref h0])) (by decide : (5 + 1 : Int32) = 6)) ?_
  refine va_put (D := (dC, dI)) (ci := 13) (v := .int 6) (ty := .int) (C := RX12) (T := TX12) (N := 5) hx hb ht inX12 tyX12 tyX12_ok nmX12 hown hK hP hD hS 0 rfl rfl 1 (by decide) (ht _ mW629) (fun _ h9 => h9) rfl (by decide +kernel) rfl rfl (Nat.le_of_ble_eq_true rfl) dX12_lay_37 (fun H locs hP hD hS => ?_)
  have hP : va_P (dC, dI) vwCl [(h0, .inr (13, [.ref h1, .int 6, .ref h2, .ref h3, .ref h4])), (h1, .inl (k0, 2000, .inl f788))] H := hP
  have hD : va_D A [(h0, .inr (13, [.ref h1, .int 6, .ref h2, .ref h3, .ref h4])), (h1, .inl (k0, 2000, .inl f788))] := hD
  refine lv_iinc (v := 8) (lv' := [(2, .int 8), (0, .ref h0), (1, .int x0)]) hx hb dX12_lay_40 hl (k := 0) rfl (by decide) (by decide) rfl (fun ls hl => ?_)
  refine lv_goto (tgt := 3) hx hb dX12_lay_43 (by decide) ?_
  refine lv_iload_n hx hb dX12_lay_3 rfl (lv_at hl 0 rfl) ?_
  refine lv_if_lt (tgt := 46) hx hb dX12_lay_4 (by decide) (fun c => absurd c (by decide)) (fun _ => ?_)
  refine lv_aload_n hx hb dX12_lay_7 rfl (lv_at hl 1 rfl) ?_
  refine va_get (D := (dC, dI)) (ci := 13) (v := .int 6) (C := RX12) (T := TX12) (N := 5) hx hb ht inX12 hown hK hP 0 rfl rfl 1 (by decide) (ht _ mW629) (fun _ h9 => h9) rfl dX12_lay_8 ?_
  refine lv_sipush (v := 2000) hx hb dX12_lay_11 (by decide) ?_
  refine lv_icmp_ge (tgt := 46) hx hb dX12_lay_14 (by decide) (fun c => absurd c (by decide)) (fun _ => ?_)
  refine lv_aload_n hx hb dX12_lay_17 rfl (lv_at hl 1 rfl) ?_
  refine va_get (D := (dC, dI)) (ci := 13) (v := .ref h1) (C := RX12) (T := TX12) (N := 5) hx hb ht inX12 hown hK hP 0 rfl rfl 0 (by decide) (ht _ mW628) (fun _ h9 => h9) rfl dX12_lay_18 ?_
  refine lv_aload_n hx hb dX12_lay_21 rfl (lv_at hl 1 rfl) ?_
  refine va_get (D := (dC, dI)) (ci := 13) (v := .int 6) (C := RX12) (T := TX12) (N := 5) hx hb ht inX12 hown hK hP 0 rfl rfl 1 (by decide) (ht _ mW629) (fun _ h9 => h9) rfl dX12_lay_22 ?_
  refine lv_iload_n hx hb dX12_lay_25 rfl (lv_at hl 2 rfl) ?_
  refine lv_iload_n hx hb dX12_lay_26 rfl (lv_at hl 0 rfl) ?_
  refine lv_iushr hx hb dX12_lay_27 rfl ?_
  refine lv_topi (fun n789 en789 => ?_)
  refine lv_i2b hx hb dX12_lay_28 rfl ?_
  refine lv_topi (fun n790 en790 => ?_)
  refine va_bast hx hb hK hP hD hS 1 0 rfl rfl (by unfold vp_in; decide) dX12_lay_29 (fun H locs hP hD hS => ?_)
  obtain ⟨f791, ef791⟩ : ∃ z : Nat → Int32, z = upd f788 6 (vp_nar .byte n790) := ⟨_, rfl⟩
  have hP : va_P (dC, dI) vwCl [(h0, .inr (13, [.ref h1, .int 6, .ref h2, .ref h3, .ref h4])), (h1, .inl (k0, 2000, .inl f791))] H := by rw [ef791]; exact hP
  have hD : va_D A [(h0, .inr (13, [.ref h1, .int 6, .ref h2, .ref h3, .ref h4])), (h1, .inl (k0, 2000, .inl f791))] := by rw [ef791]; exact hD
  refine lv_aload_n hx hb dX12_lay_30 rfl (lv_at hl 1 rfl) ?_
  refine lv_dup hx hb dX12_lay_31 rfl ?_
  refine va_get (D := (dC, dI)) (ci := 13) (v := .int 6) (C := RX12) (T := TX12) (N := 5) hx hb ht inX12 hown hK hP 0 rfl rfl 1 (by decide) (ht _ mW629) (fun _ h9 => h9) rfl dX12_lay_32 ?_
  refine lv_iconst (v := 1) hx hb dX12_lay_35 (by decide) ?_
  refine lv_iadd hx hb dX12_lay_36 ?_
  refine W.eq (congrArg (fun z => F0 m 37 ls (.int z :: [.ref h0])) (by decide : (6 + 1 : Int32) = 7)) ?_
  refine va_put (D := (dC, dI)) (ci := 13) (v := .int 7) (ty := .int) (C := RX12) (T := TX12) (N := 5) hx hb ht inX12 tyX12 tyX12_ok nmX12 hown hK hP hD hS 0 rfl rfl 1 (by decide) (ht _ mW629) (fun _ h9 => h9) rfl (by decide +kernel) rfl rfl (Nat.le_of_ble_eq_true rfl) dX12_lay_37 (fun H locs hP hD hS => ?_)
  have hP : va_P (dC, dI) vwCl [(h0, .inr (13, [.ref h1, .int 7, .ref h2, .ref h3, .ref h4])), (h1, .inl (k0, 2000, .inl f791))] H := hP
  have hD : va_D A [(h0, .inr (13, [.ref h1, .int 7, .ref h2, .ref h3, .ref h4])), (h1, .inl (k0, 2000, .inl f791))] := hD
  refine lv_iinc (v := 0) (lv' := [(2, .int 0), (0, .ref h0), (1, .int x0)]) hx hb dX12_lay_40 hl (k := 0) rfl (by decide) (by decide) rfl (fun ls hl => ?_)
  refine lv_goto (tgt := 3) hx hb dX12_lay_43 (by decide) ?_
  refine lv_iload_n hx hb dX12_lay_3 rfl (lv_at hl 0 rfl) ?_
  refine lv_if_lt (tgt := 46) hx hb dX12_lay_4 (by decide) (fun c => absurd c (by decide)) (fun _ => ?_)
  refine lv_aload_n hx hb dX12_lay_7 rfl (lv_at hl 1 rfl) ?_
  refine va_get (D := (dC, dI)) (ci := 13) (v := .int 7) (C := RX12) (T := TX12) (N := 5) hx hb ht inX12 hown hK hP 0 rfl rfl 1 (by decide) (ht _ mW629) (fun _ h9 => h9) rfl dX12_lay_8 ?_
  refine lv_sipush (v := 2000) hx hb dX12_lay_11 (by decide) ?_
  refine lv_icmp_ge (tgt := 46) hx hb dX12_lay_14 (by decide) (fun c => absurd c (by decide)) (fun _ => ?_)
  refine lv_aload_n hx hb dX12_lay_17 rfl (lv_at hl 1 rfl) ?_
  refine va_get (D := (dC, dI)) (ci := 13) (v := .ref h1) (C := RX12) (T := TX12) (N := 5) hx hb ht inX12 hown hK hP 0 rfl rfl 0 (by decide) (ht _ mW628) (fun _ h9 => h9) rfl dX12_lay_18 ?_
  refine lv_aload_n hx hb dX12_lay_21 rfl (lv_at hl 1 rfl) ?_
  refine va_get (D := (dC, dI)) (ci := 13) (v := .int 7) (C := RX12) (T := TX12) (N := 5) hx hb ht inX12 hown hK hP 0 rfl rfl 1 (by decide) (ht _ mW629) (fun _ h9 => h9) rfl dX12_lay_22 ?_
  refine lv_iload_n hx hb dX12_lay_25 rfl (lv_at hl 2 rfl) ?_
  refine lv_iload_n hx hb dX12_lay_26 rfl (lv_at hl 0 rfl) ?_
  refine lv_iushr hx hb dX12_lay_27 rfl ?_
  refine lv_topi (fun n792 en792 => ?_)
  refine lv_i2b hx hb dX12_lay_28 rfl ?_
  refine lv_topi (fun n793 en793 => ?_)
  refine va_bast hx hb hK hP hD hS 1 0 rfl rfl (by unfold vp_in; decide) dX12_lay_29 (fun H locs hP hD hS => ?_)
  obtain ⟨f794, ef794⟩ : ∃ z : Nat → Int32, z = upd f791 7 (vp_nar .byte n793) := ⟨_, rfl⟩
  have hP : va_P (dC, dI) vwCl [(h0, .inr (13, [.ref h1, .int 7, .ref h2, .ref h3, .ref h4])), (h1, .inl (k0, 2000, .inl f794))] H := by rw [ef794]; exact hP
  have hD : va_D A [(h0, .inr (13, [.ref h1, .int 7, .ref h2, .ref h3, .ref h4])), (h1, .inl (k0, 2000, .inl f794))] := by rw [ef794]; exact hD
  refine lv_aload_n hx hb dX12_lay_30 rfl (lv_at hl 1 rfl) ?_
  refine lv_dup hx hb dX12_lay_31 rfl ?_
  refine va_get (D := (dC, dI)) (ci := 13) (v := .int 7) (C := RX12) (T := TX12) (N := 5) hx hb ht inX12 hown hK hP 0 rfl rfl 1 (by decide) (ht _ mW629) (fun _ h9 => h9) rfl dX12_lay_32 ?_
  refine lv_iconst (v := 1) hx hb dX12_lay_35 (by decide) ?_
  refine lv_iadd hx hb dX12_lay_36 ?_
  refine W.eq (congrArg (fun z => F0 m 37 ls (.int z :: [.ref h0])) (by decide : (7 + 1 : Int32) = 8)) ?_
  refine va_put (D := (dC, dI)) (ci := 13) (v := .int 8) (ty := .int) (C := RX12) (T := TX12) (N := 5) hx hb ht inX12 tyX12 tyX12_ok nmX12 hown hK hP hD hS 0 rfl rfl 1 (by decide) (ht _ mW629) (fun _ h9 => h9) rfl (by decide +kernel) rfl rfl (Nat.le_of_ble_eq_true rfl) dX12_lay_37 (fun H locs hP hD hS => ?_)
  have hP : va_P (dC, dI) vwCl [(h0, .inr (13, [.ref h1, .int 8, .ref h2, .ref h3, .ref h4])), (h1, .inl (k0, 2000, .inl f794))] H := hP
  have hD : va_D A [(h0, .inr (13, [.ref h1, .int 8, .ref h2, .ref h3, .ref h4])), (h1, .inl (k0, 2000, .inl f794))] := hD
  refine lv_iinc (v := (-8)) (lv' := [(2, .int (-8)), (0, .ref h0), (1, .int x0)]) hx hb dX12_lay_40 hl (k := 0) rfl (by decide) (by decide) rfl (fun ls hl => ?_)
  refine lv_goto (tgt := 3) hx hb dX12_lay_43 (by decide) ?_
  refine lv_iload_n hx hb dX12_lay_3 rfl (lv_at hl 0 rfl) ?_
  refine lv_if_lt (tgt := 46) hx hb dX12_lay_4 (by decide) (fun _ => ?_) (fun c => absurd (by decide) c)
  refine W.widen (k := 0) (n := 0) (Nat.le_of_ble_eq_true rfl) (Nat.le_of_ble_eq_true rfl) ?_
  have hP9 := hP.sub (ws' := [(h0, .inr (13, [.ref h1, .int 8, .ref h2, .ref h3, .ref h4])), (h1, .inl (k0, 2000, .inl f794))]) [0, 1] rfl
  have hD9 := hD.sub (ws' := [(h0, .inr (13, [.ref h1, .int 8, .ref h2, .ref h3, .ref h4])), (h1, .inl (k0, 2000, .inl f794))]) [0, 1] (by decide) rfl
  have hK9 := hK.sub (tys' := [(k0, .byte)]) [0] rfl
  exact W.vret hx hb hr (fun t hH hW => ⟨⟨_, rfl, f794, rfl, by rw [hH]; exact hP9, va_K.moved hW.alike hK9, hD9⟩, hS.F hH⟩) hS.2.2 dX12_lay_46 hlocks
set_option maxHeartbeats 4000000 in
set_option maxRecDepth 100000 in
theorem c26_X12_lay (l : Launch) (dC : Nat → ClassId) (dI : Nat → Nat → Nat) (sz : Nat) (h0 h1 h2 h3 h4 : Nat) (k0 : ClassId) (f0 : Nat → Int32) (x0 : Int32) : Met l yX12_lay (.code yX12_lay cX12_lay 3 none :: wAll) ({ frames := 1, cells := 0, slots := 0, locals := 40 }) (pP (dC, dI) [.ref h0, .int x0] [(h0, .inr (13, [.ref h1, .int 8, .ref h2, .ref h3, .ref h4])), (h1, .inl (k0, 2000, .inl f0))] [(k0, .byte)] sz X0) (qQ (fun (v : Option Value) (t : State) => ∃ (gn0 : Nat → Int32), v = none ∧ va_P (dC, dI) vwCl [(h0, .inr (13, [.ref h1, .int 12, .ref h2, .ref h3, .ref h4])), (h1, .inl (k0, 2000, .inl gn0))] t.heap ∧ va_K (dC, dI) vwCl [(k0, .byte)] t ∧ va_D (va_A [(h0, .inr (13, [.ref h1, .int 8, .ref h2, .ref h3, .ref h4])), (h1, .inl (k0, 2000, .inl f0))] sz) [(h0, .inr (13, [.ref h1, .int 12, .ref h2, .ref h3, .ref h4])), (h1, .inl (k0, 2000, .inl gn0))]) (va_A [(h0, .inr (13, [.ref h1, .int 8, .ref h2, .ref h3, .ref h4])), (h1, .inl (k0, 2000, .inl f0))] sz)) 0 0 (va_A [(h0, .inr (13, [.ref h1, .int 8, .ref h2, .ref h3, .ref h4])), (h1, .inl (k0, 2000, .inl f0))] sz) := by
  refine mkMet (y := yX12_lay) (bytes := cX12_lay) (maxL := 3) (ret := none) (rm := { frames := 1, cells := 0, slots := 0, locals := 40 }) (by decide) (Nat.le_of_ble_eq_true rfl) ?_
  intro p e s m args below meth c ls hE hl
  obtain ⟨hx, hb, hml, hr, ht, hown, hlocks, hin, rfl, hP, hK, hD, hX, rfl⟩ := hE
  have hown : s.vm.findClass "CommandHouse" = some m.cls := hown
  have hA : ∀ q : Nat, s.heap.size ≤ q → va_A [(h0, .inr (13, [.ref h1, .int 8, .ref h2, .ref h3, .ref h4])), (h1, .inl (k0, 2000, .inl f0))] s.heap.size q := fun q h => Or.inr h
  generalize hAe : va_A [(h0, .inr (13, [.ref h1, .int 8, .ref h2, .ref h3, .ref h4])), (h1, .inl (k0, 2000, .inl f0))] s.heap.size = A at hD hX hA ⊢
  have hS : va_S A s.heap s.heap [] := va_S.rf
  have hl : lv_has ls 3 [(0, .ref h0), (1, .int x0)] := hl
  refine lv_bipush (v := 24) hx hb dX12_lay_0 (by decide) ?_
  refine lv_istore_n (lv' := [(2, .int 24), (0, .ref h0), (1, .int x0)]) hx hb dX12_lay_2 rfl hl (by decide) rfl (fun ls hl => ?_)
  refine lv_iload_n hx hb dX12_lay_3 rfl (lv_at hl 0 rfl) ?_
  refine lv_if_lt (tgt := 46) hx hb dX12_lay_4 (by decide) (fun c => absurd c (by decide)) (fun _ => ?_)
  refine lv_aload_n hx hb dX12_lay_7 rfl (lv_at hl 1 rfl) ?_
  refine va_get (D := (dC, dI)) (ci := 13) (v := .int 8) (C := RX12) (T := TX12) (N := 5) hx hb ht inX12 hown hK hP 0 rfl rfl 1 (by decide) (ht _ mW629) (fun _ h9 => h9) rfl dX12_lay_8 ?_
  refine lv_sipush (v := 2000) hx hb dX12_lay_11 (by decide) ?_
  refine lv_icmp_ge (tgt := 46) hx hb dX12_lay_14 (by decide) (fun c => absurd c (by decide)) (fun _ => ?_)
  refine lv_aload_n hx hb dX12_lay_17 rfl (lv_at hl 1 rfl) ?_
  refine va_get (D := (dC, dI)) (ci := 13) (v := .ref h1) (C := RX12) (T := TX12) (N := 5) hx hb ht inX12 hown hK hP 0 rfl rfl 0 (by decide) (ht _ mW628) (fun _ h9 => h9) rfl dX12_lay_18 ?_
  refine lv_aload_n hx hb dX12_lay_21 rfl (lv_at hl 1 rfl) ?_
  refine va_get (D := (dC, dI)) (ci := 13) (v := .int 8) (C := RX12) (T := TX12) (N := 5) hx hb ht inX12 hown hK hP 0 rfl rfl 1 (by decide) (ht _ mW629) (fun _ h9 => h9) rfl dX12_lay_22 ?_
  refine lv_iload_n hx hb dX12_lay_25 rfl (lv_at hl 2 rfl) ?_
  refine lv_iload_n hx hb dX12_lay_26 rfl (lv_at hl 0 rfl) ?_
  refine lv_iushr hx hb dX12_lay_27 rfl ?_
  refine lv_topi (fun n808 en808 => ?_)
  refine lv_i2b hx hb dX12_lay_28 rfl ?_
  refine lv_topi (fun n809 en809 => ?_)
  refine va_bast hx hb hK hP hD hS 1 0 rfl rfl (by unfold vp_in; decide) dX12_lay_29 (fun H locs hP hD hS => ?_)
  obtain ⟨f810, ef810⟩ : ∃ z : Nat → Int32, z = upd f0 8 (vp_nar .byte n809) := ⟨_, rfl⟩
  have hP : va_P (dC, dI) vwCl [(h0, .inr (13, [.ref h1, .int 8, .ref h2, .ref h3, .ref h4])), (h1, .inl (k0, 2000, .inl f810))] H := by rw [ef810]; exact hP
  have hD : va_D A [(h0, .inr (13, [.ref h1, .int 8, .ref h2, .ref h3, .ref h4])), (h1, .inl (k0, 2000, .inl f810))] := by rw [ef810]; exact hD
  refine lv_aload_n hx hb dX12_lay_30 rfl (lv_at hl 1 rfl) ?_
  refine lv_dup hx hb dX12_lay_31 rfl ?_
  refine va_get (D := (dC, dI)) (ci := 13) (v := .int 8) (C := RX12) (T := TX12) (N := 5) hx hb ht inX12 hown hK hP 0 rfl rfl 1 (by decide) (ht _ mW629) (fun _ h9 => h9) rfl dX12_lay_32 ?_
  refine lv_iconst (v := 1) hx hb dX12_lay_35 (by decide) ?_
  refine lv_iadd hx hb dX12_lay_36 ?_
  refine W.eq (congrArg (fun z => F0 m 37 ls (.int z :: [.ref h0])) (by decide : (8 + 1 : Int32) = 9)) ?_
  refine va_put (D := (dC, dI)) (ci := 13) (v := .int 9) (ty := .int) (C := RX12) (T := TX12) (N := 5) hx hb ht inX12 tyX12 tyX12_ok nmX12 hown hK hP hD hS 0 rfl rfl 1 (by decide) (ht _ mW629) (fun _ h9 => h9) rfl (by decide +kernel) rfl rfl (Nat.le_of_ble_eq_true rfl) dX12_lay_37 (fun H locs hP hD hS => ?_)
  have hP : va_P (dC, dI) vwCl [(h0, .inr (13, [.ref h1, .int 9, .ref h2, .ref h3, .ref h4])), (h1, .inl (k0, 2000, .inl f810))] H := hP
  have hD : va_D A [(h0, .inr (13, [.ref h1, .int 9, .ref h2, .ref h3, .ref h4])), (h1, .inl (k0, 2000, .inl f810))] := hD
  refine lv_iinc (v := 16) (lv' := [(2, .int 16), (0, .ref h0), (1, .int x0)]) hx hb dX12_lay_40 hl (k := 0) rfl (by decide) (by decide) rfl (fun ls hl => ?_)
  refine lv_goto (tgt := 3) hx hb dX12_lay_43 (by decide) ?_
  refine lv_iload_n hx hb dX12_lay_3 rfl (lv_at hl 0 rfl) ?_
  refine lv_if_lt (tgt := 46) hx hb dX12_lay_4 (by decide) (fun c => absurd c (by decide)) (fun _ => ?_)
  refine lv_aload_n hx hb dX12_lay_7 rfl (lv_at hl 1 rfl) ?_
  refine va_get (D := (dC, dI)) (ci := 13) (v := .int 9) (C := RX12) (T := TX12) (N := 5) hx hb ht inX12 hown hK hP 0 rfl rfl 1 (by decide) (ht _ mW629) (fun _ h9 => h9) rfl dX12_lay_8 ?_
  refine lv_sipush (v := 2000) hx hb dX12_lay_11 (by decide) ?_
  refine lv_icmp_ge (tgt := 46) hx hb dX12_lay_14 (by decide) (fun c => absurd c (by decide)) (fun _ => ?_)
  refine lv_aload_n hx hb dX12_lay_17 rfl (lv_at hl 1 rfl) ?_
  refine va_get (D := (dC, dI)) (ci := 13) (v := .ref h1) (C := RX12) (T := TX12) (N := 5) hx hb ht inX12 hown hK hP 0 rfl rfl 0 (by decide) (ht _ mW628) (fun _ h9 => h9) rfl dX12_lay_18 ?_
  refine lv_aload_n hx hb dX12_lay_21 rfl (lv_at hl 1 rfl) ?_
  refine va_get (D := (dC, dI)) (ci := 13) (v := .int 9) (C := RX12) (T := TX12) (N := 5) hx hb ht inX12 hown hK hP 0 rfl rfl 1 (by decide) (ht _ mW629) (fun _ h9 => h9) rfl dX12_lay_22 ?_
  refine lv_iload_n hx hb dX12_lay_25 rfl (lv_at hl 2 rfl) ?_
  refine lv_iload_n hx hb dX12_lay_26 rfl (lv_at hl 0 rfl) ?_
  refine lv_iushr hx hb dX12_lay_27 rfl ?_
  refine lv_topi (fun n811 en811 => ?_)
  refine lv_i2b hx hb dX12_lay_28 rfl ?_
  refine lv_topi (fun n812 en812 => ?_)
  refine va_bast hx hb hK hP hD hS 1 0 rfl rfl (by unfold vp_in; decide) dX12_lay_29 (fun H locs hP hD hS => ?_)
  obtain ⟨f813, ef813⟩ : ∃ z : Nat → Int32, z = upd f810 9 (vp_nar .byte n812) := ⟨_, rfl⟩
  have hP : va_P (dC, dI) vwCl [(h0, .inr (13, [.ref h1, .int 9, .ref h2, .ref h3, .ref h4])), (h1, .inl (k0, 2000, .inl f813))] H := by rw [ef813]; exact hP
  have hD : va_D A [(h0, .inr (13, [.ref h1, .int 9, .ref h2, .ref h3, .ref h4])), (h1, .inl (k0, 2000, .inl f813))] := by rw [ef813]; exact hD
  refine lv_aload_n hx hb dX12_lay_30 rfl (lv_at hl 1 rfl) ?_
  refine lv_dup hx hb dX12_lay_31 rfl ?_
  refine va_get (D := (dC, dI)) (ci := 13) (v := .int 9) (C := RX12) (T := TX12) (N := 5) hx hb ht inX12 hown hK hP 0 rfl rfl 1 (by decide) (ht _ mW629) (fun _ h9 => h9) rfl dX12_lay_32 ?_
  refine lv_iconst (v := 1) hx hb dX12_lay_35 (by decide) ?_
  refine lv_iadd hx hb dX12_lay_36 ?_
  refine W.eq (congrArg (fun z => F0 m 37 ls (.int z :: [.ref h0])) (by decide : (9 + 1 : Int32) = 10)) ?_
  refine va_put (D := (dC, dI)) (ci := 13) (v := .int 10) (ty := .int) (C := RX12) (T := TX12) (N := 5) hx hb ht inX12 tyX12 tyX12_ok nmX12 hown hK hP hD hS 0 rfl rfl 1 (by decide) (ht _ mW629) (fun _ h9 => h9) rfl (by decide +kernel) rfl rfl (Nat.le_of_ble_eq_true rfl) dX12_lay_37 (fun H locs hP hD hS => ?_)
  have hP : va_P (dC, dI) vwCl [(h0, .inr (13, [.ref h1, .int 10, .ref h2, .ref h3, .ref h4])), (h1, .inl (k0, 2000, .inl f813))] H := hP
  have hD : va_D A [(h0, .inr (13, [.ref h1, .int 10, .ref h2, .ref h3, .ref h4])), (h1, .inl (k0, 2000, .inl f813))] := hD
  refine lv_iinc (v := 8) (lv' := [(2, .int 8), (0, .ref h0), (1, .int x0)]) hx hb dX12_lay_40 hl (k := 0) rfl (by decide) (by decide) rfl (fun ls hl => ?_)
  refine lv_goto (tgt := 3) hx hb dX12_lay_43 (by decide) ?_
  refine lv_iload_n hx hb dX12_lay_3 rfl (lv_at hl 0 rfl) ?_
  refine lv_if_lt (tgt := 46) hx hb dX12_lay_4 (by decide) (fun c => absurd c (by decide)) (fun _ => ?_)
  refine lv_aload_n hx hb dX12_lay_7 rfl (lv_at hl 1 rfl) ?_
  refine va_get (D := (dC, dI)) (ci := 13) (v := .int 10) (C := RX12) (T := TX12) (N := 5) hx hb ht inX12 hown hK hP 0 rfl rfl 1 (by decide) (ht _ mW629) (fun _ h9 => h9) rfl dX12_lay_8 ?_
  refine lv_sipush (v := 2000) hx hb dX12_lay_11 (by decide) ?_
  refine lv_icmp_ge (tgt := 46) hx hb dX12_lay_14 (by decide) (fun c => absurd c (by decide)) (fun _ => ?_)
  refine lv_aload_n hx hb dX12_lay_17 rfl (lv_at hl 1 rfl) ?_
  refine va_get (D := (dC, dI)) (ci := 13) (v := .ref h1) (C := RX12) (T := TX12) (N := 5) hx hb ht inX12 hown hK hP 0 rfl rfl 0 (by decide) (ht _ mW628) (fun _ h9 => h9) rfl dX12_lay_18 ?_
  refine lv_aload_n hx hb dX12_lay_21 rfl (lv_at hl 1 rfl) ?_
  refine va_get (D := (dC, dI)) (ci := 13) (v := .int 10) (C := RX12) (T := TX12) (N := 5) hx hb ht inX12 hown hK hP 0 rfl rfl 1 (by decide) (ht _ mW629) (fun _ h9 => h9) rfl dX12_lay_22 ?_
  refine lv_iload_n hx hb dX12_lay_25 rfl (lv_at hl 2 rfl) ?_
  refine lv_iload_n hx hb dX12_lay_26 rfl (lv_at hl 0 rfl) ?_
  refine lv_iushr hx hb dX12_lay_27 rfl ?_
  refine lv_topi (fun n814 en814 => ?_)
  refine lv_i2b hx hb dX12_lay_28 rfl ?_
  refine lv_topi (fun n815 en815 => ?_)
  refine va_bast hx hb hK hP hD hS 1 0 rfl rfl (by unfold vp_in; decide) dX12_lay_29 (fun H locs hP hD hS => ?_)
  obtain ⟨f816, ef816⟩ : ∃ z : Nat → Int32, z = upd f813 10 (vp_nar .byte n815) := ⟨_, rfl⟩
  have hP : va_P (dC, dI) vwCl [(h0, .inr (13, [.ref h1, .int 10, .ref h2, .ref h3, .ref h4])), (h1, .inl (k0, 2000, .inl f816))] H := by rw [ef816]; exact hP
  have hD : va_D A [(h0, .inr (13, [.ref h1, .int 10, .ref h2, .ref h3, .ref h4])), (h1, .inl (k0, 2000, .inl f816))] := by rw [ef816]; exact hD
  refine lv_aload_n hx hb dX12_lay_30 rfl (lv_at hl 1 rfl) ?_
  refine lv_dup hx hb dX12_lay_31 rfl ?_
  refine va_get (D := (dC, dI)) (ci := 13) (v := .int 10) (C := RX12) (T := TX12) (N := 5) hx hb ht inX12 hown hK hP 0 rfl rfl 1 (by decide) (ht _ mW629) (fun _ h9 => h9) rfl dX12_lay_32 ?_
  refine lv_iconst (v := 1) hx hb dX12_lay_35 (by decide) ?_
  refine lv_iadd hx hb dX12_lay_36 ?_
  refine W.eq (congrArg (fun z => F0 m 37 ls (.int z :: [.ref h0])) (by decide : (10 + 1 : Int32) = 11)) ?_
  refine va_put (D := (dC, dI)) (ci := 13) (v := .int 11) (ty := .int) (C := RX12) (T := TX12) (N := 5) hx hb ht inX12 tyX12 tyX12_ok nmX12 hown hK hP hD hS 0 rfl rfl 1 (by decide) (ht _ mW629) (fun _ h9 => h9) rfl (by decide +kernel) rfl rfl (Nat.le_of_ble_eq_true rfl) dX12_lay_37 (fun H locs hP hD hS => ?_)
  have hP : va_P (dC, dI) vwCl [(h0, .inr (13, [.ref h1, .int 11, .ref h2, .ref h3, .ref h4])), (h1, .inl (k0, 2000, .inl f816))] H := hP
  have hD : va_D A [(h0, .inr (13, [.ref h1, .int 11, .ref h2, .ref h3, .ref h4])), (h1, .inl (k0, 2000, .inl f816))] := hD
  refine lv_iinc (v := 0) (lv' := [(2, .int 0), (0, .ref h0), (1, .int x0)]) hx hb dX12_lay_40 hl (k := 0) rfl (by decide) (by decide) rfl (fun ls hl => ?_)
  refine lv_goto (tgt := 3) hx hb dX12_lay_43 (by decide) ?_
  refine lv_iload_n hx hb dX12_lay_3 rfl (lv_at hl 0 rfl) ?_
  refine lv_if_lt (tgt := 46) hx hb dX12_lay_4 (by decide) (fun c => absurd c (by decide)) (fun _ => ?_)
  refine lv_aload_n hx hb dX12_lay_7 rfl (lv_at hl 1 rfl) ?_
  refine va_get (D := (dC, dI)) (ci := 13) (v := .int 11) (C := RX12) (T := TX12) (N := 5) hx hb ht inX12 hown hK hP 0 rfl rfl 1 (by decide) (ht _ mW629) (fun _ h9 => h9) rfl dX12_lay_8 ?_
  refine lv_sipush (v := 2000) hx hb dX12_lay_11 (by decide) ?_
  refine lv_icmp_ge (tgt := 46) hx hb dX12_lay_14 (by decide) (fun c => absurd c (by decide)) (fun _ => ?_)
  refine lv_aload_n hx hb dX12_lay_17 rfl (lv_at hl 1 rfl) ?_
  refine va_get (D := (dC, dI)) (ci := 13) (v := .ref h1) (C := RX12) (T := TX12) (N := 5) hx hb ht inX12 hown hK hP 0 rfl rfl 0 (by decide) (ht _ mW628) (fun _ h9 => h9) rfl dX12_lay_18 ?_
  refine lv_aload_n hx hb dX12_lay_21 rfl (lv_at hl 1 rfl) ?_
  refine va_get (D := (dC, dI)) (ci := 13) (v := .int 11) (C := RX12) (T := TX12) (N := 5) hx hb ht inX12 hown hK hP 0 rfl rfl 1 (by decide) (ht _ mW629) (fun _ h9 => h9) rfl dX12_lay_22 ?_
  refine lv_iload_n hx hb dX12_lay_25 rfl (lv_at hl 2 rfl) ?_
  refine lv_iload_n hx hb dX12_lay_26 rfl (lv_at hl 0 rfl) ?_
  refine lv_iushr hx hb dX12_lay_27 rfl ?_
  refine lv_topi (fun n817 en817 => ?_)
  refine lv_i2b hx hb dX12_lay_28 rfl ?_
  refine lv_topi (fun n818 en818 => ?_)
  refine va_bast hx hb hK hP hD hS 1 0 rfl rfl (by unfold vp_in; decide) dX12_lay_29 (fun H locs hP hD hS => ?_)
  obtain ⟨f819, ef819⟩ : ∃ z : Nat → Int32, z = upd f816 11 (vp_nar .byte n818) := ⟨_, rfl⟩
  have hP : va_P (dC, dI) vwCl [(h0, .inr (13, [.ref h1, .int 11, .ref h2, .ref h3, .ref h4])), (h1, .inl (k0, 2000, .inl f819))] H := by rw [ef819]; exact hP
  have hD : va_D A [(h0, .inr (13, [.ref h1, .int 11, .ref h2, .ref h3, .ref h4])), (h1, .inl (k0, 2000, .inl f819))] := by rw [ef819]; exact hD
  refine lv_aload_n hx hb dX12_lay_30 rfl (lv_at hl 1 rfl) ?_
  refine lv_dup hx hb dX12_lay_31 rfl ?_
  refine va_get (D := (dC, dI)) (ci := 13) (v := .int 11) (C := RX12) (T := TX12) (N := 5) hx hb ht inX12 hown hK hP 0 rfl rfl 1 (by decide) (ht _ mW629) (fun _ h9 => h9) rfl dX12_lay_32 ?_
  refine lv_iconst (v := 1) hx hb dX12_lay_35 (by decide) ?_
  refine lv_iadd hx hb dX12_lay_36 ?_
  refine W.eq (congrArg (fun z => F0 m 37 ls (.int z :: [.ref h0])) (by decide : (11 + 1 : Int32) = 12)) ?_
  refine va_put (D := (dC, dI)) (ci := 13) (v := .int 12) (ty := .int) (C := RX12) (T := TX12) (N := 5) hx hb ht inX12 tyX12 tyX12_ok nmX12 hown hK hP hD hS 0 rfl rfl 1 (by decide) (ht _ mW629) (fun _ h9 => h9) rfl (by decide +kernel) rfl rfl (Nat.le_of_ble_eq_true rfl) dX12_lay_37 (fun H locs hP hD hS => ?_)
  have hP : va_P (dC, dI) vwCl [(h0, .inr (13, [.ref h1, .int 12, .ref h2, .ref h3, .ref h4])), (h1, .inl (k0, 2000, .inl f819))] H := hP
  have hD : va_D A [(h0, .inr (13, [.ref h1, .int 12, .ref h2, .ref h3, .ref h4])), (h1, .inl (k0, 2000, .inl f819))] := hD
  refine lv_iinc (v := (-8)) (lv' := [(2, .int (-8)), (0, .ref h0), (1, .int x0)]) hx hb dX12_lay_40 hl (k := 0) rfl (by decide) (by decide) rfl (fun ls hl => ?_)
  refine lv_goto (tgt := 3) hx hb dX12_lay_43 (by decide) ?_
  refine lv_iload_n hx hb dX12_lay_3 rfl (lv_at hl 0 rfl) ?_
  refine lv_if_lt (tgt := 46) hx hb dX12_lay_4 (by decide) (fun _ => ?_) (fun c => absurd (by decide) c)
  refine W.widen (k := 0) (n := 0) (Nat.le_of_ble_eq_true rfl) (Nat.le_of_ble_eq_true rfl) ?_
  have hP9 := hP.sub (ws' := [(h0, .inr (13, [.ref h1, .int 12, .ref h2, .ref h3, .ref h4])), (h1, .inl (k0, 2000, .inl f819))]) [0, 1] rfl
  have hD9 := hD.sub (ws' := [(h0, .inr (13, [.ref h1, .int 12, .ref h2, .ref h3, .ref h4])), (h1, .inl (k0, 2000, .inl f819))]) [0, 1] (by decide) rfl
  have hK9 := hK.sub (tys' := [(k0, .byte)]) [0] rfl
  exact W.vret hx hb hr (fun t hH hW => ⟨⟨_, rfl, f819, rfl, by rw [hH]; exact hP9, va_K.moved hW.alike hK9, hD9⟩, hS.F hH⟩) hS.2.2 dX12_lay_46 hlocks
set_option maxHeartbeats 4000000 in
set_option maxRecDepth 100000 in
theorem c27_X12_lay (l : Launch) (dC : Nat → ClassId) (dI : Nat → Nat → Nat) (sz : Nat) (h0 h1 h2 h3 h4 : Nat) (k0 : ClassId) (f0 : Nat → Int32) (x0 : Int32) : Met l yX12_lay (.code yX12_lay cX12_lay 3 none :: wAll) ({ frames := 1, cells := 0, slots := 0, locals := 40 }) (pP (dC, dI) [.ref h0, .int x0] [(h0, .inr (13, [.ref h1, .int 12, .ref h2, .ref h3, .ref h4])), (h1, .inl (k0, 2000, .inl f0))] [(k0, .byte)] sz X0) (qQ (fun (v : Option Value) (t : State) => ∃ (gn0 : Nat → Int32), v = none ∧ va_P (dC, dI) vwCl [(h0, .inr (13, [.ref h1, .int 16, .ref h2, .ref h3, .ref h4])), (h1, .inl (k0, 2000, .inl gn0))] t.heap ∧ va_K (dC, dI) vwCl [(k0, .byte)] t ∧ va_D (va_A [(h0, .inr (13, [.ref h1, .int 12, .ref h2, .ref h3, .ref h4])), (h1, .inl (k0, 2000, .inl f0))] sz) [(h0, .inr (13, [.ref h1, .int 16, .ref h2, .ref h3, .ref h4])), (h1, .inl (k0, 2000, .inl gn0))]) (va_A [(h0, .inr (13, [.ref h1, .int 12, .ref h2, .ref h3, .ref h4])), (h1, .inl (k0, 2000, .inl f0))] sz)) 0 0 (va_A [(h0, .inr (13, [.ref h1, .int 12, .ref h2, .ref h3, .ref h4])), (h1, .inl (k0, 2000, .inl f0))] sz) := by
  refine mkMet (y := yX12_lay) (bytes := cX12_lay) (maxL := 3) (ret := none) (rm := { frames := 1, cells := 0, slots := 0, locals := 40 }) (by decide) (Nat.le_of_ble_eq_true rfl) ?_
  intro p e s m args below meth c ls hE hl
  obtain ⟨hx, hb, hml, hr, ht, hown, hlocks, hin, rfl, hP, hK, hD, hX, rfl⟩ := hE
  have hown : s.vm.findClass "CommandHouse" = some m.cls := hown
  have hA : ∀ q : Nat, s.heap.size ≤ q → va_A [(h0, .inr (13, [.ref h1, .int 12, .ref h2, .ref h3, .ref h4])), (h1, .inl (k0, 2000, .inl f0))] s.heap.size q := fun q h => Or.inr h
  generalize hAe : va_A [(h0, .inr (13, [.ref h1, .int 12, .ref h2, .ref h3, .ref h4])), (h1, .inl (k0, 2000, .inl f0))] s.heap.size = A at hD hX hA ⊢
  have hS : va_S A s.heap s.heap [] := va_S.rf
  have hl : lv_has ls 3 [(0, .ref h0), (1, .int x0)] := hl
  refine lv_bipush (v := 24) hx hb dX12_lay_0 (by decide) ?_
  refine lv_istore_n (lv' := [(2, .int 24), (0, .ref h0), (1, .int x0)]) hx hb dX12_lay_2 rfl hl (by decide) rfl (fun ls hl => ?_)
  refine lv_iload_n hx hb dX12_lay_3 rfl (lv_at hl 0 rfl) ?_
  refine lv_if_lt (tgt := 46) hx hb dX12_lay_4 (by decide) (fun c => absurd c (by decide)) (fun _ => ?_)
  refine lv_aload_n hx hb dX12_lay_7 rfl (lv_at hl 1 rfl) ?_
  refine va_get (D := (dC, dI)) (ci := 13) (v := .int 12) (C := RX12) (T := TX12) (N := 5) hx hb ht inX12 hown hK hP 0 rfl rfl 1 (by decide) (ht _ mW629) (fun _ h9 => h9) rfl dX12_lay_8 ?_
  refine lv_sipush (v := 2000) hx hb dX12_lay_11 (by decide) ?_
  refine lv_icmp_ge (tgt := 46) hx hb dX12_lay_14 (by decide) (fun c => absurd c (by decide)) (fun _ => ?_)
  refine lv_aload_n hx hb dX12_lay_17 rfl (lv_at hl 1 rfl) ?_
  refine va_get (D := (dC, dI)) (ci := 13) (v := .ref h1) (C := RX12) (T := TX12) (N := 5) hx hb ht inX12 hown hK hP 0 rfl rfl 0 (by decide) (ht _ mW628) (fun _ h9 => h9) rfl dX12_lay_18 ?_
  refine lv_aload_n hx hb dX12_lay_21 rfl (lv_at hl 1 rfl) ?_
  refine va_get (D := (dC, dI)) (ci := 13) (v := .int 12) (C := RX12) (T := TX12) (N := 5) hx hb ht inX12 hown hK hP 0 rfl rfl 1 (by decide) (ht _ mW629) (fun _ h9 => h9) rfl dX12_lay_22 ?_
  refine lv_iload_n hx hb dX12_lay_25 rfl (lv_at hl 2 rfl) ?_
  refine lv_iload_n hx hb dX12_lay_26 rfl (lv_at hl 0 rfl) ?_
  refine lv_iushr hx hb dX12_lay_27 rfl ?_
  refine lv_topi (fun n833 en833 => ?_)
  refine lv_i2b hx hb dX12_lay_28 rfl ?_
  refine lv_topi (fun n834 en834 => ?_)
  refine va_bast hx hb hK hP hD hS 1 0 rfl rfl (by unfold vp_in; decide) dX12_lay_29 (fun H locs hP hD hS => ?_)
  obtain ⟨f835, ef835⟩ : ∃ z : Nat → Int32, z = upd f0 12 (vp_nar .byte n834) := ⟨_, rfl⟩
  have hP : va_P (dC, dI) vwCl [(h0, .inr (13, [.ref h1, .int 12, .ref h2, .ref h3, .ref h4])), (h1, .inl (k0, 2000, .inl f835))] H := by rw [ef835]; exact hP
  have hD : va_D A [(h0, .inr (13, [.ref h1, .int 12, .ref h2, .ref h3, .ref h4])), (h1, .inl (k0, 2000, .inl f835))] := by rw [ef835]; exact hD
  refine lv_aload_n hx hb dX12_lay_30 rfl (lv_at hl 1 rfl) ?_
  refine lv_dup hx hb dX12_lay_31 rfl ?_
  refine va_get (D := (dC, dI)) (ci := 13) (v := .int 12) (C := RX12) (T := TX12) (N := 5) hx hb ht inX12 hown hK hP 0 rfl rfl 1 (by decide) (ht _ mW629) (fun _ h9 => h9) rfl dX12_lay_32 ?_
  refine lv_iconst (v := 1) hx hb dX12_lay_35 (by decide) ?_
  refine lv_iadd hx hb dX12_lay_36 ?_
  refine W.eq (congrArg (fun z => F0 m 37 ls (.int z :: [.ref h0])) (by decide : (12 + 1 : Int32) = 13)) ?_
  refine va_put (D := (dC, dI)) (ci := 13) (v := .int 13) (ty := .int) (C := RX12) (T := TX12) (N := 5) hx hb ht inX12 tyX12 tyX12_ok nmX12 hown hK hP hD hS 0 rfl rfl 1 (by decide) (ht _ mW629) (fun _ h9 => h9) rfl (by decide +kernel) rfl rfl (Nat.le_of_ble_eq_true rfl) dX12_lay_37 (fun H locs hP hD hS => ?_)
  have hP : va_P (dC, dI) vwCl [(h0, .inr (13, [.ref h1, .int 13, .ref h2, .ref h3, .ref h4])), (h1, .inl (k0, 2000, .inl f835))] H := hP
  have hD : va_D A [(h0, .inr (13, [.ref h1, .int 13, .ref h2, .ref h3, .ref h4])), (h1, .inl (k0, 2000, .inl f835))] := hD
  refine lv_iinc (v := 16) (lv' := [(2, .int 16), (0, .ref h0), (1, .int x0)]) hx hb dX12_lay_40 hl (k := 0) rfl (by decide) (by decide) rfl (fun ls hl => ?_)
  refine lv_goto (tgt := 3) hx hb dX12_lay_43 (by decide) ?_
  refine lv_iload_n hx hb dX12_lay_3 rfl (lv_at hl 0 rfl) ?_
  refine lv_if_lt (tgt := 46) hx hb dX12_lay_4 (by decide) (fun c => absurd c (by decide)) (fun _ => ?_)
  refine lv_aload_n hx hb dX12_lay_7 rfl (lv_at hl 1 rfl) ?_
  refine va_get (D := (dC, dI)) (ci := 13) (v := .int 13) (C := RX12) (T := TX12) (N := 5) hx hb ht inX12 hown hK hP 0 rfl rfl 1 (by decide) (ht _ mW629) (fun _ h9 => h9) rfl dX12_lay_8 ?_
  refine lv_sipush (v := 2000) hx hb dX12_lay_11 (by decide) ?_
  refine lv_icmp_ge (tgt := 46) hx hb dX12_lay_14 (by decide) (fun c => absurd c (by decide)) (fun _ => ?_)
  refine lv_aload_n hx hb dX12_lay_17 rfl (lv_at hl 1 rfl) ?_
  refine va_get (D := (dC, dI)) (ci := 13) (v := .ref h1) (C := RX12) (T := TX12) (N := 5) hx hb ht inX12 hown hK hP 0 rfl rfl 0 (by decide) (ht _ mW628) (fun _ h9 => h9) rfl dX12_lay_18 ?_
  refine lv_aload_n hx hb dX12_lay_21 rfl (lv_at hl 1 rfl) ?_
  refine va_get (D := (dC, dI)) (ci := 13) (v := .int 13) (C := RX12) (T := TX12) (N := 5) hx hb ht inX12 hown hK hP 0 rfl rfl 1 (by decide) (ht _ mW629) (fun _ h9 => h9) rfl dX12_lay_22 ?_
  refine lv_iload_n hx hb dX12_lay_25 rfl (lv_at hl 2 rfl) ?_
  refine lv_iload_n hx hb dX12_lay_26 rfl (lv_at hl 0 rfl) ?_
  refine lv_iushr hx hb dX12_lay_27 rfl ?_
  refine lv_topi (fun n836 en836 => ?_)
  refine lv_i2b hx hb dX12_lay_28 rfl ?_
  refine lv_topi (fun n837 en837 => ?_)
  refine va_bast hx hb hK hP hD hS 1 0 rfl rfl (by unfold vp_in; decide) dX12_lay_29 (fun H locs hP hD hS => ?_)
  obtain ⟨f838, ef838⟩ : ∃ z : Nat → Int32, z = upd f835 13 (vp_nar .byte n837) := ⟨_, rfl⟩
  have hP : va_P (dC, dI) vwCl [(h0, .inr (13, [.ref h1, .int 13, .ref h2, .ref h3, .ref h4])), (h1, .inl (k0, 2000, .inl f838))] H := by rw [ef838]; exact hP
  have hD : va_D A [(h0, .inr (13, [.ref h1, .int 13, .ref h2, .ref h3, .ref h4])), (h1, .inl (k0, 2000, .inl f838))] := by rw [ef838]; exact hD
  refine lv_aload_n hx hb dX12_lay_30 rfl (lv_at hl 1 rfl) ?_
  refine lv_dup hx hb dX12_lay_31 rfl ?_
  refine va_get (D := (dC, dI)) (ci := 13) (v := .int 13) (C := RX12) (T := TX12) (N := 5) hx hb ht inX12 hown hK hP 0 rfl rfl 1 (by decide) (ht _ mW629) (fun _ h9 => h9) rfl dX12_lay_32 ?_
  refine lv_iconst (v := 1) hx hb dX12_lay_35 (by decide) ?_
  refine lv_iadd hx hb dX12_lay_36 ?_
  refine W.eq (congrArg (fun z => F0 m 37 ls (.int z :: [.ref h0])) (by decide : (13 + 1 : Int32) = 14)) ?_
  refine va_put (D := (dC, dI)) (ci := 13) (v := .int 14) (ty := .int) (C := RX12) (T := TX12) (N := 5) hx hb ht inX12 tyX12 tyX12_ok nmX12 hown hK hP hD hS 0 rfl rfl 1 (by decide) (ht _ mW629) (fun _ h9 => h9) rfl (by decide +kernel) rfl rfl (Nat.le_of_ble_eq_true rfl) dX12_lay_37 (fun H locs hP hD hS => ?_)
  have hP : va_P (dC, dI) vwCl [(h0, .inr (13, [.ref h1, .int 14, .ref h2, .ref h3, .ref h4])), (h1, .inl (k0, 2000, .inl f838))] H := hP
  have hD : va_D A [(h0, .inr (13, [.ref h1, .int 14, .ref h2, .ref h3, .ref h4])), (h1, .inl (k0, 2000, .inl f838))] := hD
  refine lv_iinc (v := 8) (lv' := [(2, .int 8), (0, .ref h0), (1, .int x0)]) hx hb dX12_lay_40 hl (k := 0) rfl (by decide) (by decide) rfl (fun ls hl => ?_)
  refine lv_goto (tgt := 3) hx hb dX12_lay_43 (by decide) ?_
  refine lv_iload_n hx hb dX12_lay_3 rfl (lv_at hl 0 rfl) ?_
  refine lv_if_lt (tgt := 46) hx hb dX12_lay_4 (by decide) (fun c => absurd c (by decide)) (fun _ => ?_)
  refine lv_aload_n hx hb dX12_lay_7 rfl (lv_at hl 1 rfl) ?_
  refine va_get (D := (dC, dI)) (ci := 13) (v := .int 14) (C := RX12) (T := TX12) (N := 5) hx hb ht inX12 hown hK hP 0 rfl rfl 1 (by decide) (ht _ mW629) (fun _ h9 => h9) rfl dX12_lay_8 ?_
  refine lv_sipush (v := 2000) hx hb dX12_lay_11 (by decide) ?_
  refine lv_icmp_ge (tgt := 46) hx hb dX12_lay_14 (by decide) (fun c => absurd c (by decide)) (fun _ => ?_)
  refine lv_aload_n hx hb dX12_lay_17 rfl (lv_at hl 1 rfl) ?_
  refine va_get (D := (dC, dI)) (ci := 13) (v := .ref h1) (C := RX12) (T := TX12) (N := 5) hx hb ht inX12 hown hK hP 0 rfl rfl 0 (by decide) (ht _ mW628) (fun _ h9 => h9) rfl dX12_lay_18 ?_
  refine lv_aload_n hx hb dX12_lay_21 rfl (lv_at hl 1 rfl) ?_
  refine va_get (D := (dC, dI)) (ci := 13) (v := .int 14) (C := RX12) (T := TX12) (N := 5) hx hb ht inX12 hown hK hP 0 rfl rfl 1 (by decide) (ht _ mW629) (fun _ h9 => h9) rfl dX12_lay_22 ?_
  refine lv_iload_n hx hb dX12_lay_25 rfl (lv_at hl 2 rfl) ?_
  refine lv_iload_n hx hb dX12_lay_26 rfl (lv_at hl 0 rfl) ?_
  refine lv_iushr hx hb dX12_lay_27 rfl ?_
  refine lv_topi (fun n839 en839 => ?_)
  refine lv_i2b hx hb dX12_lay_28 rfl ?_
  refine lv_topi (fun n840 en840 => ?_)
  refine va_bast hx hb hK hP hD hS 1 0 rfl rfl (by unfold vp_in; decide) dX12_lay_29 (fun H locs hP hD hS => ?_)
  obtain ⟨f841, ef841⟩ : ∃ z : Nat → Int32, z = upd f838 14 (vp_nar .byte n840) := ⟨_, rfl⟩
  have hP : va_P (dC, dI) vwCl [(h0, .inr (13, [.ref h1, .int 14, .ref h2, .ref h3, .ref h4])), (h1, .inl (k0, 2000, .inl f841))] H := by rw [ef841]; exact hP
  have hD : va_D A [(h0, .inr (13, [.ref h1, .int 14, .ref h2, .ref h3, .ref h4])), (h1, .inl (k0, 2000, .inl f841))] := by rw [ef841]; exact hD
  refine lv_aload_n hx hb dX12_lay_30 rfl (lv_at hl 1 rfl) ?_
  refine lv_dup hx hb dX12_lay_31 rfl ?_
  refine va_get (D := (dC, dI)) (ci := 13) (v := .int 14) (C := RX12) (T := TX12) (N := 5) hx hb ht inX12 hown hK hP 0 rfl rfl 1 (by decide) (ht _ mW629) (fun _ h9 => h9) rfl dX12_lay_32 ?_
  refine lv_iconst (v := 1) hx hb dX12_lay_35 (by decide) ?_
  refine lv_iadd hx hb dX12_lay_36 ?_
  refine W.eq (congrArg (fun z => F0 m 37 ls (.int z :: [.ref h0])) (by decide : (14 + 1 : Int32) = 15)) ?_
  refine va_put (D := (dC, dI)) (ci := 13) (v := .int 15) (ty := .int) (C := RX12) (T := TX12) (N := 5) hx hb ht inX12 tyX12 tyX12_ok nmX12 hown hK hP hD hS 0 rfl rfl 1 (by decide) (ht _ mW629) (fun _ h9 => h9) rfl (by decide +kernel) rfl rfl (Nat.le_of_ble_eq_true rfl) dX12_lay_37 (fun H locs hP hD hS => ?_)
  have hP : va_P (dC, dI) vwCl [(h0, .inr (13, [.ref h1, .int 15, .ref h2, .ref h3, .ref h4])), (h1, .inl (k0, 2000, .inl f841))] H := hP
  have hD : va_D A [(h0, .inr (13, [.ref h1, .int 15, .ref h2, .ref h3, .ref h4])), (h1, .inl (k0, 2000, .inl f841))] := hD
  refine lv_iinc (v := 0) (lv' := [(2, .int 0), (0, .ref h0), (1, .int x0)]) hx hb dX12_lay_40 hl (k := 0) rfl (by decide) (by decide) rfl (fun ls hl => ?_)
  refine lv_goto (tgt := 3) hx hb dX12_lay_43 (by decide) ?_
  refine lv_iload_n hx hb dX12_lay_3 rfl (lv_at hl 0 rfl) ?_
  refine lv_if_lt (tgt := 46) hx hb dX12_lay_4 (by decide) (fun c => absurd c (by decide)) (fun _ => ?_)
  refine lv_aload_n hx hb dX12_lay_7 rfl (lv_at hl 1 rfl) ?_
  refine va_get (D := (dC, dI)) (ci := 13) (v := .int 15) (C := RX12) (T := TX12) (N := 5) hx hb ht inX12 hown hK hP 0 rfl rfl 1 (by decide) (ht _ mW629) (fun _ h9 => h9) rfl dX12_lay_8 ?_
  refine lv_sipush (v := 2000) hx hb dX12_lay_11 (by decide) ?_
  refine lv_icmp_ge (tgt := 46) hx hb dX12_lay_14 (by decide) (fun c => absurd c (by decide)) (fun _ => ?_)
  refine lv_aload_n hx hb dX12_lay_17 rfl (lv_at hl 1 rfl) ?_
  refine va_get (D := (dC, dI)) (ci := 13) (v := .ref h1) (C := RX12) (T := TX12) (N := 5) hx hb ht inX12 hown hK hP 0 rfl rfl 0 (by decide) (ht _ mW628) (fun _ h9 => h9) rfl dX12_lay_18 ?_
  refine lv_aload_n hx hb dX12_lay_21 rfl (lv_at hl 1 rfl) ?_
  refine va_get (D := (dC, dI)) (ci := 13) (v := .int 15) (C := RX12) (T := TX12) (N := 5) hx hb ht inX12 hown hK hP 0 rfl rfl 1 (by decide) (ht _ mW629) (fun _ h9 => h9) rfl dX12_lay_22 ?_
  refine lv_iload_n hx hb dX12_lay_25 rfl (lv_at hl 2 rfl) ?_
  refine lv_iload_n hx hb dX12_lay_26 rfl (lv_at hl 0 rfl) ?_
  refine lv_iushr hx hb dX12_lay_27 rfl ?_
  refine lv_topi (fun n842 en842 => ?_)
  refine lv_i2b hx hb dX12_lay_28 rfl ?_
  refine lv_topi (fun n843 en843 => ?_)
  refine va_bast hx hb hK hP hD hS 1 0 rfl rfl (by unfold vp_in; decide) dX12_lay_29 (fun H locs hP hD hS => ?_)
  obtain ⟨f844, ef844⟩ : ∃ z : Nat → Int32, z = upd f841 15 (vp_nar .byte n843) := ⟨_, rfl⟩
  have hP : va_P (dC, dI) vwCl [(h0, .inr (13, [.ref h1, .int 15, .ref h2, .ref h3, .ref h4])), (h1, .inl (k0, 2000, .inl f844))] H := by rw [ef844]; exact hP
  have hD : va_D A [(h0, .inr (13, [.ref h1, .int 15, .ref h2, .ref h3, .ref h4])), (h1, .inl (k0, 2000, .inl f844))] := by rw [ef844]; exact hD
  refine lv_aload_n hx hb dX12_lay_30 rfl (lv_at hl 1 rfl) ?_
  refine lv_dup hx hb dX12_lay_31 rfl ?_
  refine va_get (D := (dC, dI)) (ci := 13) (v := .int 15) (C := RX12) (T := TX12) (N := 5) hx hb ht inX12 hown hK hP 0 rfl rfl 1 (by decide) (ht _ mW629) (fun _ h9 => h9) rfl dX12_lay_32 ?_
  refine lv_iconst (v := 1) hx hb dX12_lay_35 (by decide) ?_
  refine lv_iadd hx hb dX12_lay_36 ?_
  refine W.eq (congrArg (fun z => F0 m 37 ls (.int z :: [.ref h0])) (by decide : (15 + 1 : Int32) = 16)) ?_
  refine va_put (D := (dC, dI)) (ci := 13) (v := .int 16) (ty := .int) (C := RX12) (T := TX12) (N := 5) hx hb ht inX12 tyX12 tyX12_ok nmX12 hown hK hP hD hS 0 rfl rfl 1 (by decide) (ht _ mW629) (fun _ h9 => h9) rfl (by decide +kernel) rfl rfl (Nat.le_of_ble_eq_true rfl) dX12_lay_37 (fun H locs hP hD hS => ?_)
  have hP : va_P (dC, dI) vwCl [(h0, .inr (13, [.ref h1, .int 16, .ref h2, .ref h3, .ref h4])), (h1, .inl (k0, 2000, .inl f844))] H := hP
  have hD : va_D A [(h0, .inr (13, [.ref h1, .int 16, .ref h2, .ref h3, .ref h4])), (h1, .inl (k0, 2000, .inl f844))] := hD
  refine lv_iinc (v := (-8)) (lv' := [(2, .int (-8)), (0, .ref h0), (1, .int x0)]) hx hb dX12_lay_40 hl (k := 0) rfl (by decide) (by decide) rfl (fun ls hl => ?_)
  refine lv_goto (tgt := 3) hx hb dX12_lay_43 (by decide) ?_
  refine lv_iload_n hx hb dX12_lay_3 rfl (lv_at hl 0 rfl) ?_
  refine lv_if_lt (tgt := 46) hx hb dX12_lay_4 (by decide) (fun _ => ?_) (fun c => absurd (by decide) c)
  refine W.widen (k := 0) (n := 0) (Nat.le_of_ble_eq_true rfl) (Nat.le_of_ble_eq_true rfl) ?_
  have hP9 := hP.sub (ws' := [(h0, .inr (13, [.ref h1, .int 16, .ref h2, .ref h3, .ref h4])), (h1, .inl (k0, 2000, .inl f844))]) [0, 1] rfl
  have hD9 := hD.sub (ws' := [(h0, .inr (13, [.ref h1, .int 16, .ref h2, .ref h3, .ref h4])), (h1, .inl (k0, 2000, .inl f844))]) [0, 1] (by decide) rfl
  have hK9 := hK.sub (tys' := [(k0, .byte)]) [0] rfl
  exact W.vret hx hb hr (fun t hH hW => ⟨⟨_, rfl, f844, rfl, by rw [hH]; exact hP9, va_K.moved hW.alike hK9, hD9⟩, hS.F hH⟩) hS.2.2 dX12_lay_46 hlocks
set_option maxHeartbeats 4000000 in
set_option maxRecDepth 100000 in
theorem c28_X12_lay (l : Launch) (dC : Nat → ClassId) (dI : Nat → Nat → Nat) (sz : Nat) (h0 h1 h2 h3 h4 : Nat) (k0 : ClassId) (f0 : Nat → Int32) (x0 : Int32) : Met l yX12_lay (.code yX12_lay cX12_lay 3 none :: wAll) ({ frames := 1, cells := 0, slots := 0, locals := 40 }) (pP (dC, dI) [.ref h0, .int x0] [(h0, .inr (13, [.ref h1, .int 16, .ref h2, .ref h3, .ref h4])), (h1, .inl (k0, 2000, .inl f0))] [(k0, .byte)] sz X0) (qQ (fun (v : Option Value) (t : State) => ∃ (gn0 : Nat → Int32), v = none ∧ va_P (dC, dI) vwCl [(h0, .inr (13, [.ref h1, .int 20, .ref h2, .ref h3, .ref h4])), (h1, .inl (k0, 2000, .inl gn0))] t.heap ∧ va_K (dC, dI) vwCl [(k0, .byte)] t ∧ va_D (va_A [(h0, .inr (13, [.ref h1, .int 16, .ref h2, .ref h3, .ref h4])), (h1, .inl (k0, 2000, .inl f0))] sz) [(h0, .inr (13, [.ref h1, .int 20, .ref h2, .ref h3, .ref h4])), (h1, .inl (k0, 2000, .inl gn0))]) (va_A [(h0, .inr (13, [.ref h1, .int 16, .ref h2, .ref h3, .ref h4])), (h1, .inl (k0, 2000, .inl f0))] sz)) 0 0 (va_A [(h0, .inr (13, [.ref h1, .int 16, .ref h2, .ref h3, .ref h4])), (h1, .inl (k0, 2000, .inl f0))] sz) := by
  refine mkMet (y := yX12_lay) (bytes := cX12_lay) (maxL := 3) (ret := none) (rm := { frames := 1, cells := 0, slots := 0, locals := 40 }) (by decide) (Nat.le_of_ble_eq_true rfl) ?_
  intro p e s m args below meth c ls hE hl
  obtain ⟨hx, hb, hml, hr, ht, hown, hlocks, hin, rfl, hP, hK, hD, hX, rfl⟩ := hE
  have hown : s.vm.findClass "CommandHouse" = some m.cls := hown
  have hA : ∀ q : Nat, s.heap.size ≤ q → va_A [(h0, .inr (13, [.ref h1, .int 16, .ref h2, .ref h3, .ref h4])), (h1, .inl (k0, 2000, .inl f0))] s.heap.size q := fun q h => Or.inr h
  generalize hAe : va_A [(h0, .inr (13, [.ref h1, .int 16, .ref h2, .ref h3, .ref h4])), (h1, .inl (k0, 2000, .inl f0))] s.heap.size = A at hD hX hA ⊢
  have hS : va_S A s.heap s.heap [] := va_S.rf
  have hl : lv_has ls 3 [(0, .ref h0), (1, .int x0)] := hl
  refine lv_bipush (v := 24) hx hb dX12_lay_0 (by decide) ?_
  refine lv_istore_n (lv' := [(2, .int 24), (0, .ref h0), (1, .int x0)]) hx hb dX12_lay_2 rfl hl (by decide) rfl (fun ls hl => ?_)
  refine lv_iload_n hx hb dX12_lay_3 rfl (lv_at hl 0 rfl) ?_
  refine lv_if_lt (tgt := 46) hx hb dX12_lay_4 (by decide) (fun c => absurd c (by decide)) (fun _ => ?_)
  refine lv_aload_n hx hb dX12_lay_7 rfl (lv_at hl 1 rfl) ?_
  refine va_get (D := (dC, dI)) (ci := 13) (v := .int 16) (C := RX12) (T := TX12) (N := 5) hx hb ht inX12 hown hK hP 0 rfl rfl 1 (by decide) (ht _ mW629) (fun _ h9 => h9) rfl dX12_lay_8 ?_
  refine lv_sipush (v := 2000) hx hb dX12_lay_11 (by decide) ?_
  refine lv_icmp_ge (tgt := 46) hx hb dX12_lay_14 (by decide) (fun c => absurd c (by decide)) (fun _ => ?_)
  refine lv_aload_n hx hb dX12_lay_17 rfl (lv_at hl 1 rfl) ?_
  refine va_get (D := (dC, dI)) (ci := 13) (v := .ref h1) (C := RX12) (T := TX12) (N := 5) hx hb ht inX12 hown hK hP 0 rfl rfl 0 (by decide) (ht _ mW628) (fun _ h9 => h9) rfl dX12_lay_18 ?_
  refine lv_aload_n hx hb dX12_lay_21 rfl (lv_at hl 1 rfl) ?_
  refine va_get (D := (dC, dI)) (ci := 13) (v := .int 16) (C := RX12) (T := TX12) (N := 5) hx hb ht inX12 hown hK hP 0 rfl rfl 1 (by decide) (ht _ mW629) (fun _ h9 => h9) rfl dX12_lay_22 ?_
  refine lv_iload_n hx hb dX12_lay_25 rfl (lv_at hl 2 rfl) ?_
  refine lv_iload_n hx hb dX12_lay_26 rfl (lv_at hl 0 rfl) ?_
  refine lv_iushr hx hb dX12_lay_27 rfl ?_
  refine lv_topi (fun n858 en858 => ?_)
  refine lv_i2b hx hb dX12_lay_28 rfl ?_
  refine lv_topi (fun n859 en859 => ?_)
  refine va_bast hx hb hK hP hD hS 1 0 rfl rfl (by unfold vp_in; decide) dX12_lay_29 (fun H locs hP hD hS => ?_)
  obtain ⟨f860, ef860⟩ : ∃ z : Nat → Int32, z = upd f0 16 (vp_nar .byte n859) := ⟨_, rfl⟩
  have hP : va_P (dC, dI) vwCl [(h0, .inr (13, [.ref h1, .int 16, .ref h2, .ref h3, .ref h4])), (h1, .inl (k0, 2000, .inl f860))] H := by rw [ef860]; exact hP
  have hD : va_D A [(h0, .inr (13, [.ref h1, .int 16, .ref h2, .ref h3, .ref h4])), (h1, .inl (k0, 2000, .inl f860))] := by rw [ef860]; exact hD
  refine lv_aload_n hx hb dX12_lay_30 rfl (lv_at hl 1 rfl) ?_
  refine lv_dup hx hb dX12_lay_31 rfl ?_
  refine va_get (D := (dC, dI)) (ci := 13) (v := .int 16) (C := RX12) (T := TX12) (N := 5) hx hb ht inX12 hown hK hP 0 rfl rfl 1 (by decide) (ht _ mW629) (fun _ h9 => h9) rfl dX12_lay_32 ?_
  refine lv_iconst (v := 1) hx hb dX12_lay_35 (by decide) ?_
  refine lv_iadd hx hb dX12_lay_36 ?_
  refine W.eq (congrArg (fun z => F0 m 37 ls (.int z :: [.ref h0])) (by decide : (16 + 1 : Int32) = 17)) ?_
  refine va_put (D := (dC, dI)) (ci := 13) (v := .int 17) (ty := .int) (C := RX12) (T := TX12) (N := 5) hx hb ht inX12 tyX12 tyX12_ok nmX12 hown hK hP hD hS 0 rfl rfl 1 (by decide) (ht _ mW629) (fun _ h9 => h9) rfl (by decide +kernel) rfl rfl (Nat.le_of_ble_eq_true rfl) dX12_lay_37 (fun H locs hP hD hS => ?_)
  have hP : va_P (dC, dI) vwCl [(h0, .inr (13, [.ref h1, .int 17, .ref h2, .ref h3, .ref h4])), (h1, .inl (k0, 2000, .inl f860))] H := hP
  have hD : va_D A [(h0, .inr (13, [.ref h1, .int 17, .ref h2, .ref h3, .ref h4])), (h1, .inl (k0, 2000, .inl f860))] := hD
  refine lv_iinc (v := 16) (lv' := [(2, .int 16), (0, .ref h0), (1, .int x0)]) hx hb dX12_lay_40 hl (k := 0) rfl (by decide) (by decide) rfl (fun ls hl => ?_)
  refine lv_goto (tgt := 3) hx hb dX12_lay_43 (by decide) ?_
  refine lv_iload_n hx hb dX12_lay_3 rfl (lv_at hl 0 rfl) ?_
  refine lv_if_lt (tgt := 46) hx hb dX12_lay_4 (by decide) (fun c => absurd c (by decide)) (fun _ => ?_)
  refine lv_aload_n hx hb dX12_lay_7 rfl (lv_at hl 1 rfl) ?_
  refine va_get (D := (dC, dI)) (ci := 13) (v := .int 17) (C := RX12) (T := TX12) (N := 5) hx hb ht inX12 hown hK hP 0 rfl rfl 1 (by decide) (ht _ mW629) (fun _ h9 => h9) rfl dX12_lay_8 ?_
  refine lv_sipush (v := 2000) hx hb dX12_lay_11 (by decide) ?_
  refine lv_icmp_ge (tgt := 46) hx hb dX12_lay_14 (by decide) (fun c => absurd c (by decide)) (fun _ => ?_)
  refine lv_aload_n hx hb dX12_lay_17 rfl (lv_at hl 1 rfl) ?_
  refine va_get (D := (dC, dI)) (ci := 13) (v := .ref h1) (C := RX12) (T := TX12) (N := 5) hx hb ht inX12 hown hK hP 0 rfl rfl 0 (by decide) (ht _ mW628) (fun _ h9 => h9) rfl dX12_lay_18 ?_
  refine lv_aload_n hx hb dX12_lay_21 rfl (lv_at hl 1 rfl) ?_
  refine va_get (D := (dC, dI)) (ci := 13) (v := .int 17) (C := RX12) (T := TX12) (N := 5) hx hb ht inX12 hown hK hP 0 rfl rfl 1 (by decide) (ht _ mW629) (fun _ h9 => h9) rfl dX12_lay_22 ?_
  refine lv_iload_n hx hb dX12_lay_25 rfl (lv_at hl 2 rfl) ?_
  refine lv_iload_n hx hb dX12_lay_26 rfl (lv_at hl 0 rfl) ?_
  refine lv_iushr hx hb dX12_lay_27 rfl ?_
  refine lv_topi (fun n861 en861 => ?_)
  refine lv_i2b hx hb dX12_lay_28 rfl ?_
  refine lv_topi (fun n862 en862 => ?_)
  refine va_bast hx hb hK hP hD hS 1 0 rfl rfl (by unfold vp_in; decide) dX12_lay_29 (fun H locs hP hD hS => ?_)
  obtain ⟨f863, ef863⟩ : ∃ z : Nat → Int32, z = upd f860 17 (vp_nar .byte n862) := ⟨_, rfl⟩
  have hP : va_P (dC, dI) vwCl [(h0, .inr (13, [.ref h1, .int 17, .ref h2, .ref h3, .ref h4])), (h1, .inl (k0, 2000, .inl f863))] H := by rw [ef863]; exact hP
  have hD : va_D A [(h0, .inr (13, [.ref h1, .int 17, .ref h2, .ref h3, .ref h4])), (h1, .inl (k0, 2000, .inl f863))] := by rw [ef863]; exact hD
  refine lv_aload_n hx hb dX12_lay_30 rfl (lv_at hl 1 rfl) ?_
  refine lv_dup hx hb dX12_lay_31 rfl ?_
  refine va_get (D := (dC, dI)) (ci := 13) (v := .int 17) (C := RX12) (T := TX12) (N := 5) hx hb ht inX12 hown hK hP 0 rfl rfl 1 (by decide) (ht _ mW629) (fun _ h9 => h9) rfl dX12_lay_32 ?_
  refine lv_iconst (v := 1) hx hb dX12_lay_35 (by decide) ?_
  refine lv_iadd hx hb dX12_lay_36 ?_
  refine W.eq (congrArg (fun z => F0 m 37 ls (.int z :: [.ref h0])) (by decide : (17 + 1 : Int32) = 18)) ?_
  refine va_put (D := (dC, dI)) (ci := 13) (v := .int 18) (ty := .int) (C := RX12) (T := TX12) (N := 5) hx hb ht inX12 tyX12 tyX12_ok nmX12 hown hK hP hD hS 0 rfl rfl 1 (by decide) (ht _ mW629) (fun _ h9 => h9) rfl (by decide +kernel) rfl rfl (Nat.le_of_ble_eq_true rfl) dX12_lay_37 (fun H locs hP hD hS => ?_)
  have hP : va_P (dC, dI) vwCl [(h0, .inr (13, [.ref h1, .int 18, .ref h2, .ref h3, .ref h4])), (h1, .inl (k0, 2000, .inl f863))] H := hP
  have hD : va_D A [(h0, .inr (13, [.ref h1, .int 18, .ref h2, .ref h3, .ref h4])), (h1, .inl (k0, 2000, .inl f863))] := hD
  refine lv_iinc (v := 8) (lv' := [(2, .int 8), (0, .ref h0), (1, .int x0)]) hx hb dX12_lay_40 hl (k := 0) rfl (by decide) (by decide) rfl (fun ls hl => ?_)
  refine lv_goto (tgt := 3) hx hb dX12_lay_43 (by decide) ?_
  refine lv_iload_n hx hb dX12_lay_3 rfl (lv_at hl 0 rfl) ?_
  refine lv_if_lt (tgt := 46) hx hb dX12_lay_4 (by decide) (fun c => absurd c (by decide)) (fun _ => ?_)
  refine lv_aload_n hx hb dX12_lay_7 rfl (lv_at hl 1 rfl) ?_
  refine va_get (D := (dC, dI)) (ci := 13) (v := .int 18) (C := RX12) (T := TX12) (N := 5) hx hb ht inX12 hown hK hP 0 rfl rfl 1 (by decide) (ht _ mW629) (fun _ h9 => h9) rfl dX12_lay_8 ?_
  refine lv_sipush (v := 2000) hx hb dX12_lay_11 (by decide) ?_
  refine lv_icmp_ge (tgt := 46) hx hb dX12_lay_14 (by decide) (fun c => absurd c (by decide)) (fun _ => ?_)
  refine lv_aload_n hx hb dX12_lay_17 rfl (lv_at hl 1 rfl) ?_
  refine va_get (D := (dC, dI)) (ci := 13) (v := .ref h1) (C := RX12) (T := TX12) (N := 5) hx hb ht inX12 hown hK hP 0 rfl rfl 0 (by decide) (ht _ mW628) (fun _ h9 => h9) rfl dX12_lay_18 ?_
  refine lv_aload_n hx hb dX12_lay_21 rfl (lv_at hl 1 rfl) ?_
  refine va_get (D := (dC, dI)) (ci := 13) (v := .int 18) (C := RX12) (T := TX12) (N := 5) hx hb ht inX12 hown hK hP 0 rfl rfl 1 (by decide) (ht _ mW629) (fun _ h9 => h9) rfl dX12_lay_22 ?_
  refine lv_iload_n hx hb dX12_lay_25 rfl (lv_at hl 2 rfl) ?_
  refine lv_iload_n hx hb dX12_lay_26 rfl (lv_at hl 0 rfl) ?_
  refine lv_iushr hx hb dX12_lay_27 rfl ?_
  refine lv_topi (fun n864 en864 => ?_)
  refine lv_i2b hx hb dX12_lay_28 rfl ?_
  refine lv_topi (fun n865 en865 => ?_)
  refine va_bast hx hb hK hP hD hS 1 0 rfl rfl (by unfold vp_in; decide) dX12_lay_29 (fun H locs hP hD hS => ?_)
  obtain ⟨f866, ef866⟩ : ∃ z : Nat → Int32, z = upd f863 18 (vp_nar .byte n865) := ⟨_, rfl⟩
  have hP : va_P (dC, dI) vwCl [(h0, .inr (13, [.ref h1, .int 18, .ref h2, .ref h3, .ref h4])), (h1, .inl (k0, 2000, .inl f866))] H := by rw [ef866]; exact hP
  have hD : va_D A [(h0, .inr (13, [.ref h1, .int 18, .ref h2, .ref h3, .ref h4])), (h1, .inl (k0, 2000, .inl f866))] := by rw [ef866]; exact hD
  refine lv_aload_n hx hb dX12_lay_30 rfl (lv_at hl 1 rfl) ?_
  refine lv_dup hx hb dX12_lay_31 rfl ?_
  refine va_get (D := (dC, dI)) (ci := 13) (v := .int 18) (C := RX12) (T := TX12) (N := 5) hx hb ht inX12 hown hK hP 0 rfl rfl 1 (by decide) (ht _ mW629) (fun _ h9 => h9) rfl dX12_lay_32 ?_
  refine lv_iconst (v := 1) hx hb dX12_lay_35 (by decide) ?_
  refine lv_iadd hx hb dX12_lay_36 ?_
  refine W.eq (congrArg (fun z => F0 m 37 ls (.int z :: [.ref h0])) (by decide : (18 + 1 : Int32) = 19)) ?_
  refine va_put (D := (dC, dI)) (ci := 13) (v := .int 19) (ty := .int) (C := RX12) (T := TX12) (N := 5) hx hb ht inX12 tyX12 tyX12_ok nmX12 hown hK hP hD hS 0 rfl rfl 1 (by decide) (ht _ mW629) (fun _ h9 => h9) rfl (by decide +kernel) rfl rfl (Nat.le_of_ble_eq_true rfl) dX12_lay_37 (fun H locs hP hD hS => ?_)
  have hP : va_P (dC, dI) vwCl [(h0, .inr (13, [.ref h1, .int 19, .ref h2, .ref h3, .ref h4])), (h1, .inl (k0, 2000, .inl f866))] H := hP
  have hD : va_D A [(h0, .inr (13, [.ref h1, .int 19, .ref h2, .ref h3, .ref h4])), (h1, .inl (k0, 2000, .inl f866))] := hD
  refine lv_iinc (v := 0) (lv' := [(2, .int 0), (0, .ref h0), (1, .int x0)]) hx hb dX12_lay_40 hl (k := 0) rfl (by decide) (by decide) rfl (fun ls hl => ?_)
  refine lv_goto (tgt := 3) hx hb dX12_lay_43 (by decide) ?_
  refine lv_iload_n hx hb dX12_lay_3 rfl (lv_at hl 0 rfl) ?_
  refine lv_if_lt (tgt := 46) hx hb dX12_lay_4 (by decide) (fun c => absurd c (by decide)) (fun _ => ?_)
  refine lv_aload_n hx hb dX12_lay_7 rfl (lv_at hl 1 rfl) ?_
  refine va_get (D := (dC, dI)) (ci := 13) (v := .int 19) (C := RX12) (T := TX12) (N := 5) hx hb ht inX12 hown hK hP 0 rfl rfl 1 (by decide) (ht _ mW629) (fun _ h9 => h9) rfl dX12_lay_8 ?_
  refine lv_sipush (v := 2000) hx hb dX12_lay_11 (by decide) ?_
  refine lv_icmp_ge (tgt := 46) hx hb dX12_lay_14 (by decide) (fun c => absurd c (by decide)) (fun _ => ?_)
  refine lv_aload_n hx hb dX12_lay_17 rfl (lv_at hl 1 rfl) ?_
  refine va_get (D := (dC, dI)) (ci := 13) (v := .ref h1) (C := RX12) (T := TX12) (N := 5) hx hb ht inX12 hown hK hP 0 rfl rfl 0 (by decide) (ht _ mW628) (fun _ h9 => h9) rfl dX12_lay_18 ?_
  refine lv_aload_n hx hb dX12_lay_21 rfl (lv_at hl 1 rfl) ?_
  refine va_get (D := (dC, dI)) (ci := 13) (v := .int 19) (C := RX12) (T := TX12) (N := 5) hx hb ht inX12 hown hK hP 0 rfl rfl 1 (by decide) (ht _ mW629) (fun _ h9 => h9) rfl dX12_lay_22 ?_
  refine lv_iload_n hx hb dX12_lay_25 rfl (lv_at hl 2 rfl) ?_
  refine lv_iload_n hx hb dX12_lay_26 rfl (lv_at hl 0 rfl) ?_
  refine lv_iushr hx hb dX12_lay_27 rfl ?_
  refine lv_topi (fun n867 en867 => ?_)
  refine lv_i2b hx hb dX12_lay_28 rfl ?_
  refine lv_topi (fun n868 en868 => ?_)
  refine va_bast hx hb hK hP hD hS 1 0 rfl rfl (by unfold vp_in; decide) dX12_lay_29 (fun H locs hP hD hS => ?_)
  obtain ⟨f869, ef869⟩ : ∃ z : Nat → Int32, z = upd f866 19 (vp_nar .byte n868) := ⟨_, rfl⟩
  have hP : va_P (dC, dI) vwCl [(h0, .inr (13, [.ref h1, .int 19, .ref h2, .ref h3, .ref h4])), (h1, .inl (k0, 2000, .inl f869))] H := by rw [ef869]; exact hP
  have hD : va_D A [(h0, .inr (13, [.ref h1, .int 19, .ref h2, .ref h3, .ref h4])), (h1, .inl (k0, 2000, .inl f869))] := by rw [ef869]; exact hD
  refine lv_aload_n hx hb dX12_lay_30 rfl (lv_at hl 1 rfl) ?_
  refine lv_dup hx hb dX12_lay_31 rfl ?_
  refine va_get (D := (dC, dI)) (ci := 13) (v := .int 19) (C := RX12) (T := TX12) (N := 5) hx hb ht inX12 hown hK hP 0 rfl rfl 1 (by decide) (ht _ mW629) (fun _ h9 => h9) rfl dX12_lay_32 ?_
  refine lv_iconst (v := 1) hx hb dX12_lay_35 (by decide) ?_
  refine lv_iadd hx hb dX12_lay_36 ?_
  refine W.eq (congrArg (fun z => F0 m 37 ls (.int z :: [.ref h0])) (by decide : (19 + 1 : Int32) = 20)) ?_
  refine va_put (D := (dC, dI)) (ci := 13) (v := .int 20) (ty := .int) (C := RX12) (T := TX12) (N := 5) hx hb ht inX12 tyX12 tyX12_ok nmX12 hown hK hP hD hS 0 rfl rfl 1 (by decide) (ht _ mW629) (fun _ h9 => h9) rfl (by decide +kernel) rfl rfl (Nat.le_of_ble_eq_true rfl) dX12_lay_37 (fun H locs hP hD hS => ?_)
  have hP : va_P (dC, dI) vwCl [(h0, .inr (13, [.ref h1, .int 20, .ref h2, .ref h3, .ref h4])), (h1, .inl (k0, 2000, .inl f869))] H := hP
  have hD : va_D A [(h0, .inr (13, [.ref h1, .int 20, .ref h2, .ref h3, .ref h4])), (h1, .inl (k0, 2000, .inl f869))] := hD
  refine lv_iinc (v := (-8)) (lv' := [(2, .int (-8)), (0, .ref h0), (1, .int x0)]) hx hb dX12_lay_40 hl (k := 0) rfl (by decide) (by decide) rfl (fun ls hl => ?_)
  refine lv_goto (tgt := 3) hx hb dX12_lay_43 (by decide) ?_
  refine lv_iload_n hx hb dX12_lay_3 rfl (lv_at hl 0 rfl) ?_
  refine lv_if_lt (tgt := 46) hx hb dX12_lay_4 (by decide) (fun _ => ?_) (fun c => absurd (by decide) c)
  refine W.widen (k := 0) (n := 0) (Nat.le_of_ble_eq_true rfl) (Nat.le_of_ble_eq_true rfl) ?_
  have hP9 := hP.sub (ws' := [(h0, .inr (13, [.ref h1, .int 20, .ref h2, .ref h3, .ref h4])), (h1, .inl (k0, 2000, .inl f869))]) [0, 1] rfl
  have hD9 := hD.sub (ws' := [(h0, .inr (13, [.ref h1, .int 20, .ref h2, .ref h3, .ref h4])), (h1, .inl (k0, 2000, .inl f869))]) [0, 1] (by decide) rfl
  have hK9 := hK.sub (tys' := [(k0, .byte)]) [0] rfl
  exact W.vret hx hb hr (fun t hH hW => ⟨⟨_, rfl, f869, rfl, by rw [hH]; exact hP9, va_K.moved hW.alike hK9, hD9⟩, hS.F hH⟩) hS.2.2 dX12_lay_46 hlocks
set_option maxHeartbeats 4000000 in
set_option maxRecDepth 100000 in
theorem c29_X12_feed (l : Launch) (dC : Nat → ClassId) (dI : Nat → Nat → Nat) (sz : Nat) (h0 h1 h2 h3 h4 : Nat) (k0 : ClassId) (x0 x1 x2 x3 x4 : Int32) : Met l yX12_feed (.code yX12_feed cX12_feed 6 (some .int) :: wAll) ({ frames := 2, cells := 0, slots := 0, locals := 62 }) (pP (dC, dI) [.ref h0, .int x0, .int x1, .int x2, .int x3, .int x4] [(h0, .inr (13, [.ref h1, .int 0, .ref h2, .ref h3, .ref h4])), (h1, .inl (k0, 2000, .inl (fun _ => 0)))] [(k0, .byte)] sz X0) (qQ (fun (v : Option Value) (t : State) => v = some (.int 20) ∧ va_P (dC, dI) vwCl [] t.heap ∧ va_K (dC, dI) vwCl [] t ∧ va_D (va_A [(h0, .inr (13, [.ref h1, .int 0, .ref h2, .ref h3, .ref h4])), (h1, .inl (k0, 2000, .inl (fun _ => 0)))] sz) []) (va_A [(h0, .inr (13, [.ref h1, .int 0, .ref h2, .ref h3, .ref h4])), (h1, .inl (k0, 2000, .inl (fun _ => 0)))] sz)) 0 0 (va_A [(h0, .inr (13, [.ref h1, .int 0, .ref h2, .ref h3, .ref h4])), (h1, .inl (k0, 2000, .inl (fun _ => 0)))] sz) := by
  refine mkMet (y := yX12_feed) (bytes := cX12_feed) (maxL := 6) (ret := (some .int)) (rm := { frames := 2, cells := 0, slots := 0, locals := 62 }) (by decide) (Nat.le_of_ble_eq_true rfl) ?_
  intro p e s m args below meth c ls hE hl
  obtain ⟨hx, hb, hml, hr, ht, hown, hlocks, hin, rfl, hP, hK, hD, hX, rfl⟩ := hE
  have hown : s.vm.findClass "CommandHouse" = some m.cls := hown
  have hA : ∀ q : Nat, s.heap.size ≤ q → va_A [(h0, .inr (13, [.ref h1, .int 0, .ref h2, .ref h3, .ref h4])), (h1, .inl (k0, 2000, .inl (fun _ => 0)))] s.heap.size q := fun q h => Or.inr h
  generalize hAe : va_A [(h0, .inr (13, [.ref h1, .int 0, .ref h2, .ref h3, .ref h4])), (h1, .inl (k0, 2000, .inl (fun _ => 0)))] s.heap.size = A at hD hX hA ⊢
  have hS : va_S A s.heap s.heap [] := va_S.rf
  have hl : lv_has ls 6 [(0, .ref h0), (1, .int x0), (2, .int x1), (3, .int x2), (4, .int x3), (5, .int x4)] := hl
  refine lv_aload_n hx hb dX12_feed_0 rfl (lv_at hl 0 rfl) ?_
  refine va_get (D := (dC, dI)) (ci := 13) (v := .int 0) (C := RX12) (T := TX12) (N := 5) hx hb ht inX12 hown hK hP 0 rfl rfl 1 (by decide) (ht _ mW629) (fun _ h9 => h9) rfl dX12_feed_1 ?_
  refine lv_bipush (v := 20) hx hb dX12_feed_4 (by decide) ?_
  refine lv_iadd hx hb dX12_feed_6 ?_
  refine W.eq (congrArg (fun z => F0 m 7 ls (.int z :: [])) (by decide : (0 + 20 : Int32) = 20)) ?_
  refine lv_sipush (v := 2000) hx hb dX12_feed_7 (by decide) ?_
  refine lv_icmp_le (tgt := 15) hx hb dX12_feed_10 (by decide) (fun _ => ?_) (fun c => absurd (by decide) c)
  refine lv_aload_n hx hb dX12_feed_15 rfl (lv_at hl 0 rfl) ?_
  refine lv_iload_n hx hb dX12_feed_16 rfl (lv_at hl 1 rfl) ?_
  have hPc := hP.sub (ws' := [(h0, .inr (13, [.ref h1, .int 0, .ref h2, .ref h3, .ref h4])), (h1, .inl (k0, 2000, .inl (fun _ => 0)))]) [0, 1] rfl
  have hDc := hD.sub (ws' := [(h0, .inr (13, [.ref h1, .int 0, .ref h2, .ref h3, .ref h4])), (h1, .inl (k0, 2000, .inl (fun _ => 0)))]) [0, 1] (by decide) rfl
  have hKc := hK.sub (tys' := [(k0, .byte)]) [0] rfl
  have hFc := va_free (wc := [(h0, .inr (13, [.ref h1, .int 0, .ref h2, .ref h3, .ref h4])), (h1, .inl (k0, 2000, .inl (fun _ => 0)))]) hD hS hA [0, 1] rfl
  refine pCall (va_runV (As := [.int x0]) (rest := []) ⟨hx, hb, hml, hown, ht⟩ (c24_X12_lay l dC dI s.heap.size h0 h1 h2 h3 h4 k0 x0) ⟨cbB 1 ht mW651 mW1 mW648 (by decide +kernel) ⟨(Nat.le_of_ble_eq_true rfl), (Nat.le_of_ble_eq_true rfl)⟩, ht _ mW650, ht _ mS4⟩ ⟨pP_blind X0_blind, va_recv hKc hPc (ci := 13) (q0 := 0) rfl rfl, fun U hU hW => ⟨rfl, by rw [hU], by rw [hU]; exact hPc, va_K.moved hW.alike hKc, hDc.weaken (fun _ _ _ _ => trivial), trivial⟩⟩ rfl rfl hl.1 rfl (lv_room (Nat.le_of_ble_eq_true rfl)) dX12_feed_17 ⟨(Nat.le_of_ble_eq_true rfl), (Nat.le_of_ble_eq_true rfl)⟩) hS (fun q h => hFc q h) hFc (fun v t H1 locs hH hvm hB hk1 hS => ?_)
  obtain ⟨f770, hv, hP1, hK1, hD1⟩ := hB
  subst hv
  rw [hH] at hP1
  have hK1 := va_K.moved hvm.symm hK1
  obtain ⟨hP, hD⟩ := va_join (wr := []) (w1 := [(h0, .inr (13, [.ref h1, .int 4, .ref h2, .ref h3, .ref h4])), (h1, .inl (k0, 2000, .inl f770))]) hP hD [0, 1] [] rfl rfl (by decide) (by decide) hk1 hFc hP1 hD1
  have hK := (hK.sub (tys' := []) [] rfl).app hK1
  generalize H1 = H at hP hS ⊢
  have hP : va_P (dC, dI) vwCl [(h0, .inr (13, [.ref h1, .int 4, .ref h2, .ref h3, .ref h4])), (h1, .inl (k0, 2000, .inl f770))] H := hP
  have hD : va_D A [(h0, .inr (13, [.ref h1, .int 4, .ref h2, .ref h3, .ref h4])), (h1, .inl (k0, 2000, .inl f770))] := hD
  have hK : va_K (dC, dI) vwCl [(k0, .byte)] s := hK
  refine W.widen (g := F0 m 20 ls []) (k := 0) (n := 0) (Nat.le_of_ble_eq_true rfl) (Nat.le_of_ble_eq_true rfl) ?_
  refine lv_aload_n hx hb dX12_feed_20 rfl (lv_at hl 0 rfl) ?_
  refine lv_iload_n hx hb dX12_feed_21 rfl (lv_at hl 2 rfl) ?_
  have hPc := hP.sub (ws' := [(h0, .inr (13, [.ref h1, .int 4, .ref h2, .ref h3, .ref h4])), (h1, .inl (k0, 2000, .inl f770))]) [0, 1] rfl
  have hDc := hD.sub (ws' := [(h0, .inr (13, [.ref h1, .int 4, .ref h2, .ref h3, .ref h4])), (h1, .inl (k0, 2000, .inl f770))]) [0, 1] (by decide) rfl
  have hKc := hK.sub (tys' := [(k0, .byte)]) [0] rfl
  have hFc := va_free (wc := [(h0, .inr (13, [.ref h1, .int 4, .ref h2, .ref h3, .ref h4])), (h1, .inl (k0, 2000, .inl f770))]) hD hS hA [0, 1] rfl
  refine pCall (va_runV (As := [.int x1]) (rest := []) ⟨hx, hb, hml, hown, ht⟩ (c25_X12_lay l dC dI H.size h0 h1 h2 h3 h4 k0 f770 x1) ⟨cbB 1 ht mW651 mW1 mW648 (by decide +kernel) ⟨(Nat.le_of_ble_eq_true rfl), (Nat.le_of_ble_eq_true rfl)⟩, ht _ mW650, ht _ mS4⟩ ⟨pP_blind X0_blind, va_recv hKc hPc (ci := 13) (q0 := 0) rfl rfl, fun U hU hW => ⟨rfl, by rw [hU], by rw [hU]; exact hPc, va_K.moved hW.alike hKc, hDc.weaken (fun _ _ _ _ => trivial), trivial⟩⟩ rfl rfl hl.1 rfl (lv_room (Nat.le_of_ble_eq_true rfl)) dX12_feed_22 ⟨(Nat.le_of_ble_eq_true rfl), (Nat.le_of_ble_eq_true rfl)⟩) hS (fun q h => hFc q h) hFc (fun v t H1 locs hH hvm hB hk1 hS => ?_)
  obtain ⟨f795, hv, hP1, hK1, hD1⟩ := hB
  subst hv
  rw [hH] at hP1
  have hK1 := va_K.moved hvm.symm hK1
  obtain ⟨hP, hD⟩ := va_join (wr := []) (w1 := [(h0, .inr (13, [.ref h1, .int 8, .ref h2, .ref h3, .ref h4])), (h1, .inl (k0, 2000, .inl f795))]) hP hD [0, 1] [] rfl rfl (by decide) (by decide) hk1 hFc hP1 hD1
  have hK := (hK.sub (tys' := []) [] rfl).app hK1
  generalize H1 = H at hP hS ⊢
  have hP : va_P (dC, dI) vwCl [(h0, .inr (13, [.ref h1, .int 8, .ref h2, .ref h3, .ref h4])), (h1, .inl (k0, 2000, .inl f795))] H := hP
  have hD : va_D A [(h0, .inr (13, [.ref h1, .int 8, .ref h2, .ref h3, .ref h4])), (h1, .inl (k0, 2000, .inl f795))] := hD
  have hK : va_K (dC, dI) vwCl [(k0, .byte)] s := hK
  refine W.widen (g := F0 m 25 ls []) (k := 0) (n := 0) (Nat.le_of_ble_eq_true rfl) (Nat.le_of_ble_eq_true rfl) ?_
  refine lv_aload_n hx hb dX12_feed_25 rfl (lv_at hl 0 rfl) ?_
  refine lv_iload_n hx hb dX12_feed_26 rfl (lv_at hl 3 rfl) ?_
  have hPc := hP.sub (ws' := [(h0, .inr (13, [.ref h1, .int 8, .ref h2, .ref h3, .ref h4])), (h1, .inl (k0, 2000, .inl f795))]) [0, 1] rfl
  have hDc := hD.sub (ws' := [(h0, .inr (13, [.ref h1, .int 8, .ref h2, .ref h3, .ref h4])), (h1, .inl (k0, 2000, .inl f795))]) [0, 1] (by decide) rfl
  have hKc := hK.sub (tys' := [(k0, .byte)]) [0] rfl
  have hFc := va_free (wc := [(h0, .inr (13, [.ref h1, .int 8, .ref h2, .ref h3, .ref h4])), (h1, .inl (k0, 2000, .inl f795))]) hD hS hA [0, 1] rfl
  refine pCall (va_runV (As := [.int x2]) (rest := []) ⟨hx, hb, hml, hown, ht⟩ (c26_X12_lay l dC dI H.size h0 h1 h2 h3 h4 k0 f795 x2) ⟨cbB 1 ht mW651 mW1 mW648 (by decide +kernel) ⟨(Nat.le_of_ble_eq_true rfl), (Nat.le_of_ble_eq_true rfl)⟩, ht _ mW650, ht _ mS4⟩ ⟨pP_blind X0_blind, va_recv hKc hPc (ci := 13) (q0 := 0) rfl rfl, fun U hU hW => ⟨rfl, by rw [hU], by rw [hU]; exact hPc, va_K.moved hW.alike hKc, hDc.weaken (fun _ _ _ _ => trivial), trivial⟩⟩ rfl rfl hl.1 rfl (lv_room (Nat.le_of_ble_eq_true rfl)) dX12_feed_27 ⟨(Nat.le_of_ble_eq_true rfl), (Nat.le_of_ble_eq_true rfl)⟩) hS (fun q h => hFc q h) hFc (fun v t H1 locs hH hvm hB hk1 hS => ?_)
  obtain ⟨f820, hv, hP1, hK1, hD1⟩ := hB
  subst hv
  rw [hH] at hP1
  have hK1 := va_K.moved hvm.symm hK1
  obtain ⟨hP, hD⟩ := va_join (wr := []) (w1 := [(h0, .inr (13, [.ref h1, .int 12, .ref h2, .ref h3, .ref h4])), (h1, .inl (k0, 2000, .inl f820))]) hP hD [0, 1] [] rfl rfl (by decide) (by decide) hk1 hFc hP1 hD1
  have hK := (hK.sub (tys' := []) [] rfl).app hK1
  generalize H1 = H at hP hS ⊢
  have hP : va_P (dC, dI) vwCl [(h0, .inr (13, [.ref h1, .int 12, .ref h2, .ref h3, .ref h4])), (h1, .inl (k0, 2000, .inl f820))] H := hP
  have hD : va_D A [(h0, .inr (13, [.ref h1, .int 12, .ref h2, .ref h3, .ref h4])), (h1, .inl (k0, 2000, .inl f820))] := hD
  have hK : va_K (dC, dI) vwCl [(k0, .byte)] s := hK
  refine W.widen (g := F0 m 30 ls []) (k := 0) (n := 0) (Nat.le_of_ble_eq_true rfl) (Nat.le_of_ble_eq_true rfl) ?_
  refine lv_aload_n hx hb dX12_feed_30 rfl (lv_at hl 0 rfl) ?_
  refine lv_iload hx hb dX12_feed_31 (lv_at hl 4 rfl) ?_
  have hPc := hP.sub (ws' := [(h0, .inr (13, [.ref h1, .int 12, .ref h2, .ref h3, .ref h4])), (h1, .inl (k0, 2000, .inl f820))]) [0, 1] rfl
  have hDc := hD.sub (ws' := [(h0, .inr (13, [.ref h1, .int 12, .ref h2, .ref h3, .ref h4])), (h1, .inl (k0, 2000, .inl f820))]) [0, 1] (by decide) rfl
  have hKc := hK.sub (tys' := [(k0, .byte)]) [0] rfl
  have hFc := va_free (wc := [(h0, .inr (13, [.ref h1, .int 12, .ref h2, .ref h3, .ref h4])), (h1, .inl (k0, 2000, .inl f820))]) hD hS hA [0, 1] rfl
  refine pCall (va_runV (As := [.int x3]) (rest := []) ⟨hx, hb, hml, hown, ht⟩ (c27_X12_lay l dC dI H.size h0 h1 h2 h3 h4 k0 f820 x3) ⟨cbB 1 ht mW651 mW1 mW648 (by decide +kernel) ⟨(Nat.le_of_ble_eq_true rfl), (Nat.le_of_ble_eq_true rfl)⟩, ht _ mW650, ht _ mS4⟩ ⟨pP_blind X0_blind, va_recv hKc hPc (ci := 13) (q0 := 0) rfl rfl, fun U hU hW => ⟨rfl, by rw [hU], by rw [hU]; exact hPc, va_K.moved hW.alike hKc, hDc.weaken (fun _ _ _ _ => trivial), trivial⟩⟩ rfl rfl hl.1 rfl (lv_room (Nat.le_of_ble_eq_true rfl)) dX12_feed_33 ⟨(Nat.le_of_ble_eq_true rfl), (Nat.le_of_ble_eq_true rfl)⟩) hS (fun q h => hFc q h) hFc (fun v t H1 locs hH hvm hB hk1 hS => ?_)
  obtain ⟨f845, hv, hP1, hK1, hD1⟩ := hB
  subst hv
  rw [hH] at hP1
  have hK1 := va_K.moved hvm.symm hK1
  obtain ⟨hP, hD⟩ := va_join (wr := []) (w1 := [(h0, .inr (13, [.ref h1, .int 16, .ref h2, .ref h3, .ref h4])), (h1, .inl (k0, 2000, .inl f845))]) hP hD [0, 1] [] rfl rfl (by decide) (by decide) hk1 hFc hP1 hD1
  have hK := (hK.sub (tys' := []) [] rfl).app hK1
  generalize H1 = H at hP hS ⊢
  have hP : va_P (dC, dI) vwCl [(h0, .inr (13, [.ref h1, .int 16, .ref h2, .ref h3, .ref h4])), (h1, .inl (k0, 2000, .inl f845))] H := hP
  have hD : va_D A [(h0, .inr (13, [.ref h1, .int 16, .ref h2, .ref h3, .ref h4])), (h1, .inl (k0, 2000, .inl f845))] := hD
  have hK : va_K (dC, dI) vwCl [(k0, .byte)] s := hK
  refine W.widen (g := F0 m 36 ls []) (k := 0) (n := 0) (Nat.le_of_ble_eq_true rfl) (Nat.le_of_ble_eq_true rfl) ?_
  refine lv_aload_n hx hb dX12_feed_36 rfl (lv_at hl 0 rfl) ?_
  refine lv_iload hx hb dX12_feed_37 (lv_at hl 5 rfl) ?_
  have hPc := hP.sub (ws' := [(h0, .inr (13, [.ref h1, .int 16, .ref h2, .ref h3, .ref h4])), (h1, .inl (k0, 2000, .inl f845))]) [0, 1] rfl
  have hDc := hD.sub (ws' := [(h0, .inr (13, [.ref h1, .int 16, .ref h2, .ref h3, .ref h4])), (h1, .inl (k0, 2000, .inl f845))]) [0, 1] (by decide) rfl
  have hKc := hK.sub (tys' := [(k0, .byte)]) [0] rfl
  have hFc := va_free (wc := [(h0, .inr (13, [.ref h1, .int 16, .ref h2, .ref h3, .ref h4])), (h1, .inl (k0, 2000, .inl f845))]) hD hS hA [0, 1] rfl
  refine pCall (va_runV (As := [.int x4]) (rest := []) ⟨hx, hb, hml, hown, ht⟩ (c28_X12_lay l dC dI H.size h0 h1 h2 h3 h4 k0 f845 x4) ⟨cbB 1 ht mW651 mW1 mW648 (by decide +kernel) ⟨(Nat.le_of_ble_eq_true rfl), (Nat.le_of_ble_eq_true rfl)⟩, ht _ mW650, ht _ mS4⟩ ⟨pP_blind X0_blind, va_recv hKc hPc (ci := 13) (q0 := 0) rfl rfl, fun U hU hW => ⟨rfl, by rw [hU], by rw [hU]; exact hPc, va_K.moved hW.alike hKc, hDc.weaken (fun _ _ _ _ => trivial), trivial⟩⟩ rfl rfl hl.1 rfl (lv_room (Nat.le_of_ble_eq_true rfl)) dX12_feed_39 ⟨(Nat.le_of_ble_eq_true rfl), (Nat.le_of_ble_eq_true rfl)⟩) hS (fun q h => hFc q h) hFc (fun v t H1 locs hH hvm hB hk1 hS => ?_)
  obtain ⟨f870, hv, hP1, hK1, hD1⟩ := hB
  subst hv
  rw [hH] at hP1
  have hK1 := va_K.moved hvm.symm hK1
  obtain ⟨hP, hD⟩ := va_join (wr := []) (w1 := [(h0, .inr (13, [.ref h1, .int 20, .ref h2, .ref h3, .ref h4])), (h1, .inl (k0, 2000, .inl f870))]) hP hD [0, 1] [] rfl rfl (by decide) (by decide) hk1 hFc hP1 hD1
  have hK := (hK.sub (tys' := []) [] rfl).app hK1
  generalize H1 = H at hP hS ⊢
  have hP : va_P (dC, dI) vwCl [(h0, .inr (13, [.ref h1, .int 20, .ref h2, .ref h3, .ref h4])), (h1, .inl (k0, 2000, .inl f870))] H := hP
  have hD : va_D A [(h0, .inr (13, [.ref h1, .int 20, .ref h2, .ref h3, .ref h4])), (h1, .inl (k0, 2000, .inl f870))] := hD
  have hK : va_K (dC, dI) vwCl [(k0, .byte)] s := hK
  refine W.widen (g := F0 m 42 ls []) (k := 0) (n := 0) (Nat.le_of_ble_eq_true rfl) (Nat.le_of_ble_eq_true rfl) ?_
  refine lv_aload_n hx hb dX12_feed_42 rfl (lv_at hl 0 rfl) ?_
  refine va_get (D := (dC, dI)) (ci := 13) (v := .int 20) (C := RX12) (T := TX12) (N := 5) hx hb ht inX12 hown hK hP 0 rfl rfl 1 (by decide) (ht _ mW629) (fun _ h9 => h9) rfl dX12_feed_43 ?_
  refine W.widen (k := 0) (n := 0) (Nat.le_of_ble_eq_true rfl) (Nat.le_of_ble_eq_true rfl) ?_
  have hP9 := hP.sub (ws' := []) [] rfl
  have hD9 := hD.sub (ws' := []) [] (by decide) rfl
  have hK9 := hK.sub (tys' := []) [] rfl
  exact W.iret hx hb hr (fun t hH hW => ⟨⟨_, rfl, rfl, by rw [hH]; exact hP9, va_K.moved hW.alike hK9, hD9⟩, hS.F hH⟩) hS.2.2 dX12_feed_46 hlocks
set_option maxHeartbeats 4000000 in
set_option maxRecDepth 100000 in
theorem c30_X13_feed (l : Launch) (dC : Nat → ClassId) (dI : Nat → Nat → Nat) (sz : Nat) (h0 h1 h2 h3 h4 h5 h6 h7 h8 h9 h10 h11 h12 h13 h14 h15 h16 h17 h18 h19 h20 h21 h22 h23 h24 h25 h26 h27 h28 h29 h30 h31 h32 h33 h34 h35 h36 h37 : Nat) (k0 : ClassId) (x0 x1 x2 x3 x4 : Int32) : Met l yX13_feed (.code yX13_feed cX13_feed 8 (some .int) :: wAll) ({ frames := 1, cells := 0, slots := 0, locals := 40 }) (pP (dC, dI) [.ref h0, .int x0, .int x1, .int x2, .int x3, .int x4] [(h0, .inr (14, [.ref h1, .int 0, .ref h2, .int 0, .ref h3, .int 0, .int 0, .ref h4, .int (-1), .int 0, .int 0, .ref h5, .int 0, .ref h6, .ref h7, .ref h8, .ref h9, .ref h10, .int 0, .ref h11, .int 0, .int 0, .ref h12, .ref h13, .ref h14, .ref h15, .int 0, .ref h16, .ref h17, .int 0, .ref h18, .ref h19, .ref h20, .ref h21, .int 0, .int 0, .int 0, .ref h22, .int 0, .int 0, .ref h23, .ref h24, .ref h25, .ref h26, .int 0, .int 0, .int 0, .int 0, .int 0, .int 0, .int 0, .int 0, .int 0, .int 0, .int 0, .int 0, .int (-1), .int 0, .ref h27, .int 0, .ref h28, .int 0, .int 0, .int 0, .int 0, .int 0, .ref h29, .ref h30, .int 0, .int 0, .ref h31, .ref h32, .ref h33, .ref h34, .long 0, .ref h35, .int 0, .int 0, .int 0, .int 0, .int 0, .int 0, .int 0, .ref h36, .ref h37, .int 0, .int 0, .int 0, .int 0])), (h1, .inl (k0, 2000, .inl (fun _ => 0)))] [(k0, .int)] sz X0) (qQ (fun (v : Option Value) (t : State) => v = some (.int 20) ∧ va_P (dC, dI) vwCl [] t.heap ∧ va_K (dC, dI) vwCl [] t ∧ va_D (va_A [(h0, .inr (14, [.ref h1, .int 0, .ref h2, .int 0, .ref h3, .int 0, .int 0, .ref h4, .int (-1), .int 0, .int 0, .ref h5, .int 0, .ref h6, .ref h7, .ref h8, .ref h9, .ref h10, .int 0, .ref h11, .int 0, .int 0, .ref h12, .ref h13, .ref h14, .ref h15, .int 0, .ref h16, .ref h17, .int 0, .ref h18, .ref h19, .ref h20, .ref h21, .int 0, .int 0, .int 0, .ref h22, .int 0, .int 0, .ref h23, .ref h24, .ref h25, .ref h26, .int 0, .int 0, .int 0, .int 0, .int 0, .int 0, .int 0, .int 0, .int 0, .int 0, .int 0, .int 0, .int (-1), .int 0, .ref h27, .int 0, .ref h28, .int 0, .int 0, .int 0, .int 0, .int 0, .ref h29, .ref h30, .int 0, .int 0, .ref h31, .ref h32, .ref h33, .ref h34, .long 0, .ref h35, .int 0, .int 0, .int 0, .int 0, .int 0, .int 0, .int 0, .ref h36, .ref h37, .int 0, .int 0, .int 0, .int 0])), (h1, .inl (k0, 2000, .inl (fun _ => 0)))] sz) []) (va_A [(h0, .inr (14, [.ref h1, .int 0, .ref h2, .int 0, .ref h3, .int 0, .int 0, .ref h4, .int (-1), .int 0, .int 0, .ref h5, .int 0, .ref h6, .ref h7, .ref h8, .ref h9, .ref h10, .int 0, .ref h11, .int 0, .int 0, .ref h12, .ref h13, .ref h14, .ref h15, .int 0, .ref h16, .ref h17, .int 0, .ref h18, .ref h19, .ref h20, .ref h21, .int 0, .int 0, .int 0, .ref h22, .int 0, .int 0, .ref h23, .ref h24, .ref h25, .ref h26, .int 0, .int 0, .int 0, .int 0, .int 0, .int 0, .int 0, .int 0, .int 0, .int 0, .int 0, .int 0, .int (-1), .int 0, .ref h27, .int 0, .ref h28, .int 0, .int 0, .int 0, .int 0, .int 0, .ref h29, .ref h30, .int 0, .int 0, .ref h31, .ref h32, .ref h33, .ref h34, .long 0, .ref h35, .int 0, .int 0, .int 0, .int 0, .int 0, .int 0, .int 0, .ref h36, .ref h37, .int 0, .int 0, .int 0, .int 0])), (h1, .inl (k0, 2000, .inl (fun _ => 0)))] sz)) 0 0 (va_A [(h0, .inr (14, [.ref h1, .int 0, .ref h2, .int 0, .ref h3, .int 0, .int 0, .ref h4, .int (-1), .int 0, .int 0, .ref h5, .int 0, .ref h6, .ref h7, .ref h8, .ref h9, .ref h10, .int 0, .ref h11, .int 0, .int 0, .ref h12, .ref h13, .ref h14, .ref h15, .int 0, .ref h16, .ref h17, .int 0, .ref h18, .ref h19, .ref h20, .ref h21, .int 0, .int 0, .int 0, .ref h22, .int 0, .int 0, .ref h23, .ref h24, .ref h25, .ref h26, .int 0, .int 0, .int 0, .int 0, .int 0, .int 0, .int 0, .int 0, .int 0, .int 0, .int 0, .int 0, .int (-1), .int 0, .ref h27, .int 0, .ref h28, .int 0, .int 0, .int 0, .int 0, .int 0, .ref h29, .ref h30, .int 0, .int 0, .ref h31, .ref h32, .ref h33, .ref h34, .long 0, .ref h35, .int 0, .int 0, .int 0, .int 0, .int 0, .int 0, .int 0, .ref h36, .ref h37, .int 0, .int 0, .int 0, .int 0])), (h1, .inl (k0, 2000, .inl (fun _ => 0)))] sz) := by
  refine mkMet (y := yX13_feed) (bytes := cX13_feed) (maxL := 8) (ret := (some .int)) (rm := { frames := 1, cells := 0, slots := 0, locals := 40 }) (by decide) (Nat.le_of_ble_eq_true rfl) ?_
  intro p e s m args below meth c ls hE hl
  obtain ⟨hx, hb, hml, hr, ht, hown, hlocks, hin, rfl, hP, hK, hD, hX, rfl⟩ := hE
  have hown : s.vm.findClass "CommandHouseModel" = some m.cls := hown
  have hA : ∀ q : Nat, s.heap.size ≤ q → va_A [(h0, .inr (14, [.ref h1, .int 0, .ref h2, .int 0, .ref h3, .int 0, .int 0, .ref h4, .int (-1), .int 0, .int 0, .ref h5, .int 0, .ref h6, .ref h7, .ref h8, .ref h9, .ref h10, .int 0, .ref h11, .int 0, .int 0, .ref h12, .ref h13, .ref h14, .ref h15, .int 0, .ref h16, .ref h17, .int 0, .ref h18, .ref h19, .ref h20, .ref h21, .int 0, .int 0, .int 0, .ref h22, .int 0, .int 0, .ref h23, .ref h24, .ref h25, .ref h26, .int 0, .int 0, .int 0, .int 0, .int 0, .int 0, .int 0, .int 0, .int 0, .int 0, .int 0, .int 0, .int (-1), .int 0, .ref h27, .int 0, .ref h28, .int 0, .int 0, .int 0, .int 0, .int 0, .ref h29, .ref h30, .int 0, .int 0, .ref h31, .ref h32, .ref h33, .ref h34, .long 0, .ref h35, .int 0, .int 0, .int 0, .int 0, .int 0, .int 0, .int 0, .ref h36, .ref h37, .int 0, .int 0, .int 0, .int 0])), (h1, .inl (k0, 2000, .inl (fun _ => 0)))] s.heap.size q := fun q h => Or.inr h
  generalize hAe : va_A [(h0, .inr (14, [.ref h1, .int 0, .ref h2, .int 0, .ref h3, .int 0, .int 0, .ref h4, .int (-1), .int 0, .int 0, .ref h5, .int 0, .ref h6, .ref h7, .ref h8, .ref h9, .ref h10, .int 0, .ref h11, .int 0, .int 0, .ref h12, .ref h13, .ref h14, .ref h15, .int 0, .ref h16, .ref h17, .int 0, .ref h18, .ref h19, .ref h20, .ref h21, .int 0, .int 0, .int 0, .ref h22, .int 0, .int 0, .ref h23, .ref h24, .ref h25, .ref h26, .int 0, .int 0, .int 0, .int 0, .int 0, .int 0, .int 0, .int 0, .int 0, .int 0, .int 0, .int 0, .int (-1), .int 0, .ref h27, .int 0, .ref h28, .int 0, .int 0, .int 0, .int 0, .int 0, .ref h29, .ref h30, .int 0, .int 0, .ref h31, .ref h32, .ref h33, .ref h34, .long 0, .ref h35, .int 0, .int 0, .int 0, .int 0, .int 0, .int 0, .int 0, .ref h36, .ref h37, .int 0, .int 0, .int 0, .int 0])), (h1, .inl (k0, 2000, .inl (fun _ => 0)))] s.heap.size = A at hD hX hA ⊢
  have hS : va_S A s.heap s.heap [] := va_S.rf
  have hl : lv_has ls 8 [(0, .ref h0), (1, .int x0), (2, .int x1), (3, .int x2), (4, .int x3), (5, .int x4)] := hl
  refine lv_aload_n hx hb dX13_feed_0 rfl (lv_at hl 0 rfl) ?_
  refine va_get (D := (dC, dI)) (ci := 14) (v := .int 0) (C := RX13) (T := TX13) (N := 89) hx hb ht inX13 hown hK hP 0 rfl rfl 1 (by decide) (ht _ mW1884) (fun _ h9 => h9) rfl dX13_feed_1 ?_
  refine lv_bipush (v := 20) hx hb dX13_feed_4 (by decide) ?_
  refine lv_iadd hx hb dX13_feed_6 ?_
  refine W.eq (congrArg (fun z => F0 m 7 ls (.int z :: [])) (by decide : (0 + 20 : Int32) = 20)) ?_
  refine lv_sipush (v := 2000) hx hb dX13_feed_7 (by decide) ?_
  refine lv_icmp_le (tgt := 15) hx hb dX13_feed_10 (by decide) (fun _ => ?_) (fun c => absurd (by decide) c)
  refine lv_iconst (v := 0) hx hb dX13_feed_15 (by decide) ?_
  refine lv_istore (lv' := [(6, .int 0), (0, .ref h0), (1, .int x0), (2, .int x1), (3, .int x2), (4, .int x3), (5, .int x4)]) hx hb dX13_feed_16 hl (by decide) rfl (fun ls hl => ?_)
  refine lv_iload hx hb dX13_feed_18 (lv_at hl 0 rfl) ?_
  refine lv_bipush (v := 20) hx hb dX13_feed_20 (by decide) ?_
  refine lv_icmp_ge (tgt := 115) hx hb dX13_feed_22 (by decide) (fun c => absurd c (by decide)) (fun _ => ?_)
  refine lv_iload hx hb dX13_feed_25 (lv_at hl 0 rfl) ?_
  refine lv_iconst (v := 4) hx hb dX13_feed_27 (by decide) ?_
  refine lv_icmp_ge (tgt := 35) hx hb dX13_feed_28 (by decide) (fun c => absurd c (by decide)) (fun _ => ?_)
  refine lv_iload_n hx hb dX13_feed_31 rfl (lv_at hl 2 rfl) ?_
  refine lv_goto (tgt := 71) hx hb dX13_feed_32 (by decide) ?_
  refine lv_istore (lv' := [(7, .int x0), (6, .int 0), (0, .ref h0), (1, .int x0), (2, .int x1), (3, .int x2), (4, .int x3), (5, .int x4)]) hx hb dX13_feed_71 hl (by decide) rfl (fun ls hl => ?_)
  refine lv_aload_n hx hb dX13_feed_73 rfl (lv_at hl 2 rfl) ?_
  refine va_get (D := (dC, dI)) (ci := 14) (v := .ref h1) (C := RX13) (T := TX13) (N := 89) hx hb ht inX13 hown hK hP 0 rfl rfl 0 (by decide) (ht _ mW1883) (fun _ h9 => h9) rfl dX13_feed_74 ?_
  refine lv_aload_n hx hb dX13_feed_77 rfl (lv_at hl 2 rfl) ?_
  refine va_get (D := (dC, dI)) (ci := 14) (v := .int 0) (C := RX13) (T := TX13) (N := 89) hx hb ht inX13 hown hK hP 0 rfl rfl 1 (by decide) (ht _ mW1884) (fun _ h9 => h9) rfl dX13_feed_78 ?_
  refine lv_iload hx hb dX13_feed_81 (lv_at hl 0 rfl) ?_
  refine lv_bipush (v := 24) hx hb dX13_feed_83 (by decide) ?_
  refine lv_bipush (v := 8) hx hb dX13_feed_85 (by decide) ?_
  refine lv_iload hx hb dX13_feed_87 (lv_at hl 1 rfl) ?_
  refine lv_iconst (v := 4) hx hb dX13_feed_89 (by decide) ?_
  refine lv_irem hx hb dX13_feed_90 (by decide) ?_
  refine W.eq (congrArg (fun z => F0 m 91 ls (.int z :: [.int 8, .int 24, .int x0, .int 0, .ref h1])) (by decide : (0 - 0 / 4 * 4 : Int32) = 0)) ?_
  refine lv_imul hx hb dX13_feed_91 ?_
  refine W.eq (congrArg (fun z => F0 m 92 ls (.int z :: [.int 24, .int x0, .int 0, .ref h1])) (by decide : (8 * 0 : Int32) = 0)) ?_
  refine lv_isub hx hb dX13_feed_92 ?_
  refine W.eq (congrArg (fun z => F0 m 93 ls (.int z :: [.int x0, .int 0, .ref h1])) (by decide : (24 - 0 : Int32) = 24)) ?_
  refine lv_ishr hx hb dX13_feed_93 ?_
  refine lv_topi (fun n931 en931 => ?_)
  refine lv_sipush (v := 255) hx hb dX13_feed_94 (by decide) ?_
  refine lv_iand hx hb dX13_feed_97 ?_
  refine lv_topi (fun n932 en932 => ?_)
  refine va_iast hx hb hK hP hD hS 1 0 rfl rfl (by unfold vp_in; decide) dX13_feed_98 (fun H locs hP hD hS => ?_)
  obtain ⟨f933, ef933⟩ : ∃ z : Nat → Int32, z = upd (fun _ => 0) 0 n932 := ⟨_, rfl⟩
  have hP : va_P (dC, dI) vwCl [(h0, .inr (14, [.ref h1, .int 0, .ref h2, .int 0, .ref h3, .int 0, .int 0, .ref h4, .int (-1), .int 0, .int 0, .ref h5, .int 0, .ref h6, .ref h7, .ref h8, .ref h9, .ref h10, .int 0, .ref h11, .int 0, .int 0, .ref h12, .ref h13, .ref h14, .ref h15, .int 0, .ref h16, .ref h17, .int 0, .ref h18, .ref h19, .ref h20, .ref h21, .int 0, .int 0, .int 0, .ref h22, .int 0, .int 0, .ref h23, .ref h24, .ref h25, .ref h26, .int 0, .int 0, .int 0, .int 0, .int 0, .int 0, .int 0, .int 0, .int 0, .int 0, .int 0, .int 0, .int (-1), .int 0, .ref h27, .int 0, .ref h28, .int 0, .int 0, .int 0, .int 0, .int 0, .ref h29, .ref h30, .int 0, .int 0, .ref h31, .ref h32, .ref h33, .ref h34, .long 0, .ref h35, .int 0, .int 0, .int 0, .int 0, .int 0, .int 0, .int 0, .ref h36, .ref h37, .int 0, .int 0, .int 0, .int 0])), (h1, .inl (k0, 2000, .inl f933))] H := by rw [ef933]; exact hP
  have hD : va_D A [(h0, .inr (14, [.ref h1, .int 0, .ref h2, .int 0, .ref h3, .int 0, .int 0, .ref h4, .int (-1), .int 0, .int 0, .ref h5, .int 0, .ref h6, .ref h7, .ref h8, .ref h9, .ref h10, .int 0, .ref h11, .int 0, .int 0, .ref h12, .ref h13, .ref h14, .ref h15, .int 0, .ref h16, .ref h17, .int 0, .ref h18, .ref h19, .ref h20, .ref h21, .int 0, .int 0, .int 0, .ref h22, .int 0, .int 0, .ref h23, .ref h24, .ref h25, .ref h26, .int 0, .int 0, .int 0, .int 0, .int 0, .int 0, .int 0, .int 0, .int 0, .int 0, .int 0, .int 0, .int (-1), .int 0, .ref h27, .int 0, .ref h28, .int 0, .int 0, .int 0, .int 0, .int 0, .ref h29, .ref h30, .int 0, .int 0, .ref h31, .ref h32, .ref h33, .ref h34, .long 0, .ref h35, .int 0, .int 0, .int 0, .int 0, .int 0, .int 0, .int 0, .ref h36, .ref h37, .int 0, .int 0, .int 0, .int 0])), (h1, .inl (k0, 2000, .inl f933))] := by rw [ef933]; exact hD
  refine lv_aload_n hx hb dX13_feed_99 rfl (lv_at hl 2 rfl) ?_
  refine lv_dup hx hb dX13_feed_100 rfl ?_
  refine va_get (D := (dC, dI)) (ci := 14) (v := .int 0) (C := RX13) (T := TX13) (N := 89) hx hb ht inX13 hown hK hP 0 rfl rfl 1 (by decide) (ht _ mW1884) (fun _ h9 => h9) rfl dX13_feed_101 ?_
  refine lv_iconst (v := 1) hx hb dX13_feed_104 (by decide) ?_
  refine lv_iadd hx hb dX13_feed_105 ?_
  refine W.eq (congrArg (fun z => F0 m 106 ls (.int z :: [.ref h0])) (by decide : (0 + 1 : Int32) = 1)) ?_
  refine va_put (D := (dC, dI)) (ci := 14) (v := .int 1) (ty := .int) (C := RX13) (T := TX13) (N := 89) hx hb ht inX13 tyX13 tyX13_ok nmX13 hown hK hP hD hS 0 rfl rfl 1 (by decide) (ht _ mW1884) (fun _ h9 => h9) rfl (by decide +kernel) rfl rfl (Nat.le_of_ble_eq_true rfl) dX13_feed_106 (fun H locs hP hD hS => ?_)
  have hP : va_P (dC, dI) vwCl [(h0, .inr (14, [.ref h1, .int 1, .ref h2, .int 0, .ref h3, .int 0, .int 0, .ref h4, .int (-1), .int 0, .int 0, .ref h5, .int 0, .ref h6, .ref h7, .ref h8, .ref h9, .ref h10, .int 0, .ref h11, .int 0, .int 0, .ref h12, .ref h13, .ref h14, .ref h15, .int 0, .ref h16, .ref h17, .int 0, .ref h18, .ref h19, .ref h20, .ref h21, .int 0, .int 0, .int 0, .ref h22, .int 0, .int 0, .ref h23, .ref h24, .ref h25, .ref h26, .int 0, .int 0, .int 0, .int 0, .int 0, .int 0, .int 0, .int 0, .int 0, .int 0, .int 0, .int 0, .int (-1), .int 0, .ref h27, .int 0, .ref h28, .int 0, .int 0, .int 0, .int 0, .int 0, .ref h29, .ref h30, .int 0, .int 0, .ref h31, .ref h32, .ref h33, .ref h34, .long 0, .ref h35, .int 0, .int 0, .int 0, .int 0, .int 0, .int 0, .int 0, .ref h36, .ref h37, .int 0, .int 0, .int 0, .int 0])), (h1, .inl (k0, 2000, .inl f933))] H := hP
  have hD : va_D A [(h0, .inr (14, [.ref h1, .int 1, .ref h2, .int 0, .ref h3, .int 0, .int 0, .ref h4, .int (-1), .int 0, .int 0, .ref h5, .int 0, .ref h6, .ref h7, .ref h8, .ref h9, .ref h10, .int 0, .ref h11, .int 0, .int 0, .ref h12, .ref h13, .ref h14, .ref h15, .int 0, .ref h16, .ref h17, .int 0, .ref h18, .ref h19, .ref h20, .ref h21, .int 0, .int 0, .int 0, .ref h22, .int 0, .int 0, .ref h23, .ref h24, .ref h25, .ref h26, .int 0, .int 0, .int 0, .int 0, .int 0, .int 0, .int 0, .int 0, .int 0, .int 0, .int 0, .int 0, .int (-1), .int 0, .ref h27, .int 0, .ref h28, .int 0, .int 0, .int 0, .int 0, .int 0, .ref h29, .ref h30, .int 0, .int 0, .ref h31, .ref h32, .ref h33, .ref h34, .long 0, .ref h35, .int 0, .int 0, .int 0, .int 0, .int 0, .int 0, .int 0, .ref h36, .ref h37, .int 0, .int 0, .int 0, .int 0])), (h1, .inl (k0, 2000, .inl f933))] := hD
  refine lv_iinc (v := 1) (lv' := [(6, .int 1), (7, .int x0), (0, .ref h0), (1, .int x0), (2, .int x1), (3, .int x2), (4, .int x3), (5, .int x4)]) hx hb dX13_feed_109 hl (k := 1) rfl (by decide) (by decide) rfl (fun ls hl => ?_)
  refine lv_goto (tgt := 18) hx hb dX13_feed_112 (by decide) ?_
  refine lv_iload hx hb dX13_feed_18 (lv_at hl 0 rfl) ?_
  refine lv_bipush (v := 20) hx hb dX13_feed_20 (by decide) ?_
  refine lv_icmp_ge (tgt := 115) hx hb dX13_feed_22 (by decide) (fun c => absurd c (by decide)) (fun _ => ?_)
  refine lv_iload hx hb dX13_feed_25 (lv_at hl 0 rfl) ?_
  refine lv_iconst (v := 4) hx hb dX13_feed_27 (by decide) ?_
  refine lv_icmp_ge (tgt := 35) hx hb dX13_feed_28 (by decide) (fun c => absurd c (by decide)) (fun _ => ?_)
  refine lv_iload_n hx hb dX13_feed_31 rfl (lv_at hl 3 rfl) ?_
  refine lv_goto (tgt := 71) hx hb dX13_feed_32 (by decide) ?_
  refine lv_istore (lv' := [(7, .int x0), (6, .int 1), (0, .ref h0), (1, .int x0), (2, .int x1), (3, .int x2), (4, .int x3), (5, .int x4)]) hx hb dX13_feed_71 hl (by decide) rfl (fun ls hl => ?_)
  refine lv_aload_n hx hb dX13_feed_73 rfl (lv_at hl 2 rfl) ?_
  refine va_get (D := (dC, dI)) (ci := 14) (v := .ref h1) (C := RX13) (T := TX13) (N := 89) hx hb ht inX13 hown hK hP 0 rfl rfl 0 (by decide) (ht _ mW1883) (fun _ h9 => h9) rfl dX13_feed_74 ?_
  refine lv_aload_n hx hb dX13_feed_77 rfl (lv_at hl 2 rfl) ?_
  refine va_get (D := (dC, dI)) (ci := 14) (v := .int 1) (C := RX13) (T := TX13) (N := 89) hx hb ht inX13 hown hK hP 0 rfl rfl 1 (by decide) (ht _ mW1884) (fun _ h9 => h9) rfl dX13_feed_78 ?_
  refine lv_iload hx hb dX13_feed_81 (lv_at hl 0 rfl) ?_
  refine lv_bipush (v := 24) hx hb dX13_feed_83 (by decide) ?_
  refine lv_bipush (v := 8) hx hb dX13_feed_85 (by decide) ?_
  refine lv_iload hx hb dX13_feed_87 (lv_at hl 1 rfl) ?_
  refine lv_iconst (v := 4) hx hb dX13_feed_89 (by decide) ?_
  refine lv_irem hx hb dX13_feed_90 (by decide) ?_
  refine W.eq (congrArg (fun z => F0 m 91 ls (.int z :: [.int 8, .int 24, .int x0, .int 1, .ref h1])) (by decide : (1 - 1 / 4 * 4 : Int32) = 1)) ?_
  refine lv_imul hx hb dX13_feed_91 ?_
  refine W.eq (congrArg (fun z => F0 m 92 ls (.int z :: [.int 24, .int x0, .int 1, .ref h1])) (by decide : (8 * 1 : Int32) = 8)) ?_
  refine lv_isub hx hb dX13_feed_92 ?_
  refine W.eq (congrArg (fun z => F0 m 93 ls (.int z :: [.int x0, .int 1, .ref h1])) (by decide : (24 - 8 : Int32) = 16)) ?_
  refine lv_ishr hx hb dX13_feed_93 ?_
  refine lv_topi (fun n934 en934 => ?_)
  refine lv_sipush (v := 255) hx hb dX13_feed_94 (by decide) ?_
  refine lv_iand hx hb dX13_feed_97 ?_
  refine lv_topi (fun n935 en935 => ?_)
  refine va_iast hx hb hK hP hD hS 1 0 rfl rfl (by unfold vp_in; decide) dX13_feed_98 (fun H locs hP hD hS => ?_)
  obtain ⟨f936, ef936⟩ : ∃ z : Nat → Int32, z = upd f933 1 n935 := ⟨_, rfl⟩
  have hP : va_P (dC, dI) vwCl [(h0, .inr (14, [.ref h1, .int 1, .ref h2, .int 0, .ref h3, .int 0, .int 0, .ref h4, .int (-1), .int 0, .int 0, .ref h5, .int 0, .ref h6, .ref h7, .ref h8, .ref h9, .ref h10, .int 0, .ref h11, .int 0, .int 0, .ref h12, .ref h13, .ref h14, .ref h15, .int 0, .ref h16, .ref h17, .int 0, .ref h18, .ref h19, .ref h20, .ref h21, .int 0, .int 0, .int 0, .ref h22, .int 0, .int 0, .ref h23, .ref h24, .ref h25, .ref h26, .int 0, .int 0, .int 0, .int 0, .int 0, .int 0, .int 0, .int 0, .int 0, .int 0, .int 0, .int 0, .int (-1), .int 0, .ref h27, .int 0, .ref h28, .int 0, .int 0, .int 0, .int 0, .int 0, .ref h29, .ref h30, .int 0, .int 0, .ref h31, .ref h32, .ref h33, .ref h34, .long 0, .ref h35, .int 0, .int 0, .int 0, .int 0, .int 0, .int 0, .int 0, .ref h36, .ref h37, .int 0, .int 0, .int 0, .int 0])), (h1, .inl (k0, 2000, .inl f936))] H := by rw [ef936]; exact hP
  have hD : va_D A [(h0, .inr (14, [.ref h1, .int 1, .ref h2, .int 0, .ref h3, .int 0, .int 0, .ref h4, .int (-1), .int 0, .int 0, .ref h5, .int 0, .ref h6, .ref h7, .ref h8, .ref h9, .ref h10, .int 0, .ref h11, .int 0, .int 0, .ref h12, .ref h13, .ref h14, .ref h15, .int 0, .ref h16, .ref h17, .int 0, .ref h18, .ref h19, .ref h20, .ref h21, .int 0, .int 0, .int 0, .ref h22, .int 0, .int 0, .ref h23, .ref h24, .ref h25, .ref h26, .int 0, .int 0, .int 0, .int 0, .int 0, .int 0, .int 0, .int 0, .int 0, .int 0, .int 0, .int 0, .int (-1), .int 0, .ref h27, .int 0, .ref h28, .int 0, .int 0, .int 0, .int 0, .int 0, .ref h29, .ref h30, .int 0, .int 0, .ref h31, .ref h32, .ref h33, .ref h34, .long 0, .ref h35, .int 0, .int 0, .int 0, .int 0, .int 0, .int 0, .int 0, .ref h36, .ref h37, .int 0, .int 0, .int 0, .int 0])), (h1, .inl (k0, 2000, .inl f936))] := by rw [ef936]; exact hD
  refine lv_aload_n hx hb dX13_feed_99 rfl (lv_at hl 2 rfl) ?_
  refine lv_dup hx hb dX13_feed_100 rfl ?_
  refine va_get (D := (dC, dI)) (ci := 14) (v := .int 1) (C := RX13) (T := TX13) (N := 89) hx hb ht inX13 hown hK hP 0 rfl rfl 1 (by decide) (ht _ mW1884) (fun _ h9 => h9) rfl dX13_feed_101 ?_
  refine lv_iconst (v := 1) hx hb dX13_feed_104 (by decide) ?_
  refine lv_iadd hx hb dX13_feed_105 ?_
  refine W.eq (congrArg (fun z => F0 m 106 ls (.int z :: [.ref h0])) (by decide : (1 + 1 : Int32) = 2)) ?_
  refine va_put (D := (dC, dI)) (ci := 14) (v := .int 2) (ty := .int) (C := RX13) (T := TX13) (N := 89) hx hb ht inX13 tyX13 tyX13_ok nmX13 hown hK hP hD hS 0 rfl rfl 1 (by decide) (ht _ mW1884) (fun _ h9 => h9) rfl (by decide +kernel) rfl rfl (Nat.le_of_ble_eq_true rfl) dX13_feed_106 (fun H locs hP hD hS => ?_)
  have hP : va_P (dC, dI) vwCl [(h0, .inr (14, [.ref h1, .int 2, .ref h2, .int 0, .ref h3, .int 0, .int 0, .ref h4, .int (-1), .int 0, .int 0, .ref h5, .int 0, .ref h6, .ref h7, .ref h8, .ref h9, .ref h10, .int 0, .ref h11, .int 0, .int 0, .ref h12, .ref h13, .ref h14, .ref h15, .int 0, .ref h16, .ref h17, .int 0, .ref h18, .ref h19, .ref h20, .ref h21, .int 0, .int 0, .int 0, .ref h22, .int 0, .int 0, .ref h23, .ref h24, .ref h25, .ref h26, .int 0, .int 0, .int 0, .int 0, .int 0, .int 0, .int 0, .int 0, .int 0, .int 0, .int 0, .int 0, .int (-1), .int 0, .ref h27, .int 0, .ref h28, .int 0, .int 0, .int 0, .int 0, .int 0, .ref h29, .ref h30, .int 0, .int 0, .ref h31, .ref h32, .ref h33, .ref h34, .long 0, .ref h35, .int 0, .int 0, .int 0, .int 0, .int 0, .int 0, .int 0, .ref h36, .ref h37, .int 0, .int 0, .int 0, .int 0])), (h1, .inl (k0, 2000, .inl f936))] H := hP
  have hD : va_D A [(h0, .inr (14, [.ref h1, .int 2, .ref h2, .int 0, .ref h3, .int 0, .int 0, .ref h4, .int (-1), .int 0, .int 0, .ref h5, .int 0, .ref h6, .ref h7, .ref h8, .ref h9, .ref h10, .int 0, .ref h11, .int 0, .int 0, .ref h12, .ref h13, .ref h14, .ref h15, .int 0, .ref h16, .ref h17, .int 0, .ref h18, .ref h19, .ref h20, .ref h21, .int 0, .int 0, .int 0, .ref h22, .int 0, .int 0, .ref h23, .ref h24, .ref h25, .ref h26, .int 0, .int 0, .int 0, .int 0, .int 0, .int 0, .int 0, .int 0, .int 0, .int 0, .int 0, .int 0, .int (-1), .int 0, .ref h27, .int 0, .ref h28, .int 0, .int 0, .int 0, .int 0, .int 0, .ref h29, .ref h30, .int 0, .int 0, .ref h31, .ref h32, .ref h33, .ref h34, .long 0, .ref h35, .int 0, .int 0, .int 0, .int 0, .int 0, .int 0, .int 0, .ref h36, .ref h37, .int 0, .int 0, .int 0, .int 0])), (h1, .inl (k0, 2000, .inl f936))] := hD
  refine lv_iinc (v := 2) (lv' := [(6, .int 2), (7, .int x0), (0, .ref h0), (1, .int x0), (2, .int x1), (3, .int x2), (4, .int x3), (5, .int x4)]) hx hb dX13_feed_109 hl (k := 1) rfl (by decide) (by decide) rfl (fun ls hl => ?_)
  refine lv_goto (tgt := 18) hx hb dX13_feed_112 (by decide) ?_
  refine lv_iload hx hb dX13_feed_18 (lv_at hl 0 rfl) ?_
  refine lv_bipush (v := 20) hx hb dX13_feed_20 (by decide) ?_
  refine lv_icmp_ge (tgt := 115) hx hb dX13_feed_22 (by decide) (fun c => absurd c (by decide)) (fun _ => ?_)
  refine lv_iload hx hb dX13_feed_25 (lv_at hl 0 rfl) ?_
  refine lv_iconst (v := 4) hx hb dX13_feed_27 (by decide) ?_
  refine lv_icmp_ge (tgt := 35) hx hb dX13_feed_28 (by decide) (fun c => absurd c (by decide)) (fun _ => ?_)
  refine lv_iload_n hx hb dX13_feed_31 rfl (lv_at hl 3 rfl) ?_
  refine lv_goto (tgt := 71) hx hb dX13_feed_32 (by decide) ?_
  refine lv_istore (lv' := [(7, .int x0), (6, .int 2), (0, .ref h0), (1, .int x0), (2, .int x1), (3, .int x2), (4, .int x3), (5, .int x4)]) hx hb dX13_feed_71 hl (by decide) rfl (fun ls hl => ?_)
  refine lv_aload_n hx hb dX13_feed_73 rfl (lv_at hl 2 rfl) ?_
  refine va_get (D := (dC, dI)) (ci := 14) (v := .ref h1) (C := RX13) (T := TX13) (N := 89) hx hb ht inX13 hown hK hP 0 rfl rfl 0 (by decide) (ht _ mW1883) (fun _ h9 => h9) rfl dX13_feed_74 ?_
  refine lv_aload_n hx hb dX13_feed_77 rfl (lv_at hl 2 rfl) ?_
  refine va_get (D := (dC, dI)) (ci := 14) (v := .int 2) (C := RX13) (T := TX13) (N := 89) hx hb ht inX13 hown hK hP 0 rfl rfl 1 (by decide) (ht _ mW1884) (fun _ h9 => h9) rfl dX13_feed_78 ?_
  refine lv_iload hx hb dX13_feed_81 (lv_at hl 0 rfl) ?_
  refine lv_bipush (v := 24) hx hb dX13_feed_83 (by decide) ?_
  refine lv_bipush (v := 8) hx hb dX13_feed_85 (by decide) ?_
  refine lv_iload hx hb dX13_feed_87 (lv_at hl 1 rfl) ?_
  refine lv_iconst (v := 4) hx hb dX13_feed_89 (by decide) ?_
  refine lv_irem hx hb dX13_feed_90 (by decide) ?_
  refine W.eq (congrArg (fun z => F0 m 91 ls (.int z :: [.int 8, .int 24, .int x0, .int 2, .ref h1])) (by decide : (2 - 2 / 4 * 4 : Int32) = 2)) ?_
  refine lv_imul hx hb dX13_feed_91 ?_
  refine W.eq (congrArg (fun z => F0 m 92 ls (.int z :: [.int 24, .int x0, .int 2, .ref h1])) (by decide : (8 * 2 : Int32) = 16)) ?_
  refine lv_isub hx hb dX13_feed_92 ?_
  refine W.eq (congrArg (fun z => F0 m 93 ls (.int z :: [.int x0, .int 2, .ref h1])) (by decide : (24 - 16 : Int32) = 8)) ?_
  refine lv_ishr hx hb dX13_feed_93 ?_
  refine lv_topi (fun n937 en937 => ?_)
  refine lv_sipush (v := 255) hx hb dX13_feed_94 (by decide) ?_
  refine lv_iand hx hb dX13_feed_97 ?_
  refine lv_topi (fun n938 en938 => ?_)
  refine va_iast hx hb hK hP hD hS 1 0 rfl rfl (by unfold vp_in; decide) dX13_feed_98 (fun H locs hP hD hS => ?_)
  obtain ⟨f939, ef939⟩ : ∃ z : Nat → Int32, z = upd f936 2 n938 := ⟨_, rfl⟩
  have hP : va_P (dC, dI) vwCl [(h0, .inr (14, [.ref h1, .int 2, .ref h2, .int 0, .ref h3, .int 0, .int 0, .ref h4, .int (-1), .int 0, .int 0, .ref h5, .int 0, .ref h6, .ref h7, .ref h8, .ref h9, .ref h10, .int 0, .ref h11, .int 0, .int 0, .ref h12, .ref h13, .ref h14, .ref h15, .int 0, .ref h16, .ref h17, .int 0, .ref h18, .ref h19, .ref h20, .ref h21, .int 0, .int 0, .int 0, .ref h22, .int 0, .int 0, .ref h23, .ref h24, .ref h25, .ref h26, .int 0, .int 0, .int 0, .int 0, .int 0, .int 0, .int 0, .int 0, .int 0, .int 0, .int 0, .int 0, .int (-1), .int 0, .ref h27, .int 0, .ref h28, .int 0, .int 0, .int 0, .int 0, .int 0, .ref h29, .ref h30, .int 0, .int 0, .ref h31, .ref h32, .ref h33, .ref h34, .long 0, .ref h35, .int 0, .int 0, .int 0, .int 0, .int 0, .int 0, .int 0, .ref h36, .ref h37, .int 0, .int 0, .int 0, .int 0])), (h1, .inl (k0, 2000, .inl f939))] H := by rw [ef939]; exact hP
  have hD : va_D A [(h0, .inr (14, [.ref h1, .int 2, .ref h2, .int 0, .ref h3, .int 0, .int 0, .ref h4, .int (-1), .int 0, .int 0, .ref h5, .int 0, .ref h6, .ref h7, .ref h8, .ref h9, .ref h10, .int 0, .ref h11, .int 0, .int 0, .ref h12, .ref h13, .ref h14, .ref h15, .int 0, .ref h16, .ref h17, .int 0, .ref h18, .ref h19, .ref h20, .ref h21, .int 0, .int 0, .int 0, .ref h22, .int 0, .int 0, .ref h23, .ref h24, .ref h25, .ref h26, .int 0, .int 0, .int 0, .int 0, .int 0, .int 0, .int 0, .int 0, .int 0, .int 0, .int 0, .int 0, .int (-1), .int 0, .ref h27, .int 0, .ref h28, .int 0, .int 0, .int 0, .int 0, .int 0, .ref h29, .ref h30, .int 0, .int 0, .ref h31, .ref h32, .ref h33, .ref h34, .long 0, .ref h35, .int 0, .int 0, .int 0, .int 0, .int 0, .int 0, .int 0, .ref h36, .ref h37, .int 0, .int 0, .int 0, .int 0])), (h1, .inl (k0, 2000, .inl f939))] := by rw [ef939]; exact hD
  refine lv_aload_n hx hb dX13_feed_99 rfl (lv_at hl 2 rfl) ?_
  refine lv_dup hx hb dX13_feed_100 rfl ?_
  refine va_get (D := (dC, dI)) (ci := 14) (v := .int 2) (C := RX13) (T := TX13) (N := 89) hx hb ht inX13 hown hK hP 0 rfl rfl 1 (by decide) (ht _ mW1884) (fun _ h9 => h9) rfl dX13_feed_101 ?_
  refine lv_iconst (v := 1) hx hb dX13_feed_104 (by decide) ?_
  refine lv_iadd hx hb dX13_feed_105 ?_
  refine W.eq (congrArg (fun z => F0 m 106 ls (.int z :: [.ref h0])) (by decide : (2 + 1 : Int32) = 3)) ?_
  refine va_put (D := (dC, dI)) (ci := 14) (v := .int 3) (ty := .int) (C := RX13) (T := TX13) (N := 89) hx hb ht inX13 tyX13 tyX13_ok nmX13 hown hK hP hD hS 0 rfl rfl 1 (by decide) (ht _ mW1884) (fun _ h9 => h9) rfl (by decide +kernel) rfl rfl (Nat.le_of_ble_eq_true rfl) dX13_feed_106 (fun H locs hP hD hS => ?_)
  have hP : va_P (dC, dI) vwCl [(h0, .inr (14, [.ref h1, .int 3, .ref h2, .int 0, .ref h3, .int 0, .int 0, .ref h4, .int (-1), .int 0, .int 0, .ref h5, .int 0, .ref h6, .ref h7, .ref h8, .ref h9, .ref h10, .int 0, .ref h11, .int 0, .int 0, .ref h12, .ref h13, .ref h14, .ref h15, .int 0, .ref h16, .ref h17, .int 0, .ref h18, .ref h19, .ref h20, .ref h21, .int 0, .int 0, .int 0, .ref h22, .int 0, .int 0, .ref h23, .ref h24, .ref h25, .ref h26, .int 0, .int 0, .int 0, .int 0, .int 0, .int 0, .int 0, .int 0, .int 0, .int 0, .int 0, .int 0, .int (-1), .int 0, .ref h27, .int 0, .ref h28, .int 0, .int 0, .int 0, .int 0, .int 0, .ref h29, .ref h30, .int 0, .int 0, .ref h31, .ref h32, .ref h33, .ref h34, .long 0, .ref h35, .int 0, .int 0, .int 0, .int 0, .int 0, .int 0, .int 0, .ref h36, .ref h37, .int 0, .int 0, .int 0, .int 0])), (h1, .inl (k0, 2000, .inl f939))] H := hP
  have hD : va_D A [(h0, .inr (14, [.ref h1, .int 3, .ref h2, .int 0, .ref h3, .int 0, .int 0, .ref h4, .int (-1), .int 0, .int 0, .ref h5, .int 0, .ref h6, .ref h7, .ref h8, .ref h9, .ref h10, .int 0, .ref h11, .int 0, .int 0, .ref h12, .ref h13, .ref h14, .ref h15, .int 0, .ref h16, .ref h17, .int 0, .ref h18, .ref h19, .ref h20, .ref h21, .int 0, .int 0, .int 0, .ref h22, .int 0, .int 0, .ref h23, .ref h24, .ref h25, .ref h26, .int 0, .int 0, .int 0, .int 0, .int 0, .int 0, .int 0, .int 0, .int 0, .int 0, .int 0, .int 0, .int (-1), .int 0, .ref h27, .int 0, .ref h28, .int 0, .int 0, .int 0, .int 0, .int 0, .ref h29, .ref h30, .int 0, .int 0, .ref h31, .ref h32, .ref h33, .ref h34, .long 0, .ref h35, .int 0, .int 0, .int 0, .int 0, .int 0, .int 0, .int 0, .ref h36, .ref h37, .int 0, .int 0, .int 0, .int 0])), (h1, .inl (k0, 2000, .inl f939))] := hD
  refine lv_iinc (v := 3) (lv' := [(6, .int 3), (7, .int x0), (0, .ref h0), (1, .int x0), (2, .int x1), (3, .int x2), (4, .int x3), (5, .int x4)]) hx hb dX13_feed_109 hl (k := 1) rfl (by decide) (by decide) rfl (fun ls hl => ?_)
  refine lv_goto (tgt := 18) hx hb dX13_feed_112 (by decide) ?_
  refine lv_iload hx hb dX13_feed_18 (lv_at hl 0 rfl) ?_
  refine lv_bipush (v := 20) hx hb dX13_feed_20 (by decide) ?_
  refine lv_icmp_ge (tgt := 115) hx hb dX13_feed_22 (by decide) (fun c => absurd c (by decide)) (fun _ => ?_)
  refine lv_iload hx hb dX13_feed_25 (lv_at hl 0 rfl) ?_
  refine lv_iconst (v := 4) hx hb dX13_feed_27 (by decide) ?_
  refine lv_icmp_ge (tgt := 35) hx hb dX13_feed_28 (by decide) (fun c => absurd c (by decide)) (fun _ => ?_)
  refine lv_iload_n hx hb dX13_feed_31 rfl (lv_at hl 3 rfl) ?_
  refine lv_goto (tgt := 71) hx hb dX13_feed_32 (by decide) ?_
  refine lv_istore (lv' := [(7, .int x0), (6, .int 3), (0, .ref h0), (1, .int x0), (2, .int x1), (3, .int x2), (4, .int x3), (5, .int x4)]) hx hb dX13_feed_71 hl (by decide) rfl (fun ls hl => ?_)
  refine lv_aload_n hx hb dX13_feed_73 rfl (lv_at hl 2 rfl) ?_
  refine va_get (D := (dC, dI)) (ci := 14) (v := .ref h1) (C := RX13) (T := TX13) (N := 89) hx hb ht inX13 hown hK hP 0 rfl rfl 0 (by decide) (ht _ mW1883) (fun _ h9 => h9) rfl dX13_feed_74 ?_
  refine lv_aload_n hx hb dX13_feed_77 rfl (lv_at hl 2 rfl) ?_
  refine va_get (D := (dC, dI)) (ci := 14) (v := .int 3) (C := RX13) (T := TX13) (N := 89) hx hb ht inX13 hown hK hP 0 rfl rfl 1 (by decide) (ht _ mW1884) (fun _ h9 => h9) rfl dX13_feed_78 ?_
  refine lv_iload hx hb dX13_feed_81 (lv_at hl 0 rfl) ?_
  refine lv_bipush (v := 24) hx hb dX13_feed_83 (by decide) ?_
  refine lv_bipush (v := 8) hx hb dX13_feed_85 (by decide) ?_
  refine lv_iload hx hb dX13_feed_87 (lv_at hl 1 rfl) ?_
  refine lv_iconst (v := 4) hx hb dX13_feed_89 (by decide) ?_
  refine lv_irem hx hb dX13_feed_90 (by decide) ?_
  refine W.eq (congrArg (fun z => F0 m 91 ls (.int z :: [.int 8, .int 24, .int x0, .int 3, .ref h1])) (by decide : (3 - 3 / 4 * 4 : Int32) = 3)) ?_
  refine lv_imul hx hb dX13_feed_91 ?_
  refine W.eq (congrArg (fun z => F0 m 92 ls (.int z :: [.int 24, .int x0, .int 3, .ref h1])) (by decide : (8 * 3 : Int32) = 24)) ?_
  refine lv_isub hx hb dX13_feed_92 ?_
  refine W.eq (congrArg (fun z => F0 m 93 ls (.int z :: [.int x0, .int 3, .ref h1])) (by decide : (24 - 24 : Int32) = 0)) ?_
  refine lv_ishr hx hb dX13_feed_93 ?_
  refine lv_topi (fun n940 en940 => ?_)
  refine lv_sipush (v := 255) hx hb dX13_feed_94 (by decide) ?_
  refine lv_iand hx hb dX13_feed_97 ?_
  refine lv_topi (fun n941 en941 => ?_)
  refine va_iast hx hb hK hP hD hS 1 0 rfl rfl (by unfold vp_in; decide) dX13_feed_98 (fun H locs hP hD hS => ?_)
  obtain ⟨f942, ef942⟩ : ∃ z : Nat → Int32, z = upd f939 3 n941 := ⟨_, rfl⟩
  have hP : va_P (dC, dI) vwCl [(h0, .inr (14, [.ref h1, .int 3, .ref h2, .int 0, .ref h3, .int 0, .int 0, .ref h4, .int (-1), .int 0, .int 0, .ref h5, .int 0, .ref h6, .ref h7, .ref h8, .ref h9, .ref h10, .int 0, .ref h11, .int 0, .int 0, .ref h12, .ref h13, .ref h14, .ref h15, .int 0, .ref h16, .ref h17, .int 0, .ref h18, .ref h19, .ref h20, .ref h21, .int 0, .int 0, .int 0, .ref h22, .int 0, .int 0, .ref h23, .ref h24, .ref h25, .ref h26, .int 0, .int 0, .int 0, .int 0, .int 0, .int 0, .int 0, .int 0, .int 0, .int 0, .int 0, .int 0, .int (-1), .int 0, .ref h27, .int 0, .ref h28, .int 0, .int 0, .int 0, .int 0, .int 0, .ref h29, .ref h30, .int 0, .int 0, .ref h31, .ref h32, .ref h33, .ref h34, .long 0, .ref h35, .int 0, .int 0, .int 0, .int 0, .int 0, .int 0, .int 0, .ref h36, .ref h37, .int 0, .int 0, .int 0, .int 0])), (h1, .inl (k0, 2000, .inl f942))] H := by rw [ef942]; exact hP
  have hD : va_D A [(h0, .inr (14, [.ref h1, .int 3, .ref h2, .int 0, .ref h3, .int 0, .int 0, .ref h4, .int (-1), .int 0, .int 0, .ref h5, .int 0, .ref h6, .ref h7, .ref h8, .ref h9, .ref h10, .int 0, .ref h11, .int 0, .int 0, .ref h12, .ref h13, .ref h14, .ref h15, .int 0, .ref h16, .ref h17, .int 0, .ref h18, .ref h19, .ref h20, .ref h21, .int 0, .int 0, .int 0, .ref h22, .int 0, .int 0, .ref h23, .ref h24, .ref h25, .ref h26, .int 0, .int 0, .int 0, .int 0, .int 0, .int 0, .int 0, .int 0, .int 0, .int 0, .int 0, .int 0, .int (-1), .int 0, .ref h27, .int 0, .ref h28, .int 0, .int 0, .int 0, .int 0, .int 0, .ref h29, .ref h30, .int 0, .int 0, .ref h31, .ref h32, .ref h33, .ref h34, .long 0, .ref h35, .int 0, .int 0, .int 0, .int 0, .int 0, .int 0, .int 0, .ref h36, .ref h37, .int 0, .int 0, .int 0, .int 0])), (h1, .inl (k0, 2000, .inl f942))] := by rw [ef942]; exact hD
  refine lv_aload_n hx hb dX13_feed_99 rfl (lv_at hl 2 rfl) ?_
  refine lv_dup hx hb dX13_feed_100 rfl ?_
  refine va_get (D := (dC, dI)) (ci := 14) (v := .int 3) (C := RX13) (T := TX13) (N := 89) hx hb ht inX13 hown hK hP 0 rfl rfl 1 (by decide) (ht _ mW1884) (fun _ h9 => h9) rfl dX13_feed_101 ?_
  refine lv_iconst (v := 1) hx hb dX13_feed_104 (by decide) ?_
  refine lv_iadd hx hb dX13_feed_105 ?_
  refine W.eq (congrArg (fun z => F0 m 106 ls (.int z :: [.ref h0])) (by decide : (3 + 1 : Int32) = 4)) ?_
  refine va_put (D := (dC, dI)) (ci := 14) (v := .int 4) (ty := .int) (C := RX13) (T := TX13) (N := 89) hx hb ht inX13 tyX13 tyX13_ok nmX13 hown hK hP hD hS 0 rfl rfl 1 (by decide) (ht _ mW1884) (fun _ h9 => h9) rfl (by decide +kernel) rfl rfl (Nat.le_of_ble_eq_true rfl) dX13_feed_106 (fun H locs hP hD hS => ?_)
  have hP : va_P (dC, dI) vwCl [(h0, .inr (14, [.ref h1, .int 4, .ref h2, .int 0, .ref h3, .int 0, .int 0, .ref h4, .int (-1), .int 0, .int 0, .ref h5, .int 0, .ref h6, .ref h7, .ref h8, .ref h9, .ref h10, .int 0, .ref h11, .int 0, .int 0, .ref h12, .ref h13, .ref h14, .ref h15, .int 0, .ref h16, .ref h17, .int 0, .ref h18, .ref h19, .ref h20, .ref h21, .int 0, .int 0, .int 0, .ref h22, .int 0, .int 0, .ref h23, .ref h24, .ref h25, .ref h26, .int 0, .int 0, .int 0, .int 0, .int 0, .int 0, .int 0, .int 0, .int 0, .int 0, .int 0, .int 0, .int (-1), .int 0, .ref h27, .int 0, .ref h28, .int 0, .int 0, .int 0, .int 0, .int 0, .ref h29, .ref h30, .int 0, .int 0, .ref h31, .ref h32, .ref h33, .ref h34, .long 0, .ref h35, .int 0, .int 0, .int 0, .int 0, .int 0, .int 0, .int 0, .ref h36, .ref h37, .int 0, .int 0, .int 0, .int 0])), (h1, .inl (k0, 2000, .inl f942))] H := hP
  have hD : va_D A [(h0, .inr (14, [.ref h1, .int 4, .ref h2, .int 0, .ref h3, .int 0, .int 0, .ref h4, .int (-1), .int 0, .int 0, .ref h5, .int 0, .ref h6, .ref h7, .ref h8, .ref h9, .ref h10, .int 0, .ref h11, .int 0, .int 0, .ref h12, .ref h13, .ref h14, .ref h15, .int 0, .ref h16, .ref h17, .int 0, .ref h18, .ref h19, .ref h20, .ref h21, .int 0, .int 0, .int 0, .ref h22, .int 0, .int 0, .ref h23, .ref h24, .ref h25, .ref h26, .int 0, .int 0, .int 0, .int 0, .int 0, .int 0, .int 0, .int 0, .int 0, .int 0, .int 0, .int 0, .int (-1), .int 0, .ref h27, .int 0, .ref h28, .int 0, .int 0, .int 0, .int 0, .int 0, .ref h29, .ref h30, .int 0, .int 0, .ref h31, .ref h32, .ref h33, .ref h34, .long 0, .ref h35, .int 0, .int 0, .int 0, .int 0, .int 0, .int 0, .int 0, .ref h36, .ref h37, .int 0, .int 0, .int 0, .int 0])), (h1, .inl (k0, 2000, .inl f942))] := hD
  refine lv_iinc (v := 4) (lv' := [(6, .int 4), (7, .int x0), (0, .ref h0), (1, .int x0), (2, .int x1), (3, .int x2), (4, .int x3), (5, .int x4)]) hx hb dX13_feed_109 hl (k := 1) rfl (by decide) (by decide) rfl (fun ls hl => ?_)
  refine lv_goto (tgt := 18) hx hb dX13_feed_112 (by decide) ?_
  refine lv_iload hx hb dX13_feed_18 (lv_at hl 0 rfl) ?_
  refine lv_bipush (v := 20) hx hb dX13_feed_20 (by decide) ?_
  refine lv_icmp_ge (tgt := 115) hx hb dX13_feed_22 (by decide) (fun c => absurd c (by decide)) (fun _ => ?_)
  refine lv_iload hx hb dX13_feed_25 (lv_at hl 0 rfl) ?_
  refine lv_iconst (v := 4) hx hb dX13_feed_27 (by decide) ?_
  refine lv_icmp_ge (tgt := 35) hx hb dX13_feed_28 (by decide) (fun _ => ?_) (fun c => absurd (by decide) c)
  refine lv_iload hx hb dX13_feed_35 (lv_at hl 0 rfl) ?_
  refine lv_bipush (v := 8) hx hb dX13_feed_37 (by decide) ?_
  refine lv_icmp_ge (tgt := 46) hx hb dX13_feed_39 (by decide) (fun c => absurd c (by decide)) (fun _ => ?_)
  refine lv_iload_n hx hb dX13_feed_42 rfl (lv_at hl 4 rfl) ?_
  refine lv_goto (tgt := 71) hx hb dX13_feed_43 (by decide) ?_
  refine lv_istore (lv' := [(7, .int x1), (6, .int 4), (0, .ref h0), (1, .int x0), (2, .int x1), (3, .int x2), (4, .int x3), (5, .int x4)]) hx hb dX13_feed_71 hl (by decide) rfl (fun ls hl => ?_)
  refine lv_aload_n hx hb dX13_feed_73 rfl (lv_at hl 2 rfl) ?_
  refine va_get (D := (dC, dI)) (ci := 14) (v := .ref h1) (C := RX13) (T := TX13) (N := 89) hx hb ht inX13 hown hK hP 0 rfl rfl 0 (by decide) (ht _ mW1883) (fun _ h9 => h9) rfl dX13_feed_74 ?_
  refine lv_aload_n hx hb dX13_feed_77 rfl (lv_at hl 2 rfl) ?_
  refine va_get (D := (dC, dI)) (ci := 14) (v := .int 4) (C := RX13) (T := TX13) (N := 89) hx hb ht inX13 hown hK hP 0 rfl rfl 1 (by decide) (ht _ mW1884) (fun _ h9 => h9) rfl dX13_feed_78 ?_
  refine lv_iload hx hb dX13_feed_81 (lv_at hl 0 rfl) ?_
  refine lv_bipush (v := 24) hx hb dX13_feed_83 (by decide) ?_
  refine lv_bipush (v := 8) hx hb dX13_feed_85 (by decide) ?_
  refine lv_iload hx hb dX13_feed_87 (lv_at hl 1 rfl) ?_
  refine lv_iconst (v := 4) hx hb dX13_feed_89 (by decide) ?_
  refine lv_irem hx hb dX13_feed_90 (by decide) ?_
  refine W.eq (congrArg (fun z => F0 m 91 ls (.int z :: [.int 8, .int 24, .int x1, .int 4, .ref h1])) (by decide : (4 - 4 / 4 * 4 : Int32) = 0)) ?_
  refine lv_imul hx hb dX13_feed_91 ?_
  refine W.eq (congrArg (fun z => F0 m 92 ls (.int z :: [.int 24, .int x1, .int 4, .ref h1])) (by decide : (8 * 0 : Int32) = 0)) ?_
  refine lv_isub hx hb dX13_feed_92 ?_
  refine W.eq (congrArg (fun z => F0 m 93 ls (.int z :: [.int x1, .int 4, .ref h1])) (by decide : (24 - 0 : Int32) = 24)) ?_
  refine lv_ishr hx hb dX13_feed_93 ?_
  refine lv_topi (fun n943 en943 => ?_)
  refine lv_sipush (v := 255) hx hb dX13_feed_94 (by decide) ?_
  refine lv_iand hx hb dX13_feed_97 ?_
  refine lv_topi (fun n944 en944 => ?_)
  refine va_iast hx hb hK hP hD hS 1 0 rfl rfl (by unfold vp_in; decide) dX13_feed_98 (fun H locs hP hD hS => ?_)
  obtain ⟨f945, ef945⟩ : ∃ z : Nat → Int32, z = upd f942 4 n944 := ⟨_, rfl⟩
  have hP : va_P (dC, dI) vwCl [(h0, .inr (14, [.ref h1, .int 4, .ref h2, .int 0, .ref h3, .int 0, .int 0, .ref h4, .int (-1), .int 0, .int 0, .ref h5, .int 0, .ref h6, .ref h7, .ref h8, .ref h9, .ref h10, .int 0, .ref h11, .int 0, .int 0, .ref h12, .ref h13, .ref h14, .ref h15, .int 0, .ref h16, .ref h17, .int 0, .ref h18, .ref h19, .ref h20, .ref h21, .int 0, .int 0, .int 0, .ref h22, .int 0, .int 0, .ref h23, .ref h24, .ref h25, .ref h26, .int 0, .int 0, .int 0, .int 0, .int 0, .int 0, .int 0, .int 0, .int 0, .int 0, .int 0, .int 0, .int (-1), .int 0, .ref h27, .int 0, .ref h28, .int 0, .int 0, .int 0, .int 0, .int 0, .ref h29, .ref h30, .int 0, .int 0, .ref h31, .ref h32, .ref h33, .ref h34, .long 0, .ref h35, .int 0, .int 0, .int 0, .int 0, .int 0, .int 0, .int 0, .ref h36, .ref h37, .int 0, .int 0, .int 0, .int 0])), (h1, .inl (k0, 2000, .inl f945))] H := by rw [ef945]; exact hP
  have hD : va_D A [(h0, .inr (14, [.ref h1, .int 4, .ref h2, .int 0, .ref h3, .int 0, .int 0, .ref h4, .int (-1), .int 0, .int 0, .ref h5, .int 0, .ref h6, .ref h7, .ref h8, .ref h9, .ref h10, .int 0, .ref h11, .int 0, .int 0, .ref h12, .ref h13, .ref h14, .ref h15, .int 0, .ref h16, .ref h17, .int 0, .ref h18, .ref h19, .ref h20, .ref h21, .int 0, .int 0, .int 0, .ref h22, .int 0, .int 0, .ref h23, .ref h24, .ref h25, .ref h26, .int 0, .int 0, .int 0, .int 0, .int 0, .int 0, .int 0, .int 0, .int 0, .int 0, .int 0, .int 0, .int (-1), .int 0, .ref h27, .int 0, .ref h28, .int 0, .int 0, .int 0, .int 0, .int 0, .ref h29, .ref h30, .int 0, .int 0, .ref h31, .ref h32, .ref h33, .ref h34, .long 0, .ref h35, .int 0, .int 0, .int 0, .int 0, .int 0, .int 0, .int 0, .ref h36, .ref h37, .int 0, .int 0, .int 0, .int 0])), (h1, .inl (k0, 2000, .inl f945))] := by rw [ef945]; exact hD
  refine lv_aload_n hx hb dX13_feed_99 rfl (lv_at hl 2 rfl) ?_
  refine lv_dup hx hb dX13_feed_100 rfl ?_
  refine va_get (D := (dC, dI)) (ci := 14) (v := .int 4) (C := RX13) (T := TX13) (N := 89) hx hb ht inX13 hown hK hP 0 rfl rfl 1 (by decide) (ht _ mW1884) (fun _ h9 => h9) rfl dX13_feed_101 ?_
  refine lv_iconst (v := 1) hx hb dX13_feed_104 (by decide) ?_
  refine lv_iadd hx hb dX13_feed_105 ?_
  refine W.eq (congrArg (fun z => F0 m 106 ls (.int z :: [.ref h0])) (by decide : (4 + 1 : Int32) = 5)) ?_
  refine va_put (D := (dC, dI)) (ci := 14) (v := .int 5) (ty := .int) (C := RX13) (T := TX13) (N := 89) hx hb ht inX13 tyX13 tyX13_ok nmX13 hown hK hP hD hS 0 rfl rfl 1 (by decide) (ht _ mW1884) (fun _ h9 => h9) rfl (by decide +kernel) rfl rfl (Nat.le_of_ble_eq_true rfl) dX13_feed_106 (fun H locs hP hD hS => ?_)
  have hP : va_P (dC, dI) vwCl [(h0, .inr (14, [.ref h1, .int 5, .ref h2, .int 0, .ref h3, .int 0, .int 0, .ref h4, .int (-1), .int 0, .int 0, .ref h5, .int 0, .ref h6, .ref h7, .ref h8, .ref h9, .ref h10, .int 0, .ref h11, .int 0, .int 0, .ref h12, .ref h13, .ref h14, .ref h15, .int 0, .ref h16, .ref h17, .int 0, .ref h18, .ref h19, .ref h20, .ref h21, .int 0, .int 0, .int 0, .ref h22, .int 0, .int 0, .ref h23, .ref h24, .ref h25, .ref h26, .int 0, .int 0, .int 0, .int 0, .int 0, .int 0, .int 0, .int 0, .int 0, .int 0, .int 0, .int 0, .int (-1), .int 0, .ref h27, .int 0, .ref h28, .int 0, .int 0, .int 0, .int 0, .int 0, .ref h29, .ref h30, .int 0, .int 0, .ref h31, .ref h32, .ref h33, .ref h34, .long 0, .ref h35, .int 0, .int 0, .int 0, .int 0, .int 0, .int 0, .int 0, .ref h36, .ref h37, .int 0, .int 0, .int 0, .int 0])), (h1, .inl (k0, 2000, .inl f945))] H := hP
  have hD : va_D A [(h0, .inr (14, [.ref h1, .int 5, .ref h2, .int 0, .ref h3, .int 0, .int 0, .ref h4, .int (-1), .int 0, .int 0, .ref h5, .int 0, .ref h6, .ref h7, .ref h8, .ref h9, .ref h10, .int 0, .ref h11, .int 0, .int 0, .ref h12, .ref h13, .ref h14, .ref h15, .int 0, .ref h16, .ref h17, .int 0, .ref h18, .ref h19, .ref h20, .ref h21, .int 0, .int 0, .int 0, .ref h22, .int 0, .int 0, .ref h23, .ref h24, .ref h25, .ref h26, .int 0, .int 0, .int 0, .int 0, .int 0, .int 0, .int 0, .int 0, .int 0, .int 0, .int 0, .int 0, .int (-1), .int 0, .ref h27, .int 0, .ref h28, .int 0, .int 0, .int 0, .int 0, .int 0, .ref h29, .ref h30, .int 0, .int 0, .ref h31, .ref h32, .ref h33, .ref h34, .long 0, .ref h35, .int 0, .int 0, .int 0, .int 0, .int 0, .int 0, .int 0, .ref h36, .ref h37, .int 0, .int 0, .int 0, .int 0])), (h1, .inl (k0, 2000, .inl f945))] := hD
  refine lv_iinc (v := 5) (lv' := [(6, .int 5), (7, .int x1), (0, .ref h0), (1, .int x0), (2, .int x1), (3, .int x2), (4, .int x3), (5, .int x4)]) hx hb dX13_feed_109 hl (k := 1) rfl (by decide) (by decide) rfl (fun ls hl => ?_)
  refine lv_goto (tgt := 18) hx hb dX13_feed_112 (by decide) ?_
  refine lv_iload hx hb dX13_feed_18 (lv_at hl 0 rfl) ?_
  refine lv_bipush (v := 20) hx hb dX13_feed_20 (by decide) ?_
  refine lv_icmp_ge (tgt := 115) hx hb dX13_feed_22 (by decide) (fun c => absurd c (by decide)) (fun _ => ?_)
  refine lv_iload hx hb dX13_feed_25 (lv_at hl 0 rfl) ?_
  refine lv_iconst (v := 4) hx hb dX13_feed_27 (by decide) ?_
  refine lv_icmp_ge (tgt := 35) hx hb dX13_feed_28 (by decide) (fun _ => ?_) (fun c => absurd (by decide) c)
  refine lv_iload hx hb dX13_feed_35 (lv_at hl 0 rfl) ?_
  refine lv_bipush (v := 8) hx hb dX13_feed_37 (by decide) ?_
  refine lv_icmp_ge (tgt := 46) hx hb dX13_feed_39 (by decide) (fun c => absurd c (by decide)) (fun _ => ?_)
  refine lv_iload_n hx hb dX13_feed_42 rfl (lv_at hl 4 rfl) ?_
  refine lv_goto (tgt := 71) hx hb dX13_feed_43 (by decide) ?_
  refine lv_istore (lv' := [(7, .int x1), (6, .int 5), (0, .ref h0), (1, .int x0), (2, .int x1), (3, .int x2), (4, .int x3), (5, .int x4)]) hx hb dX13_feed_71 hl (by decide) rfl (fun ls hl => ?_)
  refine lv_aload_n hx hb dX13_feed_73 rfl (lv_at hl 2 rfl) ?_
  refine va_get (D := (dC, dI)) (ci := 14) (v := .ref h1) (C := RX13) (T := TX13) (N := 89) hx hb ht inX13 hown hK hP 0 rfl rfl 0 (by decide) (ht _ mW1883) (fun _ h9 => h9) rfl dX13_feed_74 ?_
  refine lv_aload_n hx hb dX13_feed_77 rfl (lv_at hl 2 rfl) ?_
  refine va_get (D := (dC, dI)) (ci := 14) (v := .int 5) (C := RX13) (T := TX13) (N := 89) hx hb ht inX13 hown hK hP 0 rfl rfl 1 (by decide) (ht _ mW1884) (fun _ h9 => h9) rfl dX13_feed_78 ?_
  refine lv_iload hx hb dX13_feed_81 (lv_at hl 0 rfl) ?_
  refine lv_bipush (v := 24) hx hb dX13_feed_83 (by decide) ?_
  refine lv_bipush (v := 8) hx hb dX13_feed_85 (by decide) ?_
  refine lv_iload hx hb dX13_feed_87 (lv_at hl 1 rfl) ?_
  refine lv_iconst (v := 4) hx hb dX13_feed_89 (by decide) ?_
  refine lv_irem hx hb dX13_feed_90 (by decide) ?_
  refine W.eq (congrArg (fun z => F0 m 91 ls (.int z :: [.int 8, .int 24, .int x1, .int 5, .ref h1])) (by decide : (5 - 5 / 4 * 4 : Int32) = 1)) ?_
  refine lv_imul hx hb dX13_feed_91 ?_
  refine W.eq (congrArg (fun z => F0 m 92 ls (.int z :: [.int 24, .int x1, .int 5, .ref h1])) (by decide : (8 * 1 : Int32) = 8)) ?_
  refine lv_isub hx hb dX13_feed_92 ?_
  refine W.eq (congrArg (fun z => F0 m 93 ls (.int z :: [.int x1, .int 5, .ref h1])) (by decide : (24 - 8 : Int32) = 16)) ?_
  refine lv_ishr hx hb dX13_feed_93 ?_
  refine lv_topi (fun n946 en946 => ?_)
  refine lv_sipush (v := 255) hx hb dX13_feed_94 (by decide) ?_
  refine lv_iand hx hb dX13_feed_97 ?_
  refine lv_topi (fun n947 en947 => ?_)
  refine va_iast hx hb hK hP hD hS 1 0 rfl rfl (by unfold vp_in; decide) dX13_feed_98 (fun H locs hP hD hS => ?_)
  obtain ⟨f948, ef948⟩ : ∃ z : Nat → Int32, z = upd f945 5 n947 := ⟨_, rfl⟩
  have hP : va_P (dC, dI) vwCl [(h0, .inr (14, [.ref h1, .int 5, .ref h2, .int 0, .ref h3, .int 0, .int 0, .ref h4, .int (-1), .int 0, .int 0, .ref h5, .int 0, .ref h6, .ref h7, .ref h8, .ref h9, .ref h10, .int 0, .ref h11, .int 0, .int 0, .ref h12, .ref h13, .ref h14, .ref h15, .int 0, .ref h16, .ref h17, .int 0, .ref h18, .ref h19, .ref h20, .ref h21, .int 0, .int 0, .int 0, .ref h22, .int 0, .int 0, .ref h23, .ref h24, .ref h25, .ref h26, .int 0, .int 0, .int 0, .int 0, .int 0, .int 0, .int 0, .int 0, .int 0, .int 0, .int 0, .int 0, .int (-1), .int 0, .ref h27, .int 0, .ref h28, .int 0, .int 0, .int 0, .int 0, .int 0, .ref h29, .ref h30, .int 0, .int 0, .ref h31, .ref h32, .ref h33, .ref h34, .long 0, .ref h35, .int 0, .int 0, .int 0, .int 0, .int 0, .int 0, .int 0, .ref h36, .ref h37, .int 0, .int 0, .int 0, .int 0])), (h1, .inl (k0, 2000, .inl f948))] H := by rw [ef948]; exact hP
  have hD : va_D A [(h0, .inr (14, [.ref h1, .int 5, .ref h2, .int 0, .ref h3, .int 0, .int 0, .ref h4, .int (-1), .int 0, .int 0, .ref h5, .int 0, .ref h6, .ref h7, .ref h8, .ref h9, .ref h10, .int 0, .ref h11, .int 0, .int 0, .ref h12, .ref h13, .ref h14, .ref h15, .int 0, .ref h16, .ref h17, .int 0, .ref h18, .ref h19, .ref h20, .ref h21, .int 0, .int 0, .int 0, .ref h22, .int 0, .int 0, .ref h23, .ref h24, .ref h25, .ref h26, .int 0, .int 0, .int 0, .int 0, .int 0, .int 0, .int 0, .int 0, .int 0, .int 0, .int 0, .int 0, .int (-1), .int 0, .ref h27, .int 0, .ref h28, .int 0, .int 0, .int 0, .int 0, .int 0, .ref h29, .ref h30, .int 0, .int 0, .ref h31, .ref h32, .ref h33, .ref h34, .long 0, .ref h35, .int 0, .int 0, .int 0, .int 0, .int 0, .int 0, .int 0, .ref h36, .ref h37, .int 0, .int 0, .int 0, .int 0])), (h1, .inl (k0, 2000, .inl f948))] := by rw [ef948]; exact hD
  refine lv_aload_n hx hb dX13_feed_99 rfl (lv_at hl 2 rfl) ?_
  refine lv_dup hx hb dX13_feed_100 rfl ?_
  refine va_get (D := (dC, dI)) (ci := 14) (v := .int 5) (C := RX13) (T := TX13) (N := 89) hx hb ht inX13 hown hK hP 0 rfl rfl 1 (by decide) (ht _ mW1884) (fun _ h9 => h9) rfl dX13_feed_101 ?_
  refine lv_iconst (v := 1) hx hb dX13_feed_104 (by decide) ?_
  refine lv_iadd hx hb dX13_feed_105 ?_
  refine W.eq (congrArg (fun z => F0 m 106 ls (.int z :: [.ref h0])) (by decide : (5 + 1 : Int32) = 6)) ?_
  refine va_put (D := (dC, dI)) (ci := 14) (v := .int 6) (ty := .int) (C := RX13) (T := TX13) (N := 89) hx hb ht inX13 tyX13 tyX13_ok nmX13 hown hK hP hD hS 0 rfl rfl 1 (by decide) (ht _ mW1884) (fun _ h9 => h9) rfl (by decide +kernel) rfl rfl (Nat.le_of_ble_eq_true rfl) dX13_feed_106 (fun H locs hP hD hS => ?_)
  have hP : va_P (dC, dI) vwCl [(h0, .inr (14, [.ref h1, .int 6, .ref h2, .int 0, .ref h3, .int 0, .int 0, .ref h4, .int (-1), .int 0, .int 0, .ref h5, .int 0, .ref h6, .ref h7, .ref h8, .ref h9, .ref h10, .int 0, .ref h11, .int 0, .int 0, .ref h12, .ref h13, .ref h14, .ref h15, .int 0, .ref h16, .ref h17, .int 0, .ref h18, .ref h19, .ref h20, .ref h21, .int 0, .int 0, .int 0, .ref h22, .int 0, .int 0, .ref h23, .ref h24, .ref h25, .ref h26, .int 0, .int 0, .int 0, .int 0, .int 0, .int 0, .int 0, .int 0, .int 0, .int 0, .int 0, .int 0, .int (-1), .int 0, .ref h27, .int 0, .ref h28, .int 0, .int 0, .int 0, .int 0, .int 0, .ref h29, .ref h30, .int 0, .int 0, .ref h31, .ref h32, .ref h33, .ref h34, .long 0, .ref h35, .int 0, .int 0, .int 0, .int 0, .int 0, .int 0, .int 0, .ref h36, .ref h37, .int 0, .int 0, .int 0, .int 0])), (h1, .inl (k0, 2000, .inl f948))] H := hP
  have hD : va_D A [(h0, .inr (14, [.ref h1, .int 6, .ref h2, .int 0, .ref h3, .int 0, .int 0, .ref h4, .int (-1), .int 0, .int 0, .ref h5, .int 0, .ref h6, .ref h7, .ref h8, .ref h9, .ref h10, .int 0, .ref h11, .int 0, .int 0, .ref h12, .ref h13, .ref h14, .ref h15, .int 0, .ref h16, .ref h17, .int 0, .ref h18, .ref h19, .ref h20, .ref h21, .int 0, .int 0, .int 0, .ref h22, .int 0, .int 0, .ref h23, .ref h24, .ref h25, .ref h26, .int 0, .int 0, .int 0, .int 0, .int 0, .int 0, .int 0, .int 0, .int 0, .int 0, .int 0, .int 0, .int (-1), .int 0, .ref h27, .int 0, .ref h28, .int 0, .int 0, .int 0, .int 0, .int 0, .ref h29, .ref h30, .int 0, .int 0, .ref h31, .ref h32, .ref h33, .ref h34, .long 0, .ref h35, .int 0, .int 0, .int 0, .int 0, .int 0, .int 0, .int 0, .ref h36, .ref h37, .int 0, .int 0, .int 0, .int 0])), (h1, .inl (k0, 2000, .inl f948))] := hD
  refine lv_iinc (v := 6) (lv' := [(6, .int 6), (7, .int x1), (0, .ref h0), (1, .int x0), (2, .int x1), (3, .int x2), (4, .int x3), (5, .int x4)]) hx hb dX13_feed_109 hl (k := 1) rfl (by decide) (by decide) rfl (fun ls hl => ?_)
  refine lv_goto (tgt := 18) hx hb dX13_feed_112 (by decide) ?_
  refine lv_iload hx hb dX13_feed_18 (lv_at hl 0 rfl) ?_
  refine lv_bipush (v := 20) hx hb dX13_feed_20 (by decide) ?_
  refine lv_icmp_ge (tgt := 115) hx hb dX13_feed_22 (by decide) (fun c => absurd c (by decide)) (fun _ => ?_)
  refine lv_iload hx hb dX13_feed_25 (lv_at hl 0 rfl) ?_
  refine lv_iconst (v := 4) hx hb dX13_feed_27 (by decide) ?_
  refine lv_icmp_ge (tgt := 35) hx hb dX13_feed_28 (by decide) (fun _ => ?_) (fun c => absurd (by decide) c)
  refine lv_iload hx hb dX13_feed_35 (lv_at hl 0 rfl) ?_
  refine lv_bipush (v := 8) hx hb dX13_feed_37 (by decide) ?_
  refine lv_icmp_ge (tgt := 46) hx hb dX13_feed_39 (by decide) (fun c => absurd c (by decide)) (fun _ => ?_)
  refine lv_iload_n hx hb dX13_feed_42 rfl (lv_at hl 4 rfl) ?_
  refine lv_goto (tgt := 71) hx hb dX13_feed_43 (by decide) ?_
  refine lv_istore (lv' := [(7, .int x1), (6, .int 6), (0, .ref h0), (1, .int x0), (2, .int x1), (3, .int x2), (4, .int x3), (5, .int x4)]) hx hb dX13_feed_71 hl (by decide) rfl (fun ls hl => ?_)
  refine lv_aload_n hx hb dX13_feed_73 rfl (lv_at hl 2 rfl) ?_
  refine va_get (D := (dC, dI)) (ci := 14) (v := .ref h1) (C := RX13) (T := TX13) (N := 89) hx hb ht inX13 hown hK hP 0 rfl rfl 0 (by decide) (ht _ mW1883) (fun _ h9 => h9) rfl dX13_feed_74 ?_
  refine lv_aload_n hx hb dX13_feed_77 rfl (lv_at hl 2 rfl) ?_
  refine va_get (D := (dC, dI)) (ci := 14) (v := .int 6) (C := RX13) (T := TX13) (N := 89) hx hb ht inX13 hown hK hP 0 rfl rfl 1 (by decide) (ht _ mW1884) (fun _ h9 => h9) rfl dX13_feed_78 ?_
  refine lv_iload hx hb dX13_feed_81 (lv_at hl 0 rfl) ?_
  refine lv_bipush (v := 24) hx hb dX13_feed_83 (by decide) ?_
  refine lv_bipush (v := 8) hx hb dX13_feed_85 (by decide) ?_
  refine lv_iload hx hb dX13_feed_87 (lv_at hl 1 rfl) ?_
  refine lv_iconst (v := 4) hx hb dX13_feed_89 (by decide) ?_
  refine lv_irem hx hb dX13_feed_90 (by decide) ?_
  refine W.eq (congrArg (fun z => F0 m 91 ls (.int z :: [.int 8, .int 24, .int x1, .int 6, .ref h1])) (by decide : (6 - 6 / 4 * 4 : Int32) = 2)) ?_
  refine lv_imul hx hb dX13_feed_91 ?_
  refine W.eq (congrArg (fun z => F0 m 92 ls (.int z :: [.int 24, .int x1, .int 6, .ref h1])) (by decide : (8 * 2 : Int32) = 16)) ?_
  refine lv_isub hx hb dX13_feed_92 ?_
  refine W.eq (congrArg (fun z => F0 m 93 ls (.int z :: [.int x1, .int 6, .ref h1])) (by decide : (24 - 16 : Int32) = 8)) ?_
  refine lv_ishr hx hb dX13_feed_93 ?_
  refine lv_topi (fun n949 en949 => ?_)
  refine lv_sipush (v := 255) hx hb dX13_feed_94 (by decide) ?_
  refine lv_iand hx hb dX13_feed_97 ?_
  refine lv_topi (fun n950 en950 => ?_)
  refine va_iast hx hb hK hP hD hS 1 0 rfl rfl (by unfold vp_in; decide) dX13_feed_98 (fun H locs hP hD hS => ?_)
  obtain ⟨f951, ef951⟩ : ∃ z : Nat → Int32, z = upd f948 6 n950 := ⟨_, rfl⟩
  have hP : va_P (dC, dI) vwCl [(h0, .inr (14, [.ref h1, .int 6, .ref h2, .int 0, .ref h3, .int 0, .int 0, .ref h4, .int (-1), .int 0, .int 0, .ref h5, .int 0, .ref h6, .ref h7, .ref h8, .ref h9, .ref h10, .int 0, .ref h11, .int 0, .int 0, .ref h12, .ref h13, .ref h14, .ref h15, .int 0, .ref h16, .ref h17, .int 0, .ref h18, .ref h19, .ref h20, .ref h21, .int 0, .int 0, .int 0, .ref h22, .int 0, .int 0, .ref h23, .ref h24, .ref h25, .ref h26, .int 0, .int 0, .int 0, .int 0, .int 0, .int 0, .int 0, .int 0, .int 0, .int 0, .int 0, .int 0, .int (-1), .int 0, .ref h27, .int 0, .ref h28, .int 0, .int 0, .int 0, .int 0, .int 0, .ref h29, .ref h30, .int 0, .int 0, .ref h31, .ref h32, .ref h33, .ref h34, .long 0, .ref h35, .int 0, .int 0, .int 0, .int 0, .int 0, .int 0, .int 0, .ref h36, .ref h37, .int 0, .int 0, .int 0, .int 0])), (h1, .inl (k0, 2000, .inl f951))] H := by rw [ef951]; exact hP
  have hD : va_D A [(h0, .inr (14, [.ref h1, .int 6, .ref h2, .int 0, .ref h3, .int 0, .int 0, .ref h4, .int (-1), .int 0, .int 0, .ref h5, .int 0, .ref h6, .ref h7, .ref h8, .ref h9, .ref h10, .int 0, .ref h11, .int 0, .int 0, .ref h12, .ref h13, .ref h14, .ref h15, .int 0, .ref h16, .ref h17, .int 0, .ref h18, .ref h19, .ref h20, .ref h21, .int 0, .int 0, .int 0, .ref h22, .int 0, .int 0, .ref h23, .ref h24, .ref h25, .ref h26, .int 0, .int 0, .int 0, .int 0, .int 0, .int 0, .int 0, .int 0, .int 0, .int 0, .int 0, .int 0, .int (-1), .int 0, .ref h27, .int 0, .ref h28, .int 0, .int 0, .int 0, .int 0, .int 0, .ref h29, .ref h30, .int 0, .int 0, .ref h31, .ref h32, .ref h33, .ref h34, .long 0, .ref h35, .int 0, .int 0, .int 0, .int 0, .int 0, .int 0, .int 0, .ref h36, .ref h37, .int 0, .int 0, .int 0, .int 0])), (h1, .inl (k0, 2000, .inl f951))] := by rw [ef951]; exact hD
  refine lv_aload_n hx hb dX13_feed_99 rfl (lv_at hl 2 rfl) ?_
  refine lv_dup hx hb dX13_feed_100 rfl ?_
  refine va_get (D := (dC, dI)) (ci := 14) (v := .int 6) (C := RX13) (T := TX13) (N := 89) hx hb ht inX13 hown hK hP 0 rfl rfl 1 (by decide) (ht _ mW1884) (fun _ h9 => h9) rfl dX13_feed_101 ?_
  refine lv_iconst (v := 1) hx hb dX13_feed_104 (by decide) ?_
  refine lv_iadd hx hb dX13_feed_105 ?_
  refine W.eq (congrArg (fun z => F0 m 106 ls (.int z :: [.ref h0])) (by decide : (6 + 1 : Int32) = 7)) ?_
  refine va_put (D := (dC, dI)) (ci := 14) (v := .int 7) (ty := .int) (C := RX13) (T := TX13) (N := 89) hx hb ht inX13 tyX13 tyX13_ok nmX13 hown hK hP hD hS 0 rfl rfl 1 (by decide) (ht _ mW1884) (fun _ h9 => h9) rfl (by decide +kernel) rfl rfl (Nat.le_of_ble_eq_true rfl) dX13_feed_106 (fun H locs hP hD hS => ?_)
  have hP : va_P (dC, dI) vwCl [(h0, .inr (14, [.ref h1, .int 7, .ref h2, .int 0, .ref h3, .int 0, .int 0, .ref h4, .int (-1), .int 0, .int 0, .ref h5, .int 0, .ref h6, .ref h7, .ref h8, .ref h9, .ref h10, .int 0, .ref h11, .int 0, .int 0, .ref h12, .ref h13, .ref h14, .ref h15, .int 0, .ref h16, .ref h17, .int 0, .ref h18, .ref h19, .ref h20, .ref h21, .int 0, .int 0, .int 0, .ref h22, .int 0, .int 0, .ref h23, .ref h24, .ref h25, .ref h26, .int 0, .int 0, .int 0, .int 0, .int 0, .int 0, .int 0, .int 0, .int 0, .int 0, .int 0, .int 0, .int (-1), .int 0, .ref h27, .int 0, .ref h28, .int 0, .int 0, .int 0, .int 0, .int 0, .ref h29, .ref h30, .int 0, .int 0, .ref h31, .ref h32, .ref h33, .ref h34, .long 0, .ref h35, .int 0, .int 0, .int 0, .int 0, .int 0, .int 0, .int 0, .ref h36, .ref h37, .int 0, .int 0, .int 0, .int 0])), (h1, .inl (k0, 2000, .inl f951))] H := hP
  have hD : va_D A [(h0, .inr (14, [.ref h1, .int 7, .ref h2, .int 0, .ref h3, .int 0, .int 0, .ref h4, .int (-1), .int 0, .int 0, .ref h5, .int 0, .ref h6, .ref h7, .ref h8, .ref h9, .ref h10, .int 0, .ref h11, .int 0, .int 0, .ref h12, .ref h13, .ref h14, .ref h15, .int 0, .ref h16, .ref h17, .int 0, .ref h18, .ref h19, .ref h20, .ref h21, .int 0, .int 0, .int 0, .ref h22, .int 0, .int 0, .ref h23, .ref h24, .ref h25, .ref h26, .int 0, .int 0, .int 0, .int 0, .int 0, .int 0, .int 0, .int 0, .int 0, .int 0, .int 0, .int 0, .int (-1), .int 0, .ref h27, .int 0, .ref h28, .int 0, .int 0, .int 0, .int 0, .int 0, .ref h29, .ref h30, .int 0, .int 0, .ref h31, .ref h32, .ref h33, .ref h34, .long 0, .ref h35, .int 0, .int 0, .int 0, .int 0, .int 0, .int 0, .int 0, .ref h36, .ref h37, .int 0, .int 0, .int 0, .int 0])), (h1, .inl (k0, 2000, .inl f951))] := hD
  refine lv_iinc (v := 7) (lv' := [(6, .int 7), (7, .int x1), (0, .ref h0), (1, .int x0), (2, .int x1), (3, .int x2), (4, .int x3), (5, .int x4)]) hx hb dX13_feed_109 hl (k := 1) rfl (by decide) (by decide) rfl (fun ls hl => ?_)
  refine lv_goto (tgt := 18) hx hb dX13_feed_112 (by decide) ?_
  refine lv_iload hx hb dX13_feed_18 (lv_at hl 0 rfl) ?_
  refine lv_bipush (v := 20) hx hb dX13_feed_20 (by decide) ?_
  refine lv_icmp_ge (tgt := 115) hx hb dX13_feed_22 (by decide) (fun c => absurd c (by decide)) (fun _ => ?_)
  refine lv_iload hx hb dX13_feed_25 (lv_at hl 0 rfl) ?_
  refine lv_iconst (v := 4) hx hb dX13_feed_27 (by decide) ?_
  refine lv_icmp_ge (tgt := 35) hx hb dX13_feed_28 (by decide) (fun _ => ?_) (fun c => absurd (by decide) c)
  refine lv_iload hx hb dX13_feed_35 (lv_at hl 0 rfl) ?_
  refine lv_bipush (v := 8) hx hb dX13_feed_37 (by decide) ?_
  refine lv_icmp_ge (tgt := 46) hx hb dX13_feed_39 (by decide) (fun c => absurd c (by decide)) (fun _ => ?_)
  refine lv_iload_n hx hb dX13_feed_42 rfl (lv_at hl 4 rfl) ?_
  refine lv_goto (tgt := 71) hx hb dX13_feed_43 (by decide) ?_
  refine lv_istore (lv' := [(7, .int x1), (6, .int 7), (0, .ref h0), (1, .int x0), (2, .int x1), (3, .int x2), (4, .int x3), (5, .int x4)]) hx hb dX13_feed_71 hl (by decide) rfl (fun ls hl => ?_)
  refine lv_aload_n hx hb dX13_feed_73 rfl (lv_at hl 2 rfl) ?_
  refine va_get (D := (dC, dI)) (ci := 14) (v := .ref h1) (C := RX13) (T := TX13) (N := 89) hx hb ht inX13 hown hK hP 0 rfl rfl 0 (by decide) (ht _ mW1883) (fun _ h9 => h9) rfl dX13_feed_74 ?_
  refine lv_aload_n hx hb dX13_feed_77 rfl (lv_at hl 2 rfl) ?_
  refine va_get (D := (dC, dI)) (ci := 14) (v := .int 7) (C := RX13) (T := TX13) (N := 89) hx hb ht inX13 hown hK hP 0 rfl rfl 1 (by decide) (ht _ mW1884) (fun _ h9 => h9) rfl dX13_feed_78 ?_
  refine lv_iload hx hb dX13_feed_81 (lv_at hl 0 rfl) ?_
  refine lv_bipush (v := 24) hx hb dX13_feed_83 (by decide) ?_
  refine lv_bipush (v := 8) hx hb dX13_feed_85 (by decide) ?_
  refine lv_iload hx hb dX13_feed_87 (lv_at hl 1 rfl) ?_
  refine lv_iconst (v := 4) hx hb dX13_feed_89 (by decide) ?_
  refine lv_irem hx hb dX13_feed_90 (by decide) ?_
  refine W.eq (congrArg (fun z => F0 m 91 ls (.int z :: [.int 8, .int 24, .int x1, .int 7, .ref h1])) (by decide : (7 - 7 / 4 * 4 : Int32) = 3)) ?_
  refine lv_imul hx hb dX13_feed_91 ?_
  refine W.eq (congrArg (fun z => F0 m 92 ls (.int z :: [.int 24, .int x1, .int 7, .ref h1])) (by decide : (8 * 3 : Int32) = 24)) ?_
  refine lv_isub hx hb dX13_feed_92 ?_
  refine W.eq (congrArg (fun z => F0 m 93 ls (.int z :: [.int x1, .int 7, .ref h1])) (by decide : (24 - 24 : Int32) = 0)) ?_
  refine lv_ishr hx hb dX13_feed_93 ?_
  refine lv_topi (fun n952 en952 => ?_)
  refine lv_sipush (v := 255) hx hb dX13_feed_94 (by decide) ?_
  refine lv_iand hx hb dX13_feed_97 ?_
  refine lv_topi (fun n953 en953 => ?_)
  refine va_iast hx hb hK hP hD hS 1 0 rfl rfl (by unfold vp_in; decide) dX13_feed_98 (fun H locs hP hD hS => ?_)
  obtain ⟨f954, ef954⟩ : ∃ z : Nat → Int32, z = upd f951 7 n953 := ⟨_, rfl⟩
  have hP : va_P (dC, dI) vwCl [(h0, .inr (14, [.ref h1, .int 7, .ref h2, .int 0, .ref h3, .int 0, .int 0, .ref h4, .int (-1), .int 0, .int 0, .ref h5, .int 0, .ref h6, .ref h7, .ref h8, .ref h9, .ref h10, .int 0, .ref h11, .int 0, .int 0, .ref h12, .ref h13, .ref h14, .ref h15, .int 0, .ref h16, .ref h17, .int 0, .ref h18, .ref h19, .ref h20, .ref h21, .int 0, .int 0, .int 0, .ref h22, .int 0, .int 0, .ref h23, .ref h24, .ref h25, .ref h26, .int 0, .int 0, .int 0, .int 0, .int 0, .int 0, .int 0, .int 0, .int 0, .int 0, .int 0, .int 0, .int (-1), .int 0, .ref h27, .int 0, .ref h28, .int 0, .int 0, .int 0, .int 0, .int 0, .ref h29, .ref h30, .int 0, .int 0, .ref h31, .ref h32, .ref h33, .ref h34, .long 0, .ref h35, .int 0, .int 0, .int 0, .int 0, .int 0, .int 0, .int 0, .ref h36, .ref h37, .int 0, .int 0, .int 0, .int 0])), (h1, .inl (k0, 2000, .inl f954))] H := by rw [ef954]; exact hP
  have hD : va_D A [(h0, .inr (14, [.ref h1, .int 7, .ref h2, .int 0, .ref h3, .int 0, .int 0, .ref h4, .int (-1), .int 0, .int 0, .ref h5, .int 0, .ref h6, .ref h7, .ref h8, .ref h9, .ref h10, .int 0, .ref h11, .int 0, .int 0, .ref h12, .ref h13, .ref h14, .ref h15, .int 0, .ref h16, .ref h17, .int 0, .ref h18, .ref h19, .ref h20, .ref h21, .int 0, .int 0, .int 0, .ref h22, .int 0, .int 0, .ref h23, .ref h24, .ref h25, .ref h26, .int 0, .int 0, .int 0, .int 0, .int 0, .int 0, .int 0, .int 0, .int 0, .int 0, .int 0, .int 0, .int (-1), .int 0, .ref h27, .int 0, .ref h28, .int 0, .int 0, .int 0, .int 0, .int 0, .ref h29, .ref h30, .int 0, .int 0, .ref h31, .ref h32, .ref h33, .ref h34, .long 0, .ref h35, .int 0, .int 0, .int 0, .int 0, .int 0, .int 0, .int 0, .ref h36, .ref h37, .int 0, .int 0, .int 0, .int 0])), (h1, .inl (k0, 2000, .inl f954))] := by rw [ef954]; exact hD
  refine lv_aload_n hx hb dX13_feed_99 rfl (lv_at hl 2 rfl) ?_
  refine lv_dup hx hb dX13_feed_100 rfl ?_
  refine va_get (D := (dC, dI)) (ci := 14) (v := .int 7) (C := RX13) (T := TX13) (N := 89) hx hb ht inX13 hown hK hP 0 rfl rfl 1 (by decide) (ht _ mW1884) (fun _ h9 => h9) rfl dX13_feed_101 ?_
  refine lv_iconst (v := 1) hx hb dX13_feed_104 (by decide) ?_
  refine lv_iadd hx hb dX13_feed_105 ?_
  refine W.eq (congrArg (fun z => F0 m 106 ls (.int z :: [.ref h0])) (by decide : (7 + 1 : Int32) = 8)) ?_
  refine va_put (D := (dC, dI)) (ci := 14) (v := .int 8) (ty := .int) (C := RX13) (T := TX13) (N := 89) hx hb ht inX13 tyX13 tyX13_ok nmX13 hown hK hP hD hS 0 rfl rfl 1 (by decide) (ht _ mW1884) (fun _ h9 => h9) rfl (by decide +kernel) rfl rfl (Nat.le_of_ble_eq_true rfl) dX13_feed_106 (fun H locs hP hD hS => ?_)
  have hP : va_P (dC, dI) vwCl [(h0, .inr (14, [.ref h1, .int 8, .ref h2, .int 0, .ref h3, .int 0, .int 0, .ref h4, .int (-1), .int 0, .int 0, .ref h5, .int 0, .ref h6, .ref h7, .ref h8, .ref h9, .ref h10, .int 0, .ref h11, .int 0, .int 0, .ref h12, .ref h13, .ref h14, .ref h15, .int 0, .ref h16, .ref h17, .int 0, .ref h18, .ref h19, .ref h20, .ref h21, .int 0, .int 0, .int 0, .ref h22, .int 0, .int 0, .ref h23, .ref h24, .ref h25, .ref h26, .int 0, .int 0, .int 0, .int 0, .int 0, .int 0, .int 0, .int 0, .int 0, .int 0, .int 0, .int 0, .int (-1), .int 0, .ref h27, .int 0, .ref h28, .int 0, .int 0, .int 0, .int 0, .int 0, .ref h29, .ref h30, .int 0, .int 0, .ref h31, .ref h32, .ref h33, .ref h34, .long 0, .ref h35, .int 0, .int 0, .int 0, .int 0, .int 0, .int 0, .int 0, .ref h36, .ref h37, .int 0, .int 0, .int 0, .int 0])), (h1, .inl (k0, 2000, .inl f954))] H := hP
  have hD : va_D A [(h0, .inr (14, [.ref h1, .int 8, .ref h2, .int 0, .ref h3, .int 0, .int 0, .ref h4, .int (-1), .int 0, .int 0, .ref h5, .int 0, .ref h6, .ref h7, .ref h8, .ref h9, .ref h10, .int 0, .ref h11, .int 0, .int 0, .ref h12, .ref h13, .ref h14, .ref h15, .int 0, .ref h16, .ref h17, .int 0, .ref h18, .ref h19, .ref h20, .ref h21, .int 0, .int 0, .int 0, .ref h22, .int 0, .int 0, .ref h23, .ref h24, .ref h25, .ref h26, .int 0, .int 0, .int 0, .int 0, .int 0, .int 0, .int 0, .int 0, .int 0, .int 0, .int 0, .int 0, .int (-1), .int 0, .ref h27, .int 0, .ref h28, .int 0, .int 0, .int 0, .int 0, .int 0, .ref h29, .ref h30, .int 0, .int 0, .ref h31, .ref h32, .ref h33, .ref h34, .long 0, .ref h35, .int 0, .int 0, .int 0, .int 0, .int 0, .int 0, .int 0, .ref h36, .ref h37, .int 0, .int 0, .int 0, .int 0])), (h1, .inl (k0, 2000, .inl f954))] := hD
  refine lv_iinc (v := 8) (lv' := [(6, .int 8), (7, .int x1), (0, .ref h0), (1, .int x0), (2, .int x1), (3, .int x2), (4, .int x3), (5, .int x4)]) hx hb dX13_feed_109 hl (k := 1) rfl (by decide) (by decide) rfl (fun ls hl => ?_)
  refine lv_goto (tgt := 18) hx hb dX13_feed_112 (by decide) ?_
  refine lv_iload hx hb dX13_feed_18 (lv_at hl 0 rfl) ?_
  refine lv_bipush (v := 20) hx hb dX13_feed_20 (by decide) ?_
  refine lv_icmp_ge (tgt := 115) hx hb dX13_feed_22 (by decide) (fun c => absurd c (by decide)) (fun _ => ?_)
  refine lv_iload hx hb dX13_feed_25 (lv_at hl 0 rfl) ?_
  refine lv_iconst (v := 4) hx hb dX13_feed_27 (by decide) ?_
  refine lv_icmp_ge (tgt := 35) hx hb dX13_feed_28 (by decide) (fun _ => ?_) (fun c => absurd (by decide) c)
  refine lv_iload hx hb dX13_feed_35 (lv_at hl 0 rfl) ?_
  refine lv_bipush (v := 8) hx hb dX13_feed_37 (by decide) ?_
  refine lv_icmp_ge (tgt := 46) hx hb dX13_feed_39 (by decide) (fun _ => ?_) (fun c => absurd (by decide) c)
  refine lv_iload hx hb dX13_feed_46 (lv_at hl 0 rfl) ?_
  refine lv_bipush (v := 12) hx hb dX13_feed_48 (by decide) ?_
  refine lv_icmp_ge (tgt := 57) hx hb dX13_feed_50 (by decide) (fun c => absurd c (by decide)) (fun _ => ?_)
  refine lv_iload_n hx hb dX13_feed_53 rfl (lv_at hl 5 rfl) ?_
  refine lv_goto (tgt := 71) hx hb dX13_feed_54 (by decide) ?_
  refine lv_istore (lv' := [(7, .int x2), (6, .int 8), (0, .ref h0), (1, .int x0), (2, .int x1), (3, .int x2), (4, .int x3), (5, .int x4)]) hx hb dX13_feed_71 hl (by decide) rfl (fun ls hl => ?_)
  refine lv_aload_n hx hb dX13_feed_73 rfl (lv_at hl 2 rfl) ?_
  refine va_get (D := (dC, dI)) (ci := 14) (v := .ref h1) (C := RX13) (T := TX13) (N := 89) hx hb ht inX13 hown hK hP 0 rfl rfl 0 (by decide) (ht _ mW1883) (fun _ h9 => h9) rfl dX13_feed_74 ?_
  refine lv_aload_n hx hb dX13_feed_77 rfl (lv_at hl 2 rfl) ?_
  refine va_get (D := (dC, dI)) (ci := 14) (v := .int 8) (C := RX13) (T := TX13) (N := 89) hx hb ht inX13 hown hK hP 0 rfl rfl 1 (by decide) (ht _ mW1884) (fun _ h9 => h9) rfl dX13_feed_78 ?_
  refine lv_iload hx hb dX13_feed_81 (lv_at hl 0 rfl) ?_
  refine lv_bipush (v := 24) hx hb dX13_feed_83 (by decide) ?_
  refine lv_bipush (v := 8) hx hb dX13_feed_85 (by decide) ?_
  refine lv_iload hx hb dX13_feed_87 (lv_at hl 1 rfl) ?_
  refine lv_iconst (v := 4) hx hb dX13_feed_89 (by decide) ?_
  refine lv_irem hx hb dX13_feed_90 (by decide) ?_
  refine W.eq (congrArg (fun z => F0 m 91 ls (.int z :: [.int 8, .int 24, .int x2, .int 8, .ref h1])) (by decide : (8 - 8 / 4 * 4 : Int32) = 0)) ?_
  refine lv_imul hx hb dX13_feed_91 ?_
  refine W.eq (congrArg (fun z => F0 m 92 ls (.int z :: [.int 24, .int x2, .int 8, .ref h1])) (by decide : (8 * 0 : Int32) = 0)) ?_
  refine lv_isub hx hb dX13_feed_92 ?_
  refine W.eq (congrArg (fun z => F0 m 93 ls (.int z :: [.int x2, .int 8, .ref h1])) (by decide : (24 - 0 : Int32) = 24)) ?_
  refine lv_ishr hx hb dX13_feed_93 ?_
  refine lv_topi (fun n955 en955 => ?_)
  refine lv_sipush (v := 255) hx hb dX13_feed_94 (by decide) ?_
  refine lv_iand hx hb dX13_feed_97 ?_
  refine lv_topi (fun n956 en956 => ?_)
  refine va_iast hx hb hK hP hD hS 1 0 rfl rfl (by unfold vp_in; decide) dX13_feed_98 (fun H locs hP hD hS => ?_)
  obtain ⟨f957, ef957⟩ : ∃ z : Nat → Int32, z = upd f954 8 n956 := ⟨_, rfl⟩
  have hP : va_P (dC, dI) vwCl [(h0, .inr (14, [.ref h1, .int 8, .ref h2, .int 0, .ref h3, .int 0, .int 0, .ref h4, .int (-1), .int 0, .int 0, .ref h5, .int 0, .ref h6, .ref h7, .ref h8, .ref h9, .ref h10, .int 0, .ref h11, .int 0, .int 0, .ref h12, .ref h13, .ref h14, .ref h15, .int 0, .ref h16, .ref h17, .int 0, .ref h18, .ref h19, .ref h20, .ref h21, .int 0, .int 0, .int 0, .ref h22, .int 0, .int 0, .ref h23, .ref h24, .ref h25, .ref h26, .int 0, .int 0, .int 0, .int 0, .int 0, .int 0, .int 0, .int 0, .int 0, .int 0, .int 0, .int 0, .int (-1), .int 0, .ref h27, .int 0, .ref h28, .int 0, .int 0, .int 0, .int 0, .int 0, .ref h29, .ref h30, .int 0, .int 0, .ref h31, .ref h32, .ref h33, .ref h34, .long 0, .ref h35, .int 0, .int 0, .int 0, .int 0, .int 0, .int 0, .int 0, .ref h36, .ref h37, .int 0, .int 0, .int 0, .int 0])), (h1, .inl (k0, 2000, .inl f957))] H := by rw [ef957]; exact hP
  have hD : va_D A [(h0, .inr (14, [.ref h1, .int 8, .ref h2, .int 0, .ref h3, .int 0, .int 0, .ref h4, .int (-1), .int 0, .int 0, .ref h5, .int 0, .ref h6, .ref h7, .ref h8, .ref h9, .ref h10, .int 0, .ref h11, .int 0, .int 0, .ref h12, .ref h13, .ref h14, .ref h15, .int 0, .ref h16, .ref h17, .int 0, .ref h18, .ref h19, .ref h20, .ref h21, .int 0, .int 0, .int 0, .ref h22, .int 0, .int 0, .ref h23, .ref h24, .ref h25, .ref h26, .int 0, .int 0, .int 0, .int 0, .int 0, .int 0, .int 0, .int 0, .int 0, .int 0, .int 0, .int 0, .int (-1), .int 0, .ref h27, .int 0, .ref h28, .int 0, .int 0, .int 0, .int 0, .int 0, .ref h29, .ref h30, .int 0, .int 0, .ref h31, .ref h32, .ref h33, .ref h34, .long 0, .ref h35, .int 0, .int 0, .int 0, .int 0, .int 0, .int 0, .int 0, .ref h36, .ref h37, .int 0, .int 0, .int 0, .int 0])), (h1, .inl (k0, 2000, .inl f957))] := by rw [ef957]; exact hD
  refine lv_aload_n hx hb dX13_feed_99 rfl (lv_at hl 2 rfl) ?_
  refine lv_dup hx hb dX13_feed_100 rfl ?_
  refine va_get (D := (dC, dI)) (ci := 14) (v := .int 8) (C := RX13) (T := TX13) (N := 89) hx hb ht inX13 hown hK hP 0 rfl rfl 1 (by decide) (ht _ mW1884) (fun _ h9 => h9) rfl dX13_feed_101 ?_
  refine lv_iconst (v := 1) hx hb dX13_feed_104 (by decide) ?_
  refine lv_iadd hx hb dX13_feed_105 ?_
  refine W.eq (congrArg (fun z => F0 m 106 ls (.int z :: [.ref h0])) (by decide : (8 + 1 : Int32) = 9)) ?_
  refine va_put (D := (dC, dI)) (ci := 14) (v := .int 9) (ty := .int) (C := RX13) (T := TX13) (N := 89) hx hb ht inX13 tyX13 tyX13_ok nmX13 hown hK hP hD hS 0 rfl rfl 1 (by decide) (ht _ mW1884) (fun _ h9 => h9) rfl (by decide +kernel) rfl rfl (Nat.le_of_ble_eq_true rfl) dX13_feed_106 (fun H locs hP hD hS => ?_)
  have hP : va_P (dC, dI) vwCl [(h0, .inr (14, [.ref h1, .int 9, .ref h2, .int 0, .ref h3, .int 0, .int 0, .ref h4, .int (-1), .int 0, .int 0, .ref h5, .int 0, .ref h6, .ref h7, .ref h8, .ref h9, .ref h10, .int 0, .ref h11, .int 0, .int 0, .ref h12, .ref h13, .ref h14, .ref h15, .int 0, .ref h16, .ref h17, .int 0, .ref h18, .ref h19, .ref h20, .ref h21, .int 0, .int 0, .int 0, .ref h22, .int 0, .int 0, .ref h23, .ref h24, .ref h25, .ref h26, .int 0, .int 0, .int 0, .int 0, .int 0, .int 0, .int 0, .int 0, .int 0, .int 0, .int 0, .int 0, .int (-1), .int 0, .ref h27, .int 0, .ref h28, .int 0, .int 0, .int 0, .int 0, .int 0, .ref h29, .ref h30, .int 0, .int 0, .ref h31, .ref h32, .ref h33, .ref h34, .long 0, .ref h35, .int 0, .int 0, .int 0, .int 0, .int 0, .int 0, .int 0, .ref h36, .ref h37, .int 0, .int 0, .int 0, .int 0])), (h1, .inl (k0, 2000, .inl f957))] H := hP
  have hD : va_D A [(h0, .inr (14, [.ref h1, .int 9, .ref h2, .int 0, .ref h3, .int 0, .int 0, .ref h4, .int (-1), .int 0, .int 0, .ref h5, .int 0, .ref h6, .ref h7, .ref h8, .ref h9, .ref h10, .int 0, .ref h11, .int 0, .int 0, .ref h12, .ref h13, .ref h14, .ref h15, .int 0, .ref h16, .ref h17, .int 0, .ref h18, .ref h19, .ref h20, .ref h21, .int 0, .int 0, .int 0, .ref h22, .int 0, .int 0, .ref h23, .ref h24, .ref h25, .ref h26, .int 0, .int 0, .int 0, .int 0, .int 0, .int 0, .int 0, .int 0, .int 0, .int 0, .int 0, .int 0, .int (-1), .int 0, .ref h27, .int 0, .ref h28, .int 0, .int 0, .int 0, .int 0, .int 0, .ref h29, .ref h30, .int 0, .int 0, .ref h31, .ref h32, .ref h33, .ref h34, .long 0, .ref h35, .int 0, .int 0, .int 0, .int 0, .int 0, .int 0, .int 0, .ref h36, .ref h37, .int 0, .int 0, .int 0, .int 0])), (h1, .inl (k0, 2000, .inl f957))] := hD
  refine lv_iinc (v := 9) (lv' := [(6, .int 9), (7, .int x2), (0, .ref h0), (1, .int x0), (2, .int x1), (3, .int x2), (4, .int x3), (5, .int x4)]) hx hb dX13_feed_109 hl (k := 1) rfl (by decide) (by decide) rfl (fun ls hl => ?_)
  refine lv_goto (tgt := 18) hx hb dX13_feed_112 (by decide) ?_
  refine lv_iload hx hb dX13_feed_18 (lv_at hl 0 rfl) ?_
  refine lv_bipush (v := 20) hx hb dX13_feed_20 (by decide) ?_
  refine lv_icmp_ge (tgt := 115) hx hb dX13_feed_22 (by decide) (fun c => absurd c (by decide)) (fun _ => ?_)
  refine lv_iload hx hb dX13_feed_25 (lv_at hl 0 rfl) ?_
  refine lv_iconst (v := 4) hx hb dX13_feed_27 (by decide) ?_
  refine lv_icmp_ge (tgt := 35) hx hb dX13_feed_28 (by decide) (fun _ => ?_) (fun c => absurd (by decide) c)
  refine lv_iload hx hb dX13_feed_35 (lv_at hl 0 rfl) ?_
  refine lv_bipush (v := 8) hx hb dX13_feed_37 (by decide) ?_
  refine lv_icmp_ge (tgt := 46) hx hb dX13_feed_39 (by decide) (fun _ => ?_) (fun c => absurd (by decide) c)
  refine lv_iload hx hb dX13_feed_46 (lv_at hl 0 rfl) ?_
  refine lv_bipush (v := 12) hx hb dX13_feed_48 (by decide) ?_
  refine lv_icmp_ge (tgt := 57) hx hb dX13_feed_50 (by decide) (fun c => absurd c (by decide)) (fun _ => ?_)
  refine lv_iload_n hx hb dX13_feed_53 rfl (lv_at hl 5 rfl) ?_
  refine lv_goto (tgt := 71) hx hb dX13_feed_54 (by decide) ?_
  refine lv_istore (lv' := [(7, .int x2), (6, .int 9), (0, .ref h0), (1, .int x0), (2, .int x1), (3, .int x2), (4, .int x3), (5, .int x4)]) hx hb dX13_feed_71 hl (by decide) rfl (fun ls hl => ?_)
  refine lv_aload_n hx hb dX13_feed_73 rfl (lv_at hl 2 rfl) ?_
  refine va_get (D := (dC, dI)) (ci := 14) (v := .ref h1) (C := RX13) (T := TX13) (N := 89) hx hb ht inX13 hown hK hP 0 rfl rfl 0 (by decide) (ht _ mW1883) (fun _ h9 => h9) rfl dX13_feed_74 ?_
  refine lv_aload_n hx hb dX13_feed_77 rfl (lv_at hl 2 rfl) ?_
  refine va_get (D := (dC, dI)) (ci := 14) (v := .int 9) (C := RX13) (T := TX13) (N := 89) hx hb ht inX13 hown hK hP 0 rfl rfl 1 (by decide) (ht _ mW1884) (fun _ h9 => h9) rfl dX13_feed_78 ?_
  refine lv_iload hx hb dX13_feed_81 (lv_at hl 0 rfl) ?_
  refine lv_bipush (v := 24) hx hb dX13_feed_83 (by decide) ?_
  refine lv_bipush (v := 8) hx hb dX13_feed_85 (by decide) ?_
  refine lv_iload hx hb dX13_feed_87 (lv_at hl 1 rfl) ?_
  refine lv_iconst (v := 4) hx hb dX13_feed_89 (by decide) ?_
  refine lv_irem hx hb dX13_feed_90 (by decide) ?_
  refine W.eq (congrArg (fun z => F0 m 91 ls (.int z :: [.int 8, .int 24, .int x2, .int 9, .ref h1])) (by decide : (9 - 9 / 4 * 4 : Int32) = 1)) ?_
  refine lv_imul hx hb dX13_feed_91 ?_
  refine W.eq (congrArg (fun z => F0 m 92 ls (.int z :: [.int 24, .int x2, .int 9, .ref h1])) (by decide : (8 * 1 : Int32) = 8)) ?_
  refine lv_isub hx hb dX13_feed_92 ?_
  refine W.eq (congrArg (fun z => F0 m 93 ls (.int z :: [.int x2, .int 9, .ref h1])) (by decide : (24 - 8 : Int32) = 16)) ?_
  refine lv_ishr hx hb dX13_feed_93 ?_
  refine lv_topi (fun n958 en958 => ?_)
  refine lv_sipush (v := 255) hx hb dX13_feed_94 (by decide) ?_
  refine lv_iand hx hb dX13_feed_97 ?_
  refine lv_topi (fun n959 en959 => ?_)
  refine va_iast hx hb hK hP hD hS 1 0 rfl rfl (by unfold vp_in; decide) dX13_feed_98 (fun H locs hP hD hS => ?_)
  obtain ⟨f960, ef960⟩ : ∃ z : Nat → Int32, z = upd f957 9 n959 := ⟨_, rfl⟩
  have hP : va_P (dC, dI) vwCl [(h0, .inr (14, [.ref h1, .int 9, .ref h2, .int 0, .ref h3, .int 0, .int 0, .ref h4, .int (-1), .int 0, .int 0, .ref h5, .int 0, .ref h6, .ref h7, .ref h8, .ref h9, .ref h10, .int 0, .ref h11, .int 0, .int 0, .ref h12, .ref h13, .ref h14, .ref h15, .int 0, .ref h16, .ref h17, .int 0, .ref h18, .ref h19, .ref h20, .ref h21, .int 0, .int 0, .int 0, .ref h22, .int 0, .int 0, .ref h23, .ref h24, .ref h25, .ref h26, .int 0, .int 0, .int 0, .int 0, .int 0, .int 0, .int 0, .int 0, .int 0, .int 0, .int 0, .int 0, .int (-1), .int 0, .ref h27, .int 0, .ref h28, .int 0, .int 0, .int 0, .int 0, .int 0, .ref h29, .ref h30, .int 0, .int 0, .ref h31, .ref h32, .ref h33, .ref h34, .long 0, .ref h35, .int 0, .int 0, .int 0, .int 0, .int 0, .int 0, .int 0, .ref h36, .ref h37, .int 0, .int 0, .int 0, .int 0])), (h1, .inl (k0, 2000, .inl f960))] H := by rw [ef960]; exact hP
  have hD : va_D A [(h0, .inr (14, [.ref h1, .int 9, .ref h2, .int 0, .ref h3, .int 0, .int 0, .ref h4, .int (-1), .int 0, .int 0, .ref h5, .int 0, .ref h6, .ref h7, .ref h8, .ref h9, .ref h10, .int 0, .ref h11, .int 0, .int 0, .ref h12, .ref h13, .ref h14, .ref h15, .int 0, .ref h16, .ref h17, .int 0, .ref h18, .ref h19, .ref h20, .ref h21, .int 0, .int 0, .int 0, .ref h22, .int 0, .int 0, .ref h23, .ref h24, .ref h25, .ref h26, .int 0, .int 0, .int 0, .int 0, .int 0, .int 0, .int 0, .int 0, .int 0, .int 0, .int 0, .int 0, .int (-1), .int 0, .ref h27, .int 0, .ref h28, .int 0, .int 0, .int 0, .int 0, .int 0, .ref h29, .ref h30, .int 0, .int 0, .ref h31, .ref h32, .ref h33, .ref h34, .long 0, .ref h35, .int 0, .int 0, .int 0, .int 0, .int 0, .int 0, .int 0, .ref h36, .ref h37, .int 0, .int 0, .int 0, .int 0])), (h1, .inl (k0, 2000, .inl f960))] := by rw [ef960]; exact hD
  refine lv_aload_n hx hb dX13_feed_99 rfl (lv_at hl 2 rfl) ?_
  refine lv_dup hx hb dX13_feed_100 rfl ?_
  refine va_get (D := (dC, dI)) (ci := 14) (v := .int 9) (C := RX13) (T := TX13) (N := 89) hx hb ht inX13 hown hK hP 0 rfl rfl 1 (by decide) (ht _ mW1884) (fun _ h9 => h9) rfl dX13_feed_101 ?_
  refine lv_iconst (v := 1) hx hb dX13_feed_104 (by decide) ?_
  refine lv_iadd hx hb dX13_feed_105 ?_
  refine W.eq (congrArg (fun z => F0 m 106 ls (.int z :: [.ref h0])) (by decide : (9 + 1 : Int32) = 10)) ?_
  refine va_put (D := (dC, dI)) (ci := 14) (v := .int 10) (ty := .int) (C := RX13) (T := TX13) (N := 89) hx hb ht inX13 tyX13 tyX13_ok nmX13 hown hK hP hD hS 0 rfl rfl 1 (by decide) (ht _ mW1884) (fun _ h9 => h9) rfl (by decide +kernel) rfl rfl (Nat.le_of_ble_eq_true rfl) dX13_feed_106 (fun H locs hP hD hS => ?_)
  have hP : va_P (dC, dI) vwCl [(h0, .inr (14, [.ref h1, .int 10, .ref h2, .int 0, .ref h3, .int 0, .int 0, .ref h4, .int (-1), .int 0, .int 0, .ref h5, .int 0, .ref h6, .ref h7, .ref h8, .ref h9, .ref h10, .int 0, .ref h11, .int 0, .int 0, .ref h12, .ref h13, .ref h14, .ref h15, .int 0, .ref h16, .ref h17, .int 0, .ref h18, .ref h19, .ref h20, .ref h21, .int 0, .int 0, .int 0, .ref h22, .int 0, .int 0, .ref h23, .ref h24, .ref h25, .ref h26, .int 0, .int 0, .int 0, .int 0, .int 0, .int 0, .int 0, .int 0, .int 0, .int 0, .int 0, .int 0, .int (-1), .int 0, .ref h27, .int 0, .ref h28, .int 0, .int 0, .int 0, .int 0, .int 0, .ref h29, .ref h30, .int 0, .int 0, .ref h31, .ref h32, .ref h33, .ref h34, .long 0, .ref h35, .int 0, .int 0, .int 0, .int 0, .int 0, .int 0, .int 0, .ref h36, .ref h37, .int 0, .int 0, .int 0, .int 0])), (h1, .inl (k0, 2000, .inl f960))] H := hP
  have hD : va_D A [(h0, .inr (14, [.ref h1, .int 10, .ref h2, .int 0, .ref h3, .int 0, .int 0, .ref h4, .int (-1), .int 0, .int 0, .ref h5, .int 0, .ref h6, .ref h7, .ref h8, .ref h9, .ref h10, .int 0, .ref h11, .int 0, .int 0, .ref h12, .ref h13, .ref h14, .ref h15, .int 0, .ref h16, .ref h17, .int 0, .ref h18, .ref h19, .ref h20, .ref h21, .int 0, .int 0, .int 0, .ref h22, .int 0, .int 0, .ref h23, .ref h24, .ref h25, .ref h26, .int 0, .int 0, .int 0, .int 0, .int 0, .int 0, .int 0, .int 0, .int 0, .int 0, .int 0, .int 0, .int (-1), .int 0, .ref h27, .int 0, .ref h28, .int 0, .int 0, .int 0, .int 0, .int 0, .ref h29, .ref h30, .int 0, .int 0, .ref h31, .ref h32, .ref h33, .ref h34, .long 0, .ref h35, .int 0, .int 0, .int 0, .int 0, .int 0, .int 0, .int 0, .ref h36, .ref h37, .int 0, .int 0, .int 0, .int 0])), (h1, .inl (k0, 2000, .inl f960))] := hD
  refine lv_iinc (v := 10) (lv' := [(6, .int 10), (7, .int x2), (0, .ref h0), (1, .int x0), (2, .int x1), (3, .int x2), (4, .int x3), (5, .int x4)]) hx hb dX13_feed_109 hl (k := 1) rfl (by decide) (by decide) rfl (fun ls hl => ?_)
  refine lv_goto (tgt := 18) hx hb dX13_feed_112 (by decide) ?_
  refine lv_iload hx hb dX13_feed_18 (lv_at hl 0 rfl) ?_
  refine lv_bipush (v := 20) hx hb dX13_feed_20 (by decide) ?_
  refine lv_icmp_ge (tgt := 115) hx hb dX13_feed_22 (by decide) (fun c => absurd c (by decide)) (fun _ => ?_)
  refine lv_iload hx hb dX13_feed_25 (lv_at hl 0 rfl) ?_
  refine lv_iconst (v := 4) hx hb dX13_feed_27 (by decide) ?_
  refine lv_icmp_ge (tgt := 35) hx hb dX13_feed_28 (by decide) (fun _ => ?_) (fun c => absurd (by decide) c)
  refine lv_iload hx hb dX13_feed_35 (lv_at hl 0 rfl) ?_
  refine lv_bipush (v := 8) hx hb dX13_feed_37 (by decide) ?_
  refine lv_icmp_ge (tgt := 46) hx hb dX13_feed_39 (by decide) (fun _ => ?_) (fun c => absurd (by decide) c)
  refine lv_iload hx hb dX13_feed_46 (lv_at hl 0 rfl) ?_
  refine lv_bipush (v := 12) hx hb dX13_feed_48 (by decide) ?_
  refine lv_icmp_ge (tgt := 57) hx hb dX13_feed_50 (by decide) (fun c => absurd c (by decide)) (fun _ => ?_)
  refine lv_iload_n hx hb dX13_feed_53 rfl (lv_at hl 5 rfl) ?_
  refine lv_goto (tgt := 71) hx hb dX13_feed_54 (by decide) ?_
  refine lv_istore (lv' := [(7, .int x2), (6, .int 10), (0, .ref h0), (1, .int x0), (2, .int x1), (3, .int x2), (4, .int x3), (5, .int x4)]) hx hb dX13_feed_71 hl (by decide) rfl (fun ls hl => ?_)
  refine lv_aload_n hx hb dX13_feed_73 rfl (lv_at hl 2 rfl) ?_
  refine va_get (D := (dC, dI)) (ci := 14) (v := .ref h1) (C := RX13) (T := TX13) (N := 89) hx hb ht inX13 hown hK hP 0 rfl rfl 0 (by decide) (ht _ mW1883) (fun _ h9 => h9) rfl dX13_feed_74 ?_
  refine lv_aload_n hx hb dX13_feed_77 rfl (lv_at hl 2 rfl) ?_
  refine va_get (D := (dC, dI)) (ci := 14) (v := .int 10) (C := RX13) (T := TX13) (N := 89) hx hb ht inX13 hown hK hP 0 rfl rfl 1 (by decide) (ht _ mW1884) (fun _ h9 => h9) rfl dX13_feed_78 ?_
  refine lv_iload hx hb dX13_feed_81 (lv_at hl 0 rfl) ?_
  refine lv_bipush (v := 24) hx hb dX13_feed_83 (by decide) ?_
  refine lv_bipush (v := 8) hx hb dX13_feed_85 (by decide) ?_
  refine lv_iload hx hb dX13_feed_87 (lv_at hl 1 rfl) ?_
  refine lv_iconst (v := 4) hx hb dX13_feed_89 (by decide) ?_
  refine lv_irem hx hb dX13_feed_90 (by decide) ?_
  refine W.eq (congrArg (fun z => F0 m 91 ls (.int z :: [.int 8, .int 24, .int x2, .int 10, .ref h1])) (by decide : (10 - 10 / 4 * 4 : Int32) = 2)) ?_
  refine lv_imul hx hb dX13_feed_91 ?_
  refine W.eq (congrArg (fun z => F0 m 92 ls (.int z :: [.int 24, .int x2, .int 10, .ref h1])) (by decide : (8 * 2 : Int32) = 16)) ?_
  refine lv_isub hx hb dX13_feed_92 ?_
  refine W.eq (congrArg (fun z => F0 m 93 ls (.int z :: [.int x2, .int 10, .ref h1])) (by decide : (24 - 16 : Int32) = 8)) ?_
  refine lv_ishr hx hb dX13_feed_93 ?_
  refine lv_topi (fun n961 en961 => ?_)
  refine lv_sipush (v := 255) hx hb dX13_feed_94 (by decide) ?_
  refine lv_iand hx hb dX13_feed_97 ?_
  refine lv_topi (fun n962 en962 => ?_)
  refine va_iast hx hb hK hP hD hS 1 0 rfl rfl (by unfold vp_in; decide) dX13_feed_98 (fun H locs hP hD hS => ?_)
  obtain ⟨f963, ef963⟩ : ∃ z : Nat → Int32, z = upd f960 10 n962 := ⟨_, rfl⟩
  have hP : va_P (dC, dI) vwCl [(h0, .inr (14, [.ref h1, .int 10, .ref h2, .int 0, .ref h3, .int 0, .int 0, .ref h4, .int (-1), .int 0, .int 0, .ref h5, .int 0, .ref h6, .ref h7, .ref h8, .ref h9, .ref h10, .int 0, .ref h11, .int 0, .int 0, .ref h12, .ref h13, .ref h14, .ref h15, .int 0, .ref h16, .ref h17, .int 0, .ref h18, .ref h19, .ref h20, .ref h21, .int 0, .int 0, .int 0, .ref h22, .int 0, .int 0, .ref h23, .ref h24, .ref h25, .ref h26, .int 0, .int 0, .int 0, .int 0, .int 0, .int 0, .int 0, .int 0, .int 0, .int 0, .int 0, .int 0, .int (-1), .int 0, .ref h27, .int 0, .ref h28, .int 0, .int 0, .int 0, .int 0, .int 0, .ref h29, .ref h30, .int 0, .int 0, .ref h31, .ref h32, .ref h33, .ref h34, .long 0, .ref h35, .int 0, .int 0, .int 0, .int 0, .int 0, .int 0, .int 0, .ref h36, .ref h37, .int 0, .int 0, .int 0, .int 0])), (h1, .inl (k0, 2000, .inl f963))] H := by rw [ef963]; exact hP
  have hD : va_D A [(h0, .inr (14, [.ref h1, .int 10, .ref h2, .int 0, .ref h3, .int 0, .int 0, .ref h4, .int (-1), .int 0, .int 0, .ref h5, .int 0, .ref h6, .ref h7, .ref h8, .ref h9, .ref h10, .int 0, .ref h11, .int 0, .int 0, .ref h12, .ref h13, .ref h14, .ref h15, .int 0, .ref h16, .ref h17, .int 0, .ref h18, .ref h19, .ref h20, .ref h21, .int 0, .int 0, .int 0, .ref h22, .int 0, .int 0, .ref h23, .ref h24, .ref h25, .ref h26, .int 0, .int 0, .int 0, .int 0, .int 0, .int 0, .int 0, .int 0, .int 0, .int 0, .int 0, .int 0, .int (-1), .int 0, .ref h27, .int 0, .ref h28, .int 0, .int 0, .int 0, .int 0, .int 0, .ref h29, .ref h30, .int 0, .int 0, .ref h31, .ref h32, .ref h33, .ref h34, .long 0, .ref h35, .int 0, .int 0, .int 0, .int 0, .int 0, .int 0, .int 0, .ref h36, .ref h37, .int 0, .int 0, .int 0, .int 0])), (h1, .inl (k0, 2000, .inl f963))] := by rw [ef963]; exact hD
  refine lv_aload_n hx hb dX13_feed_99 rfl (lv_at hl 2 rfl) ?_
  refine lv_dup hx hb dX13_feed_100 rfl ?_
  refine va_get (D := (dC, dI)) (ci := 14) (v := .int 10) (C := RX13) (T := TX13) (N := 89) hx hb ht inX13 hown hK hP 0 rfl rfl 1 (by decide) (ht _ mW1884) (fun _ h9 => h9) rfl dX13_feed_101 ?_
  refine lv_iconst (v := 1) hx hb dX13_feed_104 (by decide) ?_
  refine lv_iadd hx hb dX13_feed_105 ?_
  refine W.eq (congrArg (fun z => F0 m 106 ls (.int z :: [.ref h0])) (by decide : (10 + 1 : Int32) = 11)) ?_
  refine va_put (D := (dC, dI)) (ci := 14) (v := .int 11) (ty := .int) (C := RX13) (T := TX13) (N := 89) hx hb ht inX13 tyX13 tyX13_ok nmX13 hown hK hP hD hS 0 rfl rfl 1 (by decide) (ht _ mW1884) (fun _ h9 => h9) rfl (by decide +kernel) rfl rfl (Nat.le_of_ble_eq_true rfl) dX13_feed_106 (fun H locs hP hD hS => ?_)
  have hP : va_P (dC, dI) vwCl [(h0, .inr (14, [.ref h1, .int 11, .ref h2, .int 0, .ref h3, .int 0, .int 0, .ref h4, .int (-1), .int 0, .int 0, .ref h5, .int 0, .ref h6, .ref h7, .ref h8, .ref h9, .ref h10, .int 0, .ref h11, .int 0, .int 0, .ref h12, .ref h13, .ref h14, .ref h15, .int 0, .ref h16, .ref h17, .int 0, .ref h18, .ref h19, .ref h20, .ref h21, .int 0, .int 0, .int 0, .ref h22, .int 0, .int 0, .ref h23, .ref h24, .ref h25, .ref h26, .int 0, .int 0, .int 0, .int 0, .int 0, .int 0, .int 0, .int 0, .int 0, .int 0, .int 0, .int 0, .int (-1), .int 0, .ref h27, .int 0, .ref h28, .int 0, .int 0, .int 0, .int 0, .int 0, .ref h29, .ref h30, .int 0, .int 0, .ref h31, .ref h32, .ref h33, .ref h34, .long 0, .ref h35, .int 0, .int 0, .int 0, .int 0, .int 0, .int 0, .int 0, .ref h36, .ref h37, .int 0, .int 0, .int 0, .int 0])), (h1, .inl (k0, 2000, .inl f963))] H := hP
  have hD : va_D A [(h0, .inr (14, [.ref h1, .int 11, .ref h2, .int 0, .ref h3, .int 0, .int 0, .ref h4, .int (-1), .int 0, .int 0, .ref h5, .int 0, .ref h6, .ref h7, .ref h8, .ref h9, .ref h10, .int 0, .ref h11, .int 0, .int 0, .ref h12, .ref h13, .ref h14, .ref h15, .int 0, .ref h16, .ref h17, .int 0, .ref h18, .ref h19, .ref h20, .ref h21, .int 0, .int 0, .int 0, .ref h22, .int 0, .int 0, .ref h23, .ref h24, .ref h25, .ref h26, .int 0, .int 0, .int 0, .int 0, .int 0, .int 0, .int 0, .int 0, .int 0, .int 0, .int 0, .int 0, .int (-1), .int 0, .ref h27, .int 0, .ref h28, .int 0, .int 0, .int 0, .int 0, .int 0, .ref h29, .ref h30, .int 0, .int 0, .ref h31, .ref h32, .ref h33, .ref h34, .long 0, .ref h35, .int 0, .int 0, .int 0, .int 0, .int 0, .int 0, .int 0, .ref h36, .ref h37, .int 0, .int 0, .int 0, .int 0])), (h1, .inl (k0, 2000, .inl f963))] := hD
  refine lv_iinc (v := 11) (lv' := [(6, .int 11), (7, .int x2), (0, .ref h0), (1, .int x0), (2, .int x1), (3, .int x2), (4, .int x3), (5, .int x4)]) hx hb dX13_feed_109 hl (k := 1) rfl (by decide) (by decide) rfl (fun ls hl => ?_)
  refine lv_goto (tgt := 18) hx hb dX13_feed_112 (by decide) ?_
  refine lv_iload hx hb dX13_feed_18 (lv_at hl 0 rfl) ?_
  refine lv_bipush (v := 20) hx hb dX13_feed_20 (by decide) ?_
  refine lv_icmp_ge (tgt := 115) hx hb dX13_feed_22 (by decide) (fun c => absurd c (by decide)) (fun _ => ?_)
  refine lv_iload hx hb dX13_feed_25 (lv_at hl 0 rfl) ?_
  refine lv_iconst (v := 4) hx hb dX13_feed_27 (by decide) ?_
  refine lv_icmp_ge (tgt := 35) hx hb dX13_feed_28 (by decide) (fun _ => ?_) (fun c => absurd (by decide) c)
  refine lv_iload hx hb dX13_feed_35 (lv_at hl 0 rfl) ?_
  refine lv_bipush (v := 8) hx hb dX13_feed_37 (by decide) ?_
  refine lv_icmp_ge (tgt := 46) hx hb dX13_feed_39 (by decide) (fun _ => ?_) (fun c => absurd (by decide) c)
  refine lv_iload hx hb dX13_feed_46 (lv_at hl 0 rfl) ?_
  refine lv_bipush (v := 12) hx hb dX13_feed_48 (by decide) ?_
  refine lv_icmp_ge (tgt := 57) hx hb dX13_feed_50 (by decide) (fun c => absurd c (by decide)) (fun _ => ?_)
  refine lv_iload_n hx hb dX13_feed_53 rfl (lv_at hl 5 rfl) ?_
  refine lv_goto (tgt := 71) hx hb dX13_feed_54 (by decide) ?_
  refine lv_istore (lv' := [(7, .int x2), (6, .int 11), (0, .ref h0), (1, .int x0), (2, .int x1), (3, .int x2), (4, .int x3), (5, .int x4)]) hx hb dX13_feed_71 hl (by decide) rfl (fun ls hl => ?_)
  refine lv_aload_n hx hb dX13_feed_73 rfl (lv_at hl 2 rfl) ?_
  refine va_get (D := (dC, dI)) (ci := 14) (v := .ref h1) (C := RX13) (T := TX13) (N := 89) hx hb ht inX13 hown hK hP 0 rfl rfl 0 (by decide) (ht _ mW1883) (fun _ h9 => h9) rfl dX13_feed_74 ?_
  refine lv_aload_n hx hb dX13_feed_77 rfl (lv_at hl 2 rfl) ?_
  refine va_get (D := (dC, dI)) (ci := 14) (v := .int 11) (C := RX13) (T := TX13) (N := 89) hx hb ht inX13 hown hK hP 0 rfl rfl 1 (by decide) (ht _ mW1884) (fun _ h9 => h9) rfl dX13_feed_78 ?_
  refine lv_iload hx hb dX13_feed_81 (lv_at hl 0 rfl) ?_
  refine lv_bipush (v := 24) hx hb dX13_feed_83 (by decide) ?_
  refine lv_bipush (v := 8) hx hb dX13_feed_85 (by decide) ?_
  refine lv_iload hx hb dX13_feed_87 (lv_at hl 1 rfl) ?_
  refine lv_iconst (v := 4) hx hb dX13_feed_89 (by decide) ?_
  refine lv_irem hx hb dX13_feed_90 (by decide) ?_
  refine W.eq (congrArg (fun z => F0 m 91 ls (.int z :: [.int 8, .int 24, .int x2, .int 11, .ref h1])) (by decide : (11 - 11 / 4 * 4 : Int32) = 3)) ?_
  refine lv_imul hx hb dX13_feed_91 ?_
  refine W.eq (congrArg (fun z => F0 m 92 ls (.int z :: [.int 24, .int x2, .int 11, .ref h1])) (by decide : (8 * 3 : Int32) = 24)) ?_
  refine lv_isub hx hb dX13_feed_92 ?_
  refine W.eq (congrArg (fun z => F0 m 93 ls (.int z :: [.int x2, .int 11, .ref h1])) (by decide : (24 - 24 : Int32) = 0)) ?_
  refine lv_ishr hx hb dX13_feed_93 ?_
  refine lv_topi (fun n964 en964 => ?_)
  refine lv_sipush (v := 255) hx hb dX13_feed_94 (by decide) ?_
  refine lv_iand hx hb dX13_feed_97 ?_
  refine lv_topi (fun n965 en965 => ?_)
  refine va_iast hx hb hK hP hD hS 1 0 rfl rfl (by unfold vp_in; decide) dX13_feed_98 (fun H locs hP hD hS => ?_)
  obtain ⟨f966, ef966⟩ : ∃ z : Nat → Int32, z = upd f963 11 n965 := ⟨_, rfl⟩
  have hP : va_P (dC, dI) vwCl [(h0, .inr (14, [.ref h1, .int 11, .ref h2, .int 0, .ref h3, .int 0, .int 0, .ref h4, .int (-1), .int 0, .int 0, .ref h5, .int 0, .ref h6, .ref h7, .ref h8, .ref h9, .ref h10, .int 0, .ref h11, .int 0, .int 0, .ref h12, .ref h13, .ref h14, .ref h15, .int 0, .ref h16, .ref h17, .int 0, .ref h18, .ref h19, .ref h20, .ref h21, .int 0, .int 0, .int 0, .ref h22, .int 0, .int 0, .ref h23, .ref h24, .ref h25, .ref h26, .int 0, .int 0, .int 0, .int 0, .int 0, .int 0, .int 0, .int 0, .int 0, .int 0, .int 0, .int 0, .int (-1), .int 0, .ref h27, .int 0, .ref h28, .int 0, .int 0, .int 0, .int 0, .int 0, .ref h29, .ref h30, .int 0, .int 0, .ref h31, .ref h32, .ref h33, .ref h34, .long 0, .ref h35, .int 0, .int 0, .int 0, .int 0, .int 0, .int 0, .int 0, .ref h36, .ref h37, .int 0, .int 0, .int 0, .int 0])), (h1, .inl (k0, 2000, .inl f966))] H := by rw [ef966]; exact hP
  have hD : va_D A [(h0, .inr (14, [.ref h1, .int 11, .ref h2, .int 0, .ref h3, .int 0, .int 0, .ref h4, .int (-1), .int 0, .int 0, .ref h5, .int 0, .ref h6, .ref h7, .ref h8, .ref h9, .ref h10, .int 0, .ref h11, .int 0, .int 0, .ref h12, .ref h13, .ref h14, .ref h15, .int 0, .ref h16, .ref h17, .int 0, .ref h18, .ref h19, .ref h20, .ref h21, .int 0, .int 0, .int 0, .ref h22, .int 0, .int 0, .ref h23, .ref h24, .ref h25, .ref h26, .int 0, .int 0, .int 0, .int 0, .int 0, .int 0, .int 0, .int 0, .int 0, .int 0, .int 0, .int 0, .int (-1), .int 0, .ref h27, .int 0, .ref h28, .int 0, .int 0, .int 0, .int 0, .int 0, .ref h29, .ref h30, .int 0, .int 0, .ref h31, .ref h32, .ref h33, .ref h34, .long 0, .ref h35, .int 0, .int 0, .int 0, .int 0, .int 0, .int 0, .int 0, .ref h36, .ref h37, .int 0, .int 0, .int 0, .int 0])), (h1, .inl (k0, 2000, .inl f966))] := by rw [ef966]; exact hD
  refine lv_aload_n hx hb dX13_feed_99 rfl (lv_at hl 2 rfl) ?_
  refine lv_dup hx hb dX13_feed_100 rfl ?_
  refine va_get (D := (dC, dI)) (ci := 14) (v := .int 11) (C := RX13) (T := TX13) (N := 89) hx hb ht inX13 hown hK hP 0 rfl rfl 1 (by decide) (ht _ mW1884) (fun _ h9 => h9) rfl dX13_feed_101 ?_
  refine lv_iconst (v := 1) hx hb dX13_feed_104 (by decide) ?_
  refine lv_iadd hx hb dX13_feed_105 ?_
  refine W.eq (congrArg (fun z => F0 m 106 ls (.int z :: [.ref h0])) (by decide : (11 + 1 : Int32) = 12)) ?_
  refine va_put (D := (dC, dI)) (ci := 14) (v := .int 12) (ty := .int) (C := RX13) (T := TX13) (N := 89) hx hb ht inX13 tyX13 tyX13_ok nmX13 hown hK hP hD hS 0 rfl rfl 1 (by decide) (ht _ mW1884) (fun _ h9 => h9) rfl (by decide +kernel) rfl rfl (Nat.le_of_ble_eq_true rfl) dX13_feed_106 (fun H locs hP hD hS => ?_)
  have hP : va_P (dC, dI) vwCl [(h0, .inr (14, [.ref h1, .int 12, .ref h2, .int 0, .ref h3, .int 0, .int 0, .ref h4, .int (-1), .int 0, .int 0, .ref h5, .int 0, .ref h6, .ref h7, .ref h8, .ref h9, .ref h10, .int 0, .ref h11, .int 0, .int 0, .ref h12, .ref h13, .ref h14, .ref h15, .int 0, .ref h16, .ref h17, .int 0, .ref h18, .ref h19, .ref h20, .ref h21, .int 0, .int 0, .int 0, .ref h22, .int 0, .int 0, .ref h23, .ref h24, .ref h25, .ref h26, .int 0, .int 0, .int 0, .int 0, .int 0, .int 0, .int 0, .int 0, .int 0, .int 0, .int 0, .int 0, .int (-1), .int 0, .ref h27, .int 0, .ref h28, .int 0, .int 0, .int 0, .int 0, .int 0, .ref h29, .ref h30, .int 0, .int 0, .ref h31, .ref h32, .ref h33, .ref h34, .long 0, .ref h35, .int 0, .int 0, .int 0, .int 0, .int 0, .int 0, .int 0, .ref h36, .ref h37, .int 0, .int 0, .int 0, .int 0])), (h1, .inl (k0, 2000, .inl f966))] H := hP
  have hD : va_D A [(h0, .inr (14, [.ref h1, .int 12, .ref h2, .int 0, .ref h3, .int 0, .int 0, .ref h4, .int (-1), .int 0, .int 0, .ref h5, .int 0, .ref h6, .ref h7, .ref h8, .ref h9, .ref h10, .int 0, .ref h11, .int 0, .int 0, .ref h12, .ref h13, .ref h14, .ref h15, .int 0, .ref h16, .ref h17, .int 0, .ref h18, .ref h19, .ref h20, .ref h21, .int 0, .int 0, .int 0, .ref h22, .int 0, .int 0, .ref h23, .ref h24, .ref h25, .ref h26, .int 0, .int 0, .int 0, .int 0, .int 0, .int 0, .int 0, .int 0, .int 0, .int 0, .int 0, .int 0, .int (-1), .int 0, .ref h27, .int 0, .ref h28, .int 0, .int 0, .int 0, .int 0, .int 0, .ref h29, .ref h30, .int 0, .int 0, .ref h31, .ref h32, .ref h33, .ref h34, .long 0, .ref h35, .int 0, .int 0, .int 0, .int 0, .int 0, .int 0, .int 0, .ref h36, .ref h37, .int 0, .int 0, .int 0, .int 0])), (h1, .inl (k0, 2000, .inl f966))] := hD
  refine lv_iinc (v := 12) (lv' := [(6, .int 12), (7, .int x2), (0, .ref h0), (1, .int x0), (2, .int x1), (3, .int x2), (4, .int x3), (5, .int x4)]) hx hb dX13_feed_109 hl (k := 1) rfl (by decide) (by decide) rfl (fun ls hl => ?_)
  refine lv_goto (tgt := 18) hx hb dX13_feed_112 (by decide) ?_
  refine lv_iload hx hb dX13_feed_18 (lv_at hl 0 rfl) ?_
  refine lv_bipush (v := 20) hx hb dX13_feed_20 (by decide) ?_
  refine lv_icmp_ge (tgt := 115) hx hb dX13_feed_22 (by decide) (fun c => absurd c (by decide)) (fun _ => ?_)
  refine lv_iload hx hb dX13_feed_25 (lv_at hl 0 rfl) ?_
  refine lv_iconst (v := 4) hx hb dX13_feed_27 (by decide) ?_
  refine lv_icmp_ge (tgt := 35) hx hb dX13_feed_28 (by decide) (fun _ => ?_) (fun c => absurd (by decide) c)
  refine lv_iload hx hb dX13_feed_35 (lv_at hl 0 rfl) ?_
  refine lv_bipush (v := 8) hx hb dX13_feed_37 (by decide) ?_
  refine lv_icmp_ge (tgt := 46) hx hb dX13_feed_39 (by decide) (fun _ => ?_) (fun c => absurd (by decide) c)
  refine lv_iload hx hb dX13_feed_46 (lv_at hl 0 rfl) ?_
  refine lv_bipush (v := 12) hx hb dX13_feed_48 (by decide) ?_
  refine lv_icmp_ge (tgt := 57) hx hb dX13_feed_50 (by decide) (fun _ => ?_) (fun c => absurd (by decide) c)
  refine lv_iload hx hb dX13_feed_57 (lv_at hl 0 rfl) ?_
  refine lv_bipush (v := 16) hx hb dX13_feed_59 (by decide) ?_
  refine lv_icmp_ge (tgt := 69) hx hb dX13_feed_61 (by decide) (fun c => absurd c (by decide)) (fun _ => ?_)
  refine lv_iload hx hb dX13_feed_64 (lv_at hl 6 rfl) ?_
  refine lv_goto (tgt := 71) hx hb dX13_feed_66 (by decide) ?_
  refine lv_istore (lv' := [(7, .int x3), (6, .int 12), (0, .ref h0), (1, .int x0), (2, .int x1), (3, .int x2), (4, .int x3), (5, .int x4)]) hx hb dX13_feed_71 hl (by decide) rfl (fun ls hl => ?_)
  refine lv_aload_n hx hb dX13_feed_73 rfl (lv_at hl 2 rfl) ?_
  refine va_get (D := (dC, dI)) (ci := 14) (v := .ref h1) (C := RX13) (T := TX13) (N := 89) hx hb ht inX13 hown hK hP 0 rfl rfl 0 (by decide) (ht _ mW1883) (fun _ h9 => h9) rfl dX13_feed_74 ?_
  refine lv_aload_n hx hb dX13_feed_77 rfl (lv_at hl 2 rfl) ?_
  refine va_get (D := (dC, dI)) (ci := 14) (v := .int 12) (C := RX13) (T := TX13) (N := 89) hx hb ht inX13 hown hK hP 0 rfl rfl 1 (by decide) (ht _ mW1884) (fun _ h9 => h9) rfl dX13_feed_78 ?_
  refine lv_iload hx hb dX13_feed_81 (lv_at hl 0 rfl) ?_
  refine lv_bipush (v := 24) hx hb dX13_feed_83 (by decide) ?_
  refine lv_bipush (v := 8) hx hb dX13_feed_85 (by decide) ?_
  refine lv_iload hx hb dX13_feed_87 (lv_at hl 1 rfl) ?_
  refine lv_iconst (v := 4) hx hb dX13_feed_89 (by decide) ?_
  refine lv_irem hx hb dX13_feed_90 (by decide) ?_
  refine W.eq (congrArg (fun z => F0 m 91 ls (.int z :: [.int 8, .int 24, .int x3, .int 12, .ref h1])) (by decide : (12 - 12 / 4 * 4 : Int32) = 0)) ?_
  refine lv_imul hx hb dX13_feed_91 ?_
  refine W.eq (congrArg (fun z => F0 m 92 ls (.int z :: [.int 24, .int x3, .int 12, .ref h1])) (by decide : (8 * 0 : Int32) = 0)) ?_
  refine lv_isub hx hb dX13_feed_92 ?_
  refine W.eq (congrArg (fun z => F0 m 93 ls (.int z :: [.int x3, .int 12, .ref h1])) (by decide : (24 - 0 : Int32) = 24)) ?_
  refine lv_ishr hx hb dX13_feed_93 ?_
  refine lv_topi (fun n967 en967 => ?_)
  refine lv_sipush (v := 255) hx hb dX13_feed_94 (by decide) ?_
  refine lv_iand hx hb dX13_feed_97 ?_
  refine lv_topi (fun n968 en968 => ?_)
  refine va_iast hx hb hK hP hD hS 1 0 rfl rfl (by unfold vp_in; decide) dX13_feed_98 (fun H locs hP hD hS => ?_)
  obtain ⟨f969, ef969⟩ : ∃ z : Nat → Int32, z = upd f966 12 n968 := ⟨_, rfl⟩
  have hP : va_P (dC, dI) vwCl [(h0, .inr (14, [.ref h1, .int 12, .ref h2, .int 0, .ref h3, .int 0, .int 0, .ref h4, .int (-1), .int 0, .int 0, .ref h5, .int 0, .ref h6, .ref h7, .ref h8, .ref h9, .ref h10, .int 0, .ref h11, .int 0, .int 0, .ref h12, .ref h13, .ref h14, .ref h15, .int 0, .ref h16, .ref h17, .int 0, .ref h18, .ref h19, .ref h20, .ref h21, .int 0, .int 0, .int 0, .ref h22, .int 0, .int 0, .ref h23, .ref h24, .ref h25, .ref h26, .int 0, .int 0, .int 0, .int 0, .int 0, .int 0, .int 0, .int 0, .int 0, .int 0, .int 0, .int 0, .int (-1), .int 0, .ref h27, .int 0, .ref h28, .int 0, .int 0, .int 0, .int 0, .int 0, .ref h29, .ref h30, .int 0, .int 0, .ref h31, .ref h32, .ref h33, .ref h34, .long 0, .ref h35, .int 0, .int 0, .int 0, .int 0, .int 0, .int 0, .int 0, .ref h36, .ref h37, .int 0, .int 0, .int 0, .int 0])), (h1, .inl (k0, 2000, .inl f969))] H := by rw [ef969]; exact hP
  have hD : va_D A [(h0, .inr (14, [.ref h1, .int 12, .ref h2, .int 0, .ref h3, .int 0, .int 0, .ref h4, .int (-1), .int 0, .int 0, .ref h5, .int 0, .ref h6, .ref h7, .ref h8, .ref h9, .ref h10, .int 0, .ref h11, .int 0, .int 0, .ref h12, .ref h13, .ref h14, .ref h15, .int 0, .ref h16, .ref h17, .int 0, .ref h18, .ref h19, .ref h20, .ref h21, .int 0, .int 0, .int 0, .ref h22, .int 0, .int 0, .ref h23, .ref h24, .ref h25, .ref h26, .int 0, .int 0, .int 0, .int 0, .int 0, .int 0, .int 0, .int 0, .int 0, .int 0, .int 0, .int 0, .int (-1), .int 0, .ref h27, .int 0, .ref h28, .int 0, .int 0, .int 0, .int 0, .int 0, .ref h29, .ref h30, .int 0, .int 0, .ref h31, .ref h32, .ref h33, .ref h34, .long 0, .ref h35, .int 0, .int 0, .int 0, .int 0, .int 0, .int 0, .int 0, .ref h36, .ref h37, .int 0, .int 0, .int 0, .int 0])), (h1, .inl (k0, 2000, .inl f969))] := by rw [ef969]; exact hD
  refine lv_aload_n hx hb dX13_feed_99 rfl (lv_at hl 2 rfl) ?_
  refine lv_dup hx hb dX13_feed_100 rfl ?_
  refine va_get (D := (dC, dI)) (ci := 14) (v := .int 12) (C := RX13) (T := TX13) (N := 89) hx hb ht inX13 hown hK hP 0 rfl rfl 1 (by decide) (ht _ mW1884) (fun _ h9 => h9) rfl dX13_feed_101 ?_
  refine lv_iconst (v := 1) hx hb dX13_feed_104 (by decide) ?_
  refine lv_iadd hx hb dX13_feed_105 ?_
  refine W.eq (congrArg (fun z => F0 m 106 ls (.int z :: [.ref h0])) (by decide : (12 + 1 : Int32) = 13)) ?_
  refine va_put (D := (dC, dI)) (ci := 14) (v := .int 13) (ty := .int) (C := RX13) (T := TX13) (N := 89) hx hb ht inX13 tyX13 tyX13_ok nmX13 hown hK hP hD hS 0 rfl rfl 1 (by decide) (ht _ mW1884) (fun _ h9 => h9) rfl (by decide +kernel) rfl rfl (Nat.le_of_ble_eq_true rfl) dX13_feed_106 (fun H locs hP hD hS => ?_)
  have hP : va_P (dC, dI) vwCl [(h0, .inr (14, [.ref h1, .int 13, .ref h2, .int 0, .ref h3, .int 0, .int 0, .ref h4, .int (-1), .int 0, .int 0, .ref h5, .int 0, .ref h6, .ref h7, .ref h8, .ref h9, .ref h10, .int 0, .ref h11, .int 0, .int 0, .ref h12, .ref h13, .ref h14, .ref h15, .int 0, .ref h16, .ref h17, .int 0, .ref h18, .ref h19, .ref h20, .ref h21, .int 0, .int 0, .int 0, .ref h22, .int 0, .int 0, .ref h23, .ref h24, .ref h25, .ref h26, .int 0, .int 0, .int 0, .int 0, .int 0, .int 0, .int 0, .int 0, .int 0, .int 0, .int 0, .int 0, .int (-1), .int 0, .ref h27, .int 0, .ref h28, .int 0, .int 0, .int 0, .int 0, .int 0, .ref h29, .ref h30, .int 0, .int 0, .ref h31, .ref h32, .ref h33, .ref h34, .long 0, .ref h35, .int 0, .int 0, .int 0, .int 0, .int 0, .int 0, .int 0, .ref h36, .ref h37, .int 0, .int 0, .int 0, .int 0])), (h1, .inl (k0, 2000, .inl f969))] H := hP
  have hD : va_D A [(h0, .inr (14, [.ref h1, .int 13, .ref h2, .int 0, .ref h3, .int 0, .int 0, .ref h4, .int (-1), .int 0, .int 0, .ref h5, .int 0, .ref h6, .ref h7, .ref h8, .ref h9, .ref h10, .int 0, .ref h11, .int 0, .int 0, .ref h12, .ref h13, .ref h14, .ref h15, .int 0, .ref h16, .ref h17, .int 0, .ref h18, .ref h19, .ref h20, .ref h21, .int 0, .int 0, .int 0, .ref h22, .int 0, .int 0, .ref h23, .ref h24, .ref h25, .ref h26, .int 0, .int 0, .int 0, .int 0, .int 0, .int 0, .int 0, .int 0, .int 0, .int 0, .int 0, .int 0, .int (-1), .int 0, .ref h27, .int 0, .ref h28, .int 0, .int 0, .int 0, .int 0, .int 0, .ref h29, .ref h30, .int 0, .int 0, .ref h31, .ref h32, .ref h33, .ref h34, .long 0, .ref h35, .int 0, .int 0, .int 0, .int 0, .int 0, .int 0, .int 0, .ref h36, .ref h37, .int 0, .int 0, .int 0, .int 0])), (h1, .inl (k0, 2000, .inl f969))] := hD
  refine lv_iinc (v := 13) (lv' := [(6, .int 13), (7, .int x3), (0, .ref h0), (1, .int x0), (2, .int x1), (3, .int x2), (4, .int x3), (5, .int x4)]) hx hb dX13_feed_109 hl (k := 1) rfl (by decide) (by decide) rfl (fun ls hl => ?_)
  refine lv_goto (tgt := 18) hx hb dX13_feed_112 (by decide) ?_
  refine lv_iload hx hb dX13_feed_18 (lv_at hl 0 rfl) ?_
  refine lv_bipush (v := 20) hx hb dX13_feed_20 (by decide) ?_
  refine lv_icmp_ge (tgt := 115) hx hb dX13_feed_22 (by decide) (fun c => absurd c (by decide)) (fun _ => ?_)
  refine lv_iload hx hb dX13_feed_25 (lv_at hl 0 rfl) ?_
  refine lv_iconst (v := 4) hx hb dX13_feed_27 (by decide) ?_
  refine lv_icmp_ge (tgt := 35) hx hb dX13_feed_28 (by decide) (fun _ => ?_) (fun c => absurd (by decide) c)
  refine lv_iload hx hb dX13_feed_35 (lv_at hl 0 rfl) ?_
  refine lv_bipush (v := 8) hx hb dX13_feed_37 (by decide) ?_
  refine lv_icmp_ge (tgt := 46) hx hb dX13_feed_39 (by decide) (fun _ => ?_) (fun c => absurd (by decide) c)
  refine lv_iload hx hb dX13_feed_46 (lv_at hl 0 rfl) ?_
  refine lv_bipush (v := 12) hx hb dX13_feed_48 (by decide) ?_
  refine lv_icmp_ge (tgt := 57) hx hb dX13_feed_50 (by decide) (fun _ => ?_) (fun c => absurd (by decide) c)
  refine lv_iload hx hb dX13_feed_57 (lv_at hl 0 rfl) ?_
  refine lv_bipush (v := 16) hx hb dX13_feed_59 (by decide) ?_
  refine lv_icmp_ge (tgt := 69) hx hb dX13_feed_61 (by decide) (fun c => absurd c (by decide)) (fun _ => ?_)
  refine lv_iload hx hb dX13_feed_64 (lv_at hl 6 rfl) ?_
  refine lv_goto (tgt := 71) hx hb dX13_feed_66 (by decide) ?_
  refine lv_istore (lv' := [(7, .int x3), (6, .int 13), (0, .ref h0), (1, .int x0), (2, .int x1), (3, .int x2), (4, .int x3), (5, .int x4)]) hx hb dX13_feed_71 hl (by decide) rfl (fun ls hl => ?_)
  refine lv_aload_n hx hb dX13_feed_73 rfl (lv_at hl 2 rfl) ?_
  refine va_get (D := (dC, dI)) (ci := 14) (v := .ref h1) (C := RX13) (T := TX13) (N := 89) hx hb ht inX13 hown hK hP 0 rfl rfl 0 (by decide) (ht _ mW1883) (fun _ h9 => h9) rfl dX13_feed_74 ?_
  refine lv_aload_n hx hb dX13_feed_77 rfl (lv_at hl 2 rfl) ?_
  refine va_get (D := (dC, dI)) (ci := 14) (v := .int 13) (C := RX13) (T := TX13) (N := 89) hx hb ht inX13 hown hK hP 0 rfl rfl 1 (by decide) (ht _ mW1884) (fun _ h9 => h9) rfl dX13_feed_78 ?_
  refine lv_iload hx hb dX13_feed_81 (lv_at hl 0 rfl) ?_
  refine lv_bipush (v := 24) hx hb dX13_feed_83 (by decide) ?_
  refine lv_bipush (v := 8) hx hb dX13_feed_85 (by decide) ?_
  refine lv_iload hx hb dX13_feed_87 (lv_at hl 1 rfl) ?_
  refine lv_iconst (v := 4) hx hb dX13_feed_89 (by decide) ?_
  refine lv_irem hx hb dX13_feed_90 (by decide) ?_
  refine W.eq (congrArg (fun z => F0 m 91 ls (.int z :: [.int 8, .int 24, .int x3, .int 13, .ref h1])) (by decide : (13 - 13 / 4 * 4 : Int32) = 1)) ?_
  refine lv_imul hx hb dX13_feed_91 ?_
  refine W.eq (congrArg (fun z => F0 m 92 ls (.int z :: [.int 24, .int x3, .int 13, .ref h1])) (by decide : (8 * 1 : Int32) = 8)) ?_
  refine lv_isub hx hb dX13_feed_92 ?_
  refine W.eq (congrArg (fun z => F0 m 93 ls (.int z :: [.int x3, .int 13, .ref h1])) (by decide : (24 - 8 : Int32) = 16)) ?_
  refine lv_ishr hx hb dX13_feed_93 ?_
  refine lv_topi (fun n970 en970 => ?_)
  refine lv_sipush (v := 255) hx hb dX13_feed_94 (by decide) ?_
  refine lv_iand hx hb dX13_feed_97 ?_
  refine lv_topi (fun n971 en971 => ?_)
  refine va_iast hx hb hK hP hD hS 1 0 rfl rfl (by unfold vp_in; decide) dX13_feed_98 (fun H locs hP hD hS => ?_)
  obtain ⟨f972, ef972⟩ : ∃ z : Nat → Int32, z = upd f969 13 n971 := ⟨_, rfl⟩
  have hP : va_P (dC, dI) vwCl [(h0, .inr (14, [.ref h1, .int 13, .ref h2, .int 0, .ref h3, .int 0, .int 0, .ref h4, .int (-1), .int 0, .int 0, .ref h5, .int 0, .ref h6, .ref h7, .ref h8, .ref h9, .ref h10, .int 0, .ref h11, .int 0, .int 0, .ref h12, .ref h13, .ref h14, .ref h15, .int 0, .ref h16, .ref h17, .int 0, .ref h18, .ref h19, .ref h20, .ref h21, .int 0, .int 0, .int 0, .ref h22, .int 0, .int 0, .ref h23, .ref h24, .ref h25, .ref h26, .int 0, .int 0, .int 0, .int 0, .int 0, .int 0, .int 0, .int 0, .int 0, .int 0, .int 0, .int 0, .int (-1), .int 0, .ref h27, .int 0, .ref h28, .int 0, .int 0, .int 0, .int 0, .int 0, .ref h29, .ref h30, .int 0, .int 0, .ref h31, .ref h32, .ref h33, .ref h34, .long 0, .ref h35, .int 0, .int 0, .int 0, .int 0, .int 0, .int 0, .int 0, .ref h36, .ref h37, .int 0, .int 0, .int 0, .int 0])), (h1, .inl (k0, 2000, .inl f972))] H := by rw [ef972]; exact hP
  have hD : va_D A [(h0, .inr (14, [.ref h1, .int 13, .ref h2, .int 0, .ref h3, .int 0, .int 0, .ref h4, .int (-1), .int 0, .int 0, .ref h5, .int 0, .ref h6, .ref h7, .ref h8, .ref h9, .ref h10, .int 0, .ref h11, .int 0, .int 0, .ref h12, .ref h13, .ref h14, .ref h15, .int 0, .ref h16, .ref h17, .int 0, .ref h18, .ref h19, .ref h20, .ref h21, .int 0, .int 0, .int 0, .ref h22, .int 0, .int 0, .ref h23, .ref h24, .ref h25, .ref h26, .int 0, .int 0, .int 0, .int 0, .int 0, .int 0, .int 0, .int 0, .int 0, .int 0, .int 0, .int 0, .int (-1), .int 0, .ref h27, .int 0, .ref h28, .int 0, .int 0, .int 0, .int 0, .int 0, .ref h29, .ref h30, .int 0, .int 0, .ref h31, .ref h32, .ref h33, .ref h34, .long 0, .ref h35, .int 0, .int 0, .int 0, .int 0, .int 0, .int 0, .int 0, .ref h36, .ref h37, .int 0, .int 0, .int 0, .int 0])), (h1, .inl (k0, 2000, .inl f972))] := by rw [ef972]; exact hD
  refine lv_aload_n hx hb dX13_feed_99 rfl (lv_at hl 2 rfl) ?_
  refine lv_dup hx hb dX13_feed_100 rfl ?_
  refine va_get (D := (dC, dI)) (ci := 14) (v := .int 13) (C := RX13) (T := TX13) (N := 89) hx hb ht inX13 hown hK hP 0 rfl rfl 1 (by decide) (ht _ mW1884) (fun _ h9 => h9) rfl dX13_feed_101 ?_
  refine lv_iconst (v := 1) hx hb dX13_feed_104 (by decide) ?_
  refine lv_iadd hx hb dX13_feed_105 ?_
  refine W.eq (congrArg (fun z => F0 m 106 ls (.int z :: [.ref h0])) (by decide : (13 + 1 : Int32) = 14)) ?_
  refine va_put (D := (dC, dI)) (ci := 14) (v := .int 14) (ty := .int) (C := RX13) (T := TX13) (N := 89) hx hb ht inX13 tyX13 tyX13_ok nmX13 hown hK hP hD hS 0 rfl rfl 1 (by decide) (ht _ mW1884) (fun _ h9 => h9) rfl (by decide +kernel) rfl rfl (Nat.le_of_ble_eq_true rfl) dX13_feed_106 (fun H locs hP hD hS => ?_)
  have hP : va_P (dC, dI) vwCl [(h0, .inr (14, [.ref h1, .int 14, .ref h2, .int 0, .ref h3, .int 0, .int 0, .ref h4, .int (-1), .int 0, .int 0, .ref h5, .int 0, .ref h6, .ref h7, .ref h8, .ref h9, .ref h10, .int 0, .ref h11, .int 0, .int 0, .ref h12, .ref h13, .ref h14, .ref h15, .int 0, .ref h16, .ref h17, .int 0, .ref h18, .ref h19, .ref h20, .ref h21, .int 0, .int 0, .int 0, .ref h22, .int 0, .int 0, .ref h23, .ref h24, .ref h25, .ref h26, .int 0, .int 0, .int 0, .int 0, .int 0, .int 0, .int 0, .int 0, .int 0, .int 0, .int 0, .int 0, .int (-1), .int 0, .ref h27, .int 0, .ref h28, .int 0, .int 0, .int 0, .int 0, .int 0, .ref h29, .ref h30, .int 0, .int 0, .ref h31, .ref h32, .ref h33, .ref h34, .long 0, .ref h35, .int 0, .int 0, .int 0, .int 0, .int 0, .int 0, .int 0, .ref h36, .ref h37, .int 0, .int 0, .int 0, .int 0])), (h1, .inl (k0, 2000, .inl f972))] H := hP
  have hD : va_D A [(h0, .inr (14, [.ref h1, .int 14, .ref h2, .int 0, .ref h3, .int 0, .int 0, .ref h4, .int (-1), .int 0, .int 0, .ref h5, .int 0, .ref h6, .ref h7, .ref h8, .ref h9, .ref h10, .int 0, .ref h11, .int 0, .int 0, .ref h12, .ref h13, .ref h14, .ref h15, .int 0, .ref h16, .ref h17, .int 0, .ref h18, .ref h19, .ref h20, .ref h21, .int 0, .int 0, .int 0, .ref h22, .int 0, .int 0, .ref h23, .ref h24, .ref h25, .ref h26, .int 0, .int 0, .int 0, .int 0, .int 0, .int 0, .int 0, .int 0, .int 0, .int 0, .int 0, .int 0, .int (-1), .int 0, .ref h27, .int 0, .ref h28, .int 0, .int 0, .int 0, .int 0, .int 0, .ref h29, .ref h30, .int 0, .int 0, .ref h31, .ref h32, .ref h33, .ref h34, .long 0, .ref h35, .int 0, .int 0, .int 0, .int 0, .int 0, .int 0, .int 0, .ref h36, .ref h37, .int 0, .int 0, .int 0, .int 0])), (h1, .inl (k0, 2000, .inl f972))] := hD
  refine lv_iinc (v := 14) (lv' := [(6, .int 14), (7, .int x3), (0, .ref h0), (1, .int x0), (2, .int x1), (3, .int x2), (4, .int x3), (5, .int x4)]) hx hb dX13_feed_109 hl (k := 1) rfl (by decide) (by decide) rfl (fun ls hl => ?_)
  refine lv_goto (tgt := 18) hx hb dX13_feed_112 (by decide) ?_
  refine lv_iload hx hb dX13_feed_18 (lv_at hl 0 rfl) ?_
  refine lv_bipush (v := 20) hx hb dX13_feed_20 (by decide) ?_
  refine lv_icmp_ge (tgt := 115) hx hb dX13_feed_22 (by decide) (fun c => absurd c (by decide)) (fun _ => ?_)
  refine lv_iload hx hb dX13_feed_25 (lv_at hl 0 rfl) ?_
  refine lv_iconst (v := 4) hx hb dX13_feed_27 (by decide) ?_
  refine lv_icmp_ge (tgt := 35) hx hb dX13_feed_28 (by decide) (fun _ => ?_) (fun c => absurd (by decide) c)
  refine lv_iload hx hb dX13_feed_35 (lv_at hl 0 rfl) ?_
  refine lv_bipush (v := 8) hx hb dX13_feed_37 (by decide) ?_
  refine lv_icmp_ge (tgt := 46) hx hb dX13_feed_39 (by decide) (fun _ => ?_) (fun c => absurd (by decide) c)
  refine lv_iload hx hb dX13_feed_46 (lv_at hl 0 rfl) ?_
  refine lv_bipush (v := 12) hx hb dX13_feed_48 (by decide) ?_
  refine lv_icmp_ge (tgt := 57) hx hb dX13_feed_50 (by decide) (fun _ => ?_) (fun c => absurd (by decide) c)
  refine lv_iload hx hb dX13_feed_57 (lv_at hl 0 rfl) ?_
  refine lv_bipush (v := 16) hx hb dX13_feed_59 (by decide) ?_
  refine lv_icmp_ge (tgt := 69) hx hb dX13_feed_61 (by decide) (fun c => absurd c (by decide)) (fun _ => ?_)
  refine lv_iload hx hb dX13_feed_64 (lv_at hl 6 rfl) ?_
  refine lv_goto (tgt := 71) hx hb dX13_feed_66 (by decide) ?_
  refine lv_istore (lv' := [(7, .int x3), (6, .int 14), (0, .ref h0), (1, .int x0), (2, .int x1), (3, .int x2), (4, .int x3), (5, .int x4)]) hx hb dX13_feed_71 hl (by decide) rfl (fun ls hl => ?_)
  refine lv_aload_n hx hb dX13_feed_73 rfl (lv_at hl 2 rfl) ?_
  refine va_get (D := (dC, dI)) (ci := 14) (v := .ref h1) (C := RX13) (T := TX13) (N := 89) hx hb ht inX13 hown hK hP 0 rfl rfl 0 (by decide) (ht _ mW1883) (fun _ h9 => h9) rfl dX13_feed_74 ?_
  refine lv_aload_n hx hb dX13_feed_77 rfl (lv_at hl 2 rfl) ?_
  refine va_get (D := (dC, dI)) (ci := 14) (v := .int 14) (C := RX13) (T := TX13) (N := 89) hx hb ht inX13 hown hK hP 0 rfl rfl 1 (by decide) (ht _ mW1884) (fun _ h9 => h9) rfl dX13_feed_78 ?_
  refine lv_iload hx hb dX13_feed_81 (lv_at hl 0 rfl) ?_
  refine lv_bipush (v := 24) hx hb dX13_feed_83 (by decide) ?_
  refine lv_bipush (v := 8) hx hb dX13_feed_85 (by decide) ?_
  refine lv_iload hx hb dX13_feed_87 (lv_at hl 1 rfl) ?_
  refine lv_iconst (v := 4) hx hb dX13_feed_89 (by decide) ?_
  refine lv_irem hx hb dX13_feed_90 (by decide) ?_
  refine W.eq (congrArg (fun z => F0 m 91 ls (.int z :: [.int 8, .int 24, .int x3, .int 14, .ref h1])) (by decide : (14 - 14 / 4 * 4 : Int32) = 2)) ?_
  refine lv_imul hx hb dX13_feed_91 ?_
  refine W.eq (congrArg (fun z => F0 m 92 ls (.int z :: [.int 24, .int x3, .int 14, .ref h1])) (by decide : (8 * 2 : Int32) = 16)) ?_
  refine lv_isub hx hb dX13_feed_92 ?_
  refine W.eq (congrArg (fun z => F0 m 93 ls (.int z :: [.int x3, .int 14, .ref h1])) (by decide : (24 - 16 : Int32) = 8)) ?_
  refine lv_ishr hx hb dX13_feed_93 ?_
  refine lv_topi (fun n973 en973 => ?_)
  refine lv_sipush (v := 255) hx hb dX13_feed_94 (by decide) ?_
  refine lv_iand hx hb dX13_feed_97 ?_
  refine lv_topi (fun n974 en974 => ?_)
  refine va_iast hx hb hK hP hD hS 1 0 rfl rfl (by unfold vp_in; decide) dX13_feed_98 (fun H locs hP hD hS => ?_)
  obtain ⟨f975, ef975⟩ : ∃ z : Nat → Int32, z = upd f972 14 n974 := ⟨_, rfl⟩
  have hP : va_P (dC, dI) vwCl [(h0, .inr (14, [.ref h1, .int 14, .ref h2, .int 0, .ref h3, .int 0, .int 0, .ref h4, .int (-1), .int 0, .int 0, .ref h5, .int 0, .ref h6, .ref h7, .ref h8, .ref h9, .ref h10, .int 0, .ref h11, .int 0, .int 0, .ref h12, .ref h13, .ref h14, .ref h15, .int 0, .ref h16, .ref h17, .int 0, .ref h18, .ref h19, .ref h20, .ref h21, .int 0, .int 0, .int 0, .ref h22, .int 0, .int 0, .ref h23, .ref h24, .ref h25, .ref h26, .int 0, .int 0, .int 0, .int 0, .int 0, .int 0, .int 0, .int 0, .int 0, .int 0, .int 0, .int 0, .int (-1), .int 0, .ref h27, .int 0, .ref h28, .int 0, .int 0, .int 0, .int 0, .int 0, .ref h29, .ref h30, .int 0, .int 0, .ref h31, .ref h32, .ref h33, .ref h34, .long 0, .ref h35, .int 0, .int 0, .int 0, .int 0, .int 0, .int 0, .int 0, .ref h36, .ref h37, .int 0, .int 0, .int 0, .int 0])), (h1, .inl (k0, 2000, .inl f975))] H := by rw [ef975]; exact hP
  have hD : va_D A [(h0, .inr (14, [.ref h1, .int 14, .ref h2, .int 0, .ref h3, .int 0, .int 0, .ref h4, .int (-1), .int 0, .int 0, .ref h5, .int 0, .ref h6, .ref h7, .ref h8, .ref h9, .ref h10, .int 0, .ref h11, .int 0, .int 0, .ref h12, .ref h13, .ref h14, .ref h15, .int 0, .ref h16, .ref h17, .int 0, .ref h18, .ref h19, .ref h20, .ref h21, .int 0, .int 0, .int 0, .ref h22, .int 0, .int 0, .ref h23, .ref h24, .ref h25, .ref h26, .int 0, .int 0, .int 0, .int 0, .int 0, .int 0, .int 0, .int 0, .int 0, .int 0, .int 0, .int 0, .int (-1), .int 0, .ref h27, .int 0, .ref h28, .int 0, .int 0, .int 0, .int 0, .int 0, .ref h29, .ref h30, .int 0, .int 0, .ref h31, .ref h32, .ref h33, .ref h34, .long 0, .ref h35, .int 0, .int 0, .int 0, .int 0, .int 0, .int 0, .int 0, .ref h36, .ref h37, .int 0, .int 0, .int 0, .int 0])), (h1, .inl (k0, 2000, .inl f975))] := by rw [ef975]; exact hD
  refine lv_aload_n hx hb dX13_feed_99 rfl (lv_at hl 2 rfl) ?_
  refine lv_dup hx hb dX13_feed_100 rfl ?_
  refine va_get (D := (dC, dI)) (ci := 14) (v := .int 14) (C := RX13) (T := TX13) (N := 89) hx hb ht inX13 hown hK hP 0 rfl rfl 1 (by decide) (ht _ mW1884) (fun _ h9 => h9) rfl dX13_feed_101 ?_
  refine lv_iconst (v := 1) hx hb dX13_feed_104 (by decide) ?_
  refine lv_iadd hx hb dX13_feed_105 ?_
  refine W.eq (congrArg (fun z => F0 m 106 ls (.int z :: [.ref h0])) (by decide : (14 + 1 : Int32) = 15)) ?_
  refine va_put (D := (dC, dI)) (ci := 14) (v := .int 15) (ty := .int) (C := RX13) (T := TX13) (N := 89) hx hb ht inX13 tyX13 tyX13_ok nmX13 hown hK hP hD hS 0 rfl rfl 1 (by decide) (ht _ mW1884) (fun _ h9 => h9) rfl (by decide +kernel) rfl rfl (Nat.le_of_ble_eq_true rfl) dX13_feed_106 (fun H locs hP hD hS => ?_)
  have hP : va_P (dC, dI) vwCl [(h0, .inr (14, [.ref h1, .int 15, .ref h2, .int 0, .ref h3, .int 0, .int 0, .ref h4, .int (-1), .int 0, .int 0, .ref h5, .int 0, .ref h6, .ref h7, .ref h8, .ref h9, .ref h10, .int 0, .ref h11, .int 0, .int 0, .ref h12, .ref h13, .ref h14, .ref h15, .int 0, .ref h16, .ref h17, .int 0, .ref h18, .ref h19, .ref h20, .ref h21, .int 0, .int 0, .int 0, .ref h22, .int 0, .int 0, .ref h23, .ref h24, .ref h25, .ref h26, .int 0, .int 0, .int 0, .int 0, .int 0, .int 0, .int 0, .int 0, .int 0, .int 0, .int 0, .int 0, .int (-1), .int 0, .ref h27, .int 0, .ref h28, .int 0, .int 0, .int 0, .int 0, .int 0, .ref h29, .ref h30, .int 0, .int 0, .ref h31, .ref h32, .ref h33, .ref h34, .long 0, .ref h35, .int 0, .int 0, .int 0, .int 0, .int 0, .int 0, .int 0, .ref h36, .ref h37, .int 0, .int 0, .int 0, .int 0])), (h1, .inl (k0, 2000, .inl f975))] H := hP
  have hD : va_D A [(h0, .inr (14, [.ref h1, .int 15, .ref h2, .int 0, .ref h3, .int 0, .int 0, .ref h4, .int (-1), .int 0, .int 0, .ref h5, .int 0, .ref h6, .ref h7, .ref h8, .ref h9, .ref h10, .int 0, .ref h11, .int 0, .int 0, .ref h12, .ref h13, .ref h14, .ref h15, .int 0, .ref h16, .ref h17, .int 0, .ref h18, .ref h19, .ref h20, .ref h21, .int 0, .int 0, .int 0, .ref h22, .int 0, .int 0, .ref h23, .ref h24, .ref h25, .ref h26, .int 0, .int 0, .int 0, .int 0, .int 0, .int 0, .int 0, .int 0, .int 0, .int 0, .int 0, .int 0, .int (-1), .int 0, .ref h27, .int 0, .ref h28, .int 0, .int 0, .int 0, .int 0, .int 0, .ref h29, .ref h30, .int 0, .int 0, .ref h31, .ref h32, .ref h33, .ref h34, .long 0, .ref h35, .int 0, .int 0, .int 0, .int 0, .int 0, .int 0, .int 0, .ref h36, .ref h37, .int 0, .int 0, .int 0, .int 0])), (h1, .inl (k0, 2000, .inl f975))] := hD
  refine lv_iinc (v := 15) (lv' := [(6, .int 15), (7, .int x3), (0, .ref h0), (1, .int x0), (2, .int x1), (3, .int x2), (4, .int x3), (5, .int x4)]) hx hb dX13_feed_109 hl (k := 1) rfl (by decide) (by decide) rfl (fun ls hl => ?_)
  refine lv_goto (tgt := 18) hx hb dX13_feed_112 (by decide) ?_
  refine lv_iload hx hb dX13_feed_18 (lv_at hl 0 rfl) ?_
  refine lv_bipush (v := 20) hx hb dX13_feed_20 (by decide) ?_
  refine lv_icmp_ge (tgt := 115) hx hb dX13_feed_22 (by decide) (fun c => absurd c (by decide)) (fun _ => ?_)
  refine lv_iload hx hb dX13_feed_25 (lv_at hl 0 rfl) ?_
  refine lv_iconst (v := 4) hx hb dX13_feed_27 (by decide) ?_
  refine lv_icmp_ge (tgt := 35) hx hb dX13_feed_28 (by decide) (fun _ => ?_) (fun c => absurd (by decide) c)
  refine lv_iload hx hb dX13_feed_35 (lv_at hl 0 rfl) ?_
  refine lv_bipush (v := 8) hx hb dX13_feed_37 (by decide) ?_
  refine lv_icmp_ge (tgt := 46) hx hb dX13_feed_39 (by decide) (fun _ => ?_) (fun c => absurd (by decide) c)
  refine lv_iload hx hb dX13_feed_46 (lv_at hl 0 rfl) ?_
  refine lv_bipush (v := 12) hx hb dX13_feed_48 (by decide) ?_
  refine lv_icmp_ge (tgt := 57) hx hb dX13_feed_50 (by decide) (fun _ => ?_) (fun c => absurd (by decide) c)
  refine lv_iload hx hb dX13_feed_57 (lv_at hl 0 rfl) ?_
  refine lv_bipush (v := 16) hx hb dX13_feed_59 (by decide) ?_
  refine lv_icmp_ge (tgt := 69) hx hb dX13_feed_61 (by decide) (fun c => absurd c (by decide)) (fun _ => ?_)
  refine lv_iload hx hb dX13_feed_64 (lv_at hl 6 rfl) ?_
  refine lv_goto (tgt := 71) hx hb dX13_feed_66 (by decide) ?_
  refine lv_istore (lv' := [(7, .int x3), (6, .int 15), (0, .ref h0), (1, .int x0), (2, .int x1), (3, .int x2), (4, .int x3), (5, .int x4)]) hx hb dX13_feed_71 hl (by decide) rfl (fun ls hl => ?_)
  refine lv_aload_n hx hb dX13_feed_73 rfl (lv_at hl 2 rfl) ?_
  refine va_get (D := (dC, dI)) (ci := 14) (v := .ref h1) (C := RX13) (T := TX13) (N := 89) hx hb ht inX13 hown hK hP 0 rfl rfl 0 (by decide) (ht _ mW1883) (fun _ h9 => h9) rfl dX13_feed_74 ?_
  refine lv_aload_n hx hb dX13_feed_77 rfl (lv_at hl 2 rfl) ?_
  refine va_get (D := (dC, dI)) (ci := 14) (v := .int 15) (C := RX13) (T := TX13) (N := 89) hx hb ht inX13 hown hK hP 0 rfl rfl 1 (by decide) (ht _ mW1884) (fun _ h9 => h9) rfl dX13_feed_78 ?_
  refine lv_iload hx hb dX13_feed_81 (lv_at hl 0 rfl) ?_
  refine lv_bipush (v := 24) hx hb dX13_feed_83 (by decide) ?_
  refine lv_bipush (v := 8) hx hb dX13_feed_85 (by decide) ?_
  refine lv_iload hx hb dX13_feed_87 (lv_at hl 1 rfl) ?_
  refine lv_iconst (v := 4) hx hb dX13_feed_89 (by decide) ?_
  refine lv_irem hx hb dX13_feed_90 (by decide) ?_
  refine W.eq (congrArg (fun z => F0 m 91 ls (.int z :: [.int 8, .int 24, .int x3, .int 15, .ref h1])) (by decide : (15 - 15 / 4 * 4 : Int32) = 3)) ?_
  refine lv_imul hx hb dX13_feed_91 ?_
  refine W.eq (congrArg (fun z => F0 m 92 ls (.int z :: [.int 24, .int x3, .int 15, .ref h1])) (by decide : (8 * 3 : Int32) = 24)) ?_
  refine lv_isub hx hb dX13_feed_92 ?_
  refine W.eq (congrArg (fun z => F0 m 93 ls (.int z :: [.int x3, .int 15, .ref h1])) (by decide : (24 - 24 : Int32) = 0)) ?_
  refine lv_ishr hx hb dX13_feed_93 ?_
  refine lv_topi (fun n976 en976 => ?_)
  refine lv_sipush (v := 255) hx hb dX13_feed_94 (by decide) ?_
  refine lv_iand hx hb dX13_feed_97 ?_
  refine lv_topi (fun n977 en977 => ?_)
  refine va_iast hx hb hK hP hD hS 1 0 rfl rfl (by unfold vp_in; decide) dX13_feed_98 (fun H locs hP hD hS => ?_)
  obtain ⟨f978, ef978⟩ : ∃ z : Nat → Int32, z = upd f975 15 n977 := ⟨_, rfl⟩
  have hP : va_P (dC, dI) vwCl [(h0, .inr (14, [.ref h1, .int 15, .ref h2, .int 0, .ref h3, .int 0, .int 0, .ref h4, .int (-1), .int 0, .int 0, .ref h5, .int 0, .ref h6, .ref h7, .ref h8, .ref h9, .ref h10, .int 0, .ref h11, .int 0, .int 0, .ref h12, .ref h13, .ref h14, .ref h15, .int 0, .ref h16, .ref h17, .int 0, .ref h18, .ref h19, .ref h20, .ref h21, .int 0, .int 0, .int 0, .ref h22, .int 0, .int 0, .ref h23, .ref h24, .ref h25, .ref h26, .int 0, .int 0, .int 0, .int 0, .int 0, .int 0, .int 0, .int 0, .int 0, .int 0, .int 0, .int 0, .int (-1), .int 0, .ref h27, .int 0, .ref h28, .int 0, .int 0, .int 0, .int 0, .int 0, .ref h29, .ref h30, .int 0, .int 0, .ref h31, .ref h32, .ref h33, .ref h34, .long 0, .ref h35, .int 0, .int 0, .int 0, .int 0, .int 0, .int 0, .int 0, .ref h36, .ref h37, .int 0, .int 0, .int 0, .int 0])), (h1, .inl (k0, 2000, .inl f978))] H := by rw [ef978]; exact hP
  have hD : va_D A [(h0, .inr (14, [.ref h1, .int 15, .ref h2, .int 0, .ref h3, .int 0, .int 0, .ref h4, .int (-1), .int 0, .int 0, .ref h5, .int 0, .ref h6, .ref h7, .ref h8, .ref h9, .ref h10, .int 0, .ref h11, .int 0, .int 0, .ref h12, .ref h13, .ref h14, .ref h15, .int 0, .ref h16, .ref h17, .int 0, .ref h18, .ref h19, .ref h20, .ref h21, .int 0, .int 0, .int 0, .ref h22, .int 0, .int 0, .ref h23, .ref h24, .ref h25, .ref h26, .int 0, .int 0, .int 0, .int 0, .int 0, .int 0, .int 0, .int 0, .int 0, .int 0, .int 0, .int 0, .int (-1), .int 0, .ref h27, .int 0, .ref h28, .int 0, .int 0, .int 0, .int 0, .int 0, .ref h29, .ref h30, .int 0, .int 0, .ref h31, .ref h32, .ref h33, .ref h34, .long 0, .ref h35, .int 0, .int 0, .int 0, .int 0, .int 0, .int 0, .int 0, .ref h36, .ref h37, .int 0, .int 0, .int 0, .int 0])), (h1, .inl (k0, 2000, .inl f978))] := by rw [ef978]; exact hD
  refine lv_aload_n hx hb dX13_feed_99 rfl (lv_at hl 2 rfl) ?_
  refine lv_dup hx hb dX13_feed_100 rfl ?_
  refine va_get (D := (dC, dI)) (ci := 14) (v := .int 15) (C := RX13) (T := TX13) (N := 89) hx hb ht inX13 hown hK hP 0 rfl rfl 1 (by decide) (ht _ mW1884) (fun _ h9 => h9) rfl dX13_feed_101 ?_
  refine lv_iconst (v := 1) hx hb dX13_feed_104 (by decide) ?_
  refine lv_iadd hx hb dX13_feed_105 ?_
  refine W.eq (congrArg (fun z => F0 m 106 ls (.int z :: [.ref h0])) (by decide : (15 + 1 : Int32) = 16)) ?_
  refine va_put (D := (dC, dI)) (ci := 14) (v := .int 16) (ty := .int) (C := RX13) (T := TX13) (N := 89) hx hb ht inX13 tyX13 tyX13_ok nmX13 hown hK hP hD hS 0 rfl rfl 1 (by decide) (ht _ mW1884) (fun _ h9 => h9) rfl (by decide +kernel) rfl rfl (Nat.le_of_ble_eq_true rfl) dX13_feed_106 (fun H locs hP hD hS => ?_)
  have hP : va_P (dC, dI) vwCl [(h0, .inr (14, [.ref h1, .int 16, .ref h2, .int 0, .ref h3, .int 0, .int 0, .ref h4, .int (-1), .int 0, .int 0, .ref h5, .int 0, .ref h6, .ref h7, .ref h8, .ref h9, .ref h10, .int 0, .ref h11, .int 0, .int 0, .ref h12, .ref h13, .ref h14, .ref h15, .int 0, .ref h16, .ref h17, .int 0, .ref h18, .ref h19, .ref h20, .ref h21, .int 0, .int 0, .int 0, .ref h22, .int 0, .int 0, .ref h23, .ref h24, .ref h25, .ref h26, .int 0, .int 0, .int 0, .int 0, .int 0, .int 0, .int 0, .int 0, .int 0, .int 0, .int 0, .int 0, .int (-1), .int 0, .ref h27, .int 0, .ref h28, .int 0, .int 0, .int 0, .int 0, .int 0, .ref h29, .ref h30, .int 0, .int 0, .ref h31, .ref h32, .ref h33, .ref h34, .long 0, .ref h35, .int 0, .int 0, .int 0, .int 0, .int 0, .int 0, .int 0, .ref h36, .ref h37, .int 0, .int 0, .int 0, .int 0])), (h1, .inl (k0, 2000, .inl f978))] H := hP
  have hD : va_D A [(h0, .inr (14, [.ref h1, .int 16, .ref h2, .int 0, .ref h3, .int 0, .int 0, .ref h4, .int (-1), .int 0, .int 0, .ref h5, .int 0, .ref h6, .ref h7, .ref h8, .ref h9, .ref h10, .int 0, .ref h11, .int 0, .int 0, .ref h12, .ref h13, .ref h14, .ref h15, .int 0, .ref h16, .ref h17, .int 0, .ref h18, .ref h19, .ref h20, .ref h21, .int 0, .int 0, .int 0, .ref h22, .int 0, .int 0, .ref h23, .ref h24, .ref h25, .ref h26, .int 0, .int 0, .int 0, .int 0, .int 0, .int 0, .int 0, .int 0, .int 0, .int 0, .int 0, .int 0, .int (-1), .int 0, .ref h27, .int 0, .ref h28, .int 0, .int 0, .int 0, .int 0, .int 0, .ref h29, .ref h30, .int 0, .int 0, .ref h31, .ref h32, .ref h33, .ref h34, .long 0, .ref h35, .int 0, .int 0, .int 0, .int 0, .int 0, .int 0, .int 0, .ref h36, .ref h37, .int 0, .int 0, .int 0, .int 0])), (h1, .inl (k0, 2000, .inl f978))] := hD
  refine lv_iinc (v := 16) (lv' := [(6, .int 16), (7, .int x3), (0, .ref h0), (1, .int x0), (2, .int x1), (3, .int x2), (4, .int x3), (5, .int x4)]) hx hb dX13_feed_109 hl (k := 1) rfl (by decide) (by decide) rfl (fun ls hl => ?_)
  refine lv_goto (tgt := 18) hx hb dX13_feed_112 (by decide) ?_
  refine lv_iload hx hb dX13_feed_18 (lv_at hl 0 rfl) ?_
  refine lv_bipush (v := 20) hx hb dX13_feed_20 (by decide) ?_
  refine lv_icmp_ge (tgt := 115) hx hb dX13_feed_22 (by decide) (fun c => absurd c (by decide)) (fun _ => ?_)
  refine lv_iload hx hb dX13_feed_25 (lv_at hl 0 rfl) ?_
  refine lv_iconst (v := 4) hx hb dX13_feed_27 (by decide) ?_
  refine lv_icmp_ge (tgt := 35) hx hb dX13_feed_28 (by decide) (fun _ => ?_) (fun c => absurd (by decide) c)
  refine lv_iload hx hb dX13_feed_35 (lv_at hl 0 rfl) ?_
  refine lv_bipush (v := 8) hx hb dX13_feed_37 (by decide) ?_
  refine lv_icmp_ge (tgt := 46) hx hb dX13_feed_39 (by decide) (fun _ => ?_) (fun c => absurd (by decide) c)
  refine lv_iload hx hb dX13_feed_46 (lv_at hl 0 rfl) ?_
  refine lv_bipush (v := 12) hx hb dX13_feed_48 (by decide) ?_
  refine lv_icmp_ge (tgt := 57) hx hb dX13_feed_50 (by decide) (fun _ => ?_) (fun c => absurd (by decide) c)
  refine lv_iload hx hb dX13_feed_57 (lv_at hl 0 rfl) ?_
  refine lv_bipush (v := 16) hx hb dX13_feed_59 (by decide) ?_
  refine lv_icmp_ge (tgt := 69) hx hb dX13_feed_61 (by decide) (fun _ => ?_) (fun c => absurd (by decide) c)
  refine lv_iload hx hb dX13_feed_69 (lv_at hl 7 rfl) ?_
  refine lv_istore (lv' := [(7, .int x4), (6, .int 16), (0, .ref h0), (1, .int x0), (2, .int x1), (3, .int x2), (4, .int x3), (5, .int x4)]) hx hb dX13_feed_71 hl (by decide) rfl (fun ls hl => ?_)
  refine lv_aload_n hx hb dX13_feed_73 rfl (lv_at hl 2 rfl) ?_
  refine va_get (D := (dC, dI)) (ci := 14) (v := .ref h1) (C := RX13) (T := TX13) (N := 89) hx hb ht inX13 hown hK hP 0 rfl rfl 0 (by decide) (ht _ mW1883) (fun _ h9 => h9) rfl dX13_feed_74 ?_
  refine lv_aload_n hx hb dX13_feed_77 rfl (lv_at hl 2 rfl) ?_
  refine va_get (D := (dC, dI)) (ci := 14) (v := .int 16) (C := RX13) (T := TX13) (N := 89) hx hb ht inX13 hown hK hP 0 rfl rfl 1 (by decide) (ht _ mW1884) (fun _ h9 => h9) rfl dX13_feed_78 ?_
  refine lv_iload hx hb dX13_feed_81 (lv_at hl 0 rfl) ?_
  refine lv_bipush (v := 24) hx hb dX13_feed_83 (by decide) ?_
  refine lv_bipush (v := 8) hx hb dX13_feed_85 (by decide) ?_
  refine lv_iload hx hb dX13_feed_87 (lv_at hl 1 rfl) ?_
  refine lv_iconst (v := 4) hx hb dX13_feed_89 (by decide) ?_
  refine lv_irem hx hb dX13_feed_90 (by decide) ?_
  refine W.eq (congrArg (fun z => F0 m 91 ls (.int z :: [.int 8, .int 24, .int x4, .int 16, .ref h1])) (by decide : (16 - 16 / 4 * 4 : Int32) = 0)) ?_
  refine lv_imul hx hb dX13_feed_91 ?_
  refine W.eq (congrArg (fun z => F0 m 92 ls (.int z :: [.int 24, .int x4, .int 16, .ref h1])) (by decide : (8 * 0 : Int32) = 0)) ?_
  refine lv_isub hx hb dX13_feed_92 ?_
  refine W.eq (congrArg (fun z => F0 m 93 ls (.int z :: [.int x4, .int 16, .ref h1])) (by decide : (24 - 0 : Int32) = 24)) ?_
  refine lv_ishr hx hb dX13_feed_93 ?_
  refine lv_topi (fun n979 en979 => ?_)
  refine lv_sipush (v := 255) hx hb dX13_feed_94 (by decide) ?_
  refine lv_iand hx hb dX13_feed_97 ?_
  refine lv_topi (fun n980 en980 => ?_)
  refine va_iast hx hb hK hP hD hS 1 0 rfl rfl (by unfold vp_in; decide) dX13_feed_98 (fun H locs hP hD hS => ?_)
  obtain ⟨f981, ef981⟩ : ∃ z : Nat → Int32, z = upd f978 16 n980 := ⟨_, rfl⟩
  have hP : va_P (dC, dI) vwCl [(h0, .inr (14, [.ref h1, .int 16, .ref h2, .int 0, .ref h3, .int 0, .int 0, .ref h4, .int (-1), .int 0, .int 0, .ref h5, .int 0, .ref h6, .ref h7, .ref h8, .ref h9, .ref h10, .int 0, .ref h11, .int 0, .int 0, .ref h12, .ref h13, .ref h14, .ref h15, .int 0, .ref h16, .ref h17, .int 0, .ref h18, .ref h19, .ref h20, .ref h21, .int 0, .int 0, .int 0, .ref h22, .int 0, .int 0, .ref h23, .ref h24, .ref h25, .ref h26, .int 0, .int 0, .int 0, .int 0, .int 0, .int 0, .int 0, .int 0, .int 0, .int 0, .int 0, .int 0, .int (-1), .int 0, .ref h27, .int 0, .ref h28, .int 0, .int 0, .int 0, .int 0, .int 0, .ref h29, .ref h30, .int 0, .int 0, .ref h31, .ref h32, .ref h33, .ref h34, .long 0, .ref h35, .int 0, .int 0, .int 0, .int 0, .int 0, .int 0, .int 0, .ref h36, .ref h37, .int 0, .int 0, .int 0, .int 0])), (h1, .inl (k0, 2000, .inl f981))] H := by rw [ef981]; exact hP
  have hD : va_D A [(h0, .inr (14, [.ref h1, .int 16, .ref h2, .int 0, .ref h3, .int 0, .int 0, .ref h4, .int (-1), .int 0, .int 0, .ref h5, .int 0, .ref h6, .ref h7, .ref h8, .ref h9, .ref h10, .int 0, .ref h11, .int 0, .int 0, .ref h12, .ref h13, .ref h14, .ref h15, .int 0, .ref h16, .ref h17, .int 0, .ref h18, .ref h19, .ref h20, .ref h21, .int 0, .int 0, .int 0, .ref h22, .int 0, .int 0, .ref h23, .ref h24, .ref h25, .ref h26, .int 0, .int 0, .int 0, .int 0, .int 0, .int 0, .int 0, .int 0, .int 0, .int 0, .int 0, .int 0, .int (-1), .int 0, .ref h27, .int 0, .ref h28, .int 0, .int 0, .int 0, .int 0, .int 0, .ref h29, .ref h30, .int 0, .int 0, .ref h31, .ref h32, .ref h33, .ref h34, .long 0, .ref h35, .int 0, .int 0, .int 0, .int 0, .int 0, .int 0, .int 0, .ref h36, .ref h37, .int 0, .int 0, .int 0, .int 0])), (h1, .inl (k0, 2000, .inl f981))] := by rw [ef981]; exact hD
  refine lv_aload_n hx hb dX13_feed_99 rfl (lv_at hl 2 rfl) ?_
  refine lv_dup hx hb dX13_feed_100 rfl ?_
  refine va_get (D := (dC, dI)) (ci := 14) (v := .int 16) (C := RX13) (T := TX13) (N := 89) hx hb ht inX13 hown hK hP 0 rfl rfl 1 (by decide) (ht _ mW1884) (fun _ h9 => h9) rfl dX13_feed_101 ?_
  refine lv_iconst (v := 1) hx hb dX13_feed_104 (by decide) ?_
  refine lv_iadd hx hb dX13_feed_105 ?_
  refine W.eq (congrArg (fun z => F0 m 106 ls (.int z :: [.ref h0])) (by decide : (16 + 1 : Int32) = 17)) ?_
  refine va_put (D := (dC, dI)) (ci := 14) (v := .int 17) (ty := .int) (C := RX13) (T := TX13) (N := 89) hx hb ht inX13 tyX13 tyX13_ok nmX13 hown hK hP hD hS 0 rfl rfl 1 (by decide) (ht _ mW1884) (fun _ h9 => h9) rfl (by decide +kernel) rfl rfl (Nat.le_of_ble_eq_true rfl) dX13_feed_106 (fun H locs hP hD hS => ?_)
  have hP : va_P (dC, dI) vwCl [(h0, .inr (14, [.ref h1, .int 17, .ref h2, .int 0, .ref h3, .int 0, .int 0, .ref h4, .int (-1), .int 0, .int 0, .ref h5, .int 0, .ref h6, .ref h7, .ref h8, .ref h9, .ref h10, .int 0, .ref h11, .int 0, .int 0, .ref h12, .ref h13, .ref h14, .ref h15, .int 0, .ref h16, .ref h17, .int 0, .ref h18, .ref h19, .ref h20, .ref h21, .int 0, .int 0, .int 0, .ref h22, .int 0, .int 0, .ref h23, .ref h24, .ref h25, .ref h26, .int 0, .int 0, .int 0, .int 0, .int 0, .int 0, .int 0, .int 0, .int 0, .int 0, .int 0, .int 0, .int (-1), .int 0, .ref h27, .int 0, .ref h28, .int 0, .int 0, .int 0, .int 0, .int 0, .ref h29, .ref h30, .int 0, .int 0, .ref h31, .ref h32, .ref h33, .ref h34, .long 0, .ref h35, .int 0, .int 0, .int 0, .int 0, .int 0, .int 0, .int 0, .ref h36, .ref h37, .int 0, .int 0, .int 0, .int 0])), (h1, .inl (k0, 2000, .inl f981))] H := hP
  have hD : va_D A [(h0, .inr (14, [.ref h1, .int 17, .ref h2, .int 0, .ref h3, .int 0, .int 0, .ref h4, .int (-1), .int 0, .int 0, .ref h5, .int 0, .ref h6, .ref h7, .ref h8, .ref h9, .ref h10, .int 0, .ref h11, .int 0, .int 0, .ref h12, .ref h13, .ref h14, .ref h15, .int 0, .ref h16, .ref h17, .int 0, .ref h18, .ref h19, .ref h20, .ref h21, .int 0, .int 0, .int 0, .ref h22, .int 0, .int 0, .ref h23, .ref h24, .ref h25, .ref h26, .int 0, .int 0, .int 0, .int 0, .int 0, .int 0, .int 0, .int 0, .int 0, .int 0, .int 0, .int 0, .int (-1), .int 0, .ref h27, .int 0, .ref h28, .int 0, .int 0, .int 0, .int 0, .int 0, .ref h29, .ref h30, .int 0, .int 0, .ref h31, .ref h32, .ref h33, .ref h34, .long 0, .ref h35, .int 0, .int 0, .int 0, .int 0, .int 0, .int 0, .int 0, .ref h36, .ref h37, .int 0, .int 0, .int 0, .int 0])), (h1, .inl (k0, 2000, .inl f981))] := hD
  refine lv_iinc (v := 17) (lv' := [(6, .int 17), (7, .int x4), (0, .ref h0), (1, .int x0), (2, .int x1), (3, .int x2), (4, .int x3), (5, .int x4)]) hx hb dX13_feed_109 hl (k := 1) rfl (by decide) (by decide) rfl (fun ls hl => ?_)
  refine lv_goto (tgt := 18) hx hb dX13_feed_112 (by decide) ?_
  refine lv_iload hx hb dX13_feed_18 (lv_at hl 0 rfl) ?_
  refine lv_bipush (v := 20) hx hb dX13_feed_20 (by decide) ?_
  refine lv_icmp_ge (tgt := 115) hx hb dX13_feed_22 (by decide) (fun c => absurd c (by decide)) (fun _ => ?_)
  refine lv_iload hx hb dX13_feed_25 (lv_at hl 0 rfl) ?_
  refine lv_iconst (v := 4) hx hb dX13_feed_27 (by decide) ?_
  refine lv_icmp_ge (tgt := 35) hx hb dX13_feed_28 (by decide) (fun _ => ?_) (fun c => absurd (by decide) c)
  refine lv_iload hx hb dX13_feed_35 (lv_at hl 0 rfl) ?_
  refine lv_bipush (v := 8) hx hb dX13_feed_37 (by decide) ?_
  refine lv_icmp_ge (tgt := 46) hx hb dX13_feed_39 (by decide) (fun _ => ?_) (fun c => absurd (by decide) c)
  refine lv_iload hx hb dX13_feed_46 (lv_at hl 0 rfl) ?_
  refine lv_bipush (v := 12) hx hb dX13_feed_48 (by decide) ?_
  refine lv_icmp_ge (tgt := 57) hx hb dX13_feed_50 (by decide) (fun _ => ?_) (fun c => absurd (by decide) c)
  refine lv_iload hx hb dX13_feed_57 (lv_at hl 0 rfl) ?_
  refine lv_bipush (v := 16) hx hb dX13_feed_59 (by decide) ?_
  refine lv_icmp_ge (tgt := 69) hx hb dX13_feed_61 (by decide) (fun _ => ?_) (fun c => absurd (by decide) c)
  refine lv_iload hx hb dX13_feed_69 (lv_at hl 7 rfl) ?_
  refine lv_istore (lv' := [(7, .int x4), (6, .int 17), (0, .ref h0), (1, .int x0), (2, .int x1), (3, .int x2), (4, .int x3), (5, .int x4)]) hx hb dX13_feed_71 hl (by decide) rfl (fun ls hl => ?_)
  refine lv_aload_n hx hb dX13_feed_73 rfl (lv_at hl 2 rfl) ?_
  refine va_get (D := (dC, dI)) (ci := 14) (v := .ref h1) (C := RX13) (T := TX13) (N := 89) hx hb ht inX13 hown hK hP 0 rfl rfl 0 (by decide) (ht _ mW1883) (fun _ h9 => h9) rfl dX13_feed_74 ?_
  refine lv_aload_n hx hb dX13_feed_77 rfl (lv_at hl 2 rfl) ?_
  refine va_get (D := (dC, dI)) (ci := 14) (v := .int 17) (C := RX13) (T := TX13) (N := 89) hx hb ht inX13 hown hK hP 0 rfl rfl 1 (by decide) (ht _ mW1884) (fun _ h9 => h9) rfl dX13_feed_78 ?_
  refine lv_iload hx hb dX13_feed_81 (lv_at hl 0 rfl) ?_
  refine lv_bipush (v := 24) hx hb dX13_feed_83 (by decide) ?_
  refine lv_bipush (v := 8) hx hb dX13_feed_85 (by decide) ?_
  refine lv_iload hx hb dX13_feed_87 (lv_at hl 1 rfl) ?_
  refine lv_iconst (v := 4) hx hb dX13_feed_89 (by decide) ?_
  refine lv_irem hx hb dX13_feed_90 (by decide) ?_
  refine W.eq (congrArg (fun z => F0 m 91 ls (.int z :: [.int 8, .int 24, .int x4, .int 17, .ref h1])) (by decide : (17 - 17 / 4 * 4 : Int32) = 1)) ?_
  refine lv_imul hx hb dX13_feed_91 ?_
  refine W.eq (congrArg (fun z => F0 m 92 ls (.int z :: [.int 24, .int x4, .int 17, .ref h1])) (by decide : (8 * 1 : Int32) = 8)) ?_
  refine lv_isub hx hb dX13_feed_92 ?_
  refine W.eq (congrArg (fun z => F0 m 93 ls (.int z :: [.int x4, .int 17, .ref h1])) (by decide : (24 - 8 : Int32) = 16)) ?_
  refine lv_ishr hx hb dX13_feed_93 ?_
  refine lv_topi (fun n982 en982 => ?_)
  refine lv_sipush (v := 255) hx hb dX13_feed_94 (by decide) ?_
  refine lv_iand hx hb dX13_feed_97 ?_
  refine lv_topi (fun n983 en983 => ?_)
  refine va_iast hx hb hK hP hD hS 1 0 rfl rfl (by unfold vp_in; decide) dX13_feed_98 (fun H locs hP hD hS => ?_)
  obtain ⟨f984, ef984⟩ : ∃ z : Nat → Int32, z = upd f981 17 n983 := ⟨_, rfl⟩
  have hP : va_P (dC, dI) vwCl [(h0, .inr (14, [.ref h1, .int 17, .ref h2, .int 0, .ref h3, .int 0, .int 0, .ref h4, .int (-1), .int 0, .int 0, .ref h5, .int 0, .ref h6, .ref h7, .ref h8, .ref h9, .ref h10, .int 0, .ref h11, .int 0, .int 0, .ref h12, .ref h13, .ref h14, .ref h15, .int 0, .ref h16, .ref h17, .int 0, .ref h18, .ref h19, .ref h20, .ref h21, .int 0, .int 0, .int 0, .ref h22, .int 0, .int 0, .ref h23, .ref h24, .ref h25, .ref h26, .int 0, .int 0, .int 0, .int 0, .int 0, .int 0, .int 0, .int 0, .int 0, .int 0, .int 0, .int 0, .int (-1), .int 0, .ref h27, .int 0, .ref h28, .int 0, .int 0, .int 0, .int 0, .int 0, .ref h29, .ref h30, .int 0, .int 0, .ref h31, .ref h32, .ref h33, .ref h34, .long 0, .ref h35, .int 0, .int 0, .int 0, .int 0, .int 0, .int 0, .int 0, .ref h36, .ref h37, .int 0, .int 0, .int 0, .int 0])), (h1, .inl (k0, 2000, .inl f984))] H := by rw [ef984]; exact hP
  have hD : va_D A [(h0, .inr (14, [.ref h1, .int 17, .ref h2, .int 0, .ref h3, .int 0, .int 0, .ref h4, .int (-1), .int 0, .int 0, .ref h5, .int 0, .ref h6, .ref h7, .ref h8, .ref h9, .ref h10, .int 0, .ref h11, .int 0, .int 0, .ref h12, .ref h13, .ref h14, .ref h15, .int 0, .ref h16, .ref h17, .int 0, .ref h18, .ref h19, .ref h20, .ref h21, .int 0, .int 0, .int 0, .ref h22, .int 0, .int 0, .ref h23, .ref h24, .ref h25, .ref h26, .int 0, .int 0, .int 0, .int 0, .int 0, .int 0, .int 0, .int 0, .int 0, .int 0, .int 0, .int 0, .int (-1), .int 0, .ref h27, .int 0, .ref h28, .int 0, .int 0, .int 0, .int 0, .int 0, .ref h29, .ref h30, .int 0, .int 0, .ref h31, .ref h32, .ref h33, .ref h34, .long 0, .ref h35, .int 0, .int 0, .int 0, .int 0, .int 0, .int 0, .int 0, .ref h36, .ref h37, .int 0, .int 0, .int 0, .int 0])), (h1, .inl (k0, 2000, .inl f984))] := by rw [ef984]; exact hD
  refine lv_aload_n hx hb dX13_feed_99 rfl (lv_at hl 2 rfl) ?_
  refine lv_dup hx hb dX13_feed_100 rfl ?_
  refine va_get (D := (dC, dI)) (ci := 14) (v := .int 17) (C := RX13) (T := TX13) (N := 89) hx hb ht inX13 hown hK hP 0 rfl rfl 1 (by decide) (ht _ mW1884) (fun _ h9 => h9) rfl dX13_feed_101 ?_
  refine lv_iconst (v := 1) hx hb dX13_feed_104 (by decide) ?_
  refine lv_iadd hx hb dX13_feed_105 ?_
  refine W.eq (congrArg (fun z => F0 m 106 ls (.int z :: [.ref h0])) (by decide : (17 + 1 : Int32) = 18)) ?_
  refine va_put (D := (dC, dI)) (ci := 14) (v := .int 18) (ty := .int) (C := RX13) (T := TX13) (N := 89) hx hb ht inX13 tyX13 tyX13_ok nmX13 hown hK hP hD hS 0 rfl rfl 1 (by decide) (ht _ mW1884) (fun _ h9 => h9) rfl (by decide +kernel) rfl rfl (Nat.le_of_ble_eq_true rfl) dX13_feed_106 (fun H locs hP hD hS => ?_)
  have hP : va_P (dC, dI) vwCl [(h0, .inr (14, [.ref h1, .int 18, .ref h2, .int 0, .ref h3, .int 0, .int 0, .ref h4, .int (-1), .int 0, .int 0, .ref h5, .int 0, .ref h6, .ref h7, .ref h8, .ref h9, .ref h10, .int 0, .ref h11, .int 0, .int 0, .ref h12, .ref h13, .ref h14, .ref h15, .int 0, .ref h16, .ref h17, .int 0, .ref h18, .ref h19, .ref h20, .ref h21, .int 0, .int 0, .int 0, .ref h22, .int 0, .int 0, .ref h23, .ref h24, .ref h25, .ref h26, .int 0, .int 0, .int 0, .int 0, .int 0, .int 0, .int 0, .int 0, .int 0, .int 0, .int 0, .int 0, .int (-1), .int 0, .ref h27, .int 0, .ref h28, .int 0, .int 0, .int 0, .int 0, .int 0, .ref h29, .ref h30, .int 0, .int 0, .ref h31, .ref h32, .ref h33, .ref h34, .long 0, .ref h35, .int 0, .int 0, .int 0, .int 0, .int 0, .int 0, .int 0, .ref h36, .ref h37, .int 0, .int 0, .int 0, .int 0])), (h1, .inl (k0, 2000, .inl f984))] H := hP
  have hD : va_D A [(h0, .inr (14, [.ref h1, .int 18, .ref h2, .int 0, .ref h3, .int 0, .int 0, .ref h4, .int (-1), .int 0, .int 0, .ref h5, .int 0, .ref h6, .ref h7, .ref h8, .ref h9, .ref h10, .int 0, .ref h11, .int 0, .int 0, .ref h12, .ref h13, .ref h14, .ref h15, .int 0, .ref h16, .ref h17, .int 0, .ref h18, .ref h19, .ref h20, .ref h21, .int 0, .int 0, .int 0, .ref h22, .int 0, .int 0, .ref h23, .ref h24, .ref h25, .ref h26, .int 0, .int 0, .int 0, .int 0, .int 0, .int 0, .int 0, .int 0, .int 0, .int 0, .int 0, .int 0, .int (-1), .int 0, .ref h27, .int 0, .ref h28, .int 0, .int 0, .int 0, .int 0, .int 0, .ref h29, .ref h30, .int 0, .int 0, .ref h31, .ref h32, .ref h33, .ref h34, .long 0, .ref h35, .int 0, .int 0, .int 0, .int 0, .int 0, .int 0, .int 0, .ref h36, .ref h37, .int 0, .int 0, .int 0, .int 0])), (h1, .inl (k0, 2000, .inl f984))] := hD
  refine lv_iinc (v := 18) (lv' := [(6, .int 18), (7, .int x4), (0, .ref h0), (1, .int x0), (2, .int x1), (3, .int x2), (4, .int x3), (5, .int x4)]) hx hb dX13_feed_109 hl (k := 1) rfl (by decide) (by decide) rfl (fun ls hl => ?_)
  refine lv_goto (tgt := 18) hx hb dX13_feed_112 (by decide) ?_
  refine lv_iload hx hb dX13_feed_18 (lv_at hl 0 rfl) ?_
  refine lv_bipush (v := 20) hx hb dX13_feed_20 (by decide) ?_
  refine lv_icmp_ge (tgt := 115) hx hb dX13_feed_22 (by decide) (fun c => absurd c (by decide)) (fun _ => ?_)
  refine lv_iload hx hb dX13_feed_25 (lv_at hl 0 rfl) ?_
  refine lv_iconst (v := 4) hx hb dX13_feed_27 (by decide) ?_
  refine lv_icmp_ge (tgt := 35) hx hb dX13_feed_28 (by decide) (fun _ => ?_) (fun c => absurd (by decide) c)
  refine lv_iload hx hb dX13_feed_35 (lv_at hl 0 rfl) ?_
  refine lv_bipush (v := 8) hx hb dX13_feed_37 (by decide) ?_
  refine lv_icmp_ge (tgt := 46) hx hb dX13_feed_39 (by decide) (fun _ => ?_) (fun c => absurd (by decide) c)
  refine lv_iload hx hb dX13_feed_46 (lv_at hl 0 rfl) ?_
  refine lv_bipush (v := 12) hx hb dX13_feed_48 (by decide) ?_
  refine lv_icmp_ge (tgt := 57) hx hb dX13_feed_50 (by decide) (fun _ => ?_) (fun c => absurd (by decide) c)
  refine lv_iload hx hb dX13_feed_57 (lv_at hl 0 rfl) ?_
  refine lv_bipush (v := 16) hx hb dX13_feed_59 (by decide) ?_
  refine lv_icmp_ge (tgt := 69) hx hb dX13_feed_61 (by decide) (fun _ => ?_) (fun c => absurd (by decide) c)
  refine lv_iload hx hb dX13_feed_69 (lv_at hl 7 rfl) ?_
  refine lv_istore (lv' := [(7, .int x4), (6, .int 18), (0, .ref h0), (1, .int x0), (2, .int x1), (3, .int x2), (4, .int x3), (5, .int x4)]) hx hb dX13_feed_71 hl (by decide) rfl (fun ls hl => ?_)
  refine lv_aload_n hx hb dX13_feed_73 rfl (lv_at hl 2 rfl) ?_
  refine va_get (D := (dC, dI)) (ci := 14) (v := .ref h1) (C := RX13) (T := TX13) (N := 89) hx hb ht inX13 hown hK hP 0 rfl rfl 0 (by decide) (ht _ mW1883) (fun _ h9 => h9) rfl dX13_feed_74 ?_
  refine lv_aload_n hx hb dX13_feed_77 rfl (lv_at hl 2 rfl) ?_
  refine va_get (D := (dC, dI)) (ci := 14) (v := .int 18) (C := RX13) (T := TX13) (N := 89) hx hb ht inX13 hown hK hP 0 rfl rfl 1 (by decide) (ht _ mW1884) (fun _ h9 => h9) rfl dX13_feed_78 ?_
  refine lv_iload hx hb dX13_feed_81 (lv_at hl 0 rfl) ?_
  refine lv_bipush (v := 24) hx hb dX13_feed_83 (by decide) ?_
  refine lv_bipush (v := 8) hx hb dX13_feed_85 (by decide) ?_
  refine lv_iload hx hb dX13_feed_87 (lv_at hl 1 rfl) ?_
  refine lv_iconst (v := 4) hx hb dX13_feed_89 (by decide) ?_
  refine lv_irem hx hb dX13_feed_90 (by decide) ?_
  refine W.eq (congrArg (fun z => F0 m 91 ls (.int z :: [.int 8, .int 24, .int x4, .int 18, .ref h1])) (by decide : (18 - 18 / 4 * 4 : Int32) = 2)) ?_
  refine lv_imul hx hb dX13_feed_91 ?_
  refine W.eq (congrArg (fun z => F0 m 92 ls (.int z :: [.int 24, .int x4, .int 18, .ref h1])) (by decide : (8 * 2 : Int32) = 16)) ?_
  refine lv_isub hx hb dX13_feed_92 ?_
  refine W.eq (congrArg (fun z => F0 m 93 ls (.int z :: [.int x4, .int 18, .ref h1])) (by decide : (24 - 16 : Int32) = 8)) ?_
  refine lv_ishr hx hb dX13_feed_93 ?_
  refine lv_topi (fun n985 en985 => ?_)
  refine lv_sipush (v := 255) hx hb dX13_feed_94 (by decide) ?_
  refine lv_iand hx hb dX13_feed_97 ?_
  refine lv_topi (fun n986 en986 => ?_)
  refine va_iast hx hb hK hP hD hS 1 0 rfl rfl (by unfold vp_in; decide) dX13_feed_98 (fun H locs hP hD hS => ?_)
  obtain ⟨f987, ef987⟩ : ∃ z : Nat → Int32, z = upd f984 18 n986 := ⟨_, rfl⟩
  have hP : va_P (dC, dI) vwCl [(h0, .inr (14, [.ref h1, .int 18, .ref h2, .int 0, .ref h3, .int 0, .int 0, .ref h4, .int (-1), .int 0, .int 0, .ref h5, .int 0, .ref h6, .ref h7, .ref h8, .ref h9, .ref h10, .int 0, .ref h11, .int 0, .int 0, .ref h12, .ref h13, .ref h14, .ref h15, .int 0, .ref h16, .ref h17, .int 0, .ref h18, .ref h19, .ref h20, .ref h21, .int 0, .int 0, .int 0, .ref h22, .int 0, .int 0, .ref h23, .ref h24, .ref h25, .ref h26, .int 0, .int 0, .int 0, .int 0, .int 0, .int 0, .int 0, .int 0, .int 0, .int 0, .int 0, .int 0, .int (-1), .int 0, .ref h27, .int 0, .ref h28, .int 0, .int 0, .int 0, .int 0, .int 0, .ref h29, .ref h30, .int 0, .int 0, .ref h31, .ref h32, .ref h33, .ref h34, .long 0, .ref h35, .int 0, .int 0, .int 0, .int 0, .int 0, .int 0, .int 0, .ref h36, .ref h37, .int 0, .int 0, .int 0, .int 0])), (h1, .inl (k0, 2000, .inl f987))] H := by rw [ef987]; exact hP
  have hD : va_D A [(h0, .inr (14, [.ref h1, .int 18, .ref h2, .int 0, .ref h3, .int 0, .int 0, .ref h4, .int (-1), .int 0, .int 0, .ref h5, .int 0, .ref h6, .ref h7, .ref h8, .ref h9, .ref h10, .int 0, .ref h11, .int 0, .int 0, .ref h12, .ref h13, .ref h14, .ref h15, .int 0, .ref h16, .ref h17, .int 0, .ref h18, .ref h19, .ref h20, .ref h21, .int 0, .int 0, .int 0, .ref h22, .int 0, .int 0, .ref h23, .ref h24, .ref h25, .ref h26, .int 0, .int 0, .int 0, .int 0, .int 0, .int 0, .int 0, .int 0, .int 0, .int 0, .int 0, .int 0, .int (-1), .int 0, .ref h27, .int 0, .ref h28, .int 0, .int 0, .int 0, .int 0, .int 0, .ref h29, .ref h30, .int 0, .int 0, .ref h31, .ref h32, .ref h33, .ref h34, .long 0, .ref h35, .int 0, .int 0, .int 0, .int 0, .int 0, .int 0, .int 0, .ref h36, .ref h37, .int 0, .int 0, .int 0, .int 0])), (h1, .inl (k0, 2000, .inl f987))] := by rw [ef987]; exact hD
  refine lv_aload_n hx hb dX13_feed_99 rfl (lv_at hl 2 rfl) ?_
  refine lv_dup hx hb dX13_feed_100 rfl ?_
  refine va_get (D := (dC, dI)) (ci := 14) (v := .int 18) (C := RX13) (T := TX13) (N := 89) hx hb ht inX13 hown hK hP 0 rfl rfl 1 (by decide) (ht _ mW1884) (fun _ h9 => h9) rfl dX13_feed_101 ?_
  refine lv_iconst (v := 1) hx hb dX13_feed_104 (by decide) ?_
  refine lv_iadd hx hb dX13_feed_105 ?_
  refine W.eq (congrArg (fun z => F0 m 106 ls (.int z :: [.ref h0])) (by decide : (18 + 1 : Int32) = 19)) ?_
  refine va_put (D := (dC, dI)) (ci := 14) (v := .int 19) (ty := .int) (C := RX13) (T := TX13) (N := 89) hx hb ht inX13 tyX13 tyX13_ok nmX13 hown hK hP hD hS 0 rfl rfl 1 (by decide) (ht _ mW1884) (fun _ h9 => h9) rfl (by decide +kernel) rfl rfl (Nat.le_of_ble_eq_true rfl) dX13_feed_106 (fun H locs hP hD hS => ?_)
  have hP : va_P (dC, dI) vwCl [(h0, .inr (14, [.ref h1, .int 19, .ref h2, .int 0, .ref h3, .int 0, .int 0, .ref h4, .int (-1), .int 0, .int 0, .ref h5, .int 0, .ref h6, .ref h7, .ref h8, .ref h9, .ref h10, .int 0, .ref h11, .int 0, .int 0, .ref h12, .ref h13, .ref h14, .ref h15, .int 0, .ref h16, .ref h17, .int 0, .ref h18, .ref h19, .ref h20, .ref h21, .int 0, .int 0, .int 0, .ref h22, .int 0, .int 0, .ref h23, .ref h24, .ref h25, .ref h26, .int 0, .int 0, .int 0, .int 0, .int 0, .int 0, .int 0, .int 0, .int 0, .int 0, .int 0, .int 0, .int (-1), .int 0, .ref h27, .int 0, .ref h28, .int 0, .int 0, .int 0, .int 0, .int 0, .ref h29, .ref h30, .int 0, .int 0, .ref h31, .ref h32, .ref h33, .ref h34, .long 0, .ref h35, .int 0, .int 0, .int 0, .int 0, .int 0, .int 0, .int 0, .ref h36, .ref h37, .int 0, .int 0, .int 0, .int 0])), (h1, .inl (k0, 2000, .inl f987))] H := hP
  have hD : va_D A [(h0, .inr (14, [.ref h1, .int 19, .ref h2, .int 0, .ref h3, .int 0, .int 0, .ref h4, .int (-1), .int 0, .int 0, .ref h5, .int 0, .ref h6, .ref h7, .ref h8, .ref h9, .ref h10, .int 0, .ref h11, .int 0, .int 0, .ref h12, .ref h13, .ref h14, .ref h15, .int 0, .ref h16, .ref h17, .int 0, .ref h18, .ref h19, .ref h20, .ref h21, .int 0, .int 0, .int 0, .ref h22, .int 0, .int 0, .ref h23, .ref h24, .ref h25, .ref h26, .int 0, .int 0, .int 0, .int 0, .int 0, .int 0, .int 0, .int 0, .int 0, .int 0, .int 0, .int 0, .int (-1), .int 0, .ref h27, .int 0, .ref h28, .int 0, .int 0, .int 0, .int 0, .int 0, .ref h29, .ref h30, .int 0, .int 0, .ref h31, .ref h32, .ref h33, .ref h34, .long 0, .ref h35, .int 0, .int 0, .int 0, .int 0, .int 0, .int 0, .int 0, .ref h36, .ref h37, .int 0, .int 0, .int 0, .int 0])), (h1, .inl (k0, 2000, .inl f987))] := hD
  refine lv_iinc (v := 19) (lv' := [(6, .int 19), (7, .int x4), (0, .ref h0), (1, .int x0), (2, .int x1), (3, .int x2), (4, .int x3), (5, .int x4)]) hx hb dX13_feed_109 hl (k := 1) rfl (by decide) (by decide) rfl (fun ls hl => ?_)
  refine lv_goto (tgt := 18) hx hb dX13_feed_112 (by decide) ?_
  refine lv_iload hx hb dX13_feed_18 (lv_at hl 0 rfl) ?_
  refine lv_bipush (v := 20) hx hb dX13_feed_20 (by decide) ?_
  refine lv_icmp_ge (tgt := 115) hx hb dX13_feed_22 (by decide) (fun c => absurd c (by decide)) (fun _ => ?_)
  refine lv_iload hx hb dX13_feed_25 (lv_at hl 0 rfl) ?_
  refine lv_iconst (v := 4) hx hb dX13_feed_27 (by decide) ?_
  refine lv_icmp_ge (tgt := 35) hx hb dX13_feed_28 (by decide) (fun _ => ?_) (fun c => absurd (by decide) c)
  refine lv_iload hx hb dX13_feed_35 (lv_at hl 0 rfl) ?_
  refine lv_bipush (v := 8) hx hb dX13_feed_37 (by decide) ?_
  refine lv_icmp_ge (tgt := 46) hx hb dX13_feed_39 (by decide) (fun _ => ?_) (fun c => absurd (by decide) c)
  refine lv_iload hx hb dX13_feed_46 (lv_at hl 0 rfl) ?_
  refine lv_bipush (v := 12) hx hb dX13_feed_48 (by decide) ?_
  refine lv_icmp_ge (tgt := 57) hx hb dX13_feed_50 (by decide) (fun _ => ?_) (fun c => absurd (by decide) c)
  refine lv_iload hx hb dX13_feed_57 (lv_at hl 0 rfl) ?_
  refine lv_bipush (v := 16) hx hb dX13_feed_59 (by decide) ?_
  refine lv_icmp_ge (tgt := 69) hx hb dX13_feed_61 (by decide) (fun _ => ?_) (fun c => absurd (by decide) c)
  refine lv_iload hx hb dX13_feed_69 (lv_at hl 7 rfl) ?_
  refine lv_istore (lv' := [(7, .int x4), (6, .int 19), (0, .ref h0), (1, .int x0), (2, .int x1), (3, .int x2), (4, .int x3), (5, .int x4)]) hx hb dX13_feed_71 hl (by decide) rfl (fun ls hl => ?_)
  refine lv_aload_n hx hb dX13_feed_73 rfl (lv_at hl 2 rfl) ?_
  refine va_get (D := (dC, dI)) (ci := 14) (v := .ref h1) (C := RX13) (T := TX13) (N := 89) hx hb ht inX13 hown hK hP 0 rfl rfl 0 (by decide) (ht _ mW1883) (fun _ h9 => h9) rfl dX13_feed_74 ?_
  refine lv_aload_n hx hb dX13_feed_77 rfl (lv_at hl 2 rfl) ?_
  refine va_get (D := (dC, dI)) (ci := 14) (v := .int 19) (C := RX13) (T := TX13) (N := 89) hx hb ht inX13 hown hK hP 0 rfl rfl 1 (by decide) (ht _ mW1884) (fun _ h9 => h9) rfl dX13_feed_78 ?_
  refine lv_iload hx hb dX13_feed_81 (lv_at hl 0 rfl) ?_
  refine lv_bipush (v := 24) hx hb dX13_feed_83 (by decide) ?_
  refine lv_bipush (v := 8) hx hb dX13_feed_85 (by decide) ?_
  refine lv_iload hx hb dX13_feed_87 (lv_at hl 1 rfl) ?_
  refine lv_iconst (v := 4) hx hb dX13_feed_89 (by decide) ?_
  refine lv_irem hx hb dX13_feed_90 (by decide) ?_
  refine W.eq (congrArg (fun z => F0 m 91 ls (.int z :: [.int 8, .int 24, .int x4, .int 19, .ref h1])) (by decide : (19 - 19 / 4 * 4 : Int32) = 3)) ?_
  refine lv_imul hx hb dX13_feed_91 ?_
  refine W.eq (congrArg (fun z => F0 m 92 ls (.int z :: [.int 24, .int x4, .int 19, .ref h1])) (by decide : (8 * 3 : Int32) = 24)) ?_
  refine lv_isub hx hb dX13_feed_92 ?_
  refine W.eq (congrArg (fun z => F0 m 93 ls (.int z :: [.int x4, .int 19, .ref h1])) (by decide : (24 - 24 : Int32) = 0)) ?_
  refine lv_ishr hx hb dX13_feed_93 ?_
  refine lv_topi (fun n988 en988 => ?_)
  refine lv_sipush (v := 255) hx hb dX13_feed_94 (by decide) ?_
  refine lv_iand hx hb dX13_feed_97 ?_
  refine lv_topi (fun n989 en989 => ?_)
  refine va_iast hx hb hK hP hD hS 1 0 rfl rfl (by unfold vp_in; decide) dX13_feed_98 (fun H locs hP hD hS => ?_)
  obtain ⟨f990, ef990⟩ : ∃ z : Nat → Int32, z = upd f987 19 n989 := ⟨_, rfl⟩
  have hP : va_P (dC, dI) vwCl [(h0, .inr (14, [.ref h1, .int 19, .ref h2, .int 0, .ref h3, .int 0, .int 0, .ref h4, .int (-1), .int 0, .int 0, .ref h5, .int 0, .ref h6, .ref h7, .ref h8, .ref h9, .ref h10, .int 0, .ref h11, .int 0, .int 0, .ref h12, .ref h13, .ref h14, .ref h15, .int 0, .ref h16, .ref h17, .int 0, .ref h18, .ref h19, .ref h20, .ref h21, .int 0, .int 0, .int 0, .ref h22, .int 0, .int 0, .ref h23, .ref h24, .ref h25, .ref h26, .int 0, .int 0, .int 0, .int 0, .int 0, .int 0, .int 0, .int 0, .int 0, .int 0, .int 0, .int 0, .int (-1), .int 0, .ref h27, .int 0, .ref h28, .int 0, .int 0, .int 0, .int 0, .int 0, .ref h29, .ref h30, .int 0, .int 0, .ref h31, .ref h32, .ref h33, .ref h34, .long 0, .ref h35, .int 0, .int 0, .int 0, .int 0, .int 0, .int 0, .int 0, .ref h36, .ref h37, .int 0, .int 0, .int 0, .int 0])), (h1, .inl (k0, 2000, .inl f990))] H := by rw [ef990]; exact hP
  have hD : va_D A [(h0, .inr (14, [.ref h1, .int 19, .ref h2, .int 0, .ref h3, .int 0, .int 0, .ref h4, .int (-1), .int 0, .int 0, .ref h5, .int 0, .ref h6, .ref h7, .ref h8, .ref h9, .ref h10, .int 0, .ref h11, .int 0, .int 0, .ref h12, .ref h13, .ref h14, .ref h15, .int 0, .ref h16, .ref h17, .int 0, .ref h18, .ref h19, .ref h20, .ref h21, .int 0, .int 0, .int 0, .ref h22, .int 0, .int 0, .ref h23, .ref h24, .ref h25, .ref h26, .int 0, .int 0, .int 0, .int 0, .int 0, .int 0, .int 0, .int 0, .int 0, .int 0, .int 0, .int 0, .int (-1), .int 0, .ref h27, .int 0, .ref h28, .int 0, .int 0, .int 0, .int 0, .int 0, .ref h29, .ref h30, .int 0, .int 0, .ref h31, .ref h32, .ref h33, .ref h34, .long 0, .ref h35, .int 0, .int 0, .int 0, .int 0, .int 0, .int 0, .int 0, .ref h36, .ref h37, .int 0, .int 0, .int 0, .int 0])), (h1, .inl (k0, 2000, .inl f990))] := by rw [ef990]; exact hD
  refine lv_aload_n hx hb dX13_feed_99 rfl (lv_at hl 2 rfl) ?_
  refine lv_dup hx hb dX13_feed_100 rfl ?_
  refine va_get (D := (dC, dI)) (ci := 14) (v := .int 19) (C := RX13) (T := TX13) (N := 89) hx hb ht inX13 hown hK hP 0 rfl rfl 1 (by decide) (ht _ mW1884) (fun _ h9 => h9) rfl dX13_feed_101 ?_
  refine lv_iconst (v := 1) hx hb dX13_feed_104 (by decide) ?_
  refine lv_iadd hx hb dX13_feed_105 ?_
  refine W.eq (congrArg (fun z => F0 m 106 ls (.int z :: [.ref h0])) (by decide : (19 + 1 : Int32) = 20)) ?_
  refine va_put (D := (dC, dI)) (ci := 14) (v := .int 20) (ty := .int) (C := RX13) (T := TX13) (N := 89) hx hb ht inX13 tyX13 tyX13_ok nmX13 hown hK hP hD hS 0 rfl rfl 1 (by decide) (ht _ mW1884) (fun _ h9 => h9) rfl (by decide +kernel) rfl rfl (Nat.le_of_ble_eq_true rfl) dX13_feed_106 (fun H locs hP hD hS => ?_)
  have hP : va_P (dC, dI) vwCl [(h0, .inr (14, [.ref h1, .int 20, .ref h2, .int 0, .ref h3, .int 0, .int 0, .ref h4, .int (-1), .int 0, .int 0, .ref h5, .int 0, .ref h6, .ref h7, .ref h8, .ref h9, .ref h10, .int 0, .ref h11, .int 0, .int 0, .ref h12, .ref h13, .ref h14, .ref h15, .int 0, .ref h16, .ref h17, .int 0, .ref h18, .ref h19, .ref h20, .ref h21, .int 0, .int 0, .int 0, .ref h22, .int 0, .int 0, .ref h23, .ref h24, .ref h25, .ref h26, .int 0, .int 0, .int 0, .int 0, .int 0, .int 0, .int 0, .int 0, .int 0, .int 0, .int 0, .int 0, .int (-1), .int 0, .ref h27, .int 0, .ref h28, .int 0, .int 0, .int 0, .int 0, .int 0, .ref h29, .ref h30, .int 0, .int 0, .ref h31, .ref h32, .ref h33, .ref h34, .long 0, .ref h35, .int 0, .int 0, .int 0, .int 0, .int 0, .int 0, .int 0, .ref h36, .ref h37, .int 0, .int 0, .int 0, .int 0])), (h1, .inl (k0, 2000, .inl f990))] H := hP
  have hD : va_D A [(h0, .inr (14, [.ref h1, .int 20, .ref h2, .int 0, .ref h3, .int 0, .int 0, .ref h4, .int (-1), .int 0, .int 0, .ref h5, .int 0, .ref h6, .ref h7, .ref h8, .ref h9, .ref h10, .int 0, .ref h11, .int 0, .int 0, .ref h12, .ref h13, .ref h14, .ref h15, .int 0, .ref h16, .ref h17, .int 0, .ref h18, .ref h19, .ref h20, .ref h21, .int 0, .int 0, .int 0, .ref h22, .int 0, .int 0, .ref h23, .ref h24, .ref h25, .ref h26, .int 0, .int 0, .int 0, .int 0, .int 0, .int 0, .int 0, .int 0, .int 0, .int 0, .int 0, .int 0, .int (-1), .int 0, .ref h27, .int 0, .ref h28, .int 0, .int 0, .int 0, .int 0, .int 0, .ref h29, .ref h30, .int 0, .int 0, .ref h31, .ref h32, .ref h33, .ref h34, .long 0, .ref h35, .int 0, .int 0, .int 0, .int 0, .int 0, .int 0, .int 0, .ref h36, .ref h37, .int 0, .int 0, .int 0, .int 0])), (h1, .inl (k0, 2000, .inl f990))] := hD
  refine lv_iinc (v := 20) (lv' := [(6, .int 20), (7, .int x4), (0, .ref h0), (1, .int x0), (2, .int x1), (3, .int x2), (4, .int x3), (5, .int x4)]) hx hb dX13_feed_109 hl (k := 1) rfl (by decide) (by decide) rfl (fun ls hl => ?_)
  refine lv_goto (tgt := 18) hx hb dX13_feed_112 (by decide) ?_
  refine lv_iload hx hb dX13_feed_18 (lv_at hl 0 rfl) ?_
  refine lv_bipush (v := 20) hx hb dX13_feed_20 (by decide) ?_
  refine lv_icmp_ge (tgt := 115) hx hb dX13_feed_22 (by decide) (fun _ => ?_) (fun c => absurd (by decide) c)
  refine lv_aload_n hx hb dX13_feed_115 rfl (lv_at hl 2 rfl) ?_
  refine va_get (D := (dC, dI)) (ci := 14) (v := .int 20) (C := RX13) (T := TX13) (N := 89) hx hb ht inX13 hown hK hP 0 rfl rfl 1 (by decide) (ht _ mW1884) (fun _ h9 => h9) rfl dX13_feed_116 ?_
  refine W.widen (k := 0) (n := 0) (Nat.le_of_ble_eq_true rfl) (Nat.le_of_ble_eq_true rfl) ?_
  have hP9 := hP.sub (ws' := []) [] rfl
  have hD9 := hD.sub (ws' := []) [] (by decide) rfl
  have hK9 := hK.sub (tys' := []) [] rfl
  exact W.iret hx hb hr (fun t hH hW => ⟨⟨_, rfl, rfl, by rw [hH]; exact hP9, va_K.moved hW.alike hK9, hD9⟩, hS.F hH⟩) hS.2.2 dX13_feed_119 hlocks
set_option maxHeartbeats 4000000 in
set_option maxRecDepth 100000 in
theorem c31_X12_end (l : Launch) (dC : Nat → ClassId) (dI : Nat → Nat → Nat) (sz : Nat) (h0 h1 h2 h3 h4 : Nat) (x0 : Int32) : Met l yX12_end (.code yX12_end cX12_end 2 (some .int) :: wAll) ({ frames := 1, cells := 0, slots := 0, locals := 40 }) (pP (dC, dI) [.ref h0, .int x0] [(h0, .inr (13, [.ref h1, .int 0, .ref h2, .ref h3, .ref h4]))] [] sz X0) (qQ (fun (v : Option Value) (t : State) => v = some (.int (if x0 = 0 then 0 else -1)) ∧ va_P (dC, dI) vwCl [] t.heap ∧ va_K (dC, dI) vwCl [] t ∧ va_D (va_A [(h0, .inr (13, [.ref h1, .int 0, .ref h2, .ref h3, .ref h4]))] sz) []) (va_A [(h0, .inr (13, [.ref h1, .int 0, .ref h2, .ref h3, .ref h4]))] sz)) 0 0 (va_A [(h0, .inr (13, [.ref h1, .int 0, .ref h2, .ref h3, .ref h4]))] sz) := by
  refine mkMet (y := yX12_end) (bytes := cX12_end) (maxL := 2) (ret := (some .int)) (rm := { frames := 1, cells := 0, slots := 0, locals := 40 }) (by decide) (Nat.le_of_ble_eq_true rfl) ?_
  intro p e s m args below meth c ls hE hl
  obtain ⟨hx, hb, hml, hr, ht, hown, hlocks, hin, rfl, hP, hK, hD, hX, rfl⟩ := hE
  have hown : s.vm.findClass "CommandHouse" = some m.cls := hown
  have hA : ∀ q : Nat, s.heap.size ≤ q → va_A [(h0, .inr (13, [.ref h1, .int 0, .ref h2, .ref h3, .ref h4]))] s.heap.size q := fun q h => Or.inr h
  generalize hAe : va_A [(h0, .inr (13, [.ref h1, .int 0, .ref h2, .ref h3, .ref h4]))] s.heap.size = A at hD hX hA ⊢
  have hS : va_S A s.heap s.heap [] := va_S.rf
  have hl : lv_has ls 2 [(0, .ref h0), (1, .int x0)] := hl
  by_cases hne_x0 : x0 = 0
  · subst hne_x0
    refine lv_iload_n hx hb dX12_end_0 rfl (lv_at hl 1 rfl) ?_
    refine lv_if_lt (tgt := 12) hx hb dX12_end_1 (by decide) (fun c => absurd c (by decide)) (fun _ => ?_)
    refine lv_iload_n hx hb dX12_end_4 rfl (lv_at hl 1 rfl) ?_
    refine lv_aload_n hx hb dX12_end_5 rfl (lv_at hl 0 rfl) ?_
    refine va_get (D := (dC, dI)) (ci := 13) (v := .int 0) (C := RX12) (T := TX12) (N := 5) hx hb ht inX12 hown hK hP 0 rfl rfl 1 (by decide) (ht _ mW629) (fun _ h9 => h9) rfl dX12_end_6 ?_
    refine lv_icmp_le (tgt := 14) hx hb dX12_end_9 (by decide) (fun _ => ?_) (fun c => absurd (by decide) c)
    refine lv_aload_n hx hb dX12_end_14 rfl (lv_at hl 0 rfl) ?_
    refine lv_iload_n hx hb dX12_end_15 rfl (lv_at hl 1 rfl) ?_
    refine va_put (D := (dC, dI)) (ci := 13) (v := .int 0) (ty := .int) (C := RX12) (T := TX12) (N := 5) hx hb ht inX12 tyX12 tyX12_ok nmX12 hown hK hP hD hS 0 rfl rfl 1 (by decide) (ht _ mW629) (fun _ h9 => h9) rfl (by decide +kernel) rfl rfl (Nat.le_of_ble_eq_true rfl) dX12_end_16 (fun H locs hP hD hS => ?_)
    have hP : va_P (dC, dI) vwCl [(h0, .inr (13, [.ref h1, .int 0, .ref h2, .ref h3, .ref h4]))] H := hP
    have hD : va_D A [(h0, .inr (13, [.ref h1, .int 0, .ref h2, .ref h3, .ref h4]))] := hD
    refine lv_iload_n hx hb dX12_end_19 rfl (lv_at hl 1 rfl) ?_
    refine W.widen (k := 0) (n := 0) (Nat.le_of_ble_eq_true rfl) (Nat.le_of_ble_eq_true rfl) ?_
    have hP9 := hP.sub (ws' := []) [] rfl
    have hD9 := hD.sub (ws' := []) [] (by decide) rfl
    have hK9 := hK.sub (tys' := []) [] rfl
    exact W.iret hx hb hr (fun t hH hW => ⟨⟨_, rfl, congrArg (fun z : Int32 => some (Value.int z)) (if_pos rfl).symm, by rw [hH]; exact hP9, va_K.moved hW.alike hK9, hD9⟩, hS.F hH⟩) hS.2.2 dX12_end_20 hlocks
  refine lv_iload_n hx hb dX12_end_0 rfl (lv_at hl 1 rfl) ?_
  refine lv_if_lt (tgt := 12) hx hb dX12_end_1 (by decide) (fun c_1 => ?_) (fun c_1 => ?_)
  · skip
    refine lv_iconst (v := (-1)) hx hb dX12_end_12 (by decide) ?_
    refine W.widen (k := 0) (n := 0) (Nat.le_of_ble_eq_true rfl) (Nat.le_of_ble_eq_true rfl) ?_
    have hP9 := hP.sub (ws' := []) [] rfl
    have hD9 := hD.sub (ws' := []) [] (by decide) rfl
    have hK9 := hK.sub (tys' := []) [] rfl
    exact W.iret hx hb hr (fun t hH hW => ⟨⟨_, rfl, congrArg (fun z : Int32 => some (Value.int z)) (if_neg hne_x0).symm, by rw [hH]; exact hP9, va_K.moved hW.alike hK9, hD9⟩, hS.F hH⟩) hS.2.2 dX12_end_13 hlocks
  · skip
    refine lv_iload_n hx hb dX12_end_4 rfl (lv_at hl 1 rfl) ?_
    refine lv_aload_n hx hb dX12_end_5 rfl (lv_at hl 0 rfl) ?_
    refine va_get (D := (dC, dI)) (ci := 13) (v := .int 0) (C := RX12) (T := TX12) (N := 5) hx hb ht inX12 hown hK hP 0 rfl rfl 1 (by decide) (ht _ mW629) (fun _ h9 => h9) rfl dX12_end_6 ?_
    refine lv_icmp_le (tgt := 14) hx hb dX12_end_9 (by decide) (fun c_2 => ?_) (fun c_2 => ?_)
    · skip
      exact ((by have z0 : (0 : Int32).toInt = 0 := (by decide); have z1 : (-1 : Int32).toInt = -1 := (by decide); have z2 : (20 : Int32).toInt = 20 := (by decide); try simp only [Int32.lt_iff_toInt_lt, Int32.le_iff_toInt_le, ← Int32.toInt_inj, ge_iff_le, gt_iff_lt] at hne_x0; try simp only [Int32.lt_iff_toInt_lt, Int32.le_iff_toInt_le, ← Int32.toInt_inj, ge_iff_le, gt_iff_lt] at c_1; try simp only [Int32.lt_iff_toInt_lt, Int32.le_iff_toInt_le, ← Int32.toInt_inj, ge_iff_le, gt_iff_lt] at c_2; first | omega | simp_all : False)).elim
    · skip
      refine lv_iconst (v := (-1)) hx hb dX12_end_12 (by decide) ?_
      refine W.widen (k := 0) (n := 0) (Nat.le_of_ble_eq_true rfl) (Nat.le_of_ble_eq_true rfl) ?_
      have hP9 := hP.sub (ws' := []) [] rfl
      have hD9 := hD.sub (ws' := []) [] (by decide) rfl
      have hK9 := hK.sub (tys' := []) [] rfl
      exact W.iret hx hb hr (fun t hH hW => ⟨⟨_, rfl, congrArg (fun z : Int32 => some (Value.int z)) (if_neg hne_x0).symm, by rw [hH]; exact hP9, va_K.moved hW.alike hK9, hD9⟩, hS.F hH⟩) hS.2.2 dX12_end_13 hlocks
set_option maxHeartbeats 4000000 in
set_option maxRecDepth 100000 in
theorem c32_X13_isIn (l : Launch) (dC : Nat → ClassId) (dI : Nat → Nat → Nat) (sz : Nat) : Met l yX13_isIn (.code yX13_isIn cX13_isIn 3 (some .boolean) :: wAll) ({ frames := 1, cells := 0, slots := 0, locals := 40 }) (pP (dC, dI) [.int 0, .int 0, .int 0] [] [] sz X0) (qQ (fun (v : Option Value) (t : State) => v = some (.int 1) ∧ va_P (dC, dI) vwCl [] t.heap ∧ va_K (dC, dI) vwCl [] t ∧ va_D (va_A [] sz) []) (va_A [] sz)) 0 0 (va_A [] sz) := by
  refine mkMet (y := yX13_isIn) (bytes := cX13_isIn) (maxL := 3) (ret := (some .boolean)) (rm := { frames := 1, cells := 0, slots := 0, locals := 40 }) (by decide) (Nat.le_of_ble_eq_true rfl) ?_
  intro p e s m args below meth c ls hE hl
  obtain ⟨hx, hb, hml, hr, ht, hown, hlocks, hin, rfl, hP, hK, hD, hX, rfl⟩ := hE
  have hown : s.vm.findClass "CommandHouseModel" = some m.cls := hown
  have hA : ∀ q : Nat, s.heap.size ≤ q → va_A [] s.heap.size q := fun q h => Or.inr h
  generalize hAe : va_A [] s.heap.size = A at hD hX hA ⊢
  have hS : va_S A s.heap s.heap [] := va_S.rf
  have hl : lv_has ls 3 [(0, .int 0), (1, .int 0), (2, .int 0)] := hl
  refine lv_iload_n hx hb dX13_isIn_0 rfl (lv_at hl 0 rfl) ?_
  refine lv_iload_n hx hb dX13_isIn_1 rfl (lv_at hl 1 rfl) ?_
  refine lv_icmp_lt (tgt := 14) hx hb dX13_isIn_2 (by decide) (fun c => absurd c (by decide)) (fun _ => ?_)
  refine lv_iload_n hx hb dX13_isIn_5 rfl (lv_at hl 0 rfl) ?_
  refine lv_iload_n hx hb dX13_isIn_6 rfl (lv_at hl 2 rfl) ?_
  refine lv_icmp_gt (tgt := 14) hx hb dX13_isIn_7 (by decide) (fun c => absurd c (by decide)) (fun _ => ?_)
  refine lv_iconst (v := 1) hx hb dX13_isIn_10 (by decide) ?_
  refine lv_goto (tgt := 15) hx hb dX13_isIn_11 (by decide) ?_
  refine W.widen (k := 0) (n := 0) (Nat.le_of_ble_eq_true rfl) (Nat.le_of_ble_eq_true rfl) ?_
  have hP9 := hP.sub (ws' := []) [] rfl
  have hD9 := hD.sub (ws' := []) [] (by decide) rfl
  have hK9 := hK.sub (tys' := []) [] rfl
  exact W.zret hx hb hr (by decide) (fun t hH hW => ⟨⟨_, rfl, rfl, by rw [hH]; exact hP9, va_K.moved hW.alike hK9, hD9⟩, hS.F hH⟩) hS.2.2 dX13_isIn_15 hlocks
set_option maxHeartbeats 4000000 in
set_option maxRecDepth 100000 in
theorem c33_X13_isIn (l : Launch) (dC : Nat → ClassId) (dI : Nat → Nat → Nat) (sz : Nat) (x0 : Int32) (hne_x0 : ¬ x0 = 0) : Met l yX13_isIn (.code yX13_isIn cX13_isIn 3 (some .boolean) :: wAll) ({ frames := 1, cells := 0, slots := 0, locals := 40 }) (pP (dC, dI) [.int x0, .int 0, .int 0] [] [] sz X0) (qQ (fun (v : Option Value) (t : State) => v = some (.int 0) ∧ va_P (dC, dI) vwCl [] t.heap ∧ va_K (dC, dI) vwCl [] t ∧ va_D (va_A [] sz) []) (va_A [] sz)) 0 0 (va_A [] sz) := by
  refine mkMet (y := yX13_isIn) (bytes := cX13_isIn) (maxL := 3) (ret := (some .boolean)) (rm := { frames := 1, cells := 0, slots := 0, locals := 40 }) (by decide) (Nat.le_of_ble_eq_true rfl) ?_
  intro p e s m args below meth c ls hE hl
  obtain ⟨hx, hb, hml, hr, ht, hown, hlocks, hin, rfl, hP, hK, hD, hX, rfl⟩ := hE
  have hown : s.vm.findClass "CommandHouseModel" = some m.cls := hown
  have hA : ∀ q : Nat, s.heap.size ≤ q → va_A [] s.heap.size q := fun q h => Or.inr h
  generalize hAe : va_A [] s.heap.size = A at hD hX hA ⊢
  have hS : va_S A s.heap s.heap [] := va_S.rf
  have hl : lv_has ls 3 [(0, .int x0), (1, .int 0), (2, .int 0)] := hl
  refine lv_iload_n hx hb dX13_isIn_0 rfl (lv_at hl 0 rfl) ?_
  refine lv_iload_n hx hb dX13_isIn_1 rfl (lv_at hl 1 rfl) ?_
  refine lv_icmp_lt (tgt := 14) hx hb dX13_isIn_2 (by decide) (fun c_1 => ?_) (fun c_1 => ?_)
  · skip
    refine lv_iconst (v := 0) hx hb dX13_isIn_14 (by decide) ?_
    refine W.widen (k := 0) (n := 0) (Nat.le_of_ble_eq_true rfl) (Nat.le_of_ble_eq_true rfl) ?_
    have hP9 := hP.sub (ws' := []) [] rfl
    have hD9 := hD.sub (ws' := []) [] (by decide) rfl
    have hK9 := hK.sub (tys' := []) [] rfl
    exact W.zret hx hb hr (by decide) (fun t hH hW => ⟨⟨_, rfl, rfl, by rw [hH]; exact hP9, va_K.moved hW.alike hK9, hD9⟩, hS.F hH⟩) hS.2.2 dX13_isIn_15 hlocks
  · skip
    refine lv_iload_n hx hb dX13_isIn_5 rfl (lv_at hl 0 rfl) ?_
    refine lv_iload_n hx hb dX13_isIn_6 rfl (lv_at hl 2 rfl) ?_
    refine lv_icmp_gt (tgt := 14) hx hb dX13_isIn_7 (by decide) (fun c_2 => ?_) (fun c_2 => ?_)
    · skip
      refine lv_iconst (v := 0) hx hb dX13_isIn_14 (by decide) ?_
      refine W.widen (k := 0) (n := 0) (Nat.le_of_ble_eq_true rfl) (Nat.le_of_ble_eq_true rfl) ?_
      have hP9 := hP.sub (ws' := []) [] rfl
      have hD9 := hD.sub (ws' := []) [] (by decide) rfl
      have hK9 := hK.sub (tys' := []) [] rfl
      exact W.zret hx hb hr (by decide) (fun t hH hW => ⟨⟨_, rfl, rfl, by rw [hH]; exact hP9, va_K.moved hW.alike hK9, hD9⟩, hS.F hH⟩) hS.2.2 dX13_isIn_15 hlocks
    · skip
      exact ((by have z0 : (0 : Int32).toInt = 0 := (by decide); have z1 : (-1 : Int32).toInt = -1 := (by decide); have z2 : (20 : Int32).toInt = 20 := (by decide); try simp only [Int32.lt_iff_toInt_lt, Int32.le_iff_toInt_le, ← Int32.toInt_inj, ge_iff_le, gt_iff_lt] at c_1; try simp only [Int32.lt_iff_toInt_lt, Int32.le_iff_toInt_le, ← Int32.toInt_inj, ge_iff_le, gt_iff_lt] at c_2; try simp only [Int32.lt_iff_toInt_lt, Int32.le_iff_toInt_le, ← Int32.toInt_inj, ge_iff_le, gt_iff_lt] at hne_x0; first | omega | simp_all : False)).elim
set_option maxHeartbeats 4000000 in
set_option maxRecDepth 100000 in
theorem c34_X13_end (l : Launch) (dC : Nat → ClassId) (dI : Nat → Nat → Nat) (sz : Nat) (h0 h1 h2 h3 h4 h5 h6 h7 h8 h9 h10 h11 h12 h13 h14 h15 h16 h17 h18 h19 h20 h21 h22 h23 h24 h25 h26 h27 h28 h29 h30 h31 h32 h33 h34 h35 h36 h37 : Nat) (x0 : Int32) : Met l yX13_end (.code yX13_end cX13_end 2 (some .int) :: wAll) ({ frames := 2, cells := 0, slots := 0, locals := 62 }) (pP (dC, dI) [.ref h0, .int x0] [(h0, .inr (14, [.ref h1, .int 0, .ref h2, .int 0, .ref h3, .int 0, .int 0, .ref h4, .int (-1), .int 0, .int 0, .ref h5, .int 0, .ref h6, .ref h7, .ref h8, .ref h9, .ref h10, .int 0, .ref h11, .int 0, .int 0, .ref h12, .ref h13, .ref h14, .ref h15, .int 0, .ref h16, .ref h17, .int 0, .ref h18, .ref h19, .ref h20, .ref h21, .int 0, .int 0, .int 0, .ref h22, .int 0, .int 0, .ref h23, .ref h24, .ref h25, .ref h26, .int 0, .int 0, .int 0, .int 0, .int 0, .int 0, .int 0, .int 0, .int 0, .int 0, .int 0, .int 0, .int (-1), .int 0, .ref h27, .int 0, .ref h28, .int 0, .int 0, .int 0, .int 0, .int 0, .ref h29, .ref h30, .int 0, .int 0, .ref h31, .ref h32, .ref h33, .ref h34, .long 0, .ref h35, .int 0, .int 0, .int 0, .int 0, .int 0, .int 0, .int 0, .ref h36, .ref h37, .int 0, .int 0, .int 0, .int 0]))] [] sz X0) (qQ (fun (v : Option Value) (t : State) => v = some (.int (if x0 = 0 then 0 else -1)) ∧ va_P (dC, dI) vwCl [] t.heap ∧ va_K (dC, dI) vwCl [] t ∧ va_D (va_A [(h0, .inr (14, [.ref h1, .int 0, .ref h2, .int 0, .ref h3, .int 0, .int 0, .ref h4, .int (-1), .int 0, .int 0, .ref h5, .int 0, .ref h6, .ref h7, .ref h8, .ref h9, .ref h10, .int 0, .ref h11, .int 0, .int 0, .ref h12, .ref h13, .ref h14, .ref h15, .int 0, .ref h16, .ref h17, .int 0, .ref h18, .ref h19, .ref h20, .ref h21, .int 0, .int 0, .int 0, .ref h22, .int 0, .int 0, .ref h23, .ref h24, .ref h25, .ref h26, .int 0, .int 0, .int 0, .int 0, .int 0, .int 0, .int 0, .int 0, .int 0, .int 0, .int 0, .int 0, .int (-1), .int 0, .ref h27, .int 0, .ref h28, .int 0, .int 0, .int 0, .int 0, .int 0, .ref h29, .ref h30, .int 0, .int 0, .ref h31, .ref h32, .ref h33, .ref h34, .long 0, .ref h35, .int 0, .int 0, .int 0, .int 0, .int 0, .int 0, .int 0, .ref h36, .ref h37, .int 0, .int 0, .int 0, .int 0]))] sz) []) (va_A [(h0, .inr (14, [.ref h1, .int 0, .ref h2, .int 0, .ref h3, .int 0, .int 0, .ref h4, .int (-1), .int 0, .int 0, .ref h5, .int 0, .ref h6, .ref h7, .ref h8, .ref h9, .ref h10, .int 0, .ref h11, .int 0, .int 0, .ref h12, .ref h13, .ref h14, .ref h15, .int 0, .ref h16, .ref h17, .int 0, .ref h18, .ref h19, .ref h20, .ref h21, .int 0, .int 0, .int 0, .ref h22, .int 0, .int 0, .ref h23, .ref h24, .ref h25, .ref h26, .int 0, .int 0, .int 0, .int 0, .int 0, .int 0, .int 0, .int 0, .int 0, .int 0, .int 0, .int 0, .int (-1), .int 0, .ref h27, .int 0, .ref h28, .int 0, .int 0, .int 0, .int 0, .int 0, .ref h29, .ref h30, .int 0, .int 0, .ref h31, .ref h32, .ref h33, .ref h34, .long 0, .ref h35, .int 0, .int 0, .int 0, .int 0, .int 0, .int 0, .int 0, .ref h36, .ref h37, .int 0, .int 0, .int 0, .int 0]))] sz)) 0 0 (va_A [(h0, .inr (14, [.ref h1, .int 0, .ref h2, .int 0, .ref h3, .int 0, .int 0, .ref h4, .int (-1), .int 0, .int 0, .ref h5, .int 0, .ref h6, .ref h7, .ref h8, .ref h9, .ref h10, .int 0, .ref h11, .int 0, .int 0, .ref h12, .ref h13, .ref h14, .ref h15, .int 0, .ref h16, .ref h17, .int 0, .ref h18, .ref h19, .ref h20, .ref h21, .int 0, .int 0, .int 0, .ref h22, .int 0, .int 0, .ref h23, .ref h24, .ref h25, .ref h26, .int 0, .int 0, .int 0, .int 0, .int 0, .int 0, .int 0, .int 0, .int 0, .int 0, .int 0, .int 0, .int (-1), .int 0, .ref h27, .int 0, .ref h28, .int 0, .int 0, .int 0, .int 0, .int 0, .ref h29, .ref h30, .int 0, .int 0, .ref h31, .ref h32, .ref h33, .ref h34, .long 0, .ref h35, .int 0, .int 0, .int 0, .int 0, .int 0, .int 0, .int 0, .ref h36, .ref h37, .int 0, .int 0, .int 0, .int 0]))] sz) := by
  refine mkMet (y := yX13_end) (bytes := cX13_end) (maxL := 2) (ret := (some .int)) (rm := { frames := 2, cells := 0, slots := 0, locals := 62 }) (by decide) (Nat.le_of_ble_eq_true rfl) ?_
  intro p e s m args below meth c ls hE hl
  obtain ⟨hx, hb, hml, hr, ht, hown, hlocks, hin, rfl, hP, hK, hD, hX, rfl⟩ := hE
  have hown : s.vm.findClass "CommandHouseModel" = some m.cls := hown
  have hA : ∀ q : Nat, s.heap.size ≤ q → va_A [(h0, .inr (14, [.ref h1, .int 0, .ref h2, .int 0, .ref h3, .int 0, .int 0, .ref h4, .int (-1), .int 0, .int 0, .ref h5, .int 0, .ref h6, .ref h7, .ref h8, .ref h9, .ref h10, .int 0, .ref h11, .int 0, .int 0, .ref h12, .ref h13, .ref h14, .ref h15, .int 0, .ref h16, .ref h17, .int 0, .ref h18, .ref h19, .ref h20, .ref h21, .int 0, .int 0, .int 0, .ref h22, .int 0, .int 0, .ref h23, .ref h24, .ref h25, .ref h26, .int 0, .int 0, .int 0, .int 0, .int 0, .int 0, .int 0, .int 0, .int 0, .int 0, .int 0, .int 0, .int (-1), .int 0, .ref h27, .int 0, .ref h28, .int 0, .int 0, .int 0, .int 0, .int 0, .ref h29, .ref h30, .int 0, .int 0, .ref h31, .ref h32, .ref h33, .ref h34, .long 0, .ref h35, .int 0, .int 0, .int 0, .int 0, .int 0, .int 0, .int 0, .ref h36, .ref h37, .int 0, .int 0, .int 0, .int 0]))] s.heap.size q := fun q h => Or.inr h
  generalize hAe : va_A [(h0, .inr (14, [.ref h1, .int 0, .ref h2, .int 0, .ref h3, .int 0, .int 0, .ref h4, .int (-1), .int 0, .int 0, .ref h5, .int 0, .ref h6, .ref h7, .ref h8, .ref h9, .ref h10, .int 0, .ref h11, .int 0, .int 0, .ref h12, .ref h13, .ref h14, .ref h15, .int 0, .ref h16, .ref h17, .int 0, .ref h18, .ref h19, .ref h20, .ref h21, .int 0, .int 0, .int 0, .ref h22, .int 0, .int 0, .ref h23, .ref h24, .ref h25, .ref h26, .int 0, .int 0, .int 0, .int 0, .int 0, .int 0, .int 0, .int 0, .int 0, .int 0, .int 0, .int 0, .int (-1), .int 0, .ref h27, .int 0, .ref h28, .int 0, .int 0, .int 0, .int 0, .int 0, .ref h29, .ref h30, .int 0, .int 0, .ref h31, .ref h32, .ref h33, .ref h34, .long 0, .ref h35, .int 0, .int 0, .int 0, .int 0, .int 0, .int 0, .int 0, .ref h36, .ref h37, .int 0, .int 0, .int 0, .int 0]))] s.heap.size = A at hD hX hA ⊢
  have hS : va_S A s.heap s.heap [] := va_S.rf
  have hl : lv_has ls 2 [(0, .ref h0), (1, .int x0)] := hl
  by_cases hne_x0 : x0 = 0
  · subst hne_x0
    refine lv_iload_n hx hb dX13_end_0 rfl (lv_at hl 1 rfl) ?_
    refine lv_iconst (v := 0) hx hb dX13_end_1 (by decide) ?_
    refine lv_aload_n hx hb dX13_end_2 rfl (lv_at hl 0 rfl) ?_
    refine va_get (D := (dC, dI)) (ci := 14) (v := .int 0) (C := RX13) (T := TX13) (N := 89) hx hb ht inX13 hown hK hP 0 rfl rfl 1 (by decide) (ht _ mW1884) (fun _ h9 => h9) rfl dX13_end_3 ?_
    have hPc := hP.sub (ws' := []) [] rfl
    have hDc := hD.sub (ws' := []) [] (by decide) rfl
    have hKc := hK.sub (tys' := []) [] rfl
    have hFc := va_free (wc := []) hD hS hA [] rfl
    refine pCall (va_runS (As := [.int 0, .int 0, .int 0]) (rest := []) ⟨hx, hb, hml, hown, ht⟩ (c32_X13_isIn l dC dI s.heap.size) ⟨cbB 3 ht mW2162 mW20 mW2160 (by decide +kernel) ⟨(Nat.le_of_ble_eq_true rfl), (Nat.le_of_ble_eq_true rfl)⟩, ht _ mW2161⟩ ⟨pP_blind X0_blind, fun U hU hW => ⟨rfl, by rw [hU], by rw [hU]; exact hPc, va_K.moved hW.alike hKc, hDc.weaken (fun _ _ _ _ => trivial), trivial⟩⟩ rfl rfl hl.1 rfl (lv_room (Nat.le_of_ble_eq_true rfl)) dX13_end_6 ⟨(Nat.le_of_ble_eq_true rfl), (Nat.le_of_ble_eq_true rfl)⟩) hS (fun q h => hFc q h) hFc (fun v t H1 locs hH hvm hB hk1 hS => ?_)
    obtain ⟨hv, hP1, hK1, hD1⟩ := hB
    subst hv
    rw [hH] at hP1
    have hK1 := va_K.moved hvm.symm hK1
    obtain ⟨hP, hD⟩ := va_join (wr := [(h0, .inr (14, [.ref h1, .int 0, .ref h2, .int 0, .ref h3, .int 0, .int 0, .ref h4, .int (-1), .int 0, .int 0, .ref h5, .int 0, .ref h6, .ref h7, .ref h8, .ref h9, .ref h10, .int 0, .ref h11, .int 0, .int 0, .ref h12, .ref h13, .ref h14, .ref h15, .int 0, .ref h16, .ref h17, .int 0, .ref h18, .ref h19, .ref h20, .ref h21, .int 0, .int 0, .int 0, .ref h22, .int 0, .int 0, .ref h23, .ref h24, .ref h25, .ref h26, .int 0, .int 0, .int 0, .int 0, .int 0, .int 0, .int 0, .int 0, .int 0, .int 0, .int 0, .int 0, .int (-1), .int 0, .ref h27, .int 0, .ref h28, .int 0, .int 0, .int 0, .int 0, .int 0, .ref h29, .ref h30, .int 0, .int 0, .ref h31, .ref h32, .ref h33, .ref h34, .long 0, .ref h35, .int 0, .int 0, .int 0, .int 0, .int 0, .int 0, .int 0, .ref h36, .ref h37, .int 0, .int 0, .int 0, .int 0]))]) (w1 := []) hP hD [] [0] rfl rfl (by decide) (by decide) hk1 hFc hP1 hD1
    have hK := (hK.sub (tys' := []) [] rfl).app hK1
    generalize H1 = H at hP hS ⊢
    have hP : va_P (dC, dI) vwCl [(h0, .inr (14, [.ref h1, .int 0, .ref h2, .int 0, .ref h3, .int 0, .int 0, .ref h4, .int (-1), .int 0, .int 0, .ref h5, .int 0, .ref h6, .ref h7, .ref h8, .ref h9, .ref h10, .int 0, .ref h11, .int 0, .int 0, .ref h12, .ref h13, .ref h14, .ref h15, .int 0, .ref h16, .ref h17, .int 0, .ref h18, .ref h19, .ref h20, .ref h21, .int 0, .int 0, .int 0, .ref h22, .int 0, .int 0, .ref h23, .ref h24, .ref h25, .ref h26, .int 0, .int 0, .int 0, .int 0, .int 0, .int 0, .int 0, .int 0, .int 0, .int 0, .int 0, .int 0, .int (-1), .int 0, .ref h27, .int 0, .ref h28, .int 0, .int 0, .int 0, .int 0, .int 0, .ref h29, .ref h30, .int 0, .int 0, .ref h31, .ref h32, .ref h33, .ref h34, .long 0, .ref h35, .int 0, .int 0, .int 0, .int 0, .int 0, .int 0, .int 0, .ref h36, .ref h37, .int 0, .int 0, .int 0, .int 0]))] H := hP
    have hD : va_D A [(h0, .inr (14, [.ref h1, .int 0, .ref h2, .int 0, .ref h3, .int 0, .int 0, .ref h4, .int (-1), .int 0, .int 0, .ref h5, .int 0, .ref h6, .ref h7, .ref h8, .ref h9, .ref h10, .int 0, .ref h11, .int 0, .int 0, .ref h12, .ref h13, .ref h14, .ref h15, .int 0, .ref h16, .ref h17, .int 0, .ref h18, .ref h19, .ref h20, .ref h21, .int 0, .int 0, .int 0, .ref h22, .int 0, .int 0, .ref h23, .ref h24, .ref h25, .ref h26, .int 0, .int 0, .int 0, .int 0, .int 0, .int 0, .int 0, .int 0, .int 0, .int 0, .int 0, .int 0, .int (-1), .int 0, .ref h27, .int 0, .ref h28, .int 0, .int 0, .int 0, .int 0, .int 0, .ref h29, .ref h30, .int 0, .int 0, .ref h31, .ref h32, .ref h33, .ref h34, .long 0, .ref h35, .int 0, .int 0, .int 0, .int 0, .int 0, .int 0, .int 0, .ref h36, .ref h37, .int 0, .int 0, .int 0, .int 0]))] := hD
    have hK : va_K (dC, dI) vwCl [] s := hK
    refine W.widen (g := F0 m 9 ls [.int 1]) (k := 0) (n := 0) (Nat.le_of_ble_eq_true rfl) (Nat.le_of_ble_eq_true rfl) ?_
    refine lv_if_ne (tgt := 14) hx hb dX13_end_9 (by decide) (fun _ => ?_) (fun c => absurd c (by decide))
    refine lv_aload_n hx hb dX13_end_14 rfl (lv_at hl 0 rfl) ?_
    refine lv_iload_n hx hb dX13_end_15 rfl (lv_at hl 1 rfl) ?_
    refine va_put (D := (dC, dI)) (ci := 14) (v := .int 0) (ty := .int) (C := RX13) (T := TX13) (N := 89) hx hb ht inX13 tyX13 tyX13_ok nmX13 hown hK hP hD hS 0 rfl rfl 1 (by decide) (ht _ mW1884) (fun _ h9 => h9) rfl (by decide +kernel) rfl rfl (Nat.le_of_ble_eq_true rfl) dX13_end_16 (fun H locs hP hD hS => ?_)
    have hP : va_P (dC, dI) vwCl [(h0, .inr (14, [.ref h1, .int 0, .ref h2, .int 0, .ref h3, .int 0, .int 0, .ref h4, .int (-1), .int 0, .int 0, .ref h5, .int 0, .ref h6, .ref h7, .ref h8, .ref h9, .ref h10, .int 0, .ref h11, .int 0, .int 0, .ref h12, .ref h13, .ref h14, .ref h15, .int 0, .ref h16, .ref h17, .int 0, .ref h18, .ref h19, .ref h20, .ref h21, .int 0, .int 0, .int 0, .ref h22, .int 0, .int 0, .ref h23, .ref h24, .ref h25, .ref h26, .int 0, .int 0, .int 0, .int 0, .int 0, .int 0, .int 0, .int 0, .int 0, .int 0, .int 0, .int 0, .int (-1), .int 0, .ref h27, .int 0, .ref h28, .int 0, .int 0, .int 0, .int 0, .int 0, .ref h29, .ref h30, .int 0, .int 0, .ref h31, .ref h32, .ref h33, .ref h34, .long 0, .ref h35, .int 0, .int 0, .int 0, .int 0, .int 0, .int 0, .int 0, .ref h36, .ref h37, .int 0, .int 0, .int 0, .int 0]))] H := hP
    have hD : va_D A [(h0, .inr (14, [.ref h1, .int 0, .ref h2, .int 0, .ref h3, .int 0, .int 0, .ref h4, .int (-1), .int 0, .int 0, .ref h5, .int 0, .ref h6, .ref h7, .ref h8, .ref h9, .ref h10, .int 0, .ref h11, .int 0, .int 0, .ref h12, .ref h13, .ref h14, .ref h15, .int 0, .ref h16, .ref h17, .int 0, .ref h18, .ref h19, .ref h20, .ref h21, .int 0, .int 0, .int 0, .ref h22, .int 0, .int 0, .ref h23, .ref h24, .ref h25, .ref h26, .int 0, .int 0, .int 0, .int 0, .int 0, .int 0, .int 0, .int 0, .int 0, .int 0, .int 0, .int 0, .int (-1), .int 0, .ref h27, .int 0, .ref h28, .int 0, .int 0, .int 0, .int 0, .int 0, .ref h29, .ref h30, .int 0, .int 0, .ref h31, .ref h32, .ref h33, .ref h34, .long 0, .ref h35, .int 0, .int 0, .int 0, .int 0, .int 0, .int 0, .int 0, .ref h36, .ref h37, .int 0, .int 0, .int 0, .int 0]))] := hD
    refine lv_iload_n hx hb dX13_end_19 rfl (lv_at hl 1 rfl) ?_
    refine W.widen (k := 0) (n := 0) (Nat.le_of_ble_eq_true rfl) (Nat.le_of_ble_eq_true rfl) ?_
    have hP9 := hP.sub (ws' := []) [] rfl
    have hD9 := hD.sub (ws' := []) [] (by decide) rfl
    have hK9 := hK.sub (tys' := []) [] rfl
    exact W.iret hx hb hr (fun t hH hW => ⟨⟨_, rfl, congrArg (fun z : Int32 => some (Value.int z)) (if_pos rfl).symm, by rw [hH]; exact hP9, va_K.moved hW.alike hK9, hD9⟩, hS.F hH⟩) hS.2.2 dX13_end_20 hlocks
  refine lv_iload_n hx hb dX13_end_0 rfl (lv_at hl 1 rfl) ?_
  refine lv_iconst (v := 0) hx hb dX13_end_1 (by decide) ?_
  refine lv_aload_n hx hb dX13_end_2 rfl (lv_at hl 0 rfl) ?_
  refine va_get (D := (dC, dI)) (ci := 14) (v := .int 0) (C := RX13) (T := TX13) (N := 89) hx hb ht inX13 hown hK hP 0 rfl rfl 1 (by decide) (ht _ mW1884) (fun _ h9 => h9) rfl dX13_end_3 ?_
  have hPc := hP.sub (ws' := []) [] rfl
  have hDc := hD.sub (ws' := []) [] (by decide) rfl
  have hKc := hK.sub (tys' := []) [] rfl
  have hFc := va_free (wc := []) hD hS hA [] rfl
  refine pCall (va_runS (As := [.int x0, .int 0, .int 0]) (rest := []) ⟨hx, hb, hml, hown, ht⟩ (c33_X13_isIn l dC dI s.heap.size x0 hne_x0) ⟨cbB 3 ht mW2162 mW20 mW2160 (by decide +kernel) ⟨(Nat.le_of_ble_eq_true rfl), (Nat.le_of_ble_eq_true rfl)⟩, ht _ mW2161⟩ ⟨pP_blind X0_blind, fun U hU hW => ⟨rfl, by rw [hU], by rw [hU]; exact hPc, va_K.moved hW.alike hKc, hDc.weaken (fun _ _ _ _ => trivial), trivial⟩⟩ rfl rfl hl.1 rfl (lv_room (Nat.le_of_ble_eq_true rfl)) dX13_end_6 ⟨(Nat.le_of_ble_eq_true rfl), (Nat.le_of_ble_eq_true rfl)⟩) hS (fun q h => hFc q h) hFc (fun v t H1 locs hH hvm hB hk1 hS => ?_)
  obtain ⟨hv, hP1, hK1, hD1⟩ := hB
  subst hv
  rw [hH] at hP1
  have hK1 := va_K.moved hvm.symm hK1
  obtain ⟨hP, hD⟩ := va_join (wr := [(h0, .inr (14, [.ref h1, .int 0, .ref h2, .int 0, .ref h3, .int 0, .int 0, .ref h4, .int (-1), .int 0, .int 0, .ref h5, .int 0, .ref h6, .ref h7, .ref h8, .ref h9, .ref h10, .int 0, .ref h11, .int 0, .int 0, .ref h12, .ref h13, .ref h14, .ref h15, .int 0, .ref h16, .ref h17, .int 0, .ref h18, .ref h19, .ref h20, .ref h21, .int 0, .int 0, .int 0, .ref h22, .int 0, .int 0, .ref h23, .ref h24, .ref h25, .ref h26, .int 0, .int 0, .int 0, .int 0, .int 0, .int 0, .int 0, .int 0, .int 0, .int 0, .int 0, .int 0, .int (-1), .int 0, .ref h27, .int 0, .ref h28, .int 0, .int 0, .int 0, .int 0, .int 0, .ref h29, .ref h30, .int 0, .int 0, .ref h31, .ref h32, .ref h33, .ref h34, .long 0, .ref h35, .int 0, .int 0, .int 0, .int 0, .int 0, .int 0, .int 0, .ref h36, .ref h37, .int 0, .int 0, .int 0, .int 0]))]) (w1 := []) hP hD [] [0] rfl rfl (by decide) (by decide) hk1 hFc hP1 hD1
  have hK := (hK.sub (tys' := []) [] rfl).app hK1
  generalize H1 = H at hP hS ⊢
  have hP : va_P (dC, dI) vwCl [(h0, .inr (14, [.ref h1, .int 0, .ref h2, .int 0, .ref h3, .int 0, .int 0, .ref h4, .int (-1), .int 0, .int 0, .ref h5, .int 0, .ref h6, .ref h7, .ref h8, .ref h9, .ref h10, .int 0, .ref h11, .int 0, .int 0, .ref h12, .ref h13, .ref h14, .ref h15, .int 0, .ref h16, .ref h17, .int 0, .ref h18, .ref h19, .ref h20, .ref h21, .int 0, .int 0, .int 0, .ref h22, .int 0, .int 0, .ref h23, .ref h24, .ref h25, .ref h26, .int 0, .int 0, .int 0, .int 0, .int 0, .int 0, .int 0, .int 0, .int 0, .int 0, .int 0, .int 0, .int (-1), .int 0, .ref h27, .int 0, .ref h28, .int 0, .int 0, .int 0, .int 0, .int 0, .ref h29, .ref h30, .int 0, .int 0, .ref h31, .ref h32, .ref h33, .ref h34, .long 0, .ref h35, .int 0, .int 0, .int 0, .int 0, .int 0, .int 0, .int 0, .ref h36, .ref h37, .int 0, .int 0, .int 0, .int 0]))] H := hP
  have hD : va_D A [(h0, .inr (14, [.ref h1, .int 0, .ref h2, .int 0, .ref h3, .int 0, .int 0, .ref h4, .int (-1), .int 0, .int 0, .ref h5, .int 0, .ref h6, .ref h7, .ref h8, .ref h9, .ref h10, .int 0, .ref h11, .int 0, .int 0, .ref h12, .ref h13, .ref h14, .ref h15, .int 0, .ref h16, .ref h17, .int 0, .ref h18, .ref h19, .ref h20, .ref h21, .int 0, .int 0, .int 0, .ref h22, .int 0, .int 0, .ref h23, .ref h24, .ref h25, .ref h26, .int 0, .int 0, .int 0, .int 0, .int 0, .int 0, .int 0, .int 0, .int 0, .int 0, .int 0, .int 0, .int (-1), .int 0, .ref h27, .int 0, .ref h28, .int 0, .int 0, .int 0, .int 0, .int 0, .ref h29, .ref h30, .int 0, .int 0, .ref h31, .ref h32, .ref h33, .ref h34, .long 0, .ref h35, .int 0, .int 0, .int 0, .int 0, .int 0, .int 0, .int 0, .ref h36, .ref h37, .int 0, .int 0, .int 0, .int 0]))] := hD
  have hK : va_K (dC, dI) vwCl [] s := hK
  refine W.widen (g := F0 m 9 ls [.int 0]) (k := 0) (n := 0) (Nat.le_of_ble_eq_true rfl) (Nat.le_of_ble_eq_true rfl) ?_
  refine lv_if_ne (tgt := 14) hx hb dX13_end_9 (by decide) (fun c => absurd (by decide) c) (fun _ => ?_)
  refine lv_iconst (v := (-1)) hx hb dX13_end_12 (by decide) ?_
  refine W.widen (k := 0) (n := 0) (Nat.le_of_ble_eq_true rfl) (Nat.le_of_ble_eq_true rfl) ?_
  have hP9 := hP.sub (ws' := []) [] rfl
  have hD9 := hD.sub (ws' := []) [] (by decide) rfl
  have hK9 := hK.sub (tys' := []) [] rfl
  exact W.iret hx hb hr (fun t hH hW => ⟨⟨_, rfl, congrArg (fun z : Int32 => some (Value.int z)) (if_neg hne_x0).symm, by rw [hH]; exact hP9, va_K.moved hW.alike hK9, hD9⟩, hS.F hH⟩) hS.2.2 dX13_end_13 hlocks
set_option maxHeartbeats 4000000 in
set_option maxRecDepth 100000 in
theorem c35_X12_input (l : Launch) (dC : Nat → ClassId) (dI : Nat → Nat → Nat) (sz : Nat) (h0 h1 h2 h3 h4 : Nat) (k0 : ClassId) : Met l yX12_input (.code yX12_input cX12_input 1 (some .int) :: wAll) ({ frames := 3, cells := 2, slots := 4, locals := 104 }) (pP (dC, dI) [.ref h0] [(h0, .inr (13, [.ref h1, .int 0, .ref h2, .ref h3, .ref h4])), (h1, .inl (k0, 2000, .inl (fun _ => 0)))] [(k0, .byte)] sz X0) (qQ (fun (v : Option Value) (t : State) => v = some (.int 0) ∧ va_P (dC, dI) vwCl [] t.heap ∧ va_K (dC, dI) vwCl [] t ∧ va_D (va_A [(h0, .inr (13, [.ref h1, .int 0, .ref h2, .ref h3, .ref h4])), (h1, .inl (k0, 2000, .inl (fun _ => 0)))] sz) []) (va_A [(h0, .inr (13, [.ref h1, .int 0, .ref h2, .ref h3, .ref h4])), (h1, .inl (k0, 2000, .inl (fun _ => 0)))] sz)) 2 4 (va_A [(h0, .inr (13, [.ref h1, .int 0, .ref h2, .ref h3, .ref h4])), (h1, .inl (k0, 2000, .inl (fun _ => 0)))] sz) := by
  refine mkMet (y := yX12_input) (bytes := cX12_input) (maxL := 1) (ret := (some .int)) (rm := { frames := 3, cells := 2, slots := 4, locals := 104 }) (by decide) (Nat.le_of_ble_eq_true rfl) ?_
  intro p e s m args below meth c ls hE hl
  obtain ⟨hx, hb, hml, hr, ht, hown, hlocks, hin, rfl, hP, hK, hD, hX, rfl⟩ := hE
  have hown : s.vm.findClass "CommandHouse" = some m.cls := hown
  have hA : ∀ q : Nat, s.heap.size ≤ q → va_A [(h0, .inr (13, [.ref h1, .int 0, .ref h2, .ref h3, .ref h4])), (h1, .inl (k0, 2000, .inl (fun _ => 0)))] s.heap.size q := fun q h => Or.inr h
  generalize hAe : va_A [(h0, .inr (13, [.ref h1, .int 0, .ref h2, .ref h3, .ref h4])), (h1, .inl (k0, 2000, .inl (fun _ => 0)))] s.heap.size = A at hD hX hA ⊢
  have hS : va_S A s.heap s.heap [] := va_S.rf
  have hl : lv_has ls 1 [(0, .ref h0)] := hl
  refine lv_aload_n hx hb dX12_input_0 rfl (lv_at hl 0 rfl) ?_
  refine va_new (ci := 4) (fs := [.null, .int 0, .int 0, .null]) (C := RX3) (T := TX3) (N := 4) hx hb ht inX3 tyX3 tyX3_ok hown (ht _ mW626) (ht _ mW43) (ht _ mW3) hK hP hD hS hA rfl dfX3 (Nat.le_of_ble_eq_true rfl) (Nat.le_of_ble_eq_true rfl) dX12_input_1 (fun q994 H hP hD hS => ?_)
  have hP : va_P (dC, dI) vwCl [(h0, .inr (13, [.ref h1, .int 0, .ref h2, .ref h3, .ref h4])), (h1, .inl (k0, 2000, .inl (fun _ => 0))), (q994, .inr (4, [.null, .int 0, .int 0, .null]))] H := hP
  have hD : va_D A [(h0, .inr (13, [.ref h1, .int 0, .ref h2, .ref h3, .ref h4])), (h1, .inl (k0, 2000, .inl (fun _ => 0))), (q994, .inr (4, [.null, .int 0, .int 0, .null]))] := hD
  refine W.widen (k := 1) (n := 4) (Nat.le_of_ble_eq_true rfl) (Nat.le_of_ble_eq_true rfl) ?_
  refine lv_dup hx hb dX12_input_4 rfl ?_
  refine lv_aload_n hx hb dX12_input_5 rfl (lv_at hl 0 rfl) ?_
  refine va_get (D := (dC, dI)) (ci := 13) (v := .ref h1) (C := RX12) (T := TX12) (N := 5) hx hb ht inX12 hown hK hP 0 rfl rfl 0 (by decide) (ht _ mW628) (fun _ h9 => h9) rfl dX12_input_6 ?_
  refine lv_iconst (v := 0) hx hb dX12_input_9 (by decide) ?_
  refine lv_aload_n hx hb dX12_input_10 rfl (lv_at hl 0 rfl) ?_
  refine va_get (D := (dC, dI)) (ci := 13) (v := .int 0) (C := RX12) (T := TX12) (N := 5) hx hb ht inX12 hown hK hP 0 rfl rfl 1 (by decide) (ht _ mW629) (fun _ h9 => h9) rfl dX12_input_11 ?_
  have hPc := hP.sub (ws' := [(h1, .inl (k0, 2000, .inl (fun _ => 0))), (q994, .inr (4, [.null, .int 0, .int 0, .null]))]) [1, 2] rfl
  have hDc := hD.sub (ws' := [(h1, .inl (k0, 2000, .inl (fun _ => 0))), (q994, .inr (4, [.null, .int 0, .int 0, .null]))]) [1, 2] (by decide) rfl
  have hKc := hK.sub (tys' := [(k0, .byte)]) [0] rfl
  have hFc := va_free (wc := [(h1, .inl (k0, 2000, .inl (fun _ => 0))), (q994, .inr (4, [.null, .int 0, .int 0, .null]))]) hD hS hA [1, 2] rfl
  refine pCall (va_runIN (As := [.ref h1, .int 0, .int 0]) (rest := [.ref q994, .ref h0]) ⟨hx, hb, hml, hown, ht⟩ (c21_X3_init l dC dI H.size q994 h1 k0) ⟨cbN 3 ht mW87 mW3 mW627 (by decide +kernel) ⟨(Nat.le_of_ble_eq_true rfl), (Nat.le_of_ble_eq_true rfl)⟩, rfl, ht _ mW86⟩ ⟨pP_blind X0_blind, fun U hU hW => ⟨rfl, by rw [hU], by rw [hU]; exact hPc, va_K.moved hW.alike hKc, hDc.weaken (fun _ _ _ _ => trivial), trivial⟩⟩ rfl rfl hl.1 rfl (lv_room (Nat.le_of_ble_eq_true rfl)) dX12_input_14 ⟨(Nat.le_of_ble_eq_true rfl), (Nat.le_of_ble_eq_true rfl)⟩) hS (fun q h => hFc q h) hFc (fun v t H1 locs hH hvm hB hk1 hS => ?_)
  obtain ⟨q997, k998, hv, hP1, hK1, hD1⟩ := hB
  subst hv
  rw [hH] at hP1
  have hK1 := va_K.moved hvm.symm hK1
  obtain ⟨hP, hD⟩ := va_join (wr := [(h0, .inr (13, [.ref h1, .int 0, .ref h2, .ref h3, .ref h4]))]) (w1 := [(h1, .inl (k0, 2000, .inl (fun _ => 0))), (q994, .inr (4, [.ref q997, .int 0, .int 0, .null])), (q997, .inl (k998, 0, .inl (fun _ => 0)))]) hP hD [1, 2] [0] rfl rfl (by decide) (by decide) hk1 hFc hP1 hD1
  have hK := (hK.sub (tys' := []) [] rfl).app hK1
  generalize H1 = H at hP hS ⊢
  have hP : va_P (dC, dI) vwCl [(h0, .inr (13, [.ref h1, .int 0, .ref h2, .ref h3, .ref h4])), (h1, .inl (k0, 2000, .inl (fun _ => 0))), (q994, .inr (4, [.ref q997, .int 0, .int 0, .null])), (q997, .inl (k998, 0, .inl (fun _ => 0)))] H := hP
  have hD : va_D A [(h0, .inr (13, [.ref h1, .int 0, .ref h2, .ref h3, .ref h4])), (h1, .inl (k0, 2000, .inl (fun _ => 0))), (q994, .inr (4, [.ref q997, .int 0, .int 0, .null])), (q997, .inl (k998, 0, .inl (fun _ => 0)))] := hD
  have hK : va_K (dC, dI) vwCl [(k0, .byte), (k998, .byte)] s := hK
  refine W.widen (g := F0 m 17 ls [.ref q994, .ref h0]) (k := 2) (n := 4) (Nat.le_of_ble_eq_true rfl) (Nat.le_of_ble_eq_true rfl) ?_
  refine va_put (D := (dC, dI)) (ci := 13) (v := .ref q994) (ty := (.object "CommandHouse$Bytes")) (C := RX12) (T := TX12) (N := 5) hx hb ht inX12 tyX12 tyX12_ok nmX12 hown hK hP hD hS 0 rfl rfl 2 (by decide) (ht _ mW630) (fun _ h9 => h9) rfl (by decide +kernel) rfl rfl (Nat.le_of_ble_eq_true rfl) dX12_input_17 (fun H locs hP hD hS => ?_)
  have hP : va_P (dC, dI) vwCl [(h0, .inr (13, [.ref h1, .int 0, .ref q994, .ref h3, .ref h4])), (h1, .inl (k0, 2000, .inl (fun _ => 0))), (q994, .inr (4, [.ref q997, .int 0, .int 0, .null])), (q997, .inl (k998, 0, .inl (fun _ => 0)))] H := hP
  have hD : va_D A [(h0, .inr (13, [.ref h1, .int 0, .ref q994, .ref h3, .ref h4])), (h1, .inl (k0, 2000, .inl (fun _ => 0))), (q994, .inr (4, [.ref q997, .int 0, .int 0, .null])), (q997, .inl (k998, 0, .inl (fun _ => 0)))] := hD
  refine lv_aload_n hx hb dX12_input_20 rfl (lv_at hl 0 rfl) ?_
  refine lv_iconst (v := 0) hx hb dX12_input_21 (by decide) ?_
  refine va_put (D := (dC, dI)) (ci := 13) (v := .int 0) (ty := .int) (C := RX12) (T := TX12) (N := 5) hx hb ht inX12 tyX12 tyX12_ok nmX12 hown hK hP hD hS 0 rfl rfl 1 (by decide) (ht _ mW629) (fun _ h9 => h9) rfl (by decide +kernel) rfl rfl (Nat.le_of_ble_eq_true rfl) dX12_input_22 (fun H locs hP hD hS => ?_)
  have hP : va_P (dC, dI) vwCl [(h0, .inr (13, [.ref h1, .int 0, .ref q994, .ref h3, .ref h4])), (h1, .inl (k0, 2000, .inl (fun _ => 0))), (q994, .inr (4, [.ref q997, .int 0, .int 0, .null])), (q997, .inl (k998, 0, .inl (fun _ => 0)))] H := hP
  have hD : va_D A [(h0, .inr (13, [.ref h1, .int 0, .ref q994, .ref h3, .ref h4])), (h1, .inl (k0, 2000, .inl (fun _ => 0))), (q994, .inr (4, [.ref q997, .int 0, .int 0, .null])), (q997, .inl (k998, 0, .inl (fun _ => 0)))] := hD
  refine lv_aload_n hx hb dX12_input_25 rfl (lv_at hl 0 rfl) ?_
  refine va_get (D := (dC, dI)) (ci := 13) (v := .ref q994) (C := RX12) (T := TX12) (N := 5) hx hb ht inX12 hown hK hP 0 rfl rfl 2 (by decide) (ht _ mW630) (fun _ h9 => h9) rfl dX12_input_26 ?_
  refine va_getN (D := (dC, dI)) (ci := 4) (v := .int 0) (C := RX3) (T := TX3) (N := 4) hx hb ht inX3 hown hK hP 2 rfl rfl 1 (by decide) (ht _ mW62) (fun _ h9 => h9) rfl dX12_input_29 ?_
  refine W.widen (k := 2) (n := 4) (Nat.le_of_ble_eq_true rfl) (Nat.le_of_ble_eq_true rfl) ?_
  have hP9 := hP.sub (ws' := []) [] rfl
  have hD9 := hD.sub (ws' := []) [] (by decide) rfl
  have hK9 := hK.sub (tys' := []) [] rfl
  exact W.iret hx hb hr (fun t hH hW => ⟨⟨_, rfl, rfl, by rw [hH]; exact hP9, va_K.moved hW.alike hK9, hD9⟩, hS.F hH⟩) hS.2.2 dX12_input_32 hlocks

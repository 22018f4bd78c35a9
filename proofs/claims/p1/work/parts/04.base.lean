/-- what an ended method leaves: an answer, a world, the frame -/
def qQ (B : Option Value → State → Prop) (A : Nat → Prop) : Array Value → State → Outcome → State → Prop := fun _ st oc t => (∃ v : Option Value, oc = .returned v ∧ B v t) ∧ va_F A st t
/-- what a method begins with: its arguments, its world, the statics that it may read -/
def pP (D : va_G) (av : List Value) (ws : va_W) (tys : List (ClassId × FieldType)) (sz : Nat) (X : (Nat → Prop) → State → Heap → Prop) : Array Value → State → Prop :=
  va_Pc av (fun U => U.heap.size = sz ∧ va_P D vwCl ws U.heap ∧ va_K D vwCl tys U ∧ va_D (fun _ => True) ws ∧ X (va_A ws sz) U U.heap)
def X0 : (Nat → Prop) → State → Heap → Prop := fun _ _ _ => True
/-- the statics: NEW_LINE at t1, the empty row of ArrayList at t2 -/
def XS (t1 t2 : Nat) : (Nat → Prop) → State → Heap → Prop := fun A U H =>
  va_Z "CommandHouse" "NEW_LINE" "[B" (.ref t1) A U H ∧ va_T .byte t1 1 (fun _ => .int 10) A U H ∧ va_Z "java/util/ArrayList" "DEFAULTCAPACITY_EMPTY_ELEMENTDATA" "[Ljava/lang/Object;" (.ref t2) A U H ∧ va_T (.object "java/lang/Object") t2 0 (fun _ => .null) A U H
theorem XS.at {t1 t2 : Nat} {A A1 : Nat → Prop} {s U : State} {H : Heap} {locs : List Loc} (h : XS t1 t2 A s s.heap) (hS : va_S A s.heap H locs) (hF : ∀ q, A1 q → A q) (hvm : s.vm.Alike U.vm) : XS t1 t2 A1 U H := by
  obtain ⟨h1, h2, h3, h4⟩ := h
  have hk : ∀ a : Nat, a < s.heap.size → ¬ A a → H[a]? = s.heap[a]? := hS.2.1
  exact ⟨((h1.kept hk).narrow hF).moved hvm, ((h2.kept hk).narrow hF).moved hvm, ((h3.kept hk).narrow hF).moved hvm, ((h4.kept hk).narrow hF).moved hvm⟩
theorem XS.blind {t1 t2 : Nat} {A : Nat → Prop} {U : State} (g : JFrame) (mk : MethodId) (a : Array Value) (h : XS t1 t2 A U U.heap) : XS t1 t2 A (U.calling g mk a) (U.calling g mk a).heap := by
  obtain ⟨h1, h2, h3, h4⟩ := h
  exact ⟨h1.moved (U := U.calling g mk a) (Vm.Alike.refl U.vm), h2.moved (U := U.calling g mk a) (Vm.Alike.refl U.vm), h3.moved (U := U.calling g mk a) (Vm.Alike.refl U.vm), h4.moved (U := U.calling g mk a) (Vm.Alike.refl U.vm)⟩
theorem pP_blind {D : va_G} {av : List Value} {ws : va_W} {tys : List (ClassId × FieldType)} {sz : Nat} {X : (Nat → Prop) → State → Heap → Prop} (hX : ∀ (A : Nat → Prop) (U : State) (g : JFrame) (mk : MethodId) (a : Array Value), X A U U.heap → X A (U.calling g mk a) (U.calling g mk a).heap) : FrameBlind (pP D av ws tys sz X) := by
  intro a U g mk q
  obtain ⟨q0, q1, qP, qK, qD, qX⟩ := q
  exact ⟨q0, q1, qP, va_K.moved (u := U) (U := U.calling g mk a) (Vm.Alike.refl U.vm) qK, qD, hX _ U g mk a qX⟩
theorem X0_blind : ∀ (A : Nat → Prop) (U : State) (g : JFrame) (mk : MethodId) (a : Array Value), X0 A U U.heap → X0 A (U.calling g mk a) (U.calling g mk a).heap := fun _ _ _ _ _ _ => trivial
theorem XS_blind {t1 t2 : Nat} : ∀ (A : Nat → Prop) (U : State) (g : JFrame) (mk : MethodId) (a : Array Value), XS t1 t2 A U U.heap → XS t1 t2 A (U.calling g mk a) (U.calling g mk a).heap := fun _ _ g mk a h => XS.blind g mk a h
/-- what stands at a method's entry -/
def pE (p : Program) (D : va_G) (s : State) (m : MethodId) (args : Array Value) (meth : Method) (c : Code) (y : MethodName) (bytes : ByteArray) (maxL : Nat) (ret : Option FieldType) (av : List Value) (ws : va_W) (tys : List (ClassId × FieldType)) (sz : Nat) (X : (Nat → Prop) → State → Heap → Prop) : Prop :=
  p.tables.exec = Jvm.exec ∧ c.code = bytes ∧ c.maxLocals = maxL ∧ meth.sig.returnType = ret ∧ (∀ w ∈ wAll, w.before args s = true) ∧ s.vm.findClass y.cls = some m.cls ∧ meth.locks = false ∧ meth.name = y.name ∧ s.heap.size = sz ∧ va_P D vwCl ws s.heap ∧ va_K D vwCl tys s ∧ va_D (va_A ws sz) ws ∧ X (va_A ws sz) s s.heap ∧ args = av.toArray
theorem mkMet {l : Launch} {y : MethodName} {bytes : ByteArray} {maxL : Nat} {ret : Option FieldType} {rm : Room} {D : va_G} {av : List Value} {ws : va_W} {tys : List (ClassId × FieldType)} {sz : Nat} {X : (Nat → Prop) → State → Heap → Prop} {B : Option Value → State → Prop} (hy : plainName y.cls = true) (hav : (lg_sl av).length ≤ maxL)
    (body : ∀ (p : Program) (e : Env) (s : State) (m : MethodId) (args : Array Value) (below : List Frame) (meth : Method) (c : Code) (ls : Array Slot), pE p D s m args meth c y bytes maxL ret av ws tys sz X → lv_has ls maxL (lv_args 0 av) →
      W p l e rm s m args below meth c s.heap [] 0 0 (MQ below (qQ B (va_A ws sz)) args s rm.cells rm.slots (va_A ws sz)) (F0 m 0 ls [])) :
    Met l y (.code y bytes maxL ret :: wAll) rm (pP D av ws tys sz X) (qQ B (va_A ws sz)) rm.cells rm.slots (va_A ws sz) := by
  refine Met.ofW (cc := bytes) (maxL := maxL) (ret := ret) hy rfl ?_
  intro p e s m args below meth c s₁ Bd hml hv
  obtain ⟨rfl, hsz, hP, hK, hD0, hX⟩ := hv
  have hts := atoms_spec (ws := .code y bytes maxL ret :: wAll) Bd.pre
  have hD : va_D (va_A ws sz) ws := hD0.self (sz := sz)
  rw [lg_entry_eq]
  exact body p e s m _ below meth c _ ⟨Bd.exec, Bd.bytes, hml, Bd.returns, fun w h => hts w (List.mem_cons_of_mem _ h), findClass_of_methodNamed Bd.named, Bd.notSynchronized, (name_of_methodNamed Bd.named Bd.method).1, hsz, hP, hK, hD, hX, rfl⟩ (lv_entry av (n := maxL) hav)
theorem wWarm {args : Array Value} {s : State} (ht : ∀ w ∈ wAll, w.before args s = true) : ∀ w ∈ wAll, ∀ (a' : Array Value) (U : State), s.WarmedH U.vm → w.before a' U = true :=
  fun w hw _ _ hW => okW_warm (List.all_eq_true.mp wAll_ok w hw) hW (ht w hw)
theorem wWarmC {args : Array Value} {s : State} {x : Cond} (ht : ∀ w ∈ wAll, w.before args s = true) (hx : x ∈ wAll) : ∀ w ∈ (x :: wAll), ∀ (a' : Array Value) (U : State), s.WarmedH U.vm → w.before a' U = true := by
  intro w hw
  rcases List.mem_cons.mp hw with e | h
  · rw [e]; exact wWarm ht x hx
  · exact wWarm ht w h
theorem descN {y : MethodName} {n : Nat} (h2 : (parseMethodDescriptor y.desc).map (fun d => d.parameters.length) = some n) : ∀ sig, parseMethodDescriptor y.desc = some sig → n = sig.parameters.length := by
  intro sig h
  rw [h] at h2
  exact (Option.some.inj h2).symm
theorem cbB {R rm : Room} {s : State} {args : Array Value} {own : String} {index maxL : Nat} {y : MethodName} {bytes : ByteArray} {ret : Option FieldType} (n : Nat) (ht : ∀ w ∈ wAll, w.before args s = true) (hc : Cond.code y bytes maxL ret ∈ wAll) (hi : Cond.initialized y.cls ∈ wAll) (hl : Cond.methodLink own index y ∈ wAll)
    (hd : y.cls ≠ "java/lang/invoke/MethodHandle" ∧ y.cls ≠ "java/lang/invoke/VarHandle" ∧ (parseMethodDescriptor y.desc).map (fun d => d.parameters.length) = some n) (hR : rm.frames + 1 ≤ R.frames ∧ 8 + (maxL + 11) + rm.locals ≤ R.locals) :
    CallB R s args own index y bytes maxL ret (.code y bytes maxL ret :: wAll) rm rm.cells rm.slots n :=
  ⟨rfl, rfl, hR.1, hR.2, wWarmC ht hc, List.mem_cons_self, ht _ hc, ht _ hi, ⟨hd.1, hd.2.1⟩, descN hd.2.2, ht _ hl⟩
theorem cbN {R rm : Room} {s : State} {args : Array Value} {own host : String} {index maxL : Nat} {y : MethodName} {bytes : ByteArray} {ret : Option FieldType} (n : Nat) (ht : ∀ w ∈ wAll, w.before args s = true) (hc : Cond.code y bytes maxL ret ∈ wAll) (hi : Cond.initialized y.cls ∈ wAll) (hl : Cond.methodLinkNest own index y host ∈ wAll)
    (hd : y.cls ≠ "java/lang/invoke/MethodHandle" ∧ y.cls ≠ "java/lang/invoke/VarHandle" ∧ (parseMethodDescriptor y.desc).map (fun d => d.parameters.length) = some n) (hR : rm.frames + 1 ≤ R.frames ∧ 8 + (maxL + 11) + rm.locals ≤ R.locals) :
    va_CN R s args own index y host bytes maxL ret (.code y bytes maxL ret :: wAll) rm rm.cells rm.slots n :=
  ⟨⟨rfl, rfl, hR.1, hR.2, wWarmC ht hc, List.mem_cons_self⟩, ht _ hc, ht _ hi, ⟨hd.1, hd.2.1⟩, descN hd.2.2, ht _ hl⟩
section
variable {p : Program} {l : Launch} {e : Env} {R : Room} {s : State} {m : MethodId} {args : Array Value} {below : List Frame} {meth : Method} {c : Code} {H : Heap} {locs : List Loc} {cells slots : Nat} {Q : State → Prop}
variable {pc : Nat} {ls : Array Slot} {rest st0 : List Value} {a : Array Value} {A0 A1 : Nat → Prop} {H0 : Heap} {mc ms : Nat} {free : Addr → Prop}
/-- behind a call: any answer -/
theorem pCall {B : Option Value → State → Prop} (hr : va_Run p l e R s m args below meth c H locs cells slots mc ms (F0 m pc ls st0) rest (qQ B A1 a) free) (hS : va_S A0 H0 H locs) (hA : ∀ q, A1 q → A0 q) (hf : ∀ q, free q → A0 q)
    (kk : ∀ (v : Option Value) (t : State) (H1 : Heap) (locs1 : List Loc), t.heap = H1 → s.vm.Alike t.vm → B v t → (∀ q : Nat, q < H.size → ¬ A1 q → H1[q]? = H[q]?) → va_S A0 H0 H1 locs1 → W p l e R s m args below meth c H1 locs1 (cells + mc) (slots + ms) Q (F0 m (pc + 3) ls (v.toList ++ rest))) : W p l e R s m args below meth c H locs cells slots Q (F0 m pc ls st0) := by
  intro T hT X
  obtain ⟨v, st₀, t, T', L, h0, X', hL, e1, e2, ⟨⟨v', hv, hb⟩, hz, hk⟩, st⟩ := hr T hT X
  cases hv
  rw [h0] at hz hk
  have hk1 : ∀ q : Nat, q < H.size → ¬ A1 q → T'.heap[q]? = H[q]? := fun q h1 h2 => by rw [e1]; exact hk q h1 h2
  have hS1 : va_S A0 H0 T'.heap (locs ++ L) := ⟨Nat.le_trans hS.1 (by rw [e1]; exact hz), fun q h1 h2 => by rw [hk1 q (Nat.lt_of_lt_of_le h1 hS.1) (fun z => h2 (hA q z))]; exact hS.2.1 q h1 h2, fun q hq => (List.mem_append.mp hq).elim (hS.2.2 q) (fun h => hf _ (hL q h))⟩
  obtain ⟨t2, a1, b1⟩ := kk v t T'.heap (locs ++ L) e1.symm (by rw [← e2]; exact X'.warmed.alike) hb hk1 hS1 T' rfl X'
  exact ⟨t2, st t2 a1, b1⟩
end
theorem i32_ne {x k : Int32} {z : Int} (h : ¬ x = k) (hz : k.toInt = z) : ¬ x.toInt = z := fun e => h (Int32.toInt_inj.mp (e.trans hz.symm))
theorem cpy0 {α : Type} (f g : Nat → α) (sp dp : Nat) : va_cpy f g sp dp 0 = g := by
  funext k
  simp only [va_cpy]
  rw [if_neg (by omega)]
theorem set_same {α : Type} {l : List α} {i : Nat} {x : α} (h : l[i]? = some x) : l.set i x = l := by
  apply List.ext_getElem?
  intro j
  rw [List.getElem?_set]
  by_cases e : i = j
  · subst e
    rw [if_pos rfl]
    have hi : i < l.length := (List.getElem?_eq_some_iff.mp h).1
    rw [if_pos hi, h]
  · rw [if_neg e]
theorem arr_same {α : Type} {H : Array α} {i : Nat} {x : α} (h : H[i]? = some x) : H.setIfInBounds i x = H := by
  apply Array.ext_getElem?
  intro j
  rw [Array.getElem?_setIfInBounds]
  by_cases e : i = j
  · subst e
    rw [if_pos rfl]
    have hi : i < H.size := (Array.getElem?_eq_some_iff.mp h).1
    rw [if_pos hi, h]
  · rw [if_neg e]
section
variable {p : Program} {l : Launch} {e : Env} {R : Room} {s : State} {m : MethodId} {args : Array Value} {below : List Frame} {meth : Method} {c : Code} {H : Heap} {locs : List Loc} {cells slots : Nat} {Q : State → Prop}
variable {cc : ByteArray} {pc : Nat} {ls : Array Slot} {rest : List Value} {D : va_G} {cl : List vw_C} {A : Nat → Prop} {a : Nat} {tys : List (ClassId × FieldType)} {ws : va_W} {H0 : Heap}
/-- no bytes from one row of the world to another -/
theorem pCopy0 (hexec : p.tables.exec = Jvm.exec) (hb : c.code = cc) (hml : c.maxLocals = ls.size) {own : String} {index : Nat} (hown : s.vm.findClass own = some m.cls) (hlink : (Cond.methodLink own index arraycopyName).before args s = true) (hnat : (Cond.native arraycopyName).before args s = true) (hstat : (Cond.static arraycopyName).before args s = true) (hini : (Cond.initialized "java/lang/System").before args s = true)
    (hK : va_K D cl tys s) (hP : va_P D cl ws H) (hD : va_D A ws) (hS : va_S A H0 H locs) (q0 q1 t0 t1 : Nat) {a0 : Nat} {c0 c1 : ClassId} {n0 n1 : Nat} {f g : Nat → Int32} {ty : FieldType} (ha0 : ws[q0]? = some (a0, .inl (c0, n0, .inl f))) (ha1 : ws[q1]? = some (a, .inl (c1, n1, .inl g))) (ht0 : tys[t0]? = some (c0, ty)) (ht1 : tys[t1]? = some (c1, ty)) (hprim : refKind ty = false)
    {sp dp : Int32} (h1 : ¬ sp < 0) (h2 : ¬ dp < 0) (h4 : sp.toNatClampNeg ≤ n0) (h5 : dp.toNatClampNeg ≤ n1)
    (hframes : 1 ≤ R.frames) (hlocals : (rest.map fun v => v.category).sum + (nativeFrameWords "java/lang/System" "arraycopy" 5 + 11) ≤ R.locals) (hdg : decode cc pc = .ok (.invokestatic index, 3))
    (kk : ∀ (H1 : Heap) (locs1 : List Loc), va_P D cl ws H1 → va_D A ws → va_S A H0 H1 locs1 → W p l e R s m args below meth c H1 locs1 cells slots Q (F0 m (pc + 3) ls rest)) : W p l e R s m args below meth c H locs cells slots Q (F0 m pc ls (.int 0 :: .int dp :: .ref a :: .int sp :: .ref a0 :: rest)) := by
  have z : (0 : Int32).toNatClampNeg = 0 := by decide
  refine va_copyi hexec hb hml hown hlink hnat hstat hini hK hP hD hS q0 q1 t0 t1 ha0 ha1 ht0 ht1 hprim h1 h2 (by decide) (by rw [z]; exact h4) (by rw [z]; exact h5) (fun i hi => by rw [z] at hi; exact absurd hi (Nat.not_lt_zero i)) hframes hlocals hdg (fun H1 locs1 hP1 hD1 hS1 => ?_)
  rw [z, cpy0, set_same ha1] at hP1 hD1
  exact kk H1 locs1 hP1 hD1 hS1
/-- no bytes from a row of a static to one of the world -/
theorem pCopyT (hexec : p.tables.exec = Jvm.exec) (hb : c.code = cc) (hml : c.maxLocals = ls.size) {own : String} {index : Nat} (hown : s.vm.findClass own = some m.cls) (hlink : (Cond.methodLink own index arraycopyName).before args s = true) (hnat : (Cond.native arraycopyName).before args s = true) (hstat : (Cond.static arraycopyName).before args s = true) (hini : (Cond.initialized "java/lang/System").before args s = true)
    (hK : va_K D cl tys s) (hP : va_P D cl ws H) (hD : va_D A ws) (hS : va_S A s.heap H locs) {ty : FieldType} {t N : Nat} {f0 : Nat → Value} (hT0 : va_T ty t N f0 A s s.heap) (q1 t1 : Nat) {c1 : ClassId} {n1 : Nat} {g : Nat → Int32} (ha1 : ws[q1]? = some (a, .inl (c1, n1, .inl g))) (ht1 : tys[t1]? = some (c1, ty))
    {sp dp : Int32} (h1 : ¬ sp < 0) (h2 : ¬ dp < 0) (h4 : sp.toNatClampNeg ≤ N) (h5 : dp.toNatClampNeg ≤ n1)
    (hframes : 1 ≤ R.frames) (hlocals : (rest.map fun v => v.category).sum + (nativeFrameWords "java/lang/System" "arraycopy" 5 + 11) ≤ R.locals) (hdg : decode cc pc = .ok (.invokestatic index, 3))
    (kk : ∀ (H1 : Heap) (locs1 : List Loc), va_P D cl ws H1 → va_D A ws → va_S A s.heap H1 locs1 → W p l e R s m args below meth c H1 locs1 cells slots Q (F0 m (pc + 3) ls rest)) (hprim : refKind ty = false := by rfl) : W p l e R s m args below meth c H locs cells slots Q (F0 m pc ls (.int 0 :: .int dp :: .ref a :: .int sp :: .ref t :: rest)) := by
  have nn : ∀ z : Int32, ¬ z < 0 → z.toInt = (z.toNatClampNeg : Int) := fun z hz => by
    have h0 : (0 : Int) ≤ z.toInt := by simpa using Int32.le_iff_toInt_le.mp (Int32.not_lt.mp hz)
    show z.toInt = ((z.toInt.toNat : Nat) : Int)
    omega
  intro T hT X
  obtain ⟨scr, hs1, ⟨hs6, k0, hk0, cm0, hkk0⟩, hs3, hs4, -, -, hnA⟩ := hT0
  have htl : t < s.heap.size := (Array.getElem?_eq_some_iff.mp hs1).1
  have hc0 : H[t]? = some scr := by rw [hS.2.1 t htl hnA]; exact hs1
  have hc1 : H[a]? = some (vp_cell c1 (n1, .inl g)) := hP q1 _ ha1
  obtain ⟨-, k1, hk1, cm1, hkk1⟩ := (hK.2 t1 _ ht1).1 n1 (fun j => .int (g j))
  have z : (0 : Int32).toNatClampNeg = 0 := by decide
  obtain ⟨vm', X', step⟩ := X.arraycopy hexec hown hlink hnat hstat hini (src := t) (dst := a) (cs := scr) (cd := vp_cell c1 (n1, .inl g)) (srcPos := sp) (destPos := dp) (n := 0) (by rw [hT]; exact hc0) (by rw [hT]; exact hc1)
    hs6 (fun _ h => by cases h) hs3 (fun h => by cases h) hk0 hk1 hkk0 hkk1 (by simp [hprim]) h1 h2 (by decide)
    (by rw [nn sp h1]; have e0 : (0 : Int32).toInt = 0 := by decide
        rw [e0]; omega)
    (by rw [nn dp h2]; have e0 : (0 : Int32).toInt = 0 := by decide
        rw [e0]; show ¬ _ > ((arrV c1 n1 (fun j => .int (g j))).slots.size : Int); rw [arrV_size]; omega)
    (fun _ _ i hi => by rw [z] at hi; exact absurd hi (Nat.not_lt_zero i))
    (g := F0 m pc ls (.int 0 :: .int dp :: .ref a :: .int sp :: .ref t :: rest)) rfl (by rw [hml]) (rest := rest) rfl (by rw [hb]; exact hdg) hframes (by show 2 * 0 + _ + _ ≤ _; omega)
  have e1 : copied scr (vp_cell c1 (n1, .inl g)) sp dp 0 = vp_cell c1 (n1, .inl g) := by
    have e2 := va_copiedX (n0 := 0) (n1 := n1) (sp := 0) (dp := dp.toNatClampNeg) (n := 0) (fun z : Int32 => Value.int z) scr c1 (fun _ => 0) g (fun j hj => absurd hj (Nat.not_lt_zero j)) (Nat.le_refl 0)
    rw [cpy0] at e2
    exact e2
  have e3 : (scr.stretch sp.toNatClampNeg (0 : Int32).toNatClampNeg) = [] := by rw [z]; rfl
  rw [e1] at X' step
  rw [e3] at X'
  have hheap : ((T.setVm vm').setCell a (vp_cell c1 (n1, .inl g))).heap = H := by
    show T.heap.setIfInBounds a (vp_cell c1 (n1, .inl g)) = H
    rw [hT]
    exact arr_same hc1
  obtain ⟨t2, a1, b1⟩ := kk H (locs ++ []) hP hD ⟨hS.1, hS.2.1, fun q hq => hS.2.2 q (by simpa using hq)⟩ _ hheap X'
  exact ⟨t2, step t2 a1, b1⟩
end

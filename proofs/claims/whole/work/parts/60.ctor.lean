/-! the constructors -/
theorem bp_28 : (Int8.ofInt (28)).toInt32 = (28 : Int32) := by decide
abbrev RC (k mc ms : Nat) : Room := { frames := k, cells := mc, slots := ms, locals := 64 * k }
def PI (D : va_G) (ci : Nat) (fs : List Value) (sz h0 : Nat) (av : List Value) : Array Value → State → Prop := va_Pc av (fun U => U.heap.size = sz ∧ va_P D vwCl [(h0, .inr (ci, fs))] U.heap ∧ va_K D vwCl [] U ∧ va_D (fun _ => True) [(h0, .inr (ci, fs))] ∧ NW U)
theorem PI_blind {D : va_G} {ci : Nat} {fs : List Value} {sz h0 : Nat} {av : List Value} : FrameBlind (PI D ci fs sz h0 av) := fun _ U f mk q => ⟨q.1, q.2.1, q.2.2.1, va_K.moved (u := U) (U := U.calling f mk _) (Vm.Alike.refl U.vm) q.2.2.2.1, q.2.2.2.2.1, NW.same (u := U) (U := U.calling f mk _) rfl q.2.2.2.2.2⟩
theorem PI_pre {D : va_G} {ci : Nat} {fs : List Value} {h0 : Nat} {av : List Value} {s : State} {H : Heap} {A : Nat → Prop} (hK : va_K D vwCl [] s) (hN : NW s) (hP : va_P D vwCl [(h0, .inr (ci, fs))] H) (hD : va_D A [(h0, .inr (ci, fs))]) : ∀ U : State, U.heap = H → s.WarmedH U.vm → PI D ci fs H.size h0 av av.toArray U := fun U hU hW => ⟨rfl, by rw [hU], by rw [hU]; exact hP, va_K.moved hW.alike hK, hD.weaken (fun _ _ _ _ => trivial), hN.warm hW⟩
theorem ci_of {R : Room} {s : State} {args : Array Value} {own : String} {index : Nat} {y : MethodName} {bytes : ByteArray} {maxL : Nat} {ret : Option FieldType} {k mc ms : Nat} (n : Nat) (hts : ∀ w ∈ wd, w.before args s = true) (hc : Cond.code y bytes maxL ret ∈ wd) (hini : Cond.initialized y.cls ∈ wd) (hl : Cond.methodLink own index y ∈ wd) (hd : y.cls ≠ "java/lang/invoke/MethodHandle" ∧ y.cls ≠ "java/lang/invoke/VarHandle" ∧ (parseMethodDescriptor y.desc).map (fun d => d.parameters.length) = some n) (hR : k + 1 ≤ R.frames ∧ 8 + (maxL + 11) + 64 * k ≤ R.locals) : CallB R s args own index y bytes maxL ret (wsm y bytes maxL ret) (RC k mc ms) mc ms n :=
  callB_of n hts (wsm_good hc) rfl rfl rfl (hts _ hini) (hts _ hl) hd hR
theorem cin_of {R : Room} {s : State} {args : Array Value} {own host : String} {index : Nat} {y : MethodName} {bytes : ByteArray} {maxL : Nat} {ret : Option FieldType} {k mc ms : Nat} (n : Nat) (hts : ∀ w ∈ wd, w.before args s = true) (hc : Cond.code y bytes maxL ret ∈ wd) (hini : Cond.initialized y.cls ∈ wd) (hl : va_Nw (.methodLinkNest own index y host) s) (hd : y.cls ≠ "java/lang/invoke/MethodHandle" ∧ y.cls ≠ "java/lang/invoke/VarHandle" ∧ (parseMethodDescriptor y.desc).map (fun d => d.parameters.length) = some n) (hR : k + 1 ≤ R.frames ∧ 8 + (maxL + 11) + 64 * k ≤ R.locals) : va_CN R s args own index y host bytes maxL ret (wsm y bytes maxL ret) (RC k mc ms) mc ms n :=
  va_cnB n hts (wsm_good hc) rfl rfl rfl hl (hts _ hini) hd hR

set_option maxHeartbeats 4000000 in
set_option maxRecDepth 100000 in
theorem ci0 (l : Launch) (D : va_G) (h0 sz : Nat) (r1 : Nat) (r2 : Nat) : Met l yX0_init (wsm yX0_init cX0_init 3 none) (RC 1 0 0) (PI D 0 [.null, .null, .int 0, .int 0] sz h0 [.ref h0, .ref r1, .ref r2]) (va_Qv (fun _ : Unit => True) (fun _ t => va_P D vwCl [(h0, .inr (0, [.ref r1, .ref r2, .int 2, .int 10]))] t.heap ∧ va_K D vwCl [] t ∧ va_D (va_A [(h0, .inr (0, [.null, .null, .int 0, .int 0]))] sz) [(h0, .inr (0, [.ref r1, .ref r2, .int 2, .int 10]))]) (va_A [(h0, .inr (0, [.null, .null, .int 0, .int 0]))] sz)) 0 0 (va_A [(h0, .inr (0, [.null, .null, .int 0, .int 0]))] sz) := by
  refine Met.ofW (cc := cX0_init) (maxL := 3) (ret := none) (by decide) rfl ?_
  intro p e s m args below meth c s₁ B hml hv
  obtain ⟨rfl, hsz, hP, hK, hD0, hN⟩ := hv
  have hx := B.exec
  have hb := B.bytes
  have hr := B.returns
  have hts0 := atoms_spec (ws := wsm yX0_init cX0_init 3 none) B.pre
  have hts : ∀ w ∈ wd, w.before _ s = true := fun w h => hts0 w (List.mem_cons_of_mem _ h)
  have hown : s.vm.findClass RX0 = some m.cls := findClass_of_methodNamed B.named
  have hlocks := B.notSynchronized
  have hin : meth.name = "<init>" := (name_of_methodNamed B.named B.method).1
  subst hsz
  have hD := hD0.self (sz := s.heap.size)
  generalize hAe : va_A [(h0, .inr (0, [.null, .null, .int 0, .int 0]))] s.heap.size = A at hD ⊢
  have hA : ∀ q : Nat, s.heap.size ≤ q → A q := fun q h => by rw [← hAe]; exact Or.inr h
  have hS : va_S A s.heap s.heap [] := va_S.rf
  have hl := lv_entry ([.ref h0, .ref r1, .ref r2]) (n := 3) (Nat.le_of_ble_eq_true rfl)
  rw [lg_entry_eq]
  generalize (lg_sl ([.ref h0, .ref r1, .ref r2]) ++ List.replicate (3 - (lg_sl ([.ref h0, .ref r1, .ref r2])).length) Slot.unset).toArray = ls at hl ⊢
  have hl : lv_has ls 3 [(0, .ref h0), (1, .ref r1), (2, .ref r2)] := hl
  refine lv_aload_n hx hb dX0_init_0 rfl (lv_at hl 0 rfl) ?_
  refine W.objInit hx hb hown (hts _ wl201) (hts _ wl54) (hts _ wl55) rfl (by rw [hml]; exact hl.1) rfl dX0_init_1 (Nat.le_of_ble_eq_true rfl) (Nat.le_of_ble_eq_true rfl) ?_
  refine W.eq (g2 := F0 m 4 ls []) rfl ?_
  refine lv_aload_n hx hb dX0_init_4 rfl (lv_at hl 0 rfl) ?_
  refine lv_iconst hx hb dX0_init_5 ic_2 ?_
  refine va_put (ci := 0) (v := .int 2) (C := RX0) (T := TX0) (N := 4) hx hb hts inW0 tyX0 tyX0_ok nmX0 hown hK hP hD hS 0 rfl rfl 2 (by decide) (hts _ wl204) (fun _ h => h) rfl (tyX0_ok 2 (by decide)) rfl rfl (Nat.le_of_ble_eq_true rfl) dX0_init_6 (fun H locs hP hD hS => ?_)
  have hP : va_P D vwCl [(h0, .inr (0, [.null, .null, .int 2, .int 0]))] H := hP
  have hD : va_D A [(h0, .inr (0, [.null, .null, .int 2, .int 0]))] := hD
  refine lv_aload_n hx hb dX0_init_9 rfl (lv_at hl 0 rfl) ?_
  refine lv_bipush hx hb dX0_init_10 bp_10 ?_
  refine va_put (ci := 0) (v := .int 10) (C := RX0) (T := TX0) (N := 4) hx hb hts inW0 tyX0 tyX0_ok nmX0 hown hK hP hD hS 0 rfl rfl 3 (by decide) (hts _ wl205) (fun _ h => h) rfl (tyX0_ok 3 (by decide)) rfl rfl (Nat.le_of_ble_eq_true rfl) dX0_init_12 (fun H locs hP hD hS => ?_)
  have hP : va_P D vwCl [(h0, .inr (0, [.null, .null, .int 2, .int 10]))] H := hP
  have hD : va_D A [(h0, .inr (0, [.null, .null, .int 2, .int 10]))] := hD
  refine lv_aload_n hx hb dX0_init_15 rfl (lv_at hl 0 rfl) ?_
  refine lv_aload_n hx hb dX0_init_16 rfl (lv_at hl 1 rfl) ?_
  refine va_putF (ci := 0) (v := .ref r1) (C := RX0) (T := TX0) (N := 4) hx hb hts inW0 tyX0 tyX0_ok nmX0 hown hK hP hD hS 0 rfl rfl 0 (by decide) (hts _ wl202) (fun _ h => h) rfl hin rfl (tyX0_ok 0 (by decide)) rfl rfl (Nat.le_of_ble_eq_true rfl) dX0_init_17 (fun H locs hP hD hS => ?_)
  have hP : va_P D vwCl [(h0, .inr (0, [.ref r1, .null, .int 2, .int 10]))] H := hP
  have hD : va_D A [(h0, .inr (0, [.ref r1, .null, .int 2, .int 10]))] := hD
  refine lv_aload_n hx hb dX0_init_20 rfl (lv_at hl 0 rfl) ?_
  refine lv_aload_n hx hb dX0_init_21 rfl (lv_at hl 2 rfl) ?_
  refine va_putF (ci := 0) (v := .ref r2) (C := RX0) (T := TX0) (N := 4) hx hb hts inW0 tyX0 tyX0_ok nmX0 hown hK hP hD hS 0 rfl rfl 1 (by decide) (hts _ wl203) (fun _ h => h) rfl hin rfl (tyX0_ok 1 (by decide)) rfl rfl (Nat.le_of_ble_eq_true rfl) dX0_init_22 (fun H locs hP hD hS => ?_)
  have hP : va_P D vwCl [(h0, .inr (0, [.ref r1, .ref r2, .int 2, .int 10]))] H := hP
  have hD : va_D A [(h0, .inr (0, [.ref r1, .ref r2, .int 2, .int 10]))] := hD
  refine W.widen (k := 0) (n := 0) (Nat.le_of_ble_eq_true rfl) (Nat.le_of_ble_eq_true rfl) ?_
  exact W.vret hx hb hr (fun t ht hW => ⟨⟨(), rfl, trivial, by rw [ht]; exact hP, va_K.moved hW.alike hK, hD⟩, hS.F ht⟩) hS.2.2 dX0_init_25
set_option maxHeartbeats 4000000 in
set_option maxRecDepth 100000 in
theorem ci1 (l : Launch) (D : va_G) (h0 sz : Nat) : Met l yX1_init (wsm yX1_init cX1_init 1 none) (RC 1 2 512) (PI D 1 [.null, .null, .int 0] sz h0 [.ref h0]) (va_Qv (fun _ : Unit => True) (fun _ t => ∃ (q8 : Nat) (q17 : Nat) (g8 : ClassId) (g17 : ClassId), va_P D vwCl [(h0, .inr (1, [.ref q8, .ref q17, .int 0])), (q8, .inl (g8, 256, .inl (fun _ => 0))), (q17, .inl (g17, 256, .inl (fun _ => 0)))] t.heap ∧ va_K D vwCl [(g8, .int), (g17, .int)] t ∧ va_D (va_A [(h0, .inr (1, [.null, .null, .int 0]))] sz) [(h0, .inr (1, [.ref q8, .ref q17, .int 0])), (q8, .inl (g8, 256, .inl (fun _ => 0))), (q17, .inl (g17, 256, .inl (fun _ => 0)))]) (va_A [(h0, .inr (1, [.null, .null, .int 0]))] sz)) 2 512 (va_A [(h0, .inr (1, [.null, .null, .int 0]))] sz) := by
  refine Met.ofW (cc := cX1_init) (maxL := 1) (ret := none) (by decide) rfl ?_
  intro p e s m args below meth c s₁ B hml hv
  obtain ⟨rfl, hsz, hP, hK, hD0, hN⟩ := hv
  have hx := B.exec
  have hb := B.bytes
  have hr := B.returns
  have hts0 := atoms_spec (ws := wsm yX1_init cX1_init 1 none) B.pre
  have hts : ∀ w ∈ wd, w.before _ s = true := fun w h => hts0 w (List.mem_cons_of_mem _ h)
  have hown : s.vm.findClass RX1 = some m.cls := findClass_of_methodNamed B.named
  have hlocks := B.notSynchronized
  have hin : meth.name = "<init>" := (name_of_methodNamed B.named B.method).1
  subst hsz
  have hD := hD0.self (sz := s.heap.size)
  generalize hAe : va_A [(h0, .inr (1, [.null, .null, .int 0]))] s.heap.size = A at hD ⊢
  have hA : ∀ q : Nat, s.heap.size ≤ q → A q := fun q h => by rw [← hAe]; exact Or.inr h
  have hS : va_S A s.heap s.heap [] := va_S.rf
  have hl := lv_entry ([.ref h0]) (n := 1) (Nat.le_of_ble_eq_true rfl)
  rw [lg_entry_eq]
  generalize (lg_sl ([.ref h0]) ++ List.replicate (1 - (lg_sl ([.ref h0])).length) Slot.unset).toArray = ls at hl ⊢
  have hl : lv_has ls 1 [(0, .ref h0)] := hl
  refine lv_aload_n hx hb dX1_init_0 rfl (lv_at hl 0 rfl) ?_
  refine W.objInit hx hb hown (hts _ wl220) (hts _ wl54) (hts _ wl55) rfl (by rw [hml]; exact hl.1) rfl dX1_init_1 (Nat.le_of_ble_eq_true rfl) (Nat.le_of_ble_eq_true rfl) ?_
  refine W.eq (g2 := F0 m 4 ls []) rfl ?_
  refine lv_aload_n hx hb dX1_init_4 rfl (lv_at hl 0 rfl) ?_
  refine lv_sipush hx hb dX1_init_5 sp_256 ?_
  refine va_newa (atype := .int) (ty := .int) (a0 := (256, .inl (fun _ => 0))) (n := 256) hx hb (hts _ wl90) rfl hK hP hD hS hA (fun _ => rfl) (by decide) rfl (by decide) (Nat.le_of_ble_eq_true rfl) (Nat.le_of_ble_eq_true rfl) dX1_init_8 (fun q8 g8 H hK hP hD hS => ?_)
  have hP : va_P D vwCl [(h0, .inr (1, [.null, .null, .int 0])), (q8, .inl (g8, 256, .inl (fun _ => 0)))] H := hP
  have hD : va_D A [(h0, .inr (1, [.null, .null, .int 0])), (q8, .inl (g8, 256, .inl (fun _ => 0)))] := hD
  have hK : va_K D vwCl [(g8, .int)] s := hK
  refine W.widen (k := 1) (n := 256) (Nat.le_of_ble_eq_true rfl) (Nat.le_of_ble_eq_true rfl) ?_
  refine va_putF (ci := 1) (v := .ref q8) (C := RX1) (T := TX1) (N := 3) hx hb hts inW1 tyX1 tyX1_ok nmX1 hown hK hP hD hS 0 rfl rfl 0 (by decide) (hts _ wl221) (fun _ h => h) rfl hin rfl (tyX1_ok 0 (by decide)) rfl rfl (Nat.le_of_ble_eq_true rfl) dX1_init_10 (fun H locs hP hD hS => ?_)
  have hP : va_P D vwCl [(h0, .inr (1, [.ref q8, .null, .int 0])), (q8, .inl (g8, 256, .inl (fun _ => 0)))] H := hP
  have hD : va_D A [(h0, .inr (1, [.ref q8, .null, .int 0])), (q8, .inl (g8, 256, .inl (fun _ => 0)))] := hD
  refine lv_aload_n hx hb dX1_init_13 rfl (lv_at hl 0 rfl) ?_
  refine lv_sipush hx hb dX1_init_14 sp_256 ?_
  refine va_newa (atype := .int) (ty := .int) (a0 := (256, .inl (fun _ => 0))) (n := 256) hx hb (hts _ wl90) rfl hK hP hD hS hA (fun _ => rfl) (by decide) rfl (by decide) (Nat.le_of_ble_eq_true rfl) (Nat.le_of_ble_eq_true rfl) dX1_init_17 (fun q17 g17 H hK hP hD hS => ?_)
  have hP : va_P D vwCl [(h0, .inr (1, [.ref q8, .null, .int 0])), (q8, .inl (g8, 256, .inl (fun _ => 0))), (q17, .inl (g17, 256, .inl (fun _ => 0)))] H := hP
  have hD : va_D A [(h0, .inr (1, [.ref q8, .null, .int 0])), (q8, .inl (g8, 256, .inl (fun _ => 0))), (q17, .inl (g17, 256, .inl (fun _ => 0)))] := hD
  have hK : va_K D vwCl [(g8, .int), (g17, .int)] s := hK
  refine W.widen (k := 2) (n := 512) (Nat.le_of_ble_eq_true rfl) (Nat.le_of_ble_eq_true rfl) ?_
  refine va_putF (ci := 1) (v := .ref q17) (C := RX1) (T := TX1) (N := 3) hx hb hts inW1 tyX1 tyX1_ok nmX1 hown hK hP hD hS 0 rfl rfl 1 (by decide) (hts _ wl222) (fun _ h => h) rfl hin rfl (tyX1_ok 1 (by decide)) rfl rfl (Nat.le_of_ble_eq_true rfl) dX1_init_19 (fun H locs hP hD hS => ?_)
  have hP : va_P D vwCl [(h0, .inr (1, [.ref q8, .ref q17, .int 0])), (q8, .inl (g8, 256, .inl (fun _ => 0))), (q17, .inl (g17, 256, .inl (fun _ => 0)))] H := hP
  have hD : va_D A [(h0, .inr (1, [.ref q8, .ref q17, .int 0])), (q8, .inl (g8, 256, .inl (fun _ => 0))), (q17, .inl (g17, 256, .inl (fun _ => 0)))] := hD
  refine lv_aload_n hx hb dX1_init_22 rfl (lv_at hl 0 rfl) ?_
  refine lv_iconst hx hb dX1_init_23 ic_0 ?_
  refine va_put (ci := 1) (v := .int 0) (C := RX1) (T := TX1) (N := 3) hx hb hts inW1 tyX1 tyX1_ok nmX1 hown hK hP hD hS 0 rfl rfl 2 (by decide) (hts _ wl223) (fun _ h => h) rfl (tyX1_ok 2 (by decide)) rfl rfl (Nat.le_of_ble_eq_true rfl) dX1_init_24 (fun H locs hP hD hS => ?_)
  have hP : va_P D vwCl [(h0, .inr (1, [.ref q8, .ref q17, .int 0])), (q8, .inl (g8, 256, .inl (fun _ => 0))), (q17, .inl (g17, 256, .inl (fun _ => 0)))] H := hP
  have hD : va_D A [(h0, .inr (1, [.ref q8, .ref q17, .int 0])), (q8, .inl (g8, 256, .inl (fun _ => 0))), (q17, .inl (g17, 256, .inl (fun _ => 0)))] := hD
  refine W.widen (k := 2) (n := 512) (Nat.le_of_ble_eq_true rfl) (Nat.le_of_ble_eq_true rfl) ?_
  exact W.vret hx hb hr (fun t ht hW => ⟨⟨(), rfl, trivial, q8, q17, g8, g17, by rw [ht]; exact hP, va_K.moved hW.alike hK, hD⟩, hS.F ht⟩) hS.2.2 dX1_init_27
set_option maxHeartbeats 4000000 in
set_option maxRecDepth 100000 in
theorem ci2 (l : Launch) (D : va_G) (h0 sz : Nat) (r1 : Nat) (r2 : Nat) : Met l yX2_init (wsm yX2_init cX2_init 3 none) (RC 1 5 54) (PI D 2 [.null, .null, .null, .null, .null, .null, .null, .int 0, .int 0] sz h0 [.ref h0, .ref r1, .ref r2]) (va_Qv (fun _ : Unit => True) (fun _ t => ∃ (q7 : Nat) (q15 : Nat) (q23 : Nat) (q30 : Nat) (q38 : Nat) (g7 : ClassId) (g15 : ClassId) (g23 : ClassId) (g30 : ClassId) (g38 : ClassId), va_P D vwCl [(h0, .inr (2, [.ref r1, .ref r2, .ref q7, .ref q15, .ref q23, .ref q30, .ref q38, .int 0, .int 0])), (q7, .inl (g7, 28, .inl (fun _ => 0))), (q15, .inl (g15, 8, .inl (fun _ => 0))), (q23, .inl (g23, 7, .inl (fun _ => 0))), (q30, .inl (g30, 4, .inl (fun _ => 0))), (q38, .inl (g38, 7, .inl (fun _ => 0)))] t.heap ∧ va_K D vwCl [(g7, .int), (g15, .int), (g23, .int), (g30, .int), (g38, .int)] t ∧ va_D (va_A [(h0, .inr (2, [.null, .null, .null, .null, .null, .null, .null, .int 0, .int 0]))] sz) [(h0, .inr (2, [.ref r1, .ref r2, .ref q7, .ref q15, .ref q23, .ref q30, .ref q38, .int 0, .int 0])), (q7, .inl (g7, 28, .inl (fun _ => 0))), (q15, .inl (g15, 8, .inl (fun _ => 0))), (q23, .inl (g23, 7, .inl (fun _ => 0))), (q30, .inl (g30, 4, .inl (fun _ => 0))), (q38, .inl (g38, 7, .inl (fun _ => 0)))]) (va_A [(h0, .inr (2, [.null, .null, .null, .null, .null, .null, .null, .int 0, .int 0]))] sz)) 5 54 (va_A [(h0, .inr (2, [.null, .null, .null, .null, .null, .null, .null, .int 0, .int 0]))] sz) := by
  refine Met.ofW (cc := cX2_init) (maxL := 3) (ret := none) (by decide) rfl ?_
  intro p e s m args below meth c s₁ B hml hv
  obtain ⟨rfl, hsz, hP, hK, hD0, hN⟩ := hv
  have hx := B.exec
  have hb := B.bytes
  have hr := B.returns
  have hts0 := atoms_spec (ws := wsm yX2_init cX2_init 3 none) B.pre
  have hts : ∀ w ∈ wd, w.before _ s = true := fun w h => hts0 w (List.mem_cons_of_mem _ h)
  have hown : s.vm.findClass RX2 = some m.cls := findClass_of_methodNamed B.named
  have hlocks := B.notSynchronized
  have hin : meth.name = "<init>" := (name_of_methodNamed B.named B.method).1
  subst hsz
  have hD := hD0.self (sz := s.heap.size)
  generalize hAe : va_A [(h0, .inr (2, [.null, .null, .null, .null, .null, .null, .null, .int 0, .int 0]))] s.heap.size = A at hD ⊢
  have hA : ∀ q : Nat, s.heap.size ≤ q → A q := fun q h => by rw [← hAe]; exact Or.inr h
  have hS : va_S A s.heap s.heap [] := va_S.rf
  have hl := lv_entry ([.ref h0, .ref r1, .ref r2]) (n := 3) (Nat.le_of_ble_eq_true rfl)
  rw [lg_entry_eq]
  generalize (lg_sl ([.ref h0, .ref r1, .ref r2]) ++ List.replicate (3 - (lg_sl ([.ref h0, .ref r1, .ref r2])).length) Slot.unset).toArray = ls at hl ⊢
  have hl : lv_has ls 3 [(0, .ref h0), (1, .ref r1), (2, .ref r2)] := hl
  refine lv_aload_n hx hb dX2_init_0 rfl (lv_at hl 0 rfl) ?_
  refine W.objInit hx hb hown (hts _ wl166) (hts _ wl54) (hts _ wl55) rfl (by rw [hml]; exact hl.1) rfl dX2_init_1 (Nat.le_of_ble_eq_true rfl) (Nat.le_of_ble_eq_true rfl) ?_
  refine W.eq (g2 := F0 m 4 ls []) rfl ?_
  refine lv_aload_n hx hb dX2_init_4 rfl (lv_at hl 0 rfl) ?_
  refine lv_bipush hx hb dX2_init_5 bp_28 ?_
  refine va_newa (atype := .int) (ty := .int) (a0 := (28, .inl (fun _ => 0))) (n := 28) hx hb (hts _ wl90) rfl hK hP hD hS hA (fun _ => rfl) (by decide) rfl (by decide) (Nat.le_of_ble_eq_true rfl) (Nat.le_of_ble_eq_true rfl) dX2_init_7 (fun q7 g7 H hK hP hD hS => ?_)
  have hP : va_P D vwCl [(h0, .inr (2, [.null, .null, .null, .null, .null, .null, .null, .int 0, .int 0])), (q7, .inl (g7, 28, .inl (fun _ => 0)))] H := hP
  have hD : va_D A [(h0, .inr (2, [.null, .null, .null, .null, .null, .null, .null, .int 0, .int 0])), (q7, .inl (g7, 28, .inl (fun _ => 0)))] := hD
  have hK : va_K D vwCl [(g7, .int)] s := hK
  refine W.widen (k := 1) (n := 28) (Nat.le_of_ble_eq_true rfl) (Nat.le_of_ble_eq_true rfl) ?_
  refine va_putF (ci := 2) (v := .ref q7) (C := RX2) (T := TX2) (N := 9) hx hb hts inW2 tyX2 tyX2_ok nmX2 hown hK hP hD hS 0 rfl rfl 2 (by decide) (hts _ wl169) (fun _ h => h) rfl hin rfl (tyX2_ok 2 (by decide)) rfl rfl (Nat.le_of_ble_eq_true rfl) dX2_init_9 (fun H locs hP hD hS => ?_)
  have hP : va_P D vwCl [(h0, .inr (2, [.null, .null, .ref q7, .null, .null, .null, .null, .int 0, .int 0])), (q7, .inl (g7, 28, .inl (fun _ => 0)))] H := hP
  have hD : va_D A [(h0, .inr (2, [.null, .null, .ref q7, .null, .null, .null, .null, .int 0, .int 0])), (q7, .inl (g7, 28, .inl (fun _ => 0)))] := hD
  refine lv_aload_n hx hb dX2_init_12 rfl (lv_at hl 0 rfl) ?_
  refine lv_bipush hx hb dX2_init_13 bp_8 ?_
  refine va_newa (atype := .int) (ty := .int) (a0 := (8, .inl (fun _ => 0))) (n := 8) hx hb (hts _ wl90) rfl hK hP hD hS hA (fun _ => rfl) (by decide) rfl (by decide) (Nat.le_of_ble_eq_true rfl) (Nat.le_of_ble_eq_true rfl) dX2_init_15 (fun q15 g15 H hK hP hD hS => ?_)
  have hP : va_P D vwCl [(h0, .inr (2, [.null, .null, .ref q7, .null, .null, .null, .null, .int 0, .int 0])), (q7, .inl (g7, 28, .inl (fun _ => 0))), (q15, .inl (g15, 8, .inl (fun _ => 0)))] H := hP
  have hD : va_D A [(h0, .inr (2, [.null, .null, .ref q7, .null, .null, .null, .null, .int 0, .int 0])), (q7, .inl (g7, 28, .inl (fun _ => 0))), (q15, .inl (g15, 8, .inl (fun _ => 0)))] := hD
  have hK : va_K D vwCl [(g7, .int), (g15, .int)] s := hK
  refine W.widen (k := 2) (n := 36) (Nat.le_of_ble_eq_true rfl) (Nat.le_of_ble_eq_true rfl) ?_
  refine va_putF (ci := 2) (v := .ref q15) (C := RX2) (T := TX2) (N := 9) hx hb hts inW2 tyX2 tyX2_ok nmX2 hown hK hP hD hS 0 rfl rfl 3 (by decide) (hts _ wl170) (fun _ h => h) rfl hin rfl (tyX2_ok 3 (by decide)) rfl rfl (Nat.le_of_ble_eq_true rfl) dX2_init_17 (fun H locs hP hD hS => ?_)
  have hP : va_P D vwCl [(h0, .inr (2, [.null, .null, .ref q7, .ref q15, .null, .null, .null, .int 0, .int 0])), (q7, .inl (g7, 28, .inl (fun _ => 0))), (q15, .inl (g15, 8, .inl (fun _ => 0)))] H := hP
  have hD : va_D A [(h0, .inr (2, [.null, .null, .ref q7, .ref q15, .null, .null, .null, .int 0, .int 0])), (q7, .inl (g7, 28, .inl (fun _ => 0))), (q15, .inl (g15, 8, .inl (fun _ => 0)))] := hD
  refine lv_aload_n hx hb dX2_init_20 rfl (lv_at hl 0 rfl) ?_
  refine lv_bipush hx hb dX2_init_21 bp_7 ?_
  refine va_newa (atype := .int) (ty := .int) (a0 := (7, .inl (fun _ => 0))) (n := 7) hx hb (hts _ wl90) rfl hK hP hD hS hA (fun _ => rfl) (by decide) rfl (by decide) (Nat.le_of_ble_eq_true rfl) (Nat.le_of_ble_eq_true rfl) dX2_init_23 (fun q23 g23 H hK hP hD hS => ?_)
  have hP : va_P D vwCl [(h0, .inr (2, [.null, .null, .ref q7, .ref q15, .null, .null, .null, .int 0, .int 0])), (q7, .inl (g7, 28, .inl (fun _ => 0))), (q15, .inl (g15, 8, .inl (fun _ => 0))), (q23, .inl (g23, 7, .inl (fun _ => 0)))] H := hP
  have hD : va_D A [(h0, .inr (2, [.null, .null, .ref q7, .ref q15, .null, .null, .null, .int 0, .int 0])), (q7, .inl (g7, 28, .inl (fun _ => 0))), (q15, .inl (g15, 8, .inl (fun _ => 0))), (q23, .inl (g23, 7, .inl (fun _ => 0)))] := hD
  have hK : va_K D vwCl [(g7, .int), (g15, .int), (g23, .int)] s := hK
  refine W.widen (k := 3) (n := 43) (Nat.le_of_ble_eq_true rfl) (Nat.le_of_ble_eq_true rfl) ?_
  refine va_putF (ci := 2) (v := .ref q23) (C := RX2) (T := TX2) (N := 9) hx hb hts inW2 tyX2 tyX2_ok nmX2 hown hK hP hD hS 0 rfl rfl 4 (by decide) (hts _ wl171) (fun _ h => h) rfl hin rfl (tyX2_ok 4 (by decide)) rfl rfl (Nat.le_of_ble_eq_true rfl) dX2_init_25 (fun H locs hP hD hS => ?_)
  have hP : va_P D vwCl [(h0, .inr (2, [.null, .null, .ref q7, .ref q15, .ref q23, .null, .null, .int 0, .int 0])), (q7, .inl (g7, 28, .inl (fun _ => 0))), (q15, .inl (g15, 8, .inl (fun _ => 0))), (q23, .inl (g23, 7, .inl (fun _ => 0)))] H := hP
  have hD : va_D A [(h0, .inr (2, [.null, .null, .ref q7, .ref q15, .ref q23, .null, .null, .int 0, .int 0])), (q7, .inl (g7, 28, .inl (fun _ => 0))), (q15, .inl (g15, 8, .inl (fun _ => 0))), (q23, .inl (g23, 7, .inl (fun _ => 0)))] := hD
  refine lv_aload_n hx hb dX2_init_28 rfl (lv_at hl 0 rfl) ?_
  refine lv_iconst hx hb dX2_init_29 ic_4 ?_
  refine va_newa (atype := .int) (ty := .int) (a0 := (4, .inl (fun _ => 0))) (n := 4) hx hb (hts _ wl90) rfl hK hP hD hS hA (fun _ => rfl) (by decide) rfl (by decide) (Nat.le_of_ble_eq_true rfl) (Nat.le_of_ble_eq_true rfl) dX2_init_30 (fun q30 g30 H hK hP hD hS => ?_)
  have hP : va_P D vwCl [(h0, .inr (2, [.null, .null, .ref q7, .ref q15, .ref q23, .null, .null, .int 0, .int 0])), (q7, .inl (g7, 28, .inl (fun _ => 0))), (q15, .inl (g15, 8, .inl (fun _ => 0))), (q23, .inl (g23, 7, .inl (fun _ => 0))), (q30, .inl (g30, 4, .inl (fun _ => 0)))] H := hP
  have hD : va_D A [(h0, .inr (2, [.null, .null, .ref q7, .ref q15, .ref q23, .null, .null, .int 0, .int 0])), (q7, .inl (g7, 28, .inl (fun _ => 0))), (q15, .inl (g15, 8, .inl (fun _ => 0))), (q23, .inl (g23, 7, .inl (fun _ => 0))), (q30, .inl (g30, 4, .inl (fun _ => 0)))] := hD
  have hK : va_K D vwCl [(g7, .int), (g15, .int), (g23, .int), (g30, .int)] s := hK
  refine W.widen (k := 4) (n := 47) (Nat.le_of_ble_eq_true rfl) (Nat.le_of_ble_eq_true rfl) ?_
  refine va_putF (ci := 2) (v := .ref q30) (C := RX2) (T := TX2) (N := 9) hx hb hts inW2 tyX2 tyX2_ok nmX2 hown hK hP hD hS 0 rfl rfl 5 (by decide) (hts _ wl172) (fun _ h => h) rfl hin rfl (tyX2_ok 5 (by decide)) rfl rfl (Nat.le_of_ble_eq_true rfl) dX2_init_32 (fun H locs hP hD hS => ?_)
  have hP : va_P D vwCl [(h0, .inr (2, [.null, .null, .ref q7, .ref q15, .ref q23, .ref q30, .null, .int 0, .int 0])), (q7, .inl (g7, 28, .inl (fun _ => 0))), (q15, .inl (g15, 8, .inl (fun _ => 0))), (q23, .inl (g23, 7, .inl (fun _ => 0))), (q30, .inl (g30, 4, .inl (fun _ => 0)))] H := hP
  have hD : va_D A [(h0, .inr (2, [.null, .null, .ref q7, .ref q15, .ref q23, .ref q30, .null, .int 0, .int 0])), (q7, .inl (g7, 28, .inl (fun _ => 0))), (q15, .inl (g15, 8, .inl (fun _ => 0))), (q23, .inl (g23, 7, .inl (fun _ => 0))), (q30, .inl (g30, 4, .inl (fun _ => 0)))] := hD
  refine lv_aload_n hx hb dX2_init_35 rfl (lv_at hl 0 rfl) ?_
  refine lv_bipush hx hb dX2_init_36 bp_7 ?_
  refine va_newa (atype := .int) (ty := .int) (a0 := (7, .inl (fun _ => 0))) (n := 7) hx hb (hts _ wl90) rfl hK hP hD hS hA (fun _ => rfl) (by decide) rfl (by decide) (Nat.le_of_ble_eq_true rfl) (Nat.le_of_ble_eq_true rfl) dX2_init_38 (fun q38 g38 H hK hP hD hS => ?_)
  have hP : va_P D vwCl [(h0, .inr (2, [.null, .null, .ref q7, .ref q15, .ref q23, .ref q30, .null, .int 0, .int 0])), (q7, .inl (g7, 28, .inl (fun _ => 0))), (q15, .inl (g15, 8, .inl (fun _ => 0))), (q23, .inl (g23, 7, .inl (fun _ => 0))), (q30, .inl (g30, 4, .inl (fun _ => 0))), (q38, .inl (g38, 7, .inl (fun _ => 0)))] H := hP
  have hD : va_D A [(h0, .inr (2, [.null, .null, .ref q7, .ref q15, .ref q23, .ref q30, .null, .int 0, .int 0])), (q7, .inl (g7, 28, .inl (fun _ => 0))), (q15, .inl (g15, 8, .inl (fun _ => 0))), (q23, .inl (g23, 7, .inl (fun _ => 0))), (q30, .inl (g30, 4, .inl (fun _ => 0))), (q38, .inl (g38, 7, .inl (fun _ => 0)))] := hD
  have hK : va_K D vwCl [(g7, .int), (g15, .int), (g23, .int), (g30, .int), (g38, .int)] s := hK
  refine W.widen (k := 5) (n := 54) (Nat.le_of_ble_eq_true rfl) (Nat.le_of_ble_eq_true rfl) ?_
  refine va_putF (ci := 2) (v := .ref q38) (C := RX2) (T := TX2) (N := 9) hx hb hts inW2 tyX2 tyX2_ok nmX2 hown hK hP hD hS 0 rfl rfl 6 (by decide) (hts _ wl173) (fun _ h => h) rfl hin rfl (tyX2_ok 6 (by decide)) rfl rfl (Nat.le_of_ble_eq_true rfl) dX2_init_40 (fun H locs hP hD hS => ?_)
  have hP : va_P D vwCl [(h0, .inr (2, [.null, .null, .ref q7, .ref q15, .ref q23, .ref q30, .ref q38, .int 0, .int 0])), (q7, .inl (g7, 28, .inl (fun _ => 0))), (q15, .inl (g15, 8, .inl (fun _ => 0))), (q23, .inl (g23, 7, .inl (fun _ => 0))), (q30, .inl (g30, 4, .inl (fun _ => 0))), (q38, .inl (g38, 7, .inl (fun _ => 0)))] H := hP
  have hD : va_D A [(h0, .inr (2, [.null, .null, .ref q7, .ref q15, .ref q23, .ref q30, .ref q38, .int 0, .int 0])), (q7, .inl (g7, 28, .inl (fun _ => 0))), (q15, .inl (g15, 8, .inl (fun _ => 0))), (q23, .inl (g23, 7, .inl (fun _ => 0))), (q30, .inl (g30, 4, .inl (fun _ => 0))), (q38, .inl (g38, 7, .inl (fun _ => 0)))] := hD
  refine lv_aload_n hx hb dX2_init_43 rfl (lv_at hl 0 rfl) ?_
  refine lv_iconst hx hb dX2_init_44 ic_0 ?_
  refine va_put (ci := 2) (v := .int 0) (C := RX2) (T := TX2) (N := 9) hx hb hts inW2 tyX2 tyX2_ok nmX2 hown hK hP hD hS 0 rfl rfl 7 (by decide) (hts _ wl175) (fun _ h => h) rfl (tyX2_ok 7 (by decide)) rfl rfl (Nat.le_of_ble_eq_true rfl) dX2_init_45 (fun H locs hP hD hS => ?_)
  have hP : va_P D vwCl [(h0, .inr (2, [.null, .null, .ref q7, .ref q15, .ref q23, .ref q30, .ref q38, .int 0, .int 0])), (q7, .inl (g7, 28, .inl (fun _ => 0))), (q15, .inl (g15, 8, .inl (fun _ => 0))), (q23, .inl (g23, 7, .inl (fun _ => 0))), (q30, .inl (g30, 4, .inl (fun _ => 0))), (q38, .inl (g38, 7, .inl (fun _ => 0)))] H := hP
  have hD : va_D A [(h0, .inr (2, [.null, .null, .ref q7, .ref q15, .ref q23, .ref q30, .ref q38, .int 0, .int 0])), (q7, .inl (g7, 28, .inl (fun _ => 0))), (q15, .inl (g15, 8, .inl (fun _ => 0))), (q23, .inl (g23, 7, .inl (fun _ => 0))), (q30, .inl (g30, 4, .inl (fun _ => 0))), (q38, .inl (g38, 7, .inl (fun _ => 0)))] := hD
  refine lv_aload_n hx hb dX2_init_48 rfl (lv_at hl 0 rfl) ?_
  refine lv_iconst hx hb dX2_init_49 ic_0 ?_
  refine va_put (ci := 2) (v := .int 0) (C := RX2) (T := TX2) (N := 9) hx hb hts inW2 tyX2 tyX2_ok nmX2 hown hK hP hD hS 0 rfl rfl 8 (by decide) (hts _ wl176) (fun _ h => h) rfl (tyX2_ok 8 (by decide)) rfl rfl (Nat.le_of_ble_eq_true rfl) dX2_init_50 (fun H locs hP hD hS => ?_)
  have hP : va_P D vwCl [(h0, .inr (2, [.null, .null, .ref q7, .ref q15, .ref q23, .ref q30, .ref q38, .int 0, .int 0])), (q7, .inl (g7, 28, .inl (fun _ => 0))), (q15, .inl (g15, 8, .inl (fun _ => 0))), (q23, .inl (g23, 7, .inl (fun _ => 0))), (q30, .inl (g30, 4, .inl (fun _ => 0))), (q38, .inl (g38, 7, .inl (fun _ => 0)))] H := hP
  have hD : va_D A [(h0, .inr (2, [.null, .null, .ref q7, .ref q15, .ref q23, .ref q30, .ref q38, .int 0, .int 0])), (q7, .inl (g7, 28, .inl (fun _ => 0))), (q15, .inl (g15, 8, .inl (fun _ => 0))), (q23, .inl (g23, 7, .inl (fun _ => 0))), (q30, .inl (g30, 4, .inl (fun _ => 0))), (q38, .inl (g38, 7, .inl (fun _ => 0)))] := hD
  refine lv_aload_n hx hb dX2_init_53 rfl (lv_at hl 0 rfl) ?_
  refine lv_aload_n hx hb dX2_init_54 rfl (lv_at hl 1 rfl) ?_
  refine va_putF (ci := 2) (v := .ref r1) (C := RX2) (T := TX2) (N := 9) hx hb hts inW2 tyX2 tyX2_ok nmX2 hown hK hP hD hS 0 rfl rfl 0 (by decide) (hts _ wl167) (fun _ h => h) rfl hin rfl (tyX2_ok 0 (by decide)) rfl rfl (Nat.le_of_ble_eq_true rfl) dX2_init_55 (fun H locs hP hD hS => ?_)
  have hP : va_P D vwCl [(h0, .inr (2, [.ref r1, .null, .ref q7, .ref q15, .ref q23, .ref q30, .ref q38, .int 0, .int 0])), (q7, .inl (g7, 28, .inl (fun _ => 0))), (q15, .inl (g15, 8, .inl (fun _ => 0))), (q23, .inl (g23, 7, .inl (fun _ => 0))), (q30, .inl (g30, 4, .inl (fun _ => 0))), (q38, .inl (g38, 7, .inl (fun _ => 0)))] H := hP
  have hD : va_D A [(h0, .inr (2, [.ref r1, .null, .ref q7, .ref q15, .ref q23, .ref q30, .ref q38, .int 0, .int 0])), (q7, .inl (g7, 28, .inl (fun _ => 0))), (q15, .inl (g15, 8, .inl (fun _ => 0))), (q23, .inl (g23, 7, .inl (fun _ => 0))), (q30, .inl (g30, 4, .inl (fun _ => 0))), (q38, .inl (g38, 7, .inl (fun _ => 0)))] := hD
  refine lv_aload_n hx hb dX2_init_58 rfl (lv_at hl 0 rfl) ?_
  refine lv_aload_n hx hb dX2_init_59 rfl (lv_at hl 2 rfl) ?_
  refine va_putF (ci := 2) (v := .ref r2) (C := RX2) (T := TX2) (N := 9) hx hb hts inW2 tyX2 tyX2_ok nmX2 hown hK hP hD hS 0 rfl rfl 1 (by decide) (hts _ wl168) (fun _ h => h) rfl hin rfl (tyX2_ok 1 (by decide)) rfl rfl (Nat.le_of_ble_eq_true rfl) dX2_init_60 (fun H locs hP hD hS => ?_)
  have hP : va_P D vwCl [(h0, .inr (2, [.ref r1, .ref r2, .ref q7, .ref q15, .ref q23, .ref q30, .ref q38, .int 0, .int 0])), (q7, .inl (g7, 28, .inl (fun _ => 0))), (q15, .inl (g15, 8, .inl (fun _ => 0))), (q23, .inl (g23, 7, .inl (fun _ => 0))), (q30, .inl (g30, 4, .inl (fun _ => 0))), (q38, .inl (g38, 7, .inl (fun _ => 0)))] H := hP
  have hD : va_D A [(h0, .inr (2, [.ref r1, .ref r2, .ref q7, .ref q15, .ref q23, .ref q30, .ref q38, .int 0, .int 0])), (q7, .inl (g7, 28, .inl (fun _ => 0))), (q15, .inl (g15, 8, .inl (fun _ => 0))), (q23, .inl (g23, 7, .inl (fun _ => 0))), (q30, .inl (g30, 4, .inl (fun _ => 0))), (q38, .inl (g38, 7, .inl (fun _ => 0)))] := hD
  refine W.widen (k := 5) (n := 54) (Nat.le_of_ble_eq_true rfl) (Nat.le_of_ble_eq_true rfl) ?_
  exact W.vret hx hb hr (fun t ht hW => ⟨⟨(), rfl, trivial, q7, q15, q23, q30, q38, g7, g15, g23, g30, g38, by rw [ht]; exact hP, va_K.moved hW.alike hK, hD⟩, hS.F ht⟩) hS.2.2 dX2_init_63
set_option maxHeartbeats 4000000 in
set_option maxRecDepth 100000 in
theorem ci3 (l : Launch) (D : va_G) (h0 sz : Nat) (r1 : Nat) : Met l yX3_init (wsm yX3_init cX3_init 2 none) (RC 1 6 204) (PI D 3 [.null, .null, .int 0, .int 0, .null, .null, .null, .null, .null, .int 0] sz h0 [.ref h0, .ref r1]) (va_Qv (fun _ : Unit => True) (fun _ t => ∃ (q7 : Nat) (q15 : Nat) (q33 : Nat) (q42 : Nat) (q50 : Nat) (q58 : Nat) (g7 : ClassId) (g15 : ClassId) (g33 : ClassId) (g42 : ClassId) (g50 : ClassId) (g58 : ClassId), va_P D vwCl [(h0, .inr (3, [.ref q7, .ref q15, .int 0, .int 0, .ref r1, .ref q33, .ref q42, .ref q50, .ref q58, .int 1])), (q7, .inl (g7, 12, .inl (fun _ => 0))), (q15, .inl (g15, 12, .inl (fun _ => 0))), (q33, .inl (g33, 12, .inl (fun _ => 0))), (q42, .inl (g42, 144, .inl (fun _ => 0))), (q50, .inl (g50, 12, .inl (fun _ => 0))), (q58, .inl (g58, 12, .inl (fun _ => 0)))] t.heap ∧ va_K D vwCl [(g7, .int), (g15, .int), (g33, .int), (g42, .int), (g50, .int), (g58, .int)] t ∧ va_D (va_A [(h0, .inr (3, [.null, .null, .int 0, .int 0, .null, .null, .null, .null, .null, .int 0]))] sz) [(h0, .inr (3, [.ref q7, .ref q15, .int 0, .int 0, .ref r1, .ref q33, .ref q42, .ref q50, .ref q58, .int 1])), (q7, .inl (g7, 12, .inl (fun _ => 0))), (q15, .inl (g15, 12, .inl (fun _ => 0))), (q33, .inl (g33, 12, .inl (fun _ => 0))), (q42, .inl (g42, 144, .inl (fun _ => 0))), (q50, .inl (g50, 12, .inl (fun _ => 0))), (q58, .inl (g58, 12, .inl (fun _ => 0)))]) (va_A [(h0, .inr (3, [.null, .null, .int 0, .int 0, .null, .null, .null, .null, .null, .int 0]))] sz)) 6 204 (va_A [(h0, .inr (3, [.null, .null, .int 0, .int 0, .null, .null, .null, .null, .null, .int 0]))] sz) := by
  refine Met.ofW (cc := cX3_init) (maxL := 2) (ret := none) (by decide) rfl ?_
  intro p e s m args below meth c s₁ B hml hv
  obtain ⟨rfl, hsz, hP, hK, hD0, hN⟩ := hv
  have hx := B.exec
  have hb := B.bytes
  have hr := B.returns
  have hts0 := atoms_spec (ws := wsm yX3_init cX3_init 2 none) B.pre
  have hts : ∀ w ∈ wd, w.before _ s = true := fun w h => hts0 w (List.mem_cons_of_mem _ h)
  have hown : s.vm.findClass RX3 = some m.cls := findClass_of_methodNamed B.named
  have hlocks := B.notSynchronized
  have hin : meth.name = "<init>" := (name_of_methodNamed B.named B.method).1
  subst hsz
  have hD := hD0.self (sz := s.heap.size)
  generalize hAe : va_A [(h0, .inr (3, [.null, .null, .int 0, .int 0, .null, .null, .null, .null, .null, .int 0]))] s.heap.size = A at hD ⊢
  have hA : ∀ q : Nat, s.heap.size ≤ q → A q := fun q h => by rw [← hAe]; exact Or.inr h
  have hS : va_S A s.heap s.heap [] := va_S.rf
  have hl := lv_entry ([.ref h0, .ref r1]) (n := 2) (Nat.le_of_ble_eq_true rfl)
  rw [lg_entry_eq]
  generalize (lg_sl ([.ref h0, .ref r1]) ++ List.replicate (2 - (lg_sl ([.ref h0, .ref r1])).length) Slot.unset).toArray = ls at hl ⊢
  have hl : lv_has ls 2 [(0, .ref h0), (1, .ref r1)] := hl
  refine lv_aload_n hx hb dX3_init_0 rfl (lv_at hl 0 rfl) ?_
  refine W.objInit hx hb hown (hts _ wl236) (hts _ wl54) (hts _ wl55) rfl (by rw [hml]; exact hl.1) rfl dX3_init_1 (Nat.le_of_ble_eq_true rfl) (Nat.le_of_ble_eq_true rfl) ?_
  refine W.eq (g2 := F0 m 4 ls []) rfl ?_
  refine lv_aload_n hx hb dX3_init_4 rfl (lv_at hl 0 rfl) ?_
  refine lv_bipush hx hb dX3_init_5 bp_12 ?_
  refine va_newa (atype := .int) (ty := .int) (a0 := (12, .inl (fun _ => 0))) (n := 12) hx hb (hts _ wl90) rfl hK hP hD hS hA (fun _ => rfl) (by decide) rfl (by decide) (Nat.le_of_ble_eq_true rfl) (Nat.le_of_ble_eq_true rfl) dX3_init_7 (fun q7 g7 H hK hP hD hS => ?_)
  have hP : va_P D vwCl [(h0, .inr (3, [.null, .null, .int 0, .int 0, .null, .null, .null, .null, .null, .int 0])), (q7, .inl (g7, 12, .inl (fun _ => 0)))] H := hP
  have hD : va_D A [(h0, .inr (3, [.null, .null, .int 0, .int 0, .null, .null, .null, .null, .null, .int 0])), (q7, .inl (g7, 12, .inl (fun _ => 0)))] := hD
  have hK : va_K D vwCl [(g7, .int)] s := hK
  refine W.widen (k := 1) (n := 12) (Nat.le_of_ble_eq_true rfl) (Nat.le_of_ble_eq_true rfl) ?_
  refine va_putF (ci := 3) (v := .ref q7) (C := RX3) (T := TX3) (N := 10) hx hb hts inW3 tyX3 tyX3_ok nmX3 hown hK hP hD hS 0 rfl rfl 0 (by decide) (hts _ wl237) (fun _ h => h) rfl hin rfl (tyX3_ok 0 (by decide)) rfl rfl (Nat.le_of_ble_eq_true rfl) dX3_init_9 (fun H locs hP hD hS => ?_)
  have hP : va_P D vwCl [(h0, .inr (3, [.ref q7, .null, .int 0, .int 0, .null, .null, .null, .null, .null, .int 0])), (q7, .inl (g7, 12, .inl (fun _ => 0)))] H := hP
  have hD : va_D A [(h0, .inr (3, [.ref q7, .null, .int 0, .int 0, .null, .null, .null, .null, .null, .int 0])), (q7, .inl (g7, 12, .inl (fun _ => 0)))] := hD
  refine lv_aload_n hx hb dX3_init_12 rfl (lv_at hl 0 rfl) ?_
  refine lv_bipush hx hb dX3_init_13 bp_12 ?_
  refine va_newa (atype := .int) (ty := .int) (a0 := (12, .inl (fun _ => 0))) (n := 12) hx hb (hts _ wl90) rfl hK hP hD hS hA (fun _ => rfl) (by decide) rfl (by decide) (Nat.le_of_ble_eq_true rfl) (Nat.le_of_ble_eq_true rfl) dX3_init_15 (fun q15 g15 H hK hP hD hS => ?_)
  have hP : va_P D vwCl [(h0, .inr (3, [.ref q7, .null, .int 0, .int 0, .null, .null, .null, .null, .null, .int 0])), (q7, .inl (g7, 12, .inl (fun _ => 0))), (q15, .inl (g15, 12, .inl (fun _ => 0)))] H := hP
  have hD : va_D A [(h0, .inr (3, [.ref q7, .null, .int 0, .int 0, .null, .null, .null, .null, .null, .int 0])), (q7, .inl (g7, 12, .inl (fun _ => 0))), (q15, .inl (g15, 12, .inl (fun _ => 0)))] := hD
  have hK : va_K D vwCl [(g7, .int), (g15, .int)] s := hK
  refine W.widen (k := 2) (n := 24) (Nat.le_of_ble_eq_true rfl) (Nat.le_of_ble_eq_true rfl) ?_
  refine va_putF (ci := 3) (v := .ref q15) (C := RX3) (T := TX3) (N := 10) hx hb hts inW3 tyX3 tyX3_ok nmX3 hown hK hP hD hS 0 rfl rfl 1 (by decide) (hts _ wl239) (fun _ h => h) rfl hin rfl (tyX3_ok 1 (by decide)) rfl rfl (Nat.le_of_ble_eq_true rfl) dX3_init_17 (fun H locs hP hD hS => ?_)
  have hP : va_P D vwCl [(h0, .inr (3, [.ref q7, .ref q15, .int 0, .int 0, .null, .null, .null, .null, .null, .int 0])), (q7, .inl (g7, 12, .inl (fun _ => 0))), (q15, .inl (g15, 12, .inl (fun _ => 0)))] H := hP
  have hD : va_D A [(h0, .inr (3, [.ref q7, .ref q15, .int 0, .int 0, .null, .null, .null, .null, .null, .int 0])), (q7, .inl (g7, 12, .inl (fun _ => 0))), (q15, .inl (g15, 12, .inl (fun _ => 0)))] := hD
  refine lv_aload_n hx hb dX3_init_20 rfl (lv_at hl 0 rfl) ?_
  refine lv_iconst hx hb dX3_init_21 ic_0 ?_
  refine va_put (ci := 3) (v := .int 0) (C := RX3) (T := TX3) (N := 10) hx hb hts inW3 tyX3 tyX3_ok nmX3 hown hK hP hD hS 0 rfl rfl 2 (by decide) (hts _ wl241) (fun _ h => h) rfl (tyX3_ok 2 (by decide)) rfl rfl (Nat.le_of_ble_eq_true rfl) dX3_init_22 (fun H locs hP hD hS => ?_)
  have hP : va_P D vwCl [(h0, .inr (3, [.ref q7, .ref q15, .int 0, .int 0, .null, .null, .null, .null, .null, .int 0])), (q7, .inl (g7, 12, .inl (fun _ => 0))), (q15, .inl (g15, 12, .inl (fun _ => 0)))] H := hP
  have hD : va_D A [(h0, .inr (3, [.ref q7, .ref q15, .int 0, .int 0, .null, .null, .null, .null, .null, .int 0])), (q7, .inl (g7, 12, .inl (fun _ => 0))), (q15, .inl (g15, 12, .inl (fun _ => 0)))] := hD
  refine lv_aload_n hx hb dX3_init_25 rfl (lv_at hl 0 rfl) ?_
  refine lv_iconst hx hb dX3_init_26 ic_0 ?_
  refine va_put (ci := 3) (v := .int 0) (C := RX3) (T := TX3) (N := 10) hx hb hts inW3 tyX3 tyX3_ok nmX3 hown hK hP hD hS 0 rfl rfl 3 (by decide) (hts _ wl243) (fun _ h => h) rfl (tyX3_ok 3 (by decide)) rfl rfl (Nat.le_of_ble_eq_true rfl) dX3_init_27 (fun H locs hP hD hS => ?_)
  have hP : va_P D vwCl [(h0, .inr (3, [.ref q7, .ref q15, .int 0, .int 0, .null, .null, .null, .null, .null, .int 0])), (q7, .inl (g7, 12, .inl (fun _ => 0))), (q15, .inl (g15, 12, .inl (fun _ => 0)))] H := hP
  have hD : va_D A [(h0, .inr (3, [.ref q7, .ref q15, .int 0, .int 0, .null, .null, .null, .null, .null, .int 0])), (q7, .inl (g7, 12, .inl (fun _ => 0))), (q15, .inl (g15, 12, .inl (fun _ => 0)))] := hD
  refine lv_aload_n hx hb dX3_init_30 rfl (lv_at hl 0 rfl) ?_
  refine lv_bipush hx hb dX3_init_31 bp_12 ?_
  refine va_newa (atype := .int) (ty := .int) (a0 := (12, .inl (fun _ => 0))) (n := 12) hx hb (hts _ wl90) rfl hK hP hD hS hA (fun _ => rfl) (by decide) rfl (by decide) (Nat.le_of_ble_eq_true rfl) (Nat.le_of_ble_eq_true rfl) dX3_init_33 (fun q33 g33 H hK hP hD hS => ?_)
  have hP : va_P D vwCl [(h0, .inr (3, [.ref q7, .ref q15, .int 0, .int 0, .null, .null, .null, .null, .null, .int 0])), (q7, .inl (g7, 12, .inl (fun _ => 0))), (q15, .inl (g15, 12, .inl (fun _ => 0))), (q33, .inl (g33, 12, .inl (fun _ => 0)))] H := hP
  have hD : va_D A [(h0, .inr (3, [.ref q7, .ref q15, .int 0, .int 0, .null, .null, .null, .null, .null, .int 0])), (q7, .inl (g7, 12, .inl (fun _ => 0))), (q15, .inl (g15, 12, .inl (fun _ => 0))), (q33, .inl (g33, 12, .inl (fun _ => 0)))] := hD
  have hK : va_K D vwCl [(g7, .int), (g15, .int), (g33, .int)] s := hK
  refine W.widen (k := 3) (n := 36) (Nat.le_of_ble_eq_true rfl) (Nat.le_of_ble_eq_true rfl) ?_
  refine va_putF (ci := 3) (v := .ref q33) (C := RX3) (T := TX3) (N := 10) hx hb hts inW3 tyX3 tyX3_ok nmX3 hown hK hP hD hS 0 rfl rfl 5 (by decide) (hts _ wl246) (fun _ h => h) rfl hin rfl (tyX3_ok 5 (by decide)) rfl rfl (Nat.le_of_ble_eq_true rfl) dX3_init_35 (fun H locs hP hD hS => ?_)
  have hP : va_P D vwCl [(h0, .inr (3, [.ref q7, .ref q15, .int 0, .int 0, .null, .ref q33, .null, .null, .null, .int 0])), (q7, .inl (g7, 12, .inl (fun _ => 0))), (q15, .inl (g15, 12, .inl (fun _ => 0))), (q33, .inl (g33, 12, .inl (fun _ => 0)))] H := hP
  have hD : va_D A [(h0, .inr (3, [.ref q7, .ref q15, .int 0, .int 0, .null, .ref q33, .null, .null, .null, .int 0])), (q7, .inl (g7, 12, .inl (fun _ => 0))), (q15, .inl (g15, 12, .inl (fun _ => 0))), (q33, .inl (g33, 12, .inl (fun _ => 0)))] := hD
  refine lv_aload_n hx hb dX3_init_38 rfl (lv_at hl 0 rfl) ?_
  refine lv_sipush hx hb dX3_init_39 sp_144 ?_
  refine va_newa (atype := .int) (ty := .int) (a0 := (144, .inl (fun _ => 0))) (n := 144) hx hb (hts _ wl90) rfl hK hP hD hS hA (fun _ => rfl) (by decide) rfl (by decide) (Nat.le_of_ble_eq_true rfl) (Nat.le_of_ble_eq_true rfl) dX3_init_42 (fun q42 g42 H hK hP hD hS => ?_)
  have hP : va_P D vwCl [(h0, .inr (3, [.ref q7, .ref q15, .int 0, .int 0, .null, .ref q33, .null, .null, .null, .int 0])), (q7, .inl (g7, 12, .inl (fun _ => 0))), (q15, .inl (g15, 12, .inl (fun _ => 0))), (q33, .inl (g33, 12, .inl (fun _ => 0))), (q42, .inl (g42, 144, .inl (fun _ => 0)))] H := hP
  have hD : va_D A [(h0, .inr (3, [.ref q7, .ref q15, .int 0, .int 0, .null, .ref q33, .null, .null, .null, .int 0])), (q7, .inl (g7, 12, .inl (fun _ => 0))), (q15, .inl (g15, 12, .inl (fun _ => 0))), (q33, .inl (g33, 12, .inl (fun _ => 0))), (q42, .inl (g42, 144, .inl (fun _ => 0)))] := hD
  have hK : va_K D vwCl [(g7, .int), (g15, .int), (g33, .int), (g42, .int)] s := hK
  refine W.widen (k := 4) (n := 180) (Nat.le_of_ble_eq_true rfl) (Nat.le_of_ble_eq_true rfl) ?_
  refine va_putF (ci := 3) (v := .ref q42) (C := RX3) (T := TX3) (N := 10) hx hb hts inW3 tyX3 tyX3_ok nmX3 hown hK hP hD hS 0 rfl rfl 6 (by decide) (hts _ wl247) (fun _ h => h) rfl hin rfl (tyX3_ok 6 (by decide)) rfl rfl (Nat.le_of_ble_eq_true rfl) dX3_init_44 (fun H locs hP hD hS => ?_)
  have hP : va_P D vwCl [(h0, .inr (3, [.ref q7, .ref q15, .int 0, .int 0, .null, .ref q33, .ref q42, .null, .null, .int 0])), (q7, .inl (g7, 12, .inl (fun _ => 0))), (q15, .inl (g15, 12, .inl (fun _ => 0))), (q33, .inl (g33, 12, .inl (fun _ => 0))), (q42, .inl (g42, 144, .inl (fun _ => 0)))] H := hP
  have hD : va_D A [(h0, .inr (3, [.ref q7, .ref q15, .int 0, .int 0, .null, .ref q33, .ref q42, .null, .null, .int 0])), (q7, .inl (g7, 12, .inl (fun _ => 0))), (q15, .inl (g15, 12, .inl (fun _ => 0))), (q33, .inl (g33, 12, .inl (fun _ => 0))), (q42, .inl (g42, 144, .inl (fun _ => 0)))] := hD
  refine lv_aload_n hx hb dX3_init_47 rfl (lv_at hl 0 rfl) ?_
  refine lv_bipush hx hb dX3_init_48 bp_12 ?_
  refine va_newa (atype := .int) (ty := .int) (a0 := (12, .inl (fun _ => 0))) (n := 12) hx hb (hts _ wl90) rfl hK hP hD hS hA (fun _ => rfl) (by decide) rfl (by decide) (Nat.le_of_ble_eq_true rfl) (Nat.le_of_ble_eq_true rfl) dX3_init_50 (fun q50 g50 H hK hP hD hS => ?_)
  have hP : va_P D vwCl [(h0, .inr (3, [.ref q7, .ref q15, .int 0, .int 0, .null, .ref q33, .ref q42, .null, .null, .int 0])), (q7, .inl (g7, 12, .inl (fun _ => 0))), (q15, .inl (g15, 12, .inl (fun _ => 0))), (q33, .inl (g33, 12, .inl (fun _ => 0))), (q42, .inl (g42, 144, .inl (fun _ => 0))), (q50, .inl (g50, 12, .inl (fun _ => 0)))] H := hP
  have hD : va_D A [(h0, .inr (3, [.ref q7, .ref q15, .int 0, .int 0, .null, .ref q33, .ref q42, .null, .null, .int 0])), (q7, .inl (g7, 12, .inl (fun _ => 0))), (q15, .inl (g15, 12, .inl (fun _ => 0))), (q33, .inl (g33, 12, .inl (fun _ => 0))), (q42, .inl (g42, 144, .inl (fun _ => 0))), (q50, .inl (g50, 12, .inl (fun _ => 0)))] := hD
  have hK : va_K D vwCl [(g7, .int), (g15, .int), (g33, .int), (g42, .int), (g50, .int)] s := hK
  refine W.widen (k := 5) (n := 192) (Nat.le_of_ble_eq_true rfl) (Nat.le_of_ble_eq_true rfl) ?_
  refine va_putF (ci := 3) (v := .ref q50) (C := RX3) (T := TX3) (N := 10) hx hb hts inW3 tyX3 tyX3_ok nmX3 hown hK hP hD hS 0 rfl rfl 7 (by decide) (hts _ wl248) (fun _ h => h) rfl hin rfl (tyX3_ok 7 (by decide)) rfl rfl (Nat.le_of_ble_eq_true rfl) dX3_init_52 (fun H locs hP hD hS => ?_)
  have hP : va_P D vwCl [(h0, .inr (3, [.ref q7, .ref q15, .int 0, .int 0, .null, .ref q33, .ref q42, .ref q50, .null, .int 0])), (q7, .inl (g7, 12, .inl (fun _ => 0))), (q15, .inl (g15, 12, .inl (fun _ => 0))), (q33, .inl (g33, 12, .inl (fun _ => 0))), (q42, .inl (g42, 144, .inl (fun _ => 0))), (q50, .inl (g50, 12, .inl (fun _ => 0)))] H := hP
  have hD : va_D A [(h0, .inr (3, [.ref q7, .ref q15, .int 0, .int 0, .null, .ref q33, .ref q42, .ref q50, .null, .int 0])), (q7, .inl (g7, 12, .inl (fun _ => 0))), (q15, .inl (g15, 12, .inl (fun _ => 0))), (q33, .inl (g33, 12, .inl (fun _ => 0))), (q42, .inl (g42, 144, .inl (fun _ => 0))), (q50, .inl (g50, 12, .inl (fun _ => 0)))] := hD
  refine lv_aload_n hx hb dX3_init_55 rfl (lv_at hl 0 rfl) ?_
  refine lv_bipush hx hb dX3_init_56 bp_12 ?_
  refine va_newa (atype := .int) (ty := .int) (a0 := (12, .inl (fun _ => 0))) (n := 12) hx hb (hts _ wl90) rfl hK hP hD hS hA (fun _ => rfl) (by decide) rfl (by decide) (Nat.le_of_ble_eq_true rfl) (Nat.le_of_ble_eq_true rfl) dX3_init_58 (fun q58 g58 H hK hP hD hS => ?_)
  have hP : va_P D vwCl [(h0, .inr (3, [.ref q7, .ref q15, .int 0, .int 0, .null, .ref q33, .ref q42, .ref q50, .null, .int 0])), (q7, .inl (g7, 12, .inl (fun _ => 0))), (q15, .inl (g15, 12, .inl (fun _ => 0))), (q33, .inl (g33, 12, .inl (fun _ => 0))), (q42, .inl (g42, 144, .inl (fun _ => 0))), (q50, .inl (g50, 12, .inl (fun _ => 0))), (q58, .inl (g58, 12, .inl (fun _ => 0)))] H := hP
  have hD : va_D A [(h0, .inr (3, [.ref q7, .ref q15, .int 0, .int 0, .null, .ref q33, .ref q42, .ref q50, .null, .int 0])), (q7, .inl (g7, 12, .inl (fun _ => 0))), (q15, .inl (g15, 12, .inl (fun _ => 0))), (q33, .inl (g33, 12, .inl (fun _ => 0))), (q42, .inl (g42, 144, .inl (fun _ => 0))), (q50, .inl (g50, 12, .inl (fun _ => 0))), (q58, .inl (g58, 12, .inl (fun _ => 0)))] := hD
  have hK : va_K D vwCl [(g7, .int), (g15, .int), (g33, .int), (g42, .int), (g50, .int), (g58, .int)] s := hK
  refine W.widen (k := 6) (n := 204) (Nat.le_of_ble_eq_true rfl) (Nat.le_of_ble_eq_true rfl) ?_
  refine va_putF (ci := 3) (v := .ref q58) (C := RX3) (T := TX3) (N := 10) hx hb hts inW3 tyX3 tyX3_ok nmX3 hown hK hP hD hS 0 rfl rfl 8 (by decide) (hts _ wl249) (fun _ h => h) rfl hin rfl (tyX3_ok 8 (by decide)) rfl rfl (Nat.le_of_ble_eq_true rfl) dX3_init_60 (fun H locs hP hD hS => ?_)
  have hP : va_P D vwCl [(h0, .inr (3, [.ref q7, .ref q15, .int 0, .int 0, .null, .ref q33, .ref q42, .ref q50, .ref q58, .int 0])), (q7, .inl (g7, 12, .inl (fun _ => 0))), (q15, .inl (g15, 12, .inl (fun _ => 0))), (q33, .inl (g33, 12, .inl (fun _ => 0))), (q42, .inl (g42, 144, .inl (fun _ => 0))), (q50, .inl (g50, 12, .inl (fun _ => 0))), (q58, .inl (g58, 12, .inl (fun _ => 0)))] H := hP
  have hD : va_D A [(h0, .inr (3, [.ref q7, .ref q15, .int 0, .int 0, .null, .ref q33, .ref q42, .ref q50, .ref q58, .int 0])), (q7, .inl (g7, 12, .inl (fun _ => 0))), (q15, .inl (g15, 12, .inl (fun _ => 0))), (q33, .inl (g33, 12, .inl (fun _ => 0))), (q42, .inl (g42, 144, .inl (fun _ => 0))), (q50, .inl (g50, 12, .inl (fun _ => 0))), (q58, .inl (g58, 12, .inl (fun _ => 0)))] := hD
  refine lv_aload_n hx hb dX3_init_63 rfl (lv_at hl 0 rfl) ?_
  refine lv_iconst hx hb dX3_init_64 ic_1 ?_
  refine va_put (ci := 3) (v := .int 1) (C := RX3) (T := TX3) (N := 10) hx hb hts inW3 tyX3 tyX3_ok nmX3 hown hK hP hD hS 0 rfl rfl 9 (by decide) (hts _ wl250) (fun _ h => h) rfl (tyX3_ok 9 (by decide)) rfl rfl (Nat.le_of_ble_eq_true rfl) dX3_init_65 (fun H locs hP hD hS => ?_)
  have hP : va_P D vwCl [(h0, .inr (3, [.ref q7, .ref q15, .int 0, .int 0, .null, .ref q33, .ref q42, .ref q50, .ref q58, .int 1])), (q7, .inl (g7, 12, .inl (fun _ => 0))), (q15, .inl (g15, 12, .inl (fun _ => 0))), (q33, .inl (g33, 12, .inl (fun _ => 0))), (q42, .inl (g42, 144, .inl (fun _ => 0))), (q50, .inl (g50, 12, .inl (fun _ => 0))), (q58, .inl (g58, 12, .inl (fun _ => 0)))] H := hP
  have hD : va_D A [(h0, .inr (3, [.ref q7, .ref q15, .int 0, .int 0, .null, .ref q33, .ref q42, .ref q50, .ref q58, .int 1])), (q7, .inl (g7, 12, .inl (fun _ => 0))), (q15, .inl (g15, 12, .inl (fun _ => 0))), (q33, .inl (g33, 12, .inl (fun _ => 0))), (q42, .inl (g42, 144, .inl (fun _ => 0))), (q50, .inl (g50, 12, .inl (fun _ => 0))), (q58, .inl (g58, 12, .inl (fun _ => 0)))] := hD
  refine lv_aload_n hx hb dX3_init_68 rfl (lv_at hl 0 rfl) ?_
  refine lv_aload_n hx hb dX3_init_69 rfl (lv_at hl 1 rfl) ?_
  refine va_putF (ci := 3) (v := .ref r1) (C := RX3) (T := TX3) (N := 10) hx hb hts inW3 tyX3 tyX3_ok nmX3 hown hK hP hD hS 0 rfl rfl 4 (by decide) (hts _ wl245) (fun _ h => h) rfl hin rfl (tyX3_ok 4 (by decide)) rfl rfl (Nat.le_of_ble_eq_true rfl) dX3_init_70 (fun H locs hP hD hS => ?_)
  have hP : va_P D vwCl [(h0, .inr (3, [.ref q7, .ref q15, .int 0, .int 0, .ref r1, .ref q33, .ref q42, .ref q50, .ref q58, .int 1])), (q7, .inl (g7, 12, .inl (fun _ => 0))), (q15, .inl (g15, 12, .inl (fun _ => 0))), (q33, .inl (g33, 12, .inl (fun _ => 0))), (q42, .inl (g42, 144, .inl (fun _ => 0))), (q50, .inl (g50, 12, .inl (fun _ => 0))), (q58, .inl (g58, 12, .inl (fun _ => 0)))] H := hP
  have hD : va_D A [(h0, .inr (3, [.ref q7, .ref q15, .int 0, .int 0, .ref r1, .ref q33, .ref q42, .ref q50, .ref q58, .int 1])), (q7, .inl (g7, 12, .inl (fun _ => 0))), (q15, .inl (g15, 12, .inl (fun _ => 0))), (q33, .inl (g33, 12, .inl (fun _ => 0))), (q42, .inl (g42, 144, .inl (fun _ => 0))), (q50, .inl (g50, 12, .inl (fun _ => 0))), (q58, .inl (g58, 12, .inl (fun _ => 0)))] := hD
  refine W.widen (k := 6) (n := 204) (Nat.le_of_ble_eq_true rfl) (Nat.le_of_ble_eq_true rfl) ?_
  exact W.vret hx hb hr (fun t ht hW => ⟨⟨(), rfl, trivial, q7, q15, q33, q42, q50, q58, g7, g15, g33, g42, g50, g58, by rw [ht]; exact hP, va_K.moved hW.alike hK, hD⟩, hS.F ht⟩) hS.2.2 dX3_init_73
set_option maxHeartbeats 4000000 in
set_option maxRecDepth 100000 in
theorem ci5 (l : Launch) (D : va_G) (h0 sz : Nat) (r1 : Nat) : Met l yX5_init (wsm yX5_init cX5_init 2 none) (RC 1 3 24) (PI D 5 [.null, .null, .null, .null, .int 0, .int 0] sz h0 [.ref h0, .ref r1]) (va_Qv (fun _ : Unit => True) (fun _ t => ∃ (q7 : Nat) (q15 : Nat) (q23 : Nat) (g7 : ClassId) (g15 : ClassId) (g23 : ClassId), va_P D vwCl [(h0, .inr (5, [.ref q7, .ref q15, .ref q23, .ref r1, .int (-1), .int (-1)])), (q7, .inl (g7, 8, .inl (fun _ => 0))), (q15, .inl (g15, 8, .inl (fun _ => 0))), (q23, .inl (g23, 8, .inl (fun _ => 0)))] t.heap ∧ va_K D vwCl [(g7, .int), (g15, .int), (g23, .int)] t ∧ va_D (va_A [(h0, .inr (5, [.null, .null, .null, .null, .int 0, .int 0]))] sz) [(h0, .inr (5, [.ref q7, .ref q15, .ref q23, .ref r1, .int (-1), .int (-1)])), (q7, .inl (g7, 8, .inl (fun _ => 0))), (q15, .inl (g15, 8, .inl (fun _ => 0))), (q23, .inl (g23, 8, .inl (fun _ => 0)))]) (va_A [(h0, .inr (5, [.null, .null, .null, .null, .int 0, .int 0]))] sz)) 3 24 (va_A [(h0, .inr (5, [.null, .null, .null, .null, .int 0, .int 0]))] sz) := by
  refine Met.ofW (cc := cX5_init) (maxL := 2) (ret := none) (by decide) rfl ?_
  intro p e s m args below meth c s₁ B hml hv
  obtain ⟨rfl, hsz, hP, hK, hD0, hN⟩ := hv
  have hx := B.exec
  have hb := B.bytes
  have hr := B.returns
  have hts0 := atoms_spec (ws := wsm yX5_init cX5_init 2 none) B.pre
  have hts : ∀ w ∈ wd, w.before _ s = true := fun w h => hts0 w (List.mem_cons_of_mem _ h)
  have hown : s.vm.findClass RX5 = some m.cls := findClass_of_methodNamed B.named
  have hlocks := B.notSynchronized
  have hin : meth.name = "<init>" := (name_of_methodNamed B.named B.method).1
  subst hsz
  have hD := hD0.self (sz := s.heap.size)
  generalize hAe : va_A [(h0, .inr (5, [.null, .null, .null, .null, .int 0, .int 0]))] s.heap.size = A at hD ⊢
  have hA : ∀ q : Nat, s.heap.size ≤ q → A q := fun q h => by rw [← hAe]; exact Or.inr h
  have hS : va_S A s.heap s.heap [] := va_S.rf
  have hl := lv_entry ([.ref h0, .ref r1]) (n := 2) (Nat.le_of_ble_eq_true rfl)
  rw [lg_entry_eq]
  generalize (lg_sl ([.ref h0, .ref r1]) ++ List.replicate (2 - (lg_sl ([.ref h0, .ref r1])).length) Slot.unset).toArray = ls at hl ⊢
  have hl : lv_has ls 2 [(0, .ref h0), (1, .ref r1)] := hl
  refine lv_aload_n hx hb dX5_init_0 rfl (lv_at hl 0 rfl) ?_
  refine W.objInit hx hb hown (hts _ wl96) (hts _ wl54) (hts _ wl55) rfl (by rw [hml]; exact hl.1) rfl dX5_init_1 (Nat.le_of_ble_eq_true rfl) (Nat.le_of_ble_eq_true rfl) ?_
  refine W.eq (g2 := F0 m 4 ls []) rfl ?_
  refine lv_aload_n hx hb dX5_init_4 rfl (lv_at hl 0 rfl) ?_
  refine lv_bipush hx hb dX5_init_5 bp_8 ?_
  refine va_newa (atype := .int) (ty := .int) (a0 := (8, .inl (fun _ => 0))) (n := 8) hx hb (hts _ wl90) rfl hK hP hD hS hA (fun _ => rfl) (by decide) rfl (by decide) (Nat.le_of_ble_eq_true rfl) (Nat.le_of_ble_eq_true rfl) dX5_init_7 (fun q7 g7 H hK hP hD hS => ?_)
  have hP : va_P D vwCl [(h0, .inr (5, [.null, .null, .null, .null, .int 0, .int 0])), (q7, .inl (g7, 8, .inl (fun _ => 0)))] H := hP
  have hD : va_D A [(h0, .inr (5, [.null, .null, .null, .null, .int 0, .int 0])), (q7, .inl (g7, 8, .inl (fun _ => 0)))] := hD
  have hK : va_K D vwCl [(g7, .int)] s := hK
  refine W.widen (k := 1) (n := 8) (Nat.le_of_ble_eq_true rfl) (Nat.le_of_ble_eq_true rfl) ?_
  refine va_putF (ci := 5) (v := .ref q7) (C := RX5) (T := TX5) (N := 6) hx hb hts inW5 tyX5 tyX5_ok nmX5 hown hK hP hD hS 0 rfl rfl 0 (by decide) (hts _ wl97) (fun _ h => h) rfl hin rfl (tyX5_ok 0 (by decide)) rfl rfl (Nat.le_of_ble_eq_true rfl) dX5_init_9 (fun H locs hP hD hS => ?_)
  have hP : va_P D vwCl [(h0, .inr (5, [.ref q7, .null, .null, .null, .int 0, .int 0])), (q7, .inl (g7, 8, .inl (fun _ => 0)))] H := hP
  have hD : va_D A [(h0, .inr (5, [.ref q7, .null, .null, .null, .int 0, .int 0])), (q7, .inl (g7, 8, .inl (fun _ => 0)))] := hD
  refine lv_aload_n hx hb dX5_init_12 rfl (lv_at hl 0 rfl) ?_
  refine lv_bipush hx hb dX5_init_13 bp_8 ?_
  refine va_newa (atype := .int) (ty := .int) (a0 := (8, .inl (fun _ => 0))) (n := 8) hx hb (hts _ wl90) rfl hK hP hD hS hA (fun _ => rfl) (by decide) rfl (by decide) (Nat.le_of_ble_eq_true rfl) (Nat.le_of_ble_eq_true rfl) dX5_init_15 (fun q15 g15 H hK hP hD hS => ?_)
  have hP : va_P D vwCl [(h0, .inr (5, [.ref q7, .null, .null, .null, .int 0, .int 0])), (q7, .inl (g7, 8, .inl (fun _ => 0))), (q15, .inl (g15, 8, .inl (fun _ => 0)))] H := hP
  have hD : va_D A [(h0, .inr (5, [.ref q7, .null, .null, .null, .int 0, .int 0])), (q7, .inl (g7, 8, .inl (fun _ => 0))), (q15, .inl (g15, 8, .inl (fun _ => 0)))] := hD
  have hK : va_K D vwCl [(g7, .int), (g15, .int)] s := hK
  refine W.widen (k := 2) (n := 16) (Nat.le_of_ble_eq_true rfl) (Nat.le_of_ble_eq_true rfl) ?_
  refine va_putF (ci := 5) (v := .ref q15) (C := RX5) (T := TX5) (N := 6) hx hb hts inW5 tyX5 tyX5_ok nmX5 hown hK hP hD hS 0 rfl rfl 1 (by decide) (hts _ wl99) (fun _ h => h) rfl hin rfl (tyX5_ok 1 (by decide)) rfl rfl (Nat.le_of_ble_eq_true rfl) dX5_init_17 (fun H locs hP hD hS => ?_)
  have hP : va_P D vwCl [(h0, .inr (5, [.ref q7, .ref q15, .null, .null, .int 0, .int 0])), (q7, .inl (g7, 8, .inl (fun _ => 0))), (q15, .inl (g15, 8, .inl (fun _ => 0)))] H := hP
  have hD : va_D A [(h0, .inr (5, [.ref q7, .ref q15, .null, .null, .int 0, .int 0])), (q7, .inl (g7, 8, .inl (fun _ => 0))), (q15, .inl (g15, 8, .inl (fun _ => 0)))] := hD
  refine lv_aload_n hx hb dX5_init_20 rfl (lv_at hl 0 rfl) ?_
  refine lv_bipush hx hb dX5_init_21 bp_8 ?_
  refine va_newa (atype := .int) (ty := .int) (a0 := (8, .inl (fun _ => 0))) (n := 8) hx hb (hts _ wl90) rfl hK hP hD hS hA (fun _ => rfl) (by decide) rfl (by decide) (Nat.le_of_ble_eq_true rfl) (Nat.le_of_ble_eq_true rfl) dX5_init_23 (fun q23 g23 H hK hP hD hS => ?_)
  have hP : va_P D vwCl [(h0, .inr (5, [.ref q7, .ref q15, .null, .null, .int 0, .int 0])), (q7, .inl (g7, 8, .inl (fun _ => 0))), (q15, .inl (g15, 8, .inl (fun _ => 0))), (q23, .inl (g23, 8, .inl (fun _ => 0)))] H := hP
  have hD : va_D A [(h0, .inr (5, [.ref q7, .ref q15, .null, .null, .int 0, .int 0])), (q7, .inl (g7, 8, .inl (fun _ => 0))), (q15, .inl (g15, 8, .inl (fun _ => 0))), (q23, .inl (g23, 8, .inl (fun _ => 0)))] := hD
  have hK : va_K D vwCl [(g7, .int), (g15, .int), (g23, .int)] s := hK
  refine W.widen (k := 3) (n := 24) (Nat.le_of_ble_eq_true rfl) (Nat.le_of_ble_eq_true rfl) ?_
  refine va_putF (ci := 5) (v := .ref q23) (C := RX5) (T := TX5) (N := 6) hx hb hts inW5 tyX5 tyX5_ok nmX5 hown hK hP hD hS 0 rfl rfl 2 (by decide) (hts _ wl100) (fun _ h => h) rfl hin rfl (tyX5_ok 2 (by decide)) rfl rfl (Nat.le_of_ble_eq_true rfl) dX5_init_25 (fun H locs hP hD hS => ?_)
  have hP : va_P D vwCl [(h0, .inr (5, [.ref q7, .ref q15, .ref q23, .null, .int 0, .int 0])), (q7, .inl (g7, 8, .inl (fun _ => 0))), (q15, .inl (g15, 8, .inl (fun _ => 0))), (q23, .inl (g23, 8, .inl (fun _ => 0)))] H := hP
  have hD : va_D A [(h0, .inr (5, [.ref q7, .ref q15, .ref q23, .null, .int 0, .int 0])), (q7, .inl (g7, 8, .inl (fun _ => 0))), (q15, .inl (g15, 8, .inl (fun _ => 0))), (q23, .inl (g23, 8, .inl (fun _ => 0)))] := hD
  refine lv_aload_n hx hb dX5_init_28 rfl (lv_at hl 0 rfl) ?_
  refine lv_iconst hx hb dX5_init_29 ic_m1 ?_
  refine va_put (ci := 5) (v := .int (-1)) (C := RX5) (T := TX5) (N := 6) hx hb hts inW5 tyX5 tyX5_ok nmX5 hown hK hP hD hS 0 rfl rfl 4 (by decide) (hts _ wl102) (fun _ h => h) rfl (tyX5_ok 4 (by decide)) rfl rfl (Nat.le_of_ble_eq_true rfl) dX5_init_30 (fun H locs hP hD hS => ?_)
  have hP : va_P D vwCl [(h0, .inr (5, [.ref q7, .ref q15, .ref q23, .null, .int (-1), .int 0])), (q7, .inl (g7, 8, .inl (fun _ => 0))), (q15, .inl (g15, 8, .inl (fun _ => 0))), (q23, .inl (g23, 8, .inl (fun _ => 0)))] H := hP
  have hD : va_D A [(h0, .inr (5, [.ref q7, .ref q15, .ref q23, .null, .int (-1), .int 0])), (q7, .inl (g7, 8, .inl (fun _ => 0))), (q15, .inl (g15, 8, .inl (fun _ => 0))), (q23, .inl (g23, 8, .inl (fun _ => 0)))] := hD
  refine lv_aload_n hx hb dX5_init_33 rfl (lv_at hl 0 rfl) ?_
  refine lv_iconst hx hb dX5_init_34 ic_m1 ?_
  refine va_put (ci := 5) (v := .int (-1)) (C := RX5) (T := TX5) (N := 6) hx hb hts inW5 tyX5 tyX5_ok nmX5 hown hK hP hD hS 0 rfl rfl 5 (by decide) (hts _ wl103) (fun _ h => h) rfl (tyX5_ok 5 (by decide)) rfl rfl (Nat.le_of_ble_eq_true rfl) dX5_init_35 (fun H locs hP hD hS => ?_)
  have hP : va_P D vwCl [(h0, .inr (5, [.ref q7, .ref q15, .ref q23, .null, .int (-1), .int (-1)])), (q7, .inl (g7, 8, .inl (fun _ => 0))), (q15, .inl (g15, 8, .inl (fun _ => 0))), (q23, .inl (g23, 8, .inl (fun _ => 0)))] H := hP
  have hD : va_D A [(h0, .inr (5, [.ref q7, .ref q15, .ref q23, .null, .int (-1), .int (-1)])), (q7, .inl (g7, 8, .inl (fun _ => 0))), (q15, .inl (g15, 8, .inl (fun _ => 0))), (q23, .inl (g23, 8, .inl (fun _ => 0)))] := hD
  refine lv_aload_n hx hb dX5_init_38 rfl (lv_at hl 0 rfl) ?_
  refine lv_aload_n hx hb dX5_init_39 rfl (lv_at hl 1 rfl) ?_
  refine va_putF (ci := 5) (v := .ref r1) (C := RX5) (T := TX5) (N := 6) hx hb hts inW5 tyX5 tyX5_ok nmX5 hown hK hP hD hS 0 rfl rfl 3 (by decide) (hts _ wl101) (fun _ h => h) rfl hin rfl (tyX5_ok 3 (by decide)) rfl rfl (Nat.le_of_ble_eq_true rfl) dX5_init_40 (fun H locs hP hD hS => ?_)
  have hP : va_P D vwCl [(h0, .inr (5, [.ref q7, .ref q15, .ref q23, .ref r1, .int (-1), .int (-1)])), (q7, .inl (g7, 8, .inl (fun _ => 0))), (q15, .inl (g15, 8, .inl (fun _ => 0))), (q23, .inl (g23, 8, .inl (fun _ => 0)))] H := hP
  have hD : va_D A [(h0, .inr (5, [.ref q7, .ref q15, .ref q23, .ref r1, .int (-1), .int (-1)])), (q7, .inl (g7, 8, .inl (fun _ => 0))), (q15, .inl (g15, 8, .inl (fun _ => 0))), (q23, .inl (g23, 8, .inl (fun _ => 0)))] := hD
  refine W.widen (k := 3) (n := 24) (Nat.le_of_ble_eq_true rfl) (Nat.le_of_ble_eq_true rfl) ?_
  exact W.vret hx hb hr (fun t ht hW => ⟨⟨(), rfl, trivial, q7, q15, q23, g7, g15, g23, by rw [ht]; exact hP, va_K.moved hW.alike hK, hD⟩, hS.F ht⟩) hS.2.2 dX5_init_43
set_option maxHeartbeats 4000000 in
set_option maxRecDepth 100000 in
theorem ci6 (l : Launch) (D : va_G) (h0 sz : Nat) : Met l yX6_init (wsm yX6_init cX6_init 1 none) (RC 1 6 36) (PI D 6 [.null, .null, .int 0, .null, .null, .null, .null, .int 0] sz h0 [.ref h0]) (va_Qv (fun _ : Unit => True) (fun _ t => ∃ (q6 : Nat) (q13 : Nat) (q26 : Nat) (q34 : Nat) (q42 : Nat) (q50 : Nat) (g6 : ClassId) (g13 : ClassId) (g26 : ClassId) (g34 : ClassId) (g42 : ClassId) (g50 : ClassId), va_P D vwCl [(h0, .inr (6, [.ref q6, .ref q13, .int 0, .ref q26, .ref q34, .ref q42, .ref q50, .int 0])), (q6, .inl (g6, 4, .inl (fun _ => 0))), (q13, .inl (g13, 4, .inl (fun _ => 0))), (q26, .inl (g26, 7, .inl (fun _ => 0))), (q34, .inl (g34, 7, .inl (fun _ => 0))), (q42, .inl (g42, 7, .inl (fun _ => 0))), (q50, .inl (g50, 7, .inl (fun _ => 0)))] t.heap ∧ va_K D vwCl [(g6, .int), (g13, .int), (g26, .int), (g34, .int), (g42, .int), (g50, .int)] t ∧ va_D (va_A [(h0, .inr (6, [.null, .null, .int 0, .null, .null, .null, .null, .int 0]))] sz) [(h0, .inr (6, [.ref q6, .ref q13, .int 0, .ref q26, .ref q34, .ref q42, .ref q50, .int 0])), (q6, .inl (g6, 4, .inl (fun _ => 0))), (q13, .inl (g13, 4, .inl (fun _ => 0))), (q26, .inl (g26, 7, .inl (fun _ => 0))), (q34, .inl (g34, 7, .inl (fun _ => 0))), (q42, .inl (g42, 7, .inl (fun _ => 0))), (q50, .inl (g50, 7, .inl (fun _ => 0)))]) (va_A [(h0, .inr (6, [.null, .null, .int 0, .null, .null, .null, .null, .int 0]))] sz)) 6 36 (va_A [(h0, .inr (6, [.null, .null, .int 0, .null, .null, .null, .null, .int 0]))] sz) := by
  refine Met.ofW (cc := cX6_init) (maxL := 1) (ret := none) (by decide) rfl ?_
  intro p e s m args below meth c s₁ B hml hv
  obtain ⟨rfl, hsz, hP, hK, hD0, hN⟩ := hv
  have hx := B.exec
  have hb := B.bytes
  have hr := B.returns
  have hts0 := atoms_spec (ws := wsm yX6_init cX6_init 1 none) B.pre
  have hts : ∀ w ∈ wd, w.before _ s = true := fun w h => hts0 w (List.mem_cons_of_mem _ h)
  have hown : s.vm.findClass RX6 = some m.cls := findClass_of_methodNamed B.named
  have hlocks := B.notSynchronized
  have hin : meth.name = "<init>" := (name_of_methodNamed B.named B.method).1
  subst hsz
  have hD := hD0.self (sz := s.heap.size)
  generalize hAe : va_A [(h0, .inr (6, [.null, .null, .int 0, .null, .null, .null, .null, .int 0]))] s.heap.size = A at hD ⊢
  have hA : ∀ q : Nat, s.heap.size ≤ q → A q := fun q h => by rw [← hAe]; exact Or.inr h
  have hS : va_S A s.heap s.heap [] := va_S.rf
  have hl := lv_entry ([.ref h0]) (n := 1) (Nat.le_of_ble_eq_true rfl)
  rw [lg_entry_eq]
  generalize (lg_sl ([.ref h0]) ++ List.replicate (1 - (lg_sl ([.ref h0])).length) Slot.unset).toArray = ls at hl ⊢
  have hl : lv_has ls 1 [(0, .ref h0)] := hl
  refine lv_aload_n hx hb dX6_init_0 rfl (lv_at hl 0 rfl) ?_
  refine W.objInit hx hb hown (hts _ wl122) (hts _ wl54) (hts _ wl55) rfl (by rw [hml]; exact hl.1) rfl dX6_init_1 (Nat.le_of_ble_eq_true rfl) (Nat.le_of_ble_eq_true rfl) ?_
  refine W.eq (g2 := F0 m 4 ls []) rfl ?_
  refine lv_aload_n hx hb dX6_init_4 rfl (lv_at hl 0 rfl) ?_
  refine lv_iconst hx hb dX6_init_5 ic_4 ?_
  refine va_newa (atype := .int) (ty := .int) (a0 := (4, .inl (fun _ => 0))) (n := 4) hx hb (hts _ wl90) rfl hK hP hD hS hA (fun _ => rfl) (by decide) rfl (by decide) (Nat.le_of_ble_eq_true rfl) (Nat.le_of_ble_eq_true rfl) dX6_init_6 (fun q6 g6 H hK hP hD hS => ?_)
  have hP : va_P D vwCl [(h0, .inr (6, [.null, .null, .int 0, .null, .null, .null, .null, .int 0])), (q6, .inl (g6, 4, .inl (fun _ => 0)))] H := hP
  have hD : va_D A [(h0, .inr (6, [.null, .null, .int 0, .null, .null, .null, .null, .int 0])), (q6, .inl (g6, 4, .inl (fun _ => 0)))] := hD
  have hK : va_K D vwCl [(g6, .int)] s := hK
  refine W.widen (k := 1) (n := 4) (Nat.le_of_ble_eq_true rfl) (Nat.le_of_ble_eq_true rfl) ?_
  refine va_putF (ci := 6) (v := .ref q6) (C := RX6) (T := TX6) (N := 8) hx hb hts inW6 tyX6 tyX6_ok nmX6 hown hK hP hD hS 0 rfl rfl 0 (by decide) (hts _ wl123) (fun _ h => h) rfl hin rfl (tyX6_ok 0 (by decide)) rfl rfl (Nat.le_of_ble_eq_true rfl) dX6_init_8 (fun H locs hP hD hS => ?_)
  have hP : va_P D vwCl [(h0, .inr (6, [.ref q6, .null, .int 0, .null, .null, .null, .null, .int 0])), (q6, .inl (g6, 4, .inl (fun _ => 0)))] H := hP
  have hD : va_D A [(h0, .inr (6, [.ref q6, .null, .int 0, .null, .null, .null, .null, .int 0])), (q6, .inl (g6, 4, .inl (fun _ => 0)))] := hD
  refine lv_aload_n hx hb dX6_init_11 rfl (lv_at hl 0 rfl) ?_
  refine lv_iconst hx hb dX6_init_12 ic_4 ?_
  refine va_newa (atype := .int) (ty := .int) (a0 := (4, .inl (fun _ => 0))) (n := 4) hx hb (hts _ wl90) rfl hK hP hD hS hA (fun _ => rfl) (by decide) rfl (by decide) (Nat.le_of_ble_eq_true rfl) (Nat.le_of_ble_eq_true rfl) dX6_init_13 (fun q13 g13 H hK hP hD hS => ?_)
  have hP : va_P D vwCl [(h0, .inr (6, [.ref q6, .null, .int 0, .null, .null, .null, .null, .int 0])), (q6, .inl (g6, 4, .inl (fun _ => 0))), (q13, .inl (g13, 4, .inl (fun _ => 0)))] H := hP
  have hD : va_D A [(h0, .inr (6, [.ref q6, .null, .int 0, .null, .null, .null, .null, .int 0])), (q6, .inl (g6, 4, .inl (fun _ => 0))), (q13, .inl (g13, 4, .inl (fun _ => 0)))] := hD
  have hK : va_K D vwCl [(g6, .int), (g13, .int)] s := hK
  refine W.widen (k := 2) (n := 8) (Nat.le_of_ble_eq_true rfl) (Nat.le_of_ble_eq_true rfl) ?_
  refine va_putF (ci := 6) (v := .ref q13) (C := RX6) (T := TX6) (N := 8) hx hb hts inW6 tyX6 tyX6_ok nmX6 hown hK hP hD hS 0 rfl rfl 1 (by decide) (hts _ wl125) (fun _ h => h) rfl hin rfl (tyX6_ok 1 (by decide)) rfl rfl (Nat.le_of_ble_eq_true rfl) dX6_init_15 (fun H locs hP hD hS => ?_)
  have hP : va_P D vwCl [(h0, .inr (6, [.ref q6, .ref q13, .int 0, .null, .null, .null, .null, .int 0])), (q6, .inl (g6, 4, .inl (fun _ => 0))), (q13, .inl (g13, 4, .inl (fun _ => 0)))] H := hP
  have hD : va_D A [(h0, .inr (6, [.ref q6, .ref q13, .int 0, .null, .null, .null, .null, .int 0])), (q6, .inl (g6, 4, .inl (fun _ => 0))), (q13, .inl (g13, 4, .inl (fun _ => 0)))] := hD
  refine lv_aload_n hx hb dX6_init_18 rfl (lv_at hl 0 rfl) ?_
  refine lv_iconst hx hb dX6_init_19 ic_0 ?_
  refine va_put (ci := 6) (v := .int 0) (C := RX6) (T := TX6) (N := 8) hx hb hts inW6 tyX6 tyX6_ok nmX6 hown hK hP hD hS 0 rfl rfl 2 (by decide) (hts _ wl127) (fun _ h => h) rfl (tyX6_ok 2 (by decide)) rfl rfl (Nat.le_of_ble_eq_true rfl) dX6_init_20 (fun H locs hP hD hS => ?_)
  have hP : va_P D vwCl [(h0, .inr (6, [.ref q6, .ref q13, .int 0, .null, .null, .null, .null, .int 0])), (q6, .inl (g6, 4, .inl (fun _ => 0))), (q13, .inl (g13, 4, .inl (fun _ => 0)))] H := hP
  have hD : va_D A [(h0, .inr (6, [.ref q6, .ref q13, .int 0, .null, .null, .null, .null, .int 0])), (q6, .inl (g6, 4, .inl (fun _ => 0))), (q13, .inl (g13, 4, .inl (fun _ => 0)))] := hD
  refine lv_aload_n hx hb dX6_init_23 rfl (lv_at hl 0 rfl) ?_
  refine lv_bipush hx hb dX6_init_24 bp_7 ?_
  refine va_newa (atype := .int) (ty := .int) (a0 := (7, .inl (fun _ => 0))) (n := 7) hx hb (hts _ wl90) rfl hK hP hD hS hA (fun _ => rfl) (by decide) rfl (by decide) (Nat.le_of_ble_eq_true rfl) (Nat.le_of_ble_eq_true rfl) dX6_init_26 (fun q26 g26 H hK hP hD hS => ?_)
  have hP : va_P D vwCl [(h0, .inr (6, [.ref q6, .ref q13, .int 0, .null, .null, .null, .null, .int 0])), (q6, .inl (g6, 4, .inl (fun _ => 0))), (q13, .inl (g13, 4, .inl (fun _ => 0))), (q26, .inl (g26, 7, .inl (fun _ => 0)))] H := hP
  have hD : va_D A [(h0, .inr (6, [.ref q6, .ref q13, .int 0, .null, .null, .null, .null, .int 0])), (q6, .inl (g6, 4, .inl (fun _ => 0))), (q13, .inl (g13, 4, .inl (fun _ => 0))), (q26, .inl (g26, 7, .inl (fun _ => 0)))] := hD
  have hK : va_K D vwCl [(g6, .int), (g13, .int), (g26, .int)] s := hK
  refine W.widen (k := 3) (n := 15) (Nat.le_of_ble_eq_true rfl) (Nat.le_of_ble_eq_true rfl) ?_
  refine va_putF (ci := 6) (v := .ref q26) (C := RX6) (T := TX6) (N := 8) hx hb hts inW6 tyX6 tyX6_ok nmX6 hown hK hP hD hS 0 rfl rfl 3 (by decide) (hts _ wl131) (fun _ h => h) rfl hin rfl (tyX6_ok 3 (by decide)) rfl rfl (Nat.le_of_ble_eq_true rfl) dX6_init_28 (fun H locs hP hD hS => ?_)
  have hP : va_P D vwCl [(h0, .inr (6, [.ref q6, .ref q13, .int 0, .ref q26, .null, .null, .null, .int 0])), (q6, .inl (g6, 4, .inl (fun _ => 0))), (q13, .inl (g13, 4, .inl (fun _ => 0))), (q26, .inl (g26, 7, .inl (fun _ => 0)))] H := hP
  have hD : va_D A [(h0, .inr (6, [.ref q6, .ref q13, .int 0, .ref q26, .null, .null, .null, .int 0])), (q6, .inl (g6, 4, .inl (fun _ => 0))), (q13, .inl (g13, 4, .inl (fun _ => 0))), (q26, .inl (g26, 7, .inl (fun _ => 0)))] := hD
  refine lv_aload_n hx hb dX6_init_31 rfl (lv_at hl 0 rfl) ?_
  refine lv_bipush hx hb dX6_init_32 bp_7 ?_
  refine va_newa (atype := .int) (ty := .int) (a0 := (7, .inl (fun _ => 0))) (n := 7) hx hb (hts _ wl90) rfl hK hP hD hS hA (fun _ => rfl) (by decide) rfl (by decide) (Nat.le_of_ble_eq_true rfl) (Nat.le_of_ble_eq_true rfl) dX6_init_34 (fun q34 g34 H hK hP hD hS => ?_)
  have hP : va_P D vwCl [(h0, .inr (6, [.ref q6, .ref q13, .int 0, .ref q26, .null, .null, .null, .int 0])), (q6, .inl (g6, 4, .inl (fun _ => 0))), (q13, .inl (g13, 4, .inl (fun _ => 0))), (q26, .inl (g26, 7, .inl (fun _ => 0))), (q34, .inl (g34, 7, .inl (fun _ => 0)))] H := hP
  have hD : va_D A [(h0, .inr (6, [.ref q6, .ref q13, .int 0, .ref q26, .null, .null, .null, .int 0])), (q6, .inl (g6, 4, .inl (fun _ => 0))), (q13, .inl (g13, 4, .inl (fun _ => 0))), (q26, .inl (g26, 7, .inl (fun _ => 0))), (q34, .inl (g34, 7, .inl (fun _ => 0)))] := hD
  have hK : va_K D vwCl [(g6, .int), (g13, .int), (g26, .int), (g34, .int)] s := hK
  refine W.widen (k := 4) (n := 22) (Nat.le_of_ble_eq_true rfl) (Nat.le_of_ble_eq_true rfl) ?_
  refine va_putF (ci := 6) (v := .ref q34) (C := RX6) (T := TX6) (N := 8) hx hb hts inW6 tyX6 tyX6_ok nmX6 hown hK hP hD hS 0 rfl rfl 4 (by decide) (hts _ wl133) (fun _ h => h) rfl hin rfl (tyX6_ok 4 (by decide)) rfl rfl (Nat.le_of_ble_eq_true rfl) dX6_init_36 (fun H locs hP hD hS => ?_)
  have hP : va_P D vwCl [(h0, .inr (6, [.ref q6, .ref q13, .int 0, .ref q26, .ref q34, .null, .null, .int 0])), (q6, .inl (g6, 4, .inl (fun _ => 0))), (q13, .inl (g13, 4, .inl (fun _ => 0))), (q26, .inl (g26, 7, .inl (fun _ => 0))), (q34, .inl (g34, 7, .inl (fun _ => 0)))] H := hP
  have hD : va_D A [(h0, .inr (6, [.ref q6, .ref q13, .int 0, .ref q26, .ref q34, .null, .null, .int 0])), (q6, .inl (g6, 4, .inl (fun _ => 0))), (q13, .inl (g13, 4, .inl (fun _ => 0))), (q26, .inl (g26, 7, .inl (fun _ => 0))), (q34, .inl (g34, 7, .inl (fun _ => 0)))] := hD
  refine lv_aload_n hx hb dX6_init_39 rfl (lv_at hl 0 rfl) ?_
  refine lv_bipush hx hb dX6_init_40 bp_7 ?_
  refine va_newa (atype := .int) (ty := .int) (a0 := (7, .inl (fun _ => 0))) (n := 7) hx hb (hts _ wl90) rfl hK hP hD hS hA (fun _ => rfl) (by decide) rfl (by decide) (Nat.le_of_ble_eq_true rfl) (Nat.le_of_ble_eq_true rfl) dX6_init_42 (fun q42 g42 H hK hP hD hS => ?_)
  have hP : va_P D vwCl [(h0, .inr (6, [.ref q6, .ref q13, .int 0, .ref q26, .ref q34, .null, .null, .int 0])), (q6, .inl (g6, 4, .inl (fun _ => 0))), (q13, .inl (g13, 4, .inl (fun _ => 0))), (q26, .inl (g26, 7, .inl (fun _ => 0))), (q34, .inl (g34, 7, .inl (fun _ => 0))), (q42, .inl (g42, 7, .inl (fun _ => 0)))] H := hP
  have hD : va_D A [(h0, .inr (6, [.ref q6, .ref q13, .int 0, .ref q26, .ref q34, .null, .null, .int 0])), (q6, .inl (g6, 4, .inl (fun _ => 0))), (q13, .inl (g13, 4, .inl (fun _ => 0))), (q26, .inl (g26, 7, .inl (fun _ => 0))), (q34, .inl (g34, 7, .inl (fun _ => 0))), (q42, .inl (g42, 7, .inl (fun _ => 0)))] := hD
  have hK : va_K D vwCl [(g6, .int), (g13, .int), (g26, .int), (g34, .int), (g42, .int)] s := hK
  refine W.widen (k := 5) (n := 29) (Nat.le_of_ble_eq_true rfl) (Nat.le_of_ble_eq_true rfl) ?_
  refine va_putF (ci := 6) (v := .ref q42) (C := RX6) (T := TX6) (N := 8) hx hb hts inW6 tyX6 tyX6_ok nmX6 hown hK hP hD hS 0 rfl rfl 5 (by decide) (hts _ wl135) (fun _ h => h) rfl hin rfl (tyX6_ok 5 (by decide)) rfl rfl (Nat.le_of_ble_eq_true rfl) dX6_init_44 (fun H locs hP hD hS => ?_)
  have hP : va_P D vwCl [(h0, .inr (6, [.ref q6, .ref q13, .int 0, .ref q26, .ref q34, .ref q42, .null, .int 0])), (q6, .inl (g6, 4, .inl (fun _ => 0))), (q13, .inl (g13, 4, .inl (fun _ => 0))), (q26, .inl (g26, 7, .inl (fun _ => 0))), (q34, .inl (g34, 7, .inl (fun _ => 0))), (q42, .inl (g42, 7, .inl (fun _ => 0)))] H := hP
  have hD : va_D A [(h0, .inr (6, [.ref q6, .ref q13, .int 0, .ref q26, .ref q34, .ref q42, .null, .int 0])), (q6, .inl (g6, 4, .inl (fun _ => 0))), (q13, .inl (g13, 4, .inl (fun _ => 0))), (q26, .inl (g26, 7, .inl (fun _ => 0))), (q34, .inl (g34, 7, .inl (fun _ => 0))), (q42, .inl (g42, 7, .inl (fun _ => 0)))] := hD
  refine lv_aload_n hx hb dX6_init_47 rfl (lv_at hl 0 rfl) ?_
  refine lv_bipush hx hb dX6_init_48 bp_7 ?_
  refine va_newa (atype := .int) (ty := .int) (a0 := (7, .inl (fun _ => 0))) (n := 7) hx hb (hts _ wl90) rfl hK hP hD hS hA (fun _ => rfl) (by decide) rfl (by decide) (Nat.le_of_ble_eq_true rfl) (Nat.le_of_ble_eq_true rfl) dX6_init_50 (fun q50 g50 H hK hP hD hS => ?_)
  have hP : va_P D vwCl [(h0, .inr (6, [.ref q6, .ref q13, .int 0, .ref q26, .ref q34, .ref q42, .null, .int 0])), (q6, .inl (g6, 4, .inl (fun _ => 0))), (q13, .inl (g13, 4, .inl (fun _ => 0))), (q26, .inl (g26, 7, .inl (fun _ => 0))), (q34, .inl (g34, 7, .inl (fun _ => 0))), (q42, .inl (g42, 7, .inl (fun _ => 0))), (q50, .inl (g50, 7, .inl (fun _ => 0)))] H := hP
  have hD : va_D A [(h0, .inr (6, [.ref q6, .ref q13, .int 0, .ref q26, .ref q34, .ref q42, .null, .int 0])), (q6, .inl (g6, 4, .inl (fun _ => 0))), (q13, .inl (g13, 4, .inl (fun _ => 0))), (q26, .inl (g26, 7, .inl (fun _ => 0))), (q34, .inl (g34, 7, .inl (fun _ => 0))), (q42, .inl (g42, 7, .inl (fun _ => 0))), (q50, .inl (g50, 7, .inl (fun _ => 0)))] := hD
  have hK : va_K D vwCl [(g6, .int), (g13, .int), (g26, .int), (g34, .int), (g42, .int), (g50, .int)] s := hK
  refine W.widen (k := 6) (n := 36) (Nat.le_of_ble_eq_true rfl) (Nat.le_of_ble_eq_true rfl) ?_
  refine va_putF (ci := 6) (v := .ref q50) (C := RX6) (T := TX6) (N := 8) hx hb hts inW6 tyX6 tyX6_ok nmX6 hown hK hP hD hS 0 rfl rfl 6 (by decide) (hts _ wl138) (fun _ h => h) rfl hin rfl (tyX6_ok 6 (by decide)) rfl rfl (Nat.le_of_ble_eq_true rfl) dX6_init_52 (fun H locs hP hD hS => ?_)
  have hP : va_P D vwCl [(h0, .inr (6, [.ref q6, .ref q13, .int 0, .ref q26, .ref q34, .ref q42, .ref q50, .int 0])), (q6, .inl (g6, 4, .inl (fun _ => 0))), (q13, .inl (g13, 4, .inl (fun _ => 0))), (q26, .inl (g26, 7, .inl (fun _ => 0))), (q34, .inl (g34, 7, .inl (fun _ => 0))), (q42, .inl (g42, 7, .inl (fun _ => 0))), (q50, .inl (g50, 7, .inl (fun _ => 0)))] H := hP
  have hD : va_D A [(h0, .inr (6, [.ref q6, .ref q13, .int 0, .ref q26, .ref q34, .ref q42, .ref q50, .int 0])), (q6, .inl (g6, 4, .inl (fun _ => 0))), (q13, .inl (g13, 4, .inl (fun _ => 0))), (q26, .inl (g26, 7, .inl (fun _ => 0))), (q34, .inl (g34, 7, .inl (fun _ => 0))), (q42, .inl (g42, 7, .inl (fun _ => 0))), (q50, .inl (g50, 7, .inl (fun _ => 0)))] := hD
  refine lv_aload_n hx hb dX6_init_55 rfl (lv_at hl 0 rfl) ?_
  refine lv_iconst hx hb dX6_init_56 ic_0 ?_
  refine va_put (ci := 6) (v := .int 0) (C := RX6) (T := TX6) (N := 8) hx hb hts inW6 tyX6 tyX6_ok nmX6 hown hK hP hD hS 0 rfl rfl 7 (by decide) (hts _ wl140) (fun _ h => h) rfl (tyX6_ok 7 (by decide)) rfl rfl (Nat.le_of_ble_eq_true rfl) dX6_init_57 (fun H locs hP hD hS => ?_)
  have hP : va_P D vwCl [(h0, .inr (6, [.ref q6, .ref q13, .int 0, .ref q26, .ref q34, .ref q42, .ref q50, .int 0])), (q6, .inl (g6, 4, .inl (fun _ => 0))), (q13, .inl (g13, 4, .inl (fun _ => 0))), (q26, .inl (g26, 7, .inl (fun _ => 0))), (q34, .inl (g34, 7, .inl (fun _ => 0))), (q42, .inl (g42, 7, .inl (fun _ => 0))), (q50, .inl (g50, 7, .inl (fun _ => 0)))] H := hP
  have hD : va_D A [(h0, .inr (6, [.ref q6, .ref q13, .int 0, .ref q26, .ref q34, .ref q42, .ref q50, .int 0])), (q6, .inl (g6, 4, .inl (fun _ => 0))), (q13, .inl (g13, 4, .inl (fun _ => 0))), (q26, .inl (g26, 7, .inl (fun _ => 0))), (q34, .inl (g34, 7, .inl (fun _ => 0))), (q42, .inl (g42, 7, .inl (fun _ => 0))), (q50, .inl (g50, 7, .inl (fun _ => 0)))] := hD
  refine W.widen (k := 6) (n := 36) (Nat.le_of_ble_eq_true rfl) (Nat.le_of_ble_eq_true rfl) ?_
  exact W.vret hx hb hr (fun t ht hW => ⟨⟨(), rfl, trivial, q6, q13, q26, q34, q42, q50, g6, g13, g26, g34, g42, g50, by rw [ht]; exact hP, va_K.moved hW.alike hK, hD⟩, hS.F ht⟩) hS.2.2 dX6_init_60

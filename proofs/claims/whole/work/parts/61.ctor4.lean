/-! a row is filled -/
def PF (D : va_G) (cA : ClassId) (sz q : Nat) (f : Nat → Int32) (x : Int32) : Array Value → State → Prop := va_Pc [.ref q, .int x] (fun U => U.heap.size = sz ∧ va_P D vwCl [(q, .inl (cA, 144, .inl f))] U.heap ∧ va_K D vwCl [(cA, .int)] U ∧ va_D (fun _ => True) [(q, .inl (cA, 144, .inl f))])
theorem PF_blind {D : va_G} {cA : ClassId} {sz q : Nat} {f : Nat → Int32} {x : Int32} : FrameBlind (PF D cA sz q f x) := fun _ U g mk q => ⟨q.1, q.2.1, q.2.2.1, va_K.moved (u := U) (U := U.calling g mk _) (Vm.Alike.refl U.vm) q.2.2.2.1, q.2.2.2.2⟩
set_option maxHeartbeats 4000000 in
set_option maxRecDepth 100000 in
theorem ci_fill (l : Launch) (D : va_G) (cA : ClassId) (q sz : Nat) (f : Nat → Int32) (x : Int32) : Met l yJ7_fill_53178 (wsm yJ7_fill_53178 cJ7_fill_53178 4 none) (RC 1 0 0) (PF D cA sz q f x) (va_Qv (fun f' : Nat → Int32 => ∀ k, k < 144 → f' k = x) (fun f' t => va_P D vwCl [(q, .inl (cA, 144, .inl f'))] t.heap ∧ va_K D vwCl [(cA, .int)] t ∧ va_D (va_A [(q, .inl (cA, 144, .inl f))] sz) [(q, .inl (cA, 144, .inl f'))]) (va_A [(q, .inl (cA, 144, .inl f))] sz)) 0 0 (va_A [(q, .inl (cA, 144, .inl f))] sz) := by
  refine Met.ofW (cc := cJ7_fill_53178) (maxL := 4) (ret := none) (by decide) rfl ?_
  intro p e s m args below meth c s₁ B hml hv
  obtain ⟨rfl, hsz, hP, hK, hD0⟩ := hv
  have hx := B.exec
  have hb := B.bytes
  have hr := B.returns
  have hlocks := B.notSynchronized
  subst hsz
  have hD := hD0.self (sz := s.heap.size)
  generalize va_A [(q, .inl (cA, 144, .inl f))] s.heap.size = A at hD ⊢
  have hS : va_S A s.heap s.heap [] := va_S.rf
  have hl := lv_entry ([.ref q, .int x]) (n := 4) (Nat.le_of_ble_eq_true rfl)
  rw [lg_entry_eq]
  generalize (lg_sl ([.ref q, .int x]) ++ List.replicate (4 - (lg_sl ([.ref q, .int x])).length) Slot.unset).toArray = ls at hl ⊢
  have hl : lv_has ls 4 [(0, .ref q), (1, .int x)] := hl
  have loop : ∀ (n j : Nat), j + n = 144 → ∀ (f' : Nat → Int32) (H : Heap) (locs : List Loc) (ls : Array Slot), (∀ k, k < j → f' k = x) → va_P D vwCl [(q, .inl (cA, 144, .inl f'))] H → va_D A [(q, .inl (cA, 144, .inl f'))] → va_S A s.heap H locs → lv_has ls 4 [(2, .int (nI j)), (3, .int (nI 144)), (0, .ref q), (1, .int x)] → W p l e (RC 1 0 0) s m #[.ref q, .int x] below meth c H locs 0 0 (MQ below (va_Qv (fun f' : Nat → Int32 => ∀ k, k < 144 → f' k = x) (fun f' t => va_P D vwCl [(q, .inl (cA, 144, .inl f'))] t.heap ∧ va_K D vwCl [(cA, .int)] t ∧ va_D A [(q, .inl (cA, 144, .inl f'))]) A) #[.ref q, .int x] s 0 0 A) (F0 m 5 ls []) := by
    intro n
    induction n with
    | zero =>
      intro j hj f' H locs ls hf hP hD hS hl
      have hj : j = 144 := by omega
      subst hj
      refine lv_iload_n hx hb dJ7_fill_53178_5 rfl (lv_at hl 0 rfl) ?_
      refine lv_iload_n hx hb dJ7_fill_53178_6 rfl (lv_at hl 1 rfl) ?_
      refine lv_icmp_ge (tgt := 20) hx hb dJ7_fill_53178_7 (by decide) (fun c_3 => ?_) (fun c_3 => ?_)
      · exact W.vret hx hb hr (fun t ht hW => ⟨⟨f', rfl, hf, by rw [ht]; exact hP, va_K.moved hW.alike hK, hD⟩, hS.F ht⟩) hS.2.2 dJ7_fill_53178_20
      · exact absurd (nI_le (Nat.le_refl 144) (by omega)) c_3
    | succ n ih =>
      intro j hj f' H locs ls hf hP hD hS hl
      refine lv_iload_n hx hb dJ7_fill_53178_5 rfl (lv_at hl 0 rfl) ?_
      refine lv_iload_n hx hb dJ7_fill_53178_6 rfl (lv_at hl 1 rfl) ?_
      refine lv_icmp_ge (tgt := 20) hx hb dJ7_fill_53178_7 (by decide) (fun c_3 => ?_) (fun c_3 => ?_)
      · exact absurd c_3 (nI_ge (show j < 144 by omega) (by omega))
      · refine lv_aload_n hx hb dJ7_fill_53178_10 rfl (lv_at hl 2 rfl) ?_
        refine lv_iload_n hx hb dJ7_fill_53178_11 rfl (lv_at hl 0 rfl) ?_
        refine lv_iload_n hx hb dJ7_fill_53178_12 rfl (lv_at hl 3 rfl) ?_
        refine va_iast hx hb hK hP hD hS 0 0 rfl rfl (vp_in_nI (show j < 144 by omega) (by omega)) dJ7_fill_53178_13 (fun H locs hP hD hS => ?_)
        rw [nI_clamp (by omega)] at hP hD
        obtain ⟨x2, ex2⟩ : ∃ y : Int32, y = nI j + 1 := ⟨_, rfl⟩
        refine lv_iinc (v := x2) (lv' := [(2, .int x2), (3, .int (nI 144)), (0, .ref q), (1, .int x)]) hx hb dJ7_fill_53178_14 hl (k := 0) rfl (by rw [ex2]; rfl) (by decide) rfl (fun ls hl => ?_)
        refine lv_goto (tgt := 5) hx hb dJ7_fill_53178_17 (by decide) ?_
        rw [ex2, nI_1] at hl
        refine ih (j + 1) (by omega) (upd f' j x) H locs ls (fun k hk => ?_) hP hD hS hl
        by_cases e : k = j
        · rw [e]; exact pk_us
        · rw [pk_un e]; exact hf k (by omega)
  refine lv_iconst hx hb dJ7_fill_53178_0 ic_0 ?_
  refine lv_istore_n (lv' := [(2, .int (nI 0)), (0, .ref q), (1, .int x)]) hx hb dJ7_fill_53178_1 rfl hl (by decide) rfl (fun ls hl => ?_)
  refine lv_aload_n hx hb dJ7_fill_53178_2 rfl (lv_at hl 1 rfl) ?_
  refine va_alen hx hb hK hP 0 0 rfl rfl (v := 144) rfl dJ7_fill_53178_3 ?_
  refine lv_istore_n (lv' := [(3, .int (nI 144)), (2, .int (nI 0)), (0, .ref q), (1, .int x)]) hx hb dJ7_fill_53178_4 rfl hl (by decide) rfl (fun ls hl => ?_)
  exact loop 144 0 rfl f _ _ ls (fun k hk => absurd hk (Nat.not_lt_zero k)) hP hD hS (lv_sub hl [1, 0, 2, 3] rfl)

set_option maxHeartbeats 4000000 in
set_option maxRecDepth 100000 in
theorem ci4 (l : Launch) (D : va_G) (h0 sz : Nat) : Met l yX4_init (wsm yX4_init cX4_init 2 none) (RC 2 5 240) (PI D 4 [.null, .null, .null, .null, .null, .int 0] sz h0 [.ref h0]) (va_Qv (fun _ : Unit => True) (fun _ t => ∃ (q7 : Nat) (q15 : Nat) (q23 : Nat) (q31 : Nat) (q40 : Nat) (g7 : ClassId) (g15 : ClassId) (g23 : ClassId) (g31 : ClassId) (g40 : ClassId) (f : Nat → Int32), (∀ u v, u < 12 → v < 12 → f (u * 12 + v) = nI (if u = v then 0 else 1000000)) ∧ va_P D vwCl [(h0, .inr (4, [.ref q7, .ref q15, .ref q23, .ref q31, .ref q40, .int 0])), (q7, .inl (g7, 24, .inl (fun _ => 0))), (q15, .inl (g15, 24, .inl (fun _ => 0))), (q23, .inl (g23, 24, .inl (fun _ => 0))), (q31, .inl (g31, 24, .inl (fun _ => 0))), (q40, .inl (g40, 144, .inl f))] t.heap ∧ va_K D vwCl [(g7, .int), (g15, .int), (g23, .int), (g31, .int), (g40, .int)] t ∧ va_D (va_A [(h0, .inr (4, [.null, .null, .null, .null, .null, .int 0]))] sz) [(h0, .inr (4, [.ref q7, .ref q15, .ref q23, .ref q31, .ref q40, .int 0])), (q7, .inl (g7, 24, .inl (fun _ => 0))), (q15, .inl (g15, 24, .inl (fun _ => 0))), (q23, .inl (g23, 24, .inl (fun _ => 0))), (q31, .inl (g31, 24, .inl (fun _ => 0))), (q40, .inl (g40, 144, .inl f))]) (va_A [(h0, .inr (4, [.null, .null, .null, .null, .null, .int 0]))] sz)) 5 240 (va_A [(h0, .inr (4, [.null, .null, .null, .null, .null, .int 0]))] sz) := by
  refine Met.ofW (cc := cX4_init) (maxL := 2) (ret := none) (by decide) rfl ?_
  intro p e s m args below meth c s₁ B hml hv
  obtain ⟨rfl, hsz, hP, hK, hD0, hN⟩ := hv
  have hx := B.exec
  have hb := B.bytes
  have hr := B.returns
  have hts0 := atoms_spec (ws := wsm yX4_init cX4_init 2 none) B.pre
  have hts : ∀ w ∈ wd, w.before _ s = true := fun w h => hts0 w (List.mem_cons_of_mem _ h)
  have hown : s.vm.findClass RX4 = some m.cls := findClass_of_methodNamed B.named
  have hlocks := B.notSynchronized
  have hin : meth.name = "<init>" := (name_of_methodNamed B.named B.method).1
  subst hsz
  have hD := hD0.self (sz := s.heap.size)
  generalize hAe : va_A [(h0, .inr (4, [.null, .null, .null, .null, .null, .int 0]))] s.heap.size = A at hD ⊢
  have hA : ∀ q : Nat, s.heap.size ≤ q → A q := fun q h => by rw [← hAe]; exact Or.inr h
  have hS : va_S A s.heap s.heap [] := va_S.rf
  have hl := lv_entry ([.ref h0]) (n := 2) (Nat.le_of_ble_eq_true rfl)
  rw [lg_entry_eq]
  generalize (lg_sl ([.ref h0]) ++ List.replicate (2 - (lg_sl ([.ref h0])).length) Slot.unset).toArray = ls at hl ⊢
  have hl : lv_has ls 2 [(0, .ref h0)] := hl
  refine lv_aload_n hx hb dX4_init_0 rfl (lv_at hl 0 rfl) ?_
  refine W.objInit hx hb hown (hts _ wl61) (hts _ wl54) (hts _ wl55) rfl (by rw [hml]; exact hl.1) rfl dX4_init_1 (Nat.le_of_ble_eq_true rfl) (Nat.le_of_ble_eq_true rfl) ?_
  refine W.eq (g2 := F0 m 4 ls []) rfl ?_
  refine lv_aload_n hx hb dX4_init_4 rfl (lv_at hl 0 rfl) ?_
  refine lv_bipush hx hb dX4_init_5 bp_24 ?_
  refine va_newa (atype := .int) (ty := .int) (a0 := (24, .inl (fun _ => 0))) (n := 24) hx hb (hts _ wl90) rfl hK hP hD hS hA (fun _ => rfl) (by decide) rfl (by decide) (Nat.le_of_ble_eq_true rfl) (Nat.le_of_ble_eq_true rfl) dX4_init_7 (fun q7 g7 H hK hP hD hS => ?_)
  have hP : va_P D vwCl [(h0, .inr (4, [.null, .null, .null, .null, .null, .int 0])), (q7, .inl (g7, 24, .inl (fun _ => 0)))] H := hP
  have hD : va_D A [(h0, .inr (4, [.null, .null, .null, .null, .null, .int 0])), (q7, .inl (g7, 24, .inl (fun _ => 0)))] := hD
  have hK : va_K D vwCl [(g7, .int)] s := hK
  refine W.widen (k := 1) (n := 24) (Nat.le_of_ble_eq_true rfl) (Nat.le_of_ble_eq_true rfl) ?_
  refine va_putF (ci := 4) (v := .ref q7) (C := RX4) (T := TX4) (N := 6) hx hb hts inW4 tyX4 tyX4_ok nmX4 hown hK hP hD hS 0 rfl rfl 0 (by decide) (hts _ wl66) (fun _ h => h) rfl hin rfl (tyX4_ok 0 (by decide)) rfl rfl (Nat.le_of_ble_eq_true rfl) dX4_init_9 (fun H locs hP hD hS => ?_)
  have hP : va_P D vwCl [(h0, .inr (4, [.ref q7, .null, .null, .null, .null, .int 0])), (q7, .inl (g7, 24, .inl (fun _ => 0)))] H := hP
  have hD : va_D A [(h0, .inr (4, [.ref q7, .null, .null, .null, .null, .int 0])), (q7, .inl (g7, 24, .inl (fun _ => 0)))] := hD
  refine lv_aload_n hx hb dX4_init_12 rfl (lv_at hl 0 rfl) ?_
  refine lv_bipush hx hb dX4_init_13 bp_24 ?_
  refine va_newa (atype := .int) (ty := .int) (a0 := (24, .inl (fun _ => 0))) (n := 24) hx hb (hts _ wl90) rfl hK hP hD hS hA (fun _ => rfl) (by decide) rfl (by decide) (Nat.le_of_ble_eq_true rfl) (Nat.le_of_ble_eq_true rfl) dX4_init_15 (fun q15 g15 H hK hP hD hS => ?_)
  have hP : va_P D vwCl [(h0, .inr (4, [.ref q7, .null, .null, .null, .null, .int 0])), (q7, .inl (g7, 24, .inl (fun _ => 0))), (q15, .inl (g15, 24, .inl (fun _ => 0)))] H := hP
  have hD : va_D A [(h0, .inr (4, [.ref q7, .null, .null, .null, .null, .int 0])), (q7, .inl (g7, 24, .inl (fun _ => 0))), (q15, .inl (g15, 24, .inl (fun _ => 0)))] := hD
  have hK : va_K D vwCl [(g7, .int), (g15, .int)] s := hK
  refine W.widen (k := 2) (n := 48) (Nat.le_of_ble_eq_true rfl) (Nat.le_of_ble_eq_true rfl) ?_
  refine va_putF (ci := 4) (v := .ref q15) (C := RX4) (T := TX4) (N := 6) hx hb hts inW4 tyX4 tyX4_ok nmX4 hown hK hP hD hS 0 rfl rfl 1 (by decide) (hts _ wl67) (fun _ h => h) rfl hin rfl (tyX4_ok 1 (by decide)) rfl rfl (Nat.le_of_ble_eq_true rfl) dX4_init_17 (fun H locs hP hD hS => ?_)
  have hP : va_P D vwCl [(h0, .inr (4, [.ref q7, .ref q15, .null, .null, .null, .int 0])), (q7, .inl (g7, 24, .inl (fun _ => 0))), (q15, .inl (g15, 24, .inl (fun _ => 0)))] H := hP
  have hD : va_D A [(h0, .inr (4, [.ref q7, .ref q15, .null, .null, .null, .int 0])), (q7, .inl (g7, 24, .inl (fun _ => 0))), (q15, .inl (g15, 24, .inl (fun _ => 0)))] := hD
  refine lv_aload_n hx hb dX4_init_20 rfl (lv_at hl 0 rfl) ?_
  refine lv_bipush hx hb dX4_init_21 bp_24 ?_
  refine va_newa (atype := .int) (ty := .int) (a0 := (24, .inl (fun _ => 0))) (n := 24) hx hb (hts _ wl90) rfl hK hP hD hS hA (fun _ => rfl) (by decide) rfl (by decide) (Nat.le_of_ble_eq_true rfl) (Nat.le_of_ble_eq_true rfl) dX4_init_23 (fun q23 g23 H hK hP hD hS => ?_)
  have hP : va_P D vwCl [(h0, .inr (4, [.ref q7, .ref q15, .null, .null, .null, .int 0])), (q7, .inl (g7, 24, .inl (fun _ => 0))), (q15, .inl (g15, 24, .inl (fun _ => 0))), (q23, .inl (g23, 24, .inl (fun _ => 0)))] H := hP
  have hD : va_D A [(h0, .inr (4, [.ref q7, .ref q15, .null, .null, .null, .int 0])), (q7, .inl (g7, 24, .inl (fun _ => 0))), (q15, .inl (g15, 24, .inl (fun _ => 0))), (q23, .inl (g23, 24, .inl (fun _ => 0)))] := hD
  have hK : va_K D vwCl [(g7, .int), (g15, .int), (g23, .int)] s := hK
  refine W.widen (k := 3) (n := 72) (Nat.le_of_ble_eq_true rfl) (Nat.le_of_ble_eq_true rfl) ?_
  refine va_putF (ci := 4) (v := .ref q23) (C := RX4) (T := TX4) (N := 6) hx hb hts inW4 tyX4 tyX4_ok nmX4 hown hK hP hD hS 0 rfl rfl 2 (by decide) (hts _ wl68) (fun _ h => h) rfl hin rfl (tyX4_ok 2 (by decide)) rfl rfl (Nat.le_of_ble_eq_true rfl) dX4_init_25 (fun H locs hP hD hS => ?_)
  have hP : va_P D vwCl [(h0, .inr (4, [.ref q7, .ref q15, .ref q23, .null, .null, .int 0])), (q7, .inl (g7, 24, .inl (fun _ => 0))), (q15, .inl (g15, 24, .inl (fun _ => 0))), (q23, .inl (g23, 24, .inl (fun _ => 0)))] H := hP
  have hD : va_D A [(h0, .inr (4, [.ref q7, .ref q15, .ref q23, .null, .null, .int 0])), (q7, .inl (g7, 24, .inl (fun _ => 0))), (q15, .inl (g15, 24, .inl (fun _ => 0))), (q23, .inl (g23, 24, .inl (fun _ => 0)))] := hD
  refine lv_aload_n hx hb dX4_init_28 rfl (lv_at hl 0 rfl) ?_
  refine lv_bipush hx hb dX4_init_29 bp_24 ?_
  refine va_newa (atype := .int) (ty := .int) (a0 := (24, .inl (fun _ => 0))) (n := 24) hx hb (hts _ wl90) rfl hK hP hD hS hA (fun _ => rfl) (by decide) rfl (by decide) (Nat.le_of_ble_eq_true rfl) (Nat.le_of_ble_eq_true rfl) dX4_init_31 (fun q31 g31 H hK hP hD hS => ?_)
  have hP : va_P D vwCl [(h0, .inr (4, [.ref q7, .ref q15, .ref q23, .null, .null, .int 0])), (q7, .inl (g7, 24, .inl (fun _ => 0))), (q15, .inl (g15, 24, .inl (fun _ => 0))), (q23, .inl (g23, 24, .inl (fun _ => 0))), (q31, .inl (g31, 24, .inl (fun _ => 0)))] H := hP
  have hD : va_D A [(h0, .inr (4, [.ref q7, .ref q15, .ref q23, .null, .null, .int 0])), (q7, .inl (g7, 24, .inl (fun _ => 0))), (q15, .inl (g15, 24, .inl (fun _ => 0))), (q23, .inl (g23, 24, .inl (fun _ => 0))), (q31, .inl (g31, 24, .inl (fun _ => 0)))] := hD
  have hK : va_K D vwCl [(g7, .int), (g15, .int), (g23, .int), (g31, .int)] s := hK
  refine W.widen (k := 4) (n := 96) (Nat.le_of_ble_eq_true rfl) (Nat.le_of_ble_eq_true rfl) ?_
  refine va_putF (ci := 4) (v := .ref q31) (C := RX4) (T := TX4) (N := 6) hx hb hts inW4 tyX4 tyX4_ok nmX4 hown hK hP hD hS 0 rfl rfl 3 (by decide) (hts _ wl70) (fun _ h => h) rfl hin rfl (tyX4_ok 3 (by decide)) rfl rfl (Nat.le_of_ble_eq_true rfl) dX4_init_33 (fun H locs hP hD hS => ?_)
  have hP : va_P D vwCl [(h0, .inr (4, [.ref q7, .ref q15, .ref q23, .ref q31, .null, .int 0])), (q7, .inl (g7, 24, .inl (fun _ => 0))), (q15, .inl (g15, 24, .inl (fun _ => 0))), (q23, .inl (g23, 24, .inl (fun _ => 0))), (q31, .inl (g31, 24, .inl (fun _ => 0)))] H := hP
  have hD : va_D A [(h0, .inr (4, [.ref q7, .ref q15, .ref q23, .ref q31, .null, .int 0])), (q7, .inl (g7, 24, .inl (fun _ => 0))), (q15, .inl (g15, 24, .inl (fun _ => 0))), (q23, .inl (g23, 24, .inl (fun _ => 0))), (q31, .inl (g31, 24, .inl (fun _ => 0)))] := hD
  refine lv_aload_n hx hb dX4_init_36 rfl (lv_at hl 0 rfl) ?_
  refine lv_sipush hx hb dX4_init_37 sp_144 ?_
  refine va_newa (atype := .int) (ty := .int) (a0 := (144, .inl (fun _ => 0))) (n := 144) hx hb (hts _ wl90) rfl hK hP hD hS hA (fun _ => rfl) (by decide) rfl (by decide) (Nat.le_of_ble_eq_true rfl) (Nat.le_of_ble_eq_true rfl) dX4_init_40 (fun q40 g40 H hK hP hD hS => ?_)
  have hP : va_P D vwCl [(h0, .inr (4, [.ref q7, .ref q15, .ref q23, .ref q31, .null, .int 0])), (q7, .inl (g7, 24, .inl (fun _ => 0))), (q15, .inl (g15, 24, .inl (fun _ => 0))), (q23, .inl (g23, 24, .inl (fun _ => 0))), (q31, .inl (g31, 24, .inl (fun _ => 0))), (q40, .inl (g40, 144, .inl (fun _ => 0)))] H := hP
  have hD : va_D A [(h0, .inr (4, [.ref q7, .ref q15, .ref q23, .ref q31, .null, .int 0])), (q7, .inl (g7, 24, .inl (fun _ => 0))), (q15, .inl (g15, 24, .inl (fun _ => 0))), (q23, .inl (g23, 24, .inl (fun _ => 0))), (q31, .inl (g31, 24, .inl (fun _ => 0))), (q40, .inl (g40, 144, .inl (fun _ => 0)))] := hD
  have hK : va_K D vwCl [(g7, .int), (g15, .int), (g23, .int), (g31, .int), (g40, .int)] s := hK
  refine W.widen (k := 5) (n := 240) (Nat.le_of_ble_eq_true rfl) (Nat.le_of_ble_eq_true rfl) ?_
  refine va_putF (ci := 4) (v := .ref q40) (C := RX4) (T := TX4) (N := 6) hx hb hts inW4 tyX4 tyX4_ok nmX4 hown hK hP hD hS 0 rfl rfl 4 (by decide) (hts _ wl72) (fun _ h => h) rfl hin rfl (tyX4_ok 4 (by decide)) rfl rfl (Nat.le_of_ble_eq_true rfl) dX4_init_42 (fun H locs hP hD hS => ?_)
  have hP : va_P D vwCl [(h0, .inr (4, [.ref q7, .ref q15, .ref q23, .ref q31, .ref q40, .int 0])), (q7, .inl (g7, 24, .inl (fun _ => 0))), (q15, .inl (g15, 24, .inl (fun _ => 0))), (q23, .inl (g23, 24, .inl (fun _ => 0))), (q31, .inl (g31, 24, .inl (fun _ => 0))), (q40, .inl (g40, 144, .inl (fun _ => 0)))] H := hP
  have hD : va_D A [(h0, .inr (4, [.ref q7, .ref q15, .ref q23, .ref q31, .ref q40, .int 0])), (q7, .inl (g7, 24, .inl (fun _ => 0))), (q15, .inl (g15, 24, .inl (fun _ => 0))), (q23, .inl (g23, 24, .inl (fun _ => 0))), (q31, .inl (g31, 24, .inl (fun _ => 0))), (q40, .inl (g40, 144, .inl (fun _ => 0)))] := hD
  refine lv_aload_n hx hb dX4_init_45 rfl (lv_at hl 0 rfl) ?_
  refine lv_iconst hx hb dX4_init_46 ic_0 ?_
  refine va_put (ci := 4) (v := .int 0) (C := RX4) (T := TX4) (N := 6) hx hb hts inW4 tyX4 tyX4_ok nmX4 hown hK hP hD hS 0 rfl rfl 5 (by decide) (hts _ wl75) (fun _ h => h) rfl (tyX4_ok 5 (by decide)) rfl rfl (Nat.le_of_ble_eq_true rfl) dX4_init_47 (fun H locs hP hD hS => ?_)
  have hP : va_P D vwCl [(h0, .inr (4, [.ref q7, .ref q15, .ref q23, .ref q31, .ref q40, .int 0])), (q7, .inl (g7, 24, .inl (fun _ => 0))), (q15, .inl (g15, 24, .inl (fun _ => 0))), (q23, .inl (g23, 24, .inl (fun _ => 0))), (q31, .inl (g31, 24, .inl (fun _ => 0))), (q40, .inl (g40, 144, .inl (fun _ => 0)))] H := hP
  have hD : va_D A [(h0, .inr (4, [.ref q7, .ref q15, .ref q23, .ref q31, .ref q40, .int 0])), (q7, .inl (g7, 24, .inl (fun _ => 0))), (q15, .inl (g15, 24, .inl (fun _ => 0))), (q23, .inl (g23, 24, .inl (fun _ => 0))), (q31, .inl (g31, 24, .inl (fun _ => 0))), (q40, .inl (g40, 144, .inl (fun _ => 0)))] := hD
  have loop : ∀ (n j : Nat), j + n = 12 → ∀ (f : Nat → Int32) (H : Heap) (locs : List Loc) (ls : Array Slot), (∀ k, k < 144 → f k = if k % 13 = 0 ∧ k < 13 * j then 0 else 1000000) → va_P D vwCl [(h0, .inr (4, [.ref q7, .ref q15, .ref q23, .ref q31, .ref q40, .int 0])), (q7, .inl (g7, 24, .inl (fun _ => 0))), (q15, .inl (g15, 24, .inl (fun _ => 0))), (q23, .inl (g23, 24, .inl (fun _ => 0))), (q31, .inl (g31, 24, .inl (fun _ => 0))), (q40, .inl (g40, 144, .inl f))] H → va_K D vwCl [(g7, .int), (g15, .int), (g23, .int), (g31, .int), (g40, .int)] s → va_D A [(h0, .inr (4, [.ref q7, .ref q15, .ref q23, .ref q31, .ref q40, .int 0])), (q7, .inl (g7, 24, .inl (fun _ => 0))), (q15, .inl (g15, 24, .inl (fun _ => 0))), (q23, .inl (g23, 24, .inl (fun _ => 0))), (q31, .inl (g31, 24, .inl (fun _ => 0))), (q40, .inl (g40, 144, .inl f))] → va_S A s.heap H locs → lv_has ls 2 [(1, .int (nI j)), (0, .ref h0)] → W p l e (RC 2 5 240) s m #[.ref h0] below meth c H locs 5 240 (MQ below (va_Qv (fun _ : Unit => True) (fun _ t => ∃ (q7 : Nat) (q15 : Nat) (q23 : Nat) (q31 : Nat) (q40 : Nat) (g7 : ClassId) (g15 : ClassId) (g23 : ClassId) (g31 : ClassId) (g40 : ClassId) (f : Nat → Int32), (∀ u v, u < 12 → v < 12 → f (u * 12 + v) = nI (if u = v then 0 else 1000000)) ∧ va_P D vwCl [(h0, .inr (4, [.ref q7, .ref q15, .ref q23, .ref q31, .ref q40, .int 0])), (q7, .inl (g7, 24, .inl (fun _ => 0))), (q15, .inl (g15, 24, .inl (fun _ => 0))), (q23, .inl (g23, 24, .inl (fun _ => 0))), (q31, .inl (g31, 24, .inl (fun _ => 0))), (q40, .inl (g40, 144, .inl f))] t.heap ∧ va_K D vwCl [(g7, .int), (g15, .int), (g23, .int), (g31, .int), (g40, .int)] t ∧ va_D A [(h0, .inr (4, [.ref q7, .ref q15, .ref q23, .ref q31, .ref q40, .int 0])), (q7, .inl (g7, 24, .inl (fun _ => 0))), (q15, .inl (g15, 24, .inl (fun _ => 0))), (q23, .inl (g23, 24, .inl (fun _ => 0))), (q31, .inl (g31, 24, .inl (fun _ => 0))), (q40, .inl (g40, 144, .inl f))]) A) #[.ref h0] s 5 240 A) (F0 m 61 ls []) := by
    intro n
    induction n with
    | zero =>
      intro j hj f H locs ls hf hP hK hD hS hl
      have hj : j = 12 := by omega
      subst hj
      refine lv_iload_n hx hb dX4_init_61 rfl (lv_at hl 0 rfl) ?_
      refine lv_bipush hx hb dX4_init_62 bp_12 ?_
      refine lv_icmp_ge (tgt := 85) hx hb dX4_init_64 (by decide) (fun c_3 => ?_) (fun c_3 => ?_)
      · refine W.vret hx hb hr (fun t ht hW => ⟨⟨(), rfl, trivial, q7, q15, q23, q31, q40, g7, g15, g23, g31, g40, f, fun u v hu hv => ?_, by rw [ht]; exact hP, va_K.moved hW.alike hK, hD⟩, hS.F ht⟩) hS.2.2 dX4_init_85
        rw [hf _ (by omega)]
        by_cases e : u = v
        · rw [if_pos e, if_pos (by omega)]; rfl
        · rw [if_neg e, if_neg (by omega)]; rfl
      · exact absurd (nI_le (a := 12) (b := 12) (Nat.le_refl 12) (by decide)) c_3
    | succ n ih =>
      intro j hj f H locs ls hf hP hK hD hS hl
      refine lv_iload_n hx hb dX4_init_61 rfl (lv_at hl 0 rfl) ?_
      refine lv_bipush hx hb dX4_init_62 bp_12 ?_
      refine lv_icmp_ge (tgt := 85) hx hb dX4_init_64 (by decide) (fun c_3 => ?_) (fun c_3 => ?_)
      · exact absurd c_3 (nI_ge (a := j) (b := 12) (by omega) (by decide))
      · refine lv_aload_n hx hb dX4_init_67 rfl (lv_at hl 1 rfl) ?_
        refine va_get (ci := 4) (C := RX4) (T := TX4) (N := 6) hx hb hts inW4 hown hK hP 0 rfl rfl 4 (by decide) (hts _ wl72) (fun _ h => h) rfl dX4_init_68 ?_
        refine lv_iload_n hx hb dX4_init_71 rfl (lv_at hl 0 rfl) ?_
        refine lv_bipush hx hb dX4_init_72 bp_12 ?_
        refine lv_imul hx hb dX4_init_74 ?_
        refine lv_iload_n hx hb dX4_init_75 rfl (lv_at hl 0 rfl) ?_
        refine lv_iadd hx hb dX4_init_76 ?_
        refine lv_topi (fun ix eix => ?_)
        have eix : ix = nI (13 * j) := by rw [eix, l12, mulN, nI_add]; congr 1; omega
        subst eix
        refine lv_iconst hx hb dX4_init_77 ic_0 ?_
        refine va_iast hx hb hK hP hD hS 5 4 rfl rfl (vp_in_nI (show 13 * j < 144 by omega) (by omega)) dX4_init_78 (fun H locs hP hD hS => ?_)
        rw [nI_clamp (by omega)] at hP hD
        obtain ⟨x2, ex2⟩ : ∃ y : Int32, y = nI j + 1 := ⟨_, rfl⟩
        refine lv_iinc (v := x2) (lv' := [(1, .int x2), (0, .ref h0)]) hx hb dX4_init_79 hl (k := 0) rfl (by rw [ex2]; rfl) (by decide) rfl (fun ls hl => ?_)
        refine lv_goto (tgt := 61) hx hb dX4_init_82 (by decide) ?_
        rw [ex2, nI_1] at hl
        refine ih (j + 1) (by omega) (upd f (13 * j) 0) H locs ls (fun k hk => ?_) hP hK hD hS hl
        by_cases e : k = 13 * j
        · rw [e, pk_us, if_pos (by omega)]
        · rw [pk_un e, hf k hk]
          by_cases e2 : k % 13 = 0 ∧ k < 13 * j
          · rw [if_pos e2, if_pos (by omega)]
          · rw [if_neg e2, if_neg (by omega)]
  refine lv_aload_n hx hb dX4_init_50 rfl (lv_at hl 0 rfl) ?_
  refine va_get (ci := 4) (C := RX4) (T := TX4) (N := 6) hx hb hts inW4 hown hK hP 0 rfl rfl 4 (by decide) (hts _ wl72) (fun _ h => h) rfl dX4_init_51 ?_
  refine lv_ldc hx hb hown (hts _ wl62) dX4_init_54 ?_
  have hPc := hP.sub (ws' := [(q40, .inl (g40, 144, .inl (fun _ => 0)))]) [5] rfl
  have hDc := hD.sub (ws' := [(q40, .inl (g40, 144, .inl (fun _ => 0)))]) [5] (by decide) rfl
  have hKc := hK.sub (tys' := [(g40, .int)]) [4] rfl
  have hFc := va_free (wc := [(q40, .inl (g40, 144, .inl (fun _ => 0)))]) hD hS hA [5] rfl
  refine va_callv (va_runS (As := [.ref q40, .int 1000000]) (rest := []) ⟨hx, hb, hml, hown, hts⟩ (ci_fill l D g40 q40 H.size (fun _ => 0) 1000000) ⟨ci_of 2 hts wl65 wl37 wl63 (by decide +kernel) ⟨Nat.le_of_ble_eq_true rfl, Nat.le_of_ble_eq_true rfl⟩, hts _ wl64⟩ ⟨PF_blind, fun U hU hW => ⟨rfl, by rw [hU], by rw [hU]; exact hPc, va_K.moved hW.alike hKc, hDc.weaken (fun _ _ _ _ => trivial)⟩⟩ rfl rfl hl.1 rfl (lv_room (Nat.le_of_ble_eq_true rfl)) dX4_init_56 ⟨Nat.le_of_ble_eq_true rfl, Nat.le_of_ble_eq_true rfl⟩) hS (fun q _ h => hFc q h) hFc (fun f t H1 locs ht hvm hw hB hz1 hk1 hS => ?_)
  obtain ⟨hP1, hK1, hD1⟩ := hB
  rw [ht] at hP1
  have hK1 := va_K.moved hvm.symm hK1
  obtain ⟨hP, hD⟩ := va_join (wr := [(h0, .inr (4, [.ref q7, .ref q15, .ref q23, .ref q31, .ref q40, .int 0])), (q7, .inl (g7, 24, .inl (fun _ => 0))), (q15, .inl (g15, 24, .inl (fun _ => 0))), (q23, .inl (g23, 24, .inl (fun _ => 0))), (q31, .inl (g31, 24, .inl (fun _ => 0)))]) (w1 := [(q40, .inl (g40, 144, .inl f))]) hP hD [5] [0, 1, 2, 3, 4] rfl rfl (by decide) (by decide) hk1 hFc hP1 hD1
  have hK := (hK.sub (tys' := [(g7, .int), (g15, .int), (g23, .int), (g31, .int)]) [0, 1, 2, 3] rfl).app hK1
  generalize H1 = H at hP hS ⊢
  have hP : va_P D vwCl [(h0, .inr (4, [.ref q7, .ref q15, .ref q23, .ref q31, .ref q40, .int 0])), (q7, .inl (g7, 24, .inl (fun _ => 0))), (q15, .inl (g15, 24, .inl (fun _ => 0))), (q23, .inl (g23, 24, .inl (fun _ => 0))), (q31, .inl (g31, 24, .inl (fun _ => 0))), (q40, .inl (g40, 144, .inl f))] H := hP
  have hD : va_D A [(h0, .inr (4, [.ref q7, .ref q15, .ref q23, .ref q31, .ref q40, .int 0])), (q7, .inl (g7, 24, .inl (fun _ => 0))), (q15, .inl (g15, 24, .inl (fun _ => 0))), (q23, .inl (g23, 24, .inl (fun _ => 0))), (q31, .inl (g31, 24, .inl (fun _ => 0))), (q40, .inl (g40, 144, .inl f))] := hD
  have hK : va_K D vwCl [(g7, .int), (g15, .int), (g23, .int), (g31, .int), (g40, .int)] s := hK
  refine W.widen (k := 5) (n := 240) (Nat.le_of_ble_eq_true rfl) (Nat.le_of_ble_eq_true rfl) ?_
  refine lv_iconst hx hb dX4_init_59 ic_0 ?_
  refine lv_istore_n (lv' := [(1, .int (nI 0)), (0, .ref h0)]) hx hb dX4_init_60 rfl hl (by decide) rfl (fun ls hl => ?_)
  exact loop 12 0 rfl f _ _ ls (fun k hk => by rw [hw k hk, if_neg (by omega)]) hP hK hD hS hl

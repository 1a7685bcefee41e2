/-! X8_in -/
def k8_in (F : Nat) (S : SM) (x0 : Int32) (x1 : Int32) (x2 : Int32) : Option Int32 :=
  if x0 < x1 then (some ((0 : Int32))) else (if x2 < x0 then (some ((0 : Int32))) else (some ((1 : Int32))))
set_option maxRecDepth 100000 in
set_option maxHeartbeats 4000000 in
theorem mk8_in {l : Launch} {D : va_G} {a : Nat → Nat} {g : Nat → ClassId} (hD : ∀ S, va_D (AM a) (wM a g S)) {F : Nat} {S : SM} {x0 x1 x2 : Int32} {out : Int32} (hf : k8_in F S x0 x1 x2 = some out) : Met l yX8_in (wsm yX8_in cX8_in 3 (some .boolean)) (RM 1) (PM D a g S [.int x0, .int x1, .int x2]) (QM D a g (some (.int out)) S) 0 0 (AM a) := by
  refine Met.ofW (cc := cX8_in) (maxL := 3) (ret := (some .boolean)) (by decide) rfl ?_
  intro p e s m args below meth c s₁ B hml hv
  obtain ⟨rfl, hP, hK, hN⟩ := hv
  have hts := atoms_spec (ws := wsm yX8_in cX8_in 3 (some .boolean)) B.pre
  have E : EM p s m _ meth c D a g cX8_in 3 RX8 (some .boolean) := ⟨B.exec, B.bytes, B.returns, hml, findClass_of_methodNamed B.named, fun w h => hts w (List.mem_cons_of_mem _ h), hK, hN, hD, B.notSynchronized⟩
  have hx := E.hx
  have hb := E.hb
  have hw : WM D a g S s s.heap [] := ⟨hP, va_S.rf⟩
  have hl := lv_entry ([.int x0, .int x1, .int x2]) (n := 3) (Nat.le_of_ble_eq_true rfl)
  rw [lg_entry_eq]
  generalize (lg_sl ([.int x0, .int x1, .int x2]) ++ List.replicate (3 - (lg_sl ([.int x0, .int x1, .int x2])).length) Slot.unset).toArray = ls at hl ⊢
  have hl : lv_has ls 3 [(0, .int (x0)), (1, .int (x1)), (2, .int (x2))] := hl
  show W p l e (RM 1) s m _ below meth c s.heap [] 0 0 (MQ below (QM D a g (some (.int out)) S) _ s 0 0 (AM a)) (F0 m 0 ls [])
  unfold k8_in at hf
  refine lv_iload_n hx hb dX8_in_0 rfl (lv_at hl 0 rfl) ?_
  refine lv_iload_n hx hb dX8_in_1 rfl (lv_at hl 1 rfl) ?_
  refine lv_icmp_lt (tgt := 14) hx hb dX8_in_2 (by decide) (fun c_1 => ?_) (fun c_1 => ?_)
  · replace hf := ite_t hf c_1
    refine lv_iconst hx hb dX8_in_14 ic_0 ?_
    cases hf
    exact retM_z E hw nb0 dX8_in_15
  · replace hf := ite_f hf c_1
    refine lv_iload_n hx hb dX8_in_5 rfl (lv_at hl 0 rfl) ?_
    refine lv_iload_n hx hb dX8_in_6 rfl (lv_at hl 2 rfl) ?_
    refine lv_icmp_gt (tgt := 14) hx hb dX8_in_7 (by decide) (fun c_2 => ?_) (fun c_2 => ?_)
    · replace hf := ite_t hf c_2
      refine lv_iconst hx hb dX8_in_14 ic_0 ?_
      cases hf
      exact retM_z E hw nb0 dX8_in_15
    · replace hf := ite_f hf c_2
      refine lv_iconst hx hb dX8_in_10 ic_1 ?_
      refine lv_goto (tgt := 15) hx hb dX8_in_11 (by decide) ?_
      cases hf
      exact retM_z E hw nb1 dX8_in_15
theorem qk8_in {p : Program} {l : Launch} {e : Env} {R : Room} {s : State} {m : MethodId} {args : Array Value} {below : List Frame} {meth : Method} {c : Code} {H : Heap} {locs : List Loc} {cells slots : Nat} {Q : State → Prop} {cc : ByteArray} {pc : Nat} {ls : Array Slot} {rest : List Value} {D : va_G} {a : Nat → Nat} {g : Nat → ClassId} {nL : Nat} {own : String} {ret : Option FieldType} {S S1 : SM} {k : Nat} {x0 x1 x2 : Int32} {r : Int32} (E : EM p s m args meth c D a g cc nL own ret) (hw : WM D a g S s H locs) (hM : Met l yX8_in (wsm yX8_in cX8_in 3 (some .boolean)) (RM k) (PM D a g S [.int x0, .int x1, .int x2]) (QM D a g (some (.int r)) S1) 0 0 (AM a)) {idx : Nat} (hlk : Cond.methodLink own idx yX8_in ∈ wd) (hdg : decode cc pc = .ok (.invokestatic idx, 3)) (hR : k + 1 ≤ R.frames ∧ 8 + (3 + 11) + 64 * k ≤ R.locals) (hls : ls.size = nL) (hrest : (rest.map fun v => v.category).sum ≤ 8) (hcs : cells ≤ R.cells ∧ slots ≤ R.slots) (kk : ∀ (H1 : Heap) (locs1 : List Loc), WM D a g S1 s H1 locs1 → W p l e R s m args below meth c H1 locs1 cells slots Q (F0 m (pc + 3) ls (.int r :: rest))) : W p l e R s m args below meth c H locs cells slots Q (F0 m pc ls (.int x2 :: .int x1 :: .int x0 :: rest)) :=
  callM_i hw (va_runS (As := [.int x0, .int x1, .int x2]) (rest := rest) ⟨E.hx, E.hb, E.hml, E.hown, E.hts⟩ hM ⟨cb_of 3 E.hts wl745 wl44 hlk (by decide +kernel) hR, E.hts _ wl744⟩ ⟨PM_blind, PM_pre E.hK E.hN hw.1⟩ rfl rfl hls rfl (lv_room hrest) hdg hcs) kk
/-! X8_isJunction -/
def k8_isJunction (F : Nat) (S : SM) (x0 : Int32) : Option Int32 :=
  (k8_in F S (x0) ((0 : Int32)) ((11 : Int32))).bind fun r_2 => (ckB r_2).bind fun _ => some (r_2)
set_option maxRecDepth 100000 in
set_option maxHeartbeats 4000000 in
theorem mk8_isJunction {l : Launch} {D : va_G} {a : Nat → Nat} {g : Nat → ClassId} (hD : ∀ S, va_D (AM a) (wM a g S)) {F : Nat} {S : SM} {x0 : Int32} {out : Int32} (hf : k8_isJunction F S x0 = some out) : Met l yX8_isJunction (wsm yX8_isJunction cX8_isJunction 1 (some .boolean)) (RM 2) (PM D a g S [.int x0]) (QM D a g (some (.int out)) S) 0 0 (AM a) := by
  refine Met.ofW (cc := cX8_isJunction) (maxL := 1) (ret := (some .boolean)) (by decide) rfl ?_
  intro p e s m args below meth c s₁ B hml hv
  obtain ⟨rfl, hP, hK, hN⟩ := hv
  have hts := atoms_spec (ws := wsm yX8_isJunction cX8_isJunction 1 (some .boolean)) B.pre
  have E : EM p s m _ meth c D a g cX8_isJunction 1 RX8 (some .boolean) := ⟨B.exec, B.bytes, B.returns, hml, findClass_of_methodNamed B.named, fun w h => hts w (List.mem_cons_of_mem _ h), hK, hN, hD, B.notSynchronized⟩
  have hx := E.hx
  have hb := E.hb
  have hw : WM D a g S s s.heap [] := ⟨hP, va_S.rf⟩
  have hl := lv_entry ([.int x0]) (n := 1) (Nat.le_of_ble_eq_true rfl)
  rw [lg_entry_eq]
  generalize (lg_sl ([.int x0]) ++ List.replicate (1 - (lg_sl ([.int x0])).length) Slot.unset).toArray = ls at hl ⊢
  have hl : lv_has ls 1 [(0, .int (x0))] := hl
  show W p l e (RM 2) s m _ below meth c s.heap [] 0 0 (MQ below (QM D a g (some (.int out)) S) _ s 0 0 (AM a)) (F0 m 0 ls [])
  unfold k8_isJunction at hf
  refine lv_iload_n hx hb dX8_isJunction_0 rfl (lv_at hl 0 rfl) ?_
  refine lv_iconst hx hb dX8_isJunction_1 ic_0 ?_
  refine lv_bipush hx hb dX8_isJunction_2 bp_11 ?_
  obtain ⟨r_2, h_1, hf⟩ := ob_at hf
  refine qk8_in E hw (mk8_in E.hD h_1) wl743 dX8_isJunction_4 ⟨Nat.le_of_ble_eq_true rfl, Nat.le_of_ble_eq_true rfl⟩ hl.1 (Nat.le_of_ble_eq_true rfl) ⟨Nat.le_refl 0, Nat.le_refl 0⟩ (fun H locs hw => ?_)
  obtain ⟨h_4, hf⟩ := ckB_at hf
  cases hf
  exact retM_z E hw h_4 dX8_isJunction_7
theorem qk8_isJunction {p : Program} {l : Launch} {e : Env} {R : Room} {s : State} {m : MethodId} {args : Array Value} {below : List Frame} {meth : Method} {c : Code} {H : Heap} {locs : List Loc} {cells slots : Nat} {Q : State → Prop} {cc : ByteArray} {pc : Nat} {ls : Array Slot} {rest : List Value} {D : va_G} {a : Nat → Nat} {g : Nat → ClassId} {nL : Nat} {own : String} {ret : Option FieldType} {S S1 : SM} {k : Nat} {x0 : Int32} {r : Int32} (E : EM p s m args meth c D a g cc nL own ret) (hw : WM D a g S s H locs) (hM : Met l yX8_isJunction (wsm yX8_isJunction cX8_isJunction 1 (some .boolean)) (RM k) (PM D a g S [.int x0]) (QM D a g (some (.int r)) S1) 0 0 (AM a)) {idx : Nat} (hlk : Cond.methodLink own idx yX8_isJunction ∈ wd) (hdg : decode cc pc = .ok (.invokestatic idx, 3)) (hR : k + 1 ≤ R.frames ∧ 8 + (1 + 11) + 64 * k ≤ R.locals) (hls : ls.size = nL) (hrest : (rest.map fun v => v.category).sum ≤ 8) (hcs : cells ≤ R.cells ∧ slots ≤ R.slots) (kk : ∀ (H1 : Heap) (locs1 : List Loc), WM D a g S1 s H1 locs1 → W p l e R s m args below meth c H1 locs1 cells slots Q (F0 m (pc + 3) ls (.int r :: rest))) : W p l e R s m args below meth c H locs cells slots Q (F0 m pc ls (.int x0 :: rest)) :=
  callM_i hw (va_runS (As := [.int x0]) (rest := rest) ⟨E.hx, E.hb, E.hml, E.hown, E.hts⟩ hM ⟨cb_of 1 E.hts wl742 wl44 hlk (by decide +kernel) hR, E.hts _ wl741⟩ ⟨PM_blind, PM_pre E.hK E.hN hw.1⟩ rfl rfl hls rfl (lv_room hrest) hdg hcs) kk
/-! X8_isCompany -/
def k8_isCompany (F : Nat) (S : SM) (x0 : Int32) : Option Int32 :=
  (k8_in F S (x0) ((0 : Int32)) ((7 : Int32))).bind fun r_2 => (ckB r_2).bind fun _ => some (r_2)
set_option maxRecDepth 100000 in
set_option maxHeartbeats 4000000 in
theorem mk8_isCompany {l : Launch} {D : va_G} {a : Nat → Nat} {g : Nat → ClassId} (hD : ∀ S, va_D (AM a) (wM a g S)) {F : Nat} {S : SM} {x0 : Int32} {out : Int32} (hf : k8_isCompany F S x0 = some out) : Met l yX8_isCompany (wsm yX8_isCompany cX8_isCompany 1 (some .boolean)) (RM 2) (PM D a g S [.int x0]) (QM D a g (some (.int out)) S) 0 0 (AM a) := by
  refine Met.ofW (cc := cX8_isCompany) (maxL := 1) (ret := (some .boolean)) (by decide) rfl ?_
  intro p e s m args below meth c s₁ B hml hv
  obtain ⟨rfl, hP, hK, hN⟩ := hv
  have hts := atoms_spec (ws := wsm yX8_isCompany cX8_isCompany 1 (some .boolean)) B.pre
  have E : EM p s m _ meth c D a g cX8_isCompany 1 RX8 (some .boolean) := ⟨B.exec, B.bytes, B.returns, hml, findClass_of_methodNamed B.named, fun w h => hts w (List.mem_cons_of_mem _ h), hK, hN, hD, B.notSynchronized⟩
  have hx := E.hx
  have hb := E.hb
  have hw : WM D a g S s s.heap [] := ⟨hP, va_S.rf⟩
  have hl := lv_entry ([.int x0]) (n := 1) (Nat.le_of_ble_eq_true rfl)
  rw [lg_entry_eq]
  generalize (lg_sl ([.int x0]) ++ List.replicate (1 - (lg_sl ([.int x0])).length) Slot.unset).toArray = ls at hl ⊢
  have hl : lv_has ls 1 [(0, .int (x0))] := hl
  show W p l e (RM 2) s m _ below meth c s.heap [] 0 0 (MQ below (QM D a g (some (.int out)) S) _ s 0 0 (AM a)) (F0 m 0 ls [])
  unfold k8_isCompany at hf
  refine lv_iload_n hx hb dX8_isCompany_0 rfl (lv_at hl 0 rfl) ?_
  refine lv_iconst hx hb dX8_isCompany_1 ic_0 ?_
  refine lv_bipush hx hb dX8_isCompany_2 bp_7 ?_
  obtain ⟨r_2, h_1, hf⟩ := ob_at hf
  refine qk8_in E hw (mk8_in E.hD h_1) wl743 dX8_isCompany_4 ⟨Nat.le_of_ble_eq_true rfl, Nat.le_of_ble_eq_true rfl⟩ hl.1 (Nat.le_of_ble_eq_true rfl) ⟨Nat.le_refl 0, Nat.le_refl 0⟩ (fun H locs hw => ?_)
  obtain ⟨h_4, hf⟩ := ckB_at hf
  cases hf
  exact retM_z E hw h_4 dX8_isCompany_7
theorem qk8_isCompany {p : Program} {l : Launch} {e : Env} {R : Room} {s : State} {m : MethodId} {args : Array Value} {below : List Frame} {meth : Method} {c : Code} {H : Heap} {locs : List Loc} {cells slots : Nat} {Q : State → Prop} {cc : ByteArray} {pc : Nat} {ls : Array Slot} {rest : List Value} {D : va_G} {a : Nat → Nat} {g : Nat → ClassId} {nL : Nat} {own : String} {ret : Option FieldType} {S S1 : SM} {k : Nat} {x0 : Int32} {r : Int32} (E : EM p s m args meth c D a g cc nL own ret) (hw : WM D a g S s H locs) (hM : Met l yX8_isCompany (wsm yX8_isCompany cX8_isCompany 1 (some .boolean)) (RM k) (PM D a g S [.int x0]) (QM D a g (some (.int r)) S1) 0 0 (AM a)) {idx : Nat} (hlk : Cond.methodLink own idx yX8_isCompany ∈ wd) (hdg : decode cc pc = .ok (.invokestatic idx, 3)) (hR : k + 1 ≤ R.frames ∧ 8 + (1 + 11) + 64 * k ≤ R.locals) (hls : ls.size = nL) (hrest : (rest.map fun v => v.category).sum ≤ 8) (hcs : cells ≤ R.cells ∧ slots ≤ R.slots) (kk : ∀ (H1 : Heap) (locs1 : List Loc), WM D a g S1 s H1 locs1 → W p l e R s m args below meth c H1 locs1 cells slots Q (F0 m (pc + 3) ls (.int r :: rest))) : W p l e R s m args below meth c H locs cells slots Q (F0 m pc ls (.int x0 :: rest)) :=
  callM_i hw (va_runS (As := [.int x0]) (rest := rest) ⟨E.hx, E.hb, E.hml, E.hown, E.hts⟩ hM ⟨cb_of 1 E.hts wl748 wl44 hlk (by decide +kernel) hR, E.hts _ wl747⟩ ⟨PM_blind, PM_pre E.hK E.hN hw.1⟩ rfl rfl hls rfl (lv_room hrest) hdg hcs) kk
/-! X8_line -/
def k8_line (F : Nat) (S : SM) (x1 : Int32) (x2 : Int32) (x3 : Int32) (x4 : Int32) : Option (Int32 × SM) :=
  (k8_isJunction F S (x1)).bind fun r_2 => if r_2 = 0 then (some ((-1 : Int32), S)) else ((k8_isJunction F S (x2)).bind fun r_6 => if r_6 = 0 then (some ((-1 : Int32), S)) else (if x1 = x2 then (some ((-1 : Int32), S)) else ((k8_isCompany F S (x3)).bind fun r_11 => if r_11 = 0 then (some ((-1 : Int32), S)) else ((k8_in F S (x4) ((1 : Int32)) ((200 : Int32))).bind fun r_15 => if r_15 = 0 then (some ((-1 : Int32), S)) else (if (S.1 0 0) = ((24 : Int32)) then (some ((-1 : Int32), S)) else ((ckA 24 (S.1 0 0)).bind fun _ => bnd (stM S 1 (Int32.toNatClampNeg (S.1 0 0)) x1) fun S_19 => (ckA 24 (S_19.1 0 0)).bind fun _ => bnd (stM S_19 2 (Int32.toNatClampNeg (S_19.1 0 0)) x2) fun S_20 => (ckA 24 (S_20.1 0 0)).bind fun _ => bnd (stM S_20 3 (Int32.toNatClampNeg (S_20.1 0 0)) x3) fun S_21 => (ckA 24 (S_21.1 0 0)).bind fun _ => bnd (stM S_21 4 (Int32.toNatClampNeg (S_21.1 0 0)) x4) fun S_22 => bnd (stM S_22 0 0 ((S_22.1 0 0) + ((1 : Int32)))) fun S_23 => (k8_reckons F S_23 ).bind fun S_26 => some ((S_26.1 0 0) - ((1 : Int32)), S_26)))))))
set_option maxRecDepth 100000 in
set_option maxHeartbeats 4000000 in
theorem mk8_line {l : Launch} {D : va_G} {a : Nat → Nat} {g : Nat → ClassId} (hD : ∀ S, va_D (AM a) (wM a g S)) {F : Nat} {S : SM} {x1 x2 x3 x4 : Int32} {out : (Int32 × SM)} (hf : k8_line F S x1 x2 x3 x4 = some out) : Met l yX8_line (wsm yX8_line cX8_line 5 (some .int)) (RM 3) (PM D a g S [.ref (a 0), .int x1, .int x2, .int x3, .int x4]) (QM D a g (some (.int out.1)) out.2) 0 0 (AM a) := by
  refine Met.ofW (cc := cX8_line) (maxL := 5) (ret := (some .int)) (by decide) rfl ?_
  intro p e s m args below meth c s₁ B hml hv
  obtain ⟨rfl, hP, hK, hN⟩ := hv
  have hts := atoms_spec (ws := wsm yX8_line cX8_line 5 (some .int)) B.pre
  have E : EM p s m _ meth c D a g cX8_line 5 RX8 (some .int) := ⟨B.exec, B.bytes, B.returns, hml, findClass_of_methodNamed B.named, fun w h => hts w (List.mem_cons_of_mem _ h), hK, hN, hD, B.notSynchronized⟩
  have hx := E.hx
  have hb := E.hb
  have hw : WM D a g S s s.heap [] := ⟨hP, va_S.rf⟩
  have hl := lv_entry ([.ref (a 0), .int x1, .int x2, .int x3, .int x4]) (n := 5) (Nat.le_of_ble_eq_true rfl)
  rw [lg_entry_eq]
  generalize (lg_sl ([.ref (a 0), .int x1, .int x2, .int x3, .int x4]) ++ List.replicate (5 - (lg_sl ([.ref (a 0), .int x1, .int x2, .int x3, .int x4])).length) Slot.unset).toArray = ls at hl ⊢
  have hl : lv_has ls 5 [(0, .ref (a 0)), (1, .int (x1)), (2, .int (x2)), (3, .int (x3)), (4, .int (x4))] := hl
  show W p l e (RM 3) s m _ below meth c s.heap [] 0 0 (MQ below (QM D a g (some (.int out.1)) out.2) _ s 0 0 (AM a)) (F0 m 0 ls [])
  unfold k8_line at hf
  refine lv_iload_n hx hb dX8_line_0 rfl (lv_at hl 1 rfl) ?_
  obtain ⟨r_2, h_1, hf⟩ := ob_at hf
  refine qk8_isJunction E hw (mk8_isJunction E.hD h_1) wl740 dX8_line_1 ⟨Nat.le_of_ble_eq_true rfl, Nat.le_of_ble_eq_true rfl⟩ hl.1 (Nat.le_of_ble_eq_true rfl) ⟨Nat.le_refl 0, Nat.le_refl 0⟩ (fun H locs hw => ?_)
  refine lv_if_eq (tgt := 47) hx hb dX8_line_4 (by decide) (fun c_4 => ?_) (fun c_4 => ?_)
  · replace hf := ite_t hf c_4
    refine lv_iconst hx hb dX8_line_47 ic_m1 ?_
    cases hf
    exact retM_i E hw dX8_line_48
  · replace hf := ite_f hf c_4
    refine lv_iload_n hx hb dX8_line_7 rfl (lv_at hl 2 rfl) ?_
    obtain ⟨r_6, h_5, hf⟩ := ob_at hf
    refine qk8_isJunction E hw (mk8_isJunction E.hD h_5) wl740 dX8_line_8 ⟨Nat.le_of_ble_eq_true rfl, Nat.le_of_ble_eq_true rfl⟩ hl.1 (Nat.le_of_ble_eq_true rfl) ⟨Nat.le_refl 0, Nat.le_refl 0⟩ (fun H locs hw => ?_)
    refine lv_if_eq (tgt := 47) hx hb dX8_line_11 (by decide) (fun c_8 => ?_) (fun c_8 => ?_)
    · replace hf := ite_t hf c_8
      refine lv_iconst hx hb dX8_line_47 ic_m1 ?_
      cases hf
      exact retM_i E hw dX8_line_48
    · replace hf := ite_f hf c_8
      refine lv_iload_n hx hb dX8_line_14 rfl (lv_at hl 1 rfl) ?_
      refine lv_iload_n hx hb dX8_line_15 rfl (lv_at hl 2 rfl) ?_
      refine lv_icmp_eq (tgt := 47) hx hb dX8_line_16 (by decide) (fun c_9 => ?_) (fun c_9 => ?_)
      · replace hf := ite_t hf c_9
        refine lv_iconst hx hb dX8_line_47 ic_m1 ?_
        cases hf
        exact retM_i E hw dX8_line_48
      · replace hf := ite_f hf c_9
        refine lv_iload_n hx hb dX8_line_19 rfl (lv_at hl 3 rfl) ?_
        obtain ⟨r_11, h_10, hf⟩ := ob_at hf
        refine qk8_isCompany E hw (mk8_isCompany E.hD h_10) wl746 dX8_line_20 ⟨Nat.le_of_ble_eq_true rfl, Nat.le_of_ble_eq_true rfl⟩ hl.1 (Nat.le_of_ble_eq_true rfl) ⟨Nat.le_refl 0, Nat.le_refl 0⟩ (fun H locs hw => ?_)
        refine lv_if_eq (tgt := 47) hx hb dX8_line_23 (by decide) (fun c_13 => ?_) (fun c_13 => ?_)
        · replace hf := ite_t hf c_13
          refine lv_iconst hx hb dX8_line_47 ic_m1 ?_
          cases hf
          exact retM_i E hw dX8_line_48
        · replace hf := ite_f hf c_13
          refine lv_iload hx hb dX8_line_26 (lv_at hl 4 rfl) ?_
          refine lv_iconst hx hb dX8_line_28 ic_1 ?_
          refine lv_sipush hx hb dX8_line_29 sp_200 ?_
          obtain ⟨r_15, h_14, hf⟩ := ob_at hf
          refine qk8_in E hw (mk8_in E.hD h_14) wl743 dX8_line_32 ⟨Nat.le_of_ble_eq_true rfl, Nat.le_of_ble_eq_true rfl⟩ hl.1 (Nat.le_of_ble_eq_true rfl) ⟨Nat.le_refl 0, Nat.le_refl 0⟩ (fun H locs hw => ?_)
          refine lv_if_eq (tgt := 47) hx hb dX8_line_35 (by decide) (fun c_17 => ?_) (fun c_17 => ?_)
          · replace hf := ite_t hf c_17
            refine lv_iconst hx hb dX8_line_47 ic_m1 ?_
            cases hf
            exact retM_i E hw dX8_line_48
          · replace hf := ite_f hf c_17
            refine lv_aload_n hx hb dX8_line_38 rfl (lv_at hl 0 rfl) ?_
            refine gM_0_0 E hw (E.hts _ wl641) dX8_line_39 ?_
            refine lv_bipush hx hb dX8_line_42 bp_24 ?_
            refine lv_icmp_ne (tgt := 49) hx hb dX8_line_44 (by decide) (fun c_18 => ?_) (fun c_18 => ?_)
            · replace hf := ite_f hf c_18
              refine lv_aload_n hx hb dX8_line_49 rfl (lv_at hl 0 rfl) ?_
              refine gM_0_1 E hw (E.hts _ wl642) dX8_line_50 ?_
              refine lv_aload_n hx hb dX8_line_53 rfl (lv_at hl 0 rfl) ?_
              refine gM_0_0 E hw (E.hts _ wl641) dX8_line_54 ?_
              refine lv_iload_n hx hb dX8_line_57 rfl (lv_at hl 1 rfl) ?_
              obtain ⟨h_S_19, hf⟩ := ckA_at hf
              refine sM_1 E hw h_S_19 dX8_line_58 (fun S_19 eS_19 H locs hw => ?_)
              replace hf := bnd_at hf eS_19
              refine lv_aload_n hx hb dX8_line_59 rfl (lv_at hl 0 rfl) ?_
              refine gM_0_2 E hw (E.hts _ wl643) dX8_line_60 ?_
              refine lv_aload_n hx hb dX8_line_63 rfl (lv_at hl 0 rfl) ?_
              refine gM_0_0 E hw (E.hts _ wl641) dX8_line_64 ?_
              refine lv_iload_n hx hb dX8_line_67 rfl (lv_at hl 2 rfl) ?_
              obtain ⟨h_S_20, hf⟩ := ckA_at hf
              refine sM_2 E hw h_S_20 dX8_line_68 (fun S_20 eS_20 H locs hw => ?_)
              replace hf := bnd_at hf eS_20
              refine lv_aload_n hx hb dX8_line_69 rfl (lv_at hl 0 rfl) ?_
              refine gM_0_3 E hw (E.hts _ wl644) dX8_line_70 ?_
              refine lv_aload_n hx hb dX8_line_73 rfl (lv_at hl 0 rfl) ?_
              refine gM_0_0 E hw (E.hts _ wl641) dX8_line_74 ?_
              refine lv_iload_n hx hb dX8_line_77 rfl (lv_at hl 3 rfl) ?_
              obtain ⟨h_S_21, hf⟩ := ckA_at hf
              refine sM_3 E hw h_S_21 dX8_line_78 (fun S_21 eS_21 H locs hw => ?_)
              replace hf := bnd_at hf eS_21
              refine lv_aload_n hx hb dX8_line_79 rfl (lv_at hl 0 rfl) ?_
              refine gM_0_4 E hw (E.hts _ wl645) dX8_line_80 ?_
              refine lv_aload_n hx hb dX8_line_83 rfl (lv_at hl 0 rfl) ?_
              refine gM_0_0 E hw (E.hts _ wl641) dX8_line_84 ?_
              refine lv_iload hx hb dX8_line_87 (lv_at hl 4 rfl) ?_
              obtain ⟨h_S_22, hf⟩ := ckA_at hf
              refine sM_4 E hw h_S_22 dX8_line_89 (fun S_22 eS_22 H locs hw => ?_)
              replace hf := bnd_at hf eS_22
              refine lv_aload_n hx hb dX8_line_90 rfl (lv_at hl 0 rfl) ?_
              refine lv_dup hx hb dX8_line_91 rfl ?_
              refine gM_0_0 E hw (E.hts _ wl641) dX8_line_92 ?_
              refine lv_iconst hx hb dX8_line_95 ic_1 ?_
              refine lv_iadd hx hb dX8_line_96 ?_
              refine pM_0_0 E hw (E.hts _ wl641) dX8_line_97 (fun S_23 eS_23 H locs hw => ?_)
              replace hf := bnd_at hf eS_23
              refine lv_aload_n hx hb dX8_line_100 rfl (lv_at hl 0 rfl) ?_
              obtain ⟨S_26, h_24, hf⟩ := ob_at hf
              refine qk8_reckons E hw (mk8_reckons E.hD h_24) wl636 dX8_line_101 ⟨Nat.le_of_ble_eq_true rfl, Nat.le_of_ble_eq_true rfl⟩ hl.1 (Nat.le_of_ble_eq_true rfl) ⟨Nat.le_refl 0, Nat.le_refl 0⟩ (fun H locs hw => ?_)
              refine lv_aload_n hx hb dX8_line_104 rfl (lv_at hl 0 rfl) ?_
              refine gM_0_0 E hw (E.hts _ wl641) dX8_line_105 ?_
              refine lv_iconst hx hb dX8_line_108 ic_1 ?_
              refine lv_isub hx hb dX8_line_109 ?_
              cases hf
              exact retM_i E hw dX8_line_110
            · replace hf := ite_t hf c_18
              refine lv_iconst hx hb dX8_line_47 ic_m1 ?_
              cases hf
              exact retM_i E hw dX8_line_48
theorem qk8_line {p : Program} {l : Launch} {e : Env} {R : Room} {s : State} {m : MethodId} {args : Array Value} {below : List Frame} {meth : Method} {c : Code} {H : Heap} {locs : List Loc} {cells slots : Nat} {Q : State → Prop} {cc : ByteArray} {pc : Nat} {ls : Array Slot} {rest : List Value} {D : va_G} {a : Nat → Nat} {g : Nat → ClassId} {nL : Nat} {own : String} {ret : Option FieldType} {S S1 : SM} {k : Nat} {x1 x2 x3 x4 : Int32} {r : Int32} (E : EM p s m args meth c D a g cc nL own ret) (hw : WM D a g S s H locs) (hM : Met l yX8_line (wsm yX8_line cX8_line 5 (some .int)) (RM k) (PM D a g S [.ref (a 0), .int x1, .int x2, .int x3, .int x4]) (QM D a g (some (.int r)) S1) 0 0 (AM a)) {idx : Nat} (hlk : Cond.methodLink own idx yX8_line ∈ wd) (hdg : decode cc pc = .ok (.invokevirtual idx, 3)) (hR : k + 1 ≤ R.frames ∧ 8 + (5 + 11) + 64 * k ≤ R.locals) (hls : ls.size = nL) (hrest : (rest.map fun v => v.category).sum ≤ 8) (hcs : cells ≤ R.cells ∧ slots ≤ R.slots) (kk : ∀ (H1 : Heap) (locs1 : List Loc), WM D a g S1 s H1 locs1 → W p l e R s m args below meth c H1 locs1 cells slots Q (F0 m (pc + 3) ls (.int r :: rest))) : W p l e R s m args below meth c H locs cells slots Q (F0 m pc ls (.int x4 :: .int x3 :: .int x2 :: .int x1 :: .ref (a 0) :: rest)) :=
  callM_i hw (va_runV (As := [.int x1, .int x2, .int x3, .int x4]) (rest := rest) ⟨E.hx, E.hb, E.hml, E.hown, E.hts⟩ hM ⟨cb_of 4 E.hts wl739 wl44 hlk (by decide +kernel) hR, E.hts _ wl737, E.hts _ wl738⟩ ⟨PM_blind, va_recv E.hK hw.1 (ci := 8) (q0 := 0) rfl rfl, PM_pre E.hK E.hN hw.1⟩ rfl rfl hls rfl (lv_room hrest) hdg hcs) kk
/-! X8_least -/
def k8_least (F : Nat) (S : SM) (x1 : Int32) (x2 : Int32) : Option Int32 :=
  (k8_isJunction F S (x1)).bind fun r_2 => if r_2 = 0 then (some ((-1 : Int32))) else ((k8_isJunction F S (x2)).bind fun r_6 => if r_6 = 0 then (some ((-1 : Int32))) else ((rdA 144 (S.1 5) ((((12 : Int32)) * x1) + x2)).bind fun v_9 => bnd (v_9) fun x3_10 => if x3_10 < ((1000000 : Int32)) then (some (x3_10)) else (some ((-1 : Int32)))))
set_option maxRecDepth 100000 in
set_option maxHeartbeats 4000000 in
theorem mk8_least {l : Launch} {D : va_G} {a : Nat → Nat} {g : Nat → ClassId} (hD : ∀ S, va_D (AM a) (wM a g S)) {F : Nat} {S : SM} {x1 x2 : Int32} {out : Int32} (hf : k8_least F S x1 x2 = some out) : Met l yX8_least (wsm yX8_least cX8_least 4 (some .int)) (RM 3) (PM D a g S [.ref (a 0), .int x1, .int x2]) (QM D a g (some (.int out)) S) 0 0 (AM a) := by
  refine Met.ofW (cc := cX8_least) (maxL := 4) (ret := (some .int)) (by decide) rfl ?_
  intro p e s m args below meth c s₁ B hml hv
  obtain ⟨rfl, hP, hK, hN⟩ := hv
  have hts := atoms_spec (ws := wsm yX8_least cX8_least 4 (some .int)) B.pre
  have E : EM p s m _ meth c D a g cX8_least 4 RX8 (some .int) := ⟨B.exec, B.bytes, B.returns, hml, findClass_of_methodNamed B.named, fun w h => hts w (List.mem_cons_of_mem _ h), hK, hN, hD, B.notSynchronized⟩
  have hx := E.hx
  have hb := E.hb
  have hw : WM D a g S s s.heap [] := ⟨hP, va_S.rf⟩
  have hl := lv_entry ([.ref (a 0), .int x1, .int x2]) (n := 4) (Nat.le_of_ble_eq_true rfl)
  rw [lg_entry_eq]
  generalize (lg_sl ([.ref (a 0), .int x1, .int x2]) ++ List.replicate (4 - (lg_sl ([.ref (a 0), .int x1, .int x2])).length) Slot.unset).toArray = ls at hl ⊢
  have hl : lv_has ls 4 [(0, .ref (a 0)), (1, .int (x1)), (2, .int (x2))] := hl
  show W p l e (RM 3) s m _ below meth c s.heap [] 0 0 (MQ below (QM D a g (some (.int out)) S) _ s 0 0 (AM a)) (F0 m 0 ls [])
  unfold k8_least at hf
  refine lv_iload_n hx hb dX8_least_0 rfl (lv_at hl 1 rfl) ?_
  obtain ⟨r_2, h_1, hf⟩ := ob_at hf
  refine qk8_isJunction E hw (mk8_isJunction E.hD h_1) wl740 dX8_least_1 ⟨Nat.le_of_ble_eq_true rfl, Nat.le_of_ble_eq_true rfl⟩ hl.1 (Nat.le_of_ble_eq_true rfl) ⟨Nat.le_refl 0, Nat.le_refl 0⟩ (fun H locs hw => ?_)
  refine lv_if_eq (tgt := 14) hx hb dX8_least_4 (by decide) (fun c_4 => ?_) (fun c_4 => ?_)
  · replace hf := ite_t hf c_4
    refine lv_iconst hx hb dX8_least_14 ic_m1 ?_
    cases hf
    exact retM_i E hw dX8_least_15
  · replace hf := ite_f hf c_4
    refine lv_iload_n hx hb dX8_least_7 rfl (lv_at hl 2 rfl) ?_
    obtain ⟨r_6, h_5, hf⟩ := ob_at hf
    refine qk8_isJunction E hw (mk8_isJunction E.hD h_5) wl740 dX8_least_8 ⟨Nat.le_of_ble_eq_true rfl, Nat.le_of_ble_eq_true rfl⟩ hl.1 (Nat.le_of_ble_eq_true rfl) ⟨Nat.le_refl 0, Nat.le_refl 0⟩ (fun H locs hw => ?_)
    refine lv_if_ne (tgt := 16) hx hb dX8_least_11 (by decide) (fun c_8 => ?_) (fun c_8 => ?_)
    · replace hf := ite_f hf c_8
      refine lv_aload_n hx hb dX8_least_16 rfl (lv_at hl 0 rfl) ?_
      refine gM_0_5 E hw (E.hts _ wl646) dX8_least_17 ?_
      refine lv_bipush hx hb dX8_least_20 bp_12 ?_
      refine lv_iload_n hx hb dX8_least_22 rfl (lv_at hl 1 rfl) ?_
      refine lv_imul hx hb dX8_least_23 ?_
      refine lv_iload_n hx hb dX8_least_24 rfl (lv_at hl 2 rfl) ?_
      refine lv_iadd hx hb dX8_least_25 ?_
      obtain ⟨h_v_9, hf⟩ := rdA_at hf
      refine lM_5 E hw h_v_9 dX8_least_26 (fun v_9 ev_9 => ?_)
      replace hf := hf v_9 ev_9
      refine lv_topi (fun x3_10 ex3_10 => ?_)
      replace hf := bnd_at hf ex3_10
      refine lv_istore_n (lv' := [(3, .int (x3_10)), (0, .ref (a 0)), (1, .int (x1)), (2, .int (x2))]) hx hb dX8_least_27 rfl hl (by decide) rfl (fun ls hl => ?_)
      refine lv_iload_n hx hb dX8_least_28 rfl (lv_at hl 0 rfl) ?_
      refine lv_ldc hx hb E.hown (E.hts _ wl640) dX8_least_29 ?_
      refine lv_icmp_lt (tgt := 38) hx hb dX8_least_31 (by decide) (fun c_11 => ?_) (fun c_11 => ?_)
      · replace hf := ite_t hf c_11
        refine lv_iload_n hx hb dX8_least_38 rfl (lv_at hl 0 rfl) ?_
        cases hf
        exact retM_i E hw dX8_least_39
      · replace hf := ite_f hf c_11
        refine lv_iconst hx hb dX8_least_34 ic_m1 ?_
        refine lv_goto (tgt := 39) hx hb dX8_least_35 (by decide) ?_
        cases hf
        exact retM_i E hw dX8_least_39
    · replace hf := ite_t hf c_8
      refine lv_iconst hx hb dX8_least_14 ic_m1 ?_
      cases hf
      exact retM_i E hw dX8_least_15
theorem qk8_least {p : Program} {l : Launch} {e : Env} {R : Room} {s : State} {m : MethodId} {args : Array Value} {below : List Frame} {meth : Method} {c : Code} {H : Heap} {locs : List Loc} {cells slots : Nat} {Q : State → Prop} {cc : ByteArray} {pc : Nat} {ls : Array Slot} {rest : List Value} {D : va_G} {a : Nat → Nat} {g : Nat → ClassId} {nL : Nat} {own : String} {ret : Option FieldType} {S S1 : SM} {k : Nat} {x1 x2 : Int32} {r : Int32} (E : EM p s m args meth c D a g cc nL own ret) (hw : WM D a g S s H locs) (hM : Met l yX8_least (wsm yX8_least cX8_least 4 (some .int)) (RM k) (PM D a g S [.ref (a 0), .int x1, .int x2]) (QM D a g (some (.int r)) S1) 0 0 (AM a)) {idx : Nat} (hlk : Cond.methodLink own idx yX8_least ∈ wd) (hdg : decode cc pc = .ok (.invokevirtual idx, 3)) (hR : k + 1 ≤ R.frames ∧ 8 + (4 + 11) + 64 * k ≤ R.locals) (hls : ls.size = nL) (hrest : (rest.map fun v => v.category).sum ≤ 8) (hcs : cells ≤ R.cells ∧ slots ≤ R.slots) (kk : ∀ (H1 : Heap) (locs1 : List Loc), WM D a g S1 s H1 locs1 → W p l e R s m args below meth c H1 locs1 cells slots Q (F0 m (pc + 3) ls (.int r :: rest))) : W p l e R s m args below meth c H locs cells slots Q (F0 m pc ls (.int x2 :: .int x1 :: .ref (a 0) :: rest)) :=
  callM_i hw (va_runV (As := [.int x1, .int x2]) (rest := rest) ⟨E.hx, E.hb, E.hml, E.hown, E.hts⟩ hM ⟨cb_of 2 E.hts wl752 wl44 hlk (by decide +kernel) hR, E.hts _ wl750, E.hts _ wl751⟩ ⟨PM_blind, va_recv E.hK hw.1 (ci := 8) (q0 := 0) rfl rfl, PM_pre E.hK E.hN hw.1⟩ rfl rfl hls rfl (lv_room hrest) hdg hcs) kk
/-! X8_otherEnd -/
def k8_otherEnd (F : Nat) (S : SM) (x1 : Int32) (x2 : Int32) : Option Int32 :=
  (rdA 24 (S.1 1) x1).bind fun v_1 => if v_1 = x2 then ((rdA 24 (S.1 2) x1).bind fun v_6 => some (v_6)) else ((rdA 24 (S.1 2) x1).bind fun v_3 => if v_3 = x2 then ((rdA 24 (S.1 1) x1).bind fun v_5 => some (v_5)) else (some ((-1 : Int32))))
set_option maxRecDepth 100000 in
set_option maxHeartbeats 4000000 in
theorem mk8_otherEnd {l : Launch} {D : va_G} {a : Nat → Nat} {g : Nat → ClassId} (hD : ∀ S, va_D (AM a) (wM a g S)) {F : Nat} {S : SM} {x1 x2 : Int32} {out : Int32} (hf : k8_otherEnd F S x1 x2 = some out) : Met l yX8_otherEnd (wsm yX8_otherEnd cX8_otherEnd 3 (some .int)) (RM 1) (PM D a g S [.ref (a 0), .int x1, .int x2]) (QM D a g (some (.int out)) S) 0 0 (AM a) := by
  refine Met.ofW (cc := cX8_otherEnd) (maxL := 3) (ret := (some .int)) (by decide) rfl ?_
  intro p e s m args below meth c s₁ B hml hv
  obtain ⟨rfl, hP, hK, hN⟩ := hv
  have hts := atoms_spec (ws := wsm yX8_otherEnd cX8_otherEnd 3 (some .int)) B.pre
  have E : EM p s m _ meth c D a g cX8_otherEnd 3 RX8 (some .int) := ⟨B.exec, B.bytes, B.returns, hml, findClass_of_methodNamed B.named, fun w h => hts w (List.mem_cons_of_mem _ h), hK, hN, hD, B.notSynchronized⟩
  have hx := E.hx
  have hb := E.hb
  have hw : WM D a g S s s.heap [] := ⟨hP, va_S.rf⟩
  have hl := lv_entry ([.ref (a 0), .int x1, .int x2]) (n := 3) (Nat.le_of_ble_eq_true rfl)
  rw [lg_entry_eq]
  generalize (lg_sl ([.ref (a 0), .int x1, .int x2]) ++ List.replicate (3 - (lg_sl ([.ref (a 0), .int x1, .int x2])).length) Slot.unset).toArray = ls at hl ⊢
  have hl : lv_has ls 3 [(0, .ref (a 0)), (1, .int (x1)), (2, .int (x2))] := hl
  show W p l e (RM 1) s m _ below meth c s.heap [] 0 0 (MQ below (QM D a g (some (.int out)) S) _ s 0 0 (AM a)) (F0 m 0 ls [])
  unfold k8_otherEnd at hf
  refine lv_aload_n hx hb dX8_otherEnd_0 rfl (lv_at hl 0 rfl) ?_
  refine gM_0_1 E hw (E.hts _ wl642) dX8_otherEnd_1 ?_
  refine lv_iload_n hx hb dX8_otherEnd_4 rfl (lv_at hl 1 rfl) ?_
  obtain ⟨h_v_1, hf⟩ := rdA_at hf
  refine lM_1 E hw h_v_1 dX8_otherEnd_5 (fun v_1 ev_1 => ?_)
  replace hf := hf v_1 ev_1
  refine lv_iload_n hx hb dX8_otherEnd_6 rfl (lv_at hl 2 rfl) ?_
  refine lv_icmp_ne (tgt := 19) hx hb dX8_otherEnd_7 (by decide) (fun c_2 => ?_) (fun c_2 => ?_)
  · replace hf := ite_f hf c_2
    refine lv_aload_n hx hb dX8_otherEnd_19 rfl (lv_at hl 0 rfl) ?_
    refine gM_0_2 E hw (E.hts _ wl643) dX8_otherEnd_20 ?_
    refine lv_iload_n hx hb dX8_otherEnd_23 rfl (lv_at hl 1 rfl) ?_
    obtain ⟨h_v_3, hf⟩ := rdA_at hf
    refine lM_2 E hw h_v_3 dX8_otherEnd_24 (fun v_3 ev_3 => ?_)
    replace hf := hf v_3 ev_3
    refine lv_iload_n hx hb dX8_otherEnd_25 rfl (lv_at hl 2 rfl) ?_
    refine lv_icmp_ne (tgt := 38) hx hb dX8_otherEnd_26 (by decide) (fun c_4 => ?_) (fun c_4 => ?_)
    · replace hf := ite_f hf c_4
      refine lv_iconst hx hb dX8_otherEnd_38 ic_m1 ?_
      cases hf
      exact retM_i E hw dX8_otherEnd_39
    · replace hf := ite_t hf c_4
      refine lv_aload_n hx hb dX8_otherEnd_29 rfl (lv_at hl 0 rfl) ?_
      refine gM_0_1 E hw (E.hts _ wl642) dX8_otherEnd_30 ?_
      refine lv_iload_n hx hb dX8_otherEnd_33 rfl (lv_at hl 1 rfl) ?_
      obtain ⟨h_v_5, hf⟩ := rdA_at hf
      refine lM_1 E hw h_v_5 dX8_otherEnd_34 (fun v_5 ev_5 => ?_)
      replace hf := hf v_5 ev_5
      refine lv_goto (tgt := 39) hx hb dX8_otherEnd_35 (by decide) ?_
      cases hf
      exact retM_i E hw dX8_otherEnd_39
  · replace hf := ite_t hf c_2
    refine lv_aload_n hx hb dX8_otherEnd_10 rfl (lv_at hl 0 rfl) ?_
    refine gM_0_2 E hw (E.hts _ wl643) dX8_otherEnd_11 ?_
    refine lv_iload_n hx hb dX8_otherEnd_14 rfl (lv_at hl 1 rfl) ?_
    obtain ⟨h_v_6, hf⟩ := rdA_at hf
    refine lM_2 E hw h_v_6 dX8_otherEnd_15 (fun v_6 ev_6 => ?_)
    replace hf := hf v_6 ev_6
    refine lv_goto (tgt := 39) hx hb dX8_otherEnd_16 (by decide) ?_
    cases hf
    exact retM_i E hw dX8_otherEnd_39
theorem qk8_otherEnd {p : Program} {l : Launch} {e : Env} {R : Room} {s : State} {m : MethodId} {args : Array Value} {below : List Frame} {meth : Method} {c : Code} {H : Heap} {locs : List Loc} {cells slots : Nat} {Q : State → Prop} {cc : ByteArray} {pc : Nat} {ls : Array Slot} {rest : List Value} {D : va_G} {a : Nat → Nat} {g : Nat → ClassId} {nL : Nat} {own : String} {ret : Option FieldType} {S S1 : SM} {k : Nat} {x1 x2 : Int32} {r : Int32} (E : EM p s m args meth c D a g cc nL own ret) (hw : WM D a g S s H locs) (hM : Met l yX8_otherEnd (wsm yX8_otherEnd cX8_otherEnd 3 (some .int)) (RM k) (PM D a g S [.ref (a 0), .int x1, .int x2]) (QM D a g (some (.int r)) S1) 0 0 (AM a)) {idx : Nat} (hlk : Cond.methodLink own idx yX8_otherEnd ∈ wd) (hdg : decode cc pc = .ok (.invokevirtual idx, 3)) (hR : k + 1 ≤ R.frames ∧ 8 + (3 + 11) + 64 * k ≤ R.locals) (hls : ls.size = nL) (hrest : (rest.map fun v => v.category).sum ≤ 8) (hcs : cells ≤ R.cells ∧ slots ≤ R.slots) (kk : ∀ (H1 : Heap) (locs1 : List Loc), WM D a g S1 s H1 locs1 → W p l e R s m args below meth c H1 locs1 cells slots Q (F0 m (pc + 3) ls (.int r :: rest))) : W p l e R s m args below meth c H locs cells slots Q (F0 m pc ls (.int x2 :: .int x1 :: .ref (a 0) :: rest)) :=
  callM_i hw (va_runV (As := [.int x1, .int x2]) (rest := rest) ⟨E.hx, E.hb, E.hml, E.hown, E.hts⟩ hM ⟨cb_of 2 E.hts wl761 wl44 hlk (by decide +kernel) hR, E.hts _ wl760, E.hts _ wl23⟩ ⟨PM_blind, va_recv E.hK hw.1 (ci := 8) (q0 := 0) rfl rfl, PM_pre E.hK E.hN hw.1⟩ rfl rfl hls rfl (lv_room hrest) hdg hcs) kk
/-! X8_route -/
def k8_route_B22 (F : Nat) (S : SM) (x1 : Int32) (x2 : Int32) (rec22 : Int32 → Int32 → Option Int32) (x3 : Int32) (x4 : Int32) : Option Int32 :=
  if (S.1 0 0) ≤ x4 then (some (x3)) else ((k8_otherEnd F S (x4) (x1)).bind fun r_10 => bnd (r_10) fun x5_12 => if x5_12 = ((-1 : Int32)) then (bnd (x4 + (1)) fun x4_14 => rec22 (x3) (x4_14)) else ((k8_least F S (x5_12) (x2)).bind fun r_16 => if r_16 = ((-1 : Int32)) then (bnd (x4 + (1)) fun x4_19 => rec22 (x3) (x4_19)) else ((rdA 24 (S.1 4) x4).bind fun v_20 => (k8_least F S (x5_12) (x2)).bind fun r_22 => (k8_least F S (x1) (x2)).bind fun r_25 => if (v_20 + r_22) = r_25 then (if x3 = ((-1 : Int32)) then (bnd (x4) fun x3_29 => bnd (x4 + (1)) fun x4_30 => rec22 (x3_29) (x4_30)) else ((k8_otherEnd F S (x3) (x1)).bind fun r_32 => if r_32 ≤ x5_12 then (bnd (x4 + (1)) fun x4_35 => rec22 (x3) (x4_35)) else (bnd (x4) fun x3_36 => bnd (x4 + (1)) fun x4_37 => rec22 (x3_36) (x4_37)))) else (bnd (x4 + (1)) fun x4_38 => rec22 (x3) (x4_38)))))
def k8_route (F : Nat) (S : SM) (x1 : Int32) (x2 : Int32) : Option Int32 :=
  if x1 = x2 then (some ((-1 : Int32))) else ((k8_least F S (x1) (x2)).bind fun r_3 => if r_3 = ((-1 : Int32)) then (some ((-1 : Int32))) else (bnd ((-1 : Int32)) fun x3_6 => bnd ((0 : Int32)) fun x4_7 => lpN (fun _ _ => none) (fun rec22 => k8_route_B22 F S (x1) (x2) rec22 ) F (x3_6) (x4_7)))
set_option maxRecDepth 100000 in
set_option maxHeartbeats 4000000 in
theorem k8_route_b22 {p : Program} {l : Launch} {e : Env} {s : State} {m : MethodId} {args : Array Value} {below : List Frame} {meth : Method} {c : Code} {D : va_G} {a : Nat → Nat} {g : Nat → ClassId} (E : EM p s m args meth c D a g cX8_route 6 RX8 (some .int)) {F : Nat}  (S : SM) (x1 : Int32) (x2 : Int32) {rec22 : Int32 → Int32 → Option Int32} {out : Int32} (hrec22 : ∀ (x3 : Int32) (x4 : Int32) (H : Heap) (locs : List Loc) (ls : Array Slot), rec22 x3 x4 = some out → WM D a g S s H locs → lv_has ls 6 [(0, .ref (a 0)), (1, .int (x1)), (2, .int (x2)), (3, .int (x3)), (4, .int (x4))] → W p l e (RM 4) s m args below meth c H locs 0 0 (MQ below (QM D a g (some (.int out)) S) args s 0 0 (AM a)) (F0 m 22 ls []))  (x3 : Int32) (x4 : Int32) (H : Heap) (locs : List Loc) (ls : Array Slot) (hf : k8_route_B22 F S x1 x2 rec22 x3 x4 = some out) (hw : WM D a g S s H locs) (hl : lv_has ls 6 [(0, .ref (a 0)), (1, .int (x1)), (2, .int (x2)), (3, .int (x3)), (4, .int (x4))]) : W p l e (RM 4) s m args below meth c H locs 0 0 (MQ below (QM D a g (some (.int out)) S) args s 0 0 (AM a)) (F0 m 22 ls []) := by
  have hx := E.hx
  have hb := E.hb
  unfold k8_route_B22 at hf
  refine lv_iload hx hb dX8_route_22 (lv_at hl 4 rfl) ?_
  refine lv_aload_n hx hb dX8_route_24 rfl (lv_at hl 0 rfl) ?_
  refine gM_0_0 E hw (E.hts _ wl641) dX8_route_25 ?_
  refine lv_icmp_ge (tgt := 109) hx hb dX8_route_28 (by decide) (fun c_8 => ?_) (fun c_8 => ?_)
  · replace hf := ite_t hf c_8
    refine lv_iload_n hx hb dX8_route_109 rfl (lv_at hl 3 rfl) ?_
    cases hf
    exact retM_i E hw dX8_route_110
  · replace hf := ite_f hf c_8
    refine lv_aload_n hx hb dX8_route_31 rfl (lv_at hl 0 rfl) ?_
    refine lv_iload hx hb dX8_route_32 (lv_at hl 4 rfl) ?_
    refine lv_iload_n hx hb dX8_route_34 rfl (lv_at hl 1 rfl) ?_
    obtain ⟨r_10, h_9, hf⟩ := ob_at hf
    refine qk8_otherEnd E hw (mk8_otherEnd E.hD h_9) wl758 dX8_route_35 ⟨Nat.le_of_ble_eq_true rfl, Nat.le_of_ble_eq_true rfl⟩ hl.1 (Nat.le_of_ble_eq_true rfl) ⟨Nat.le_refl 0, Nat.le_refl 0⟩ (fun H locs hw => ?_)
    refine lv_topi (fun x5_12 ex5_12 => ?_)
    replace hf := bnd_at hf ex5_12
    refine lv_istore (lv' := [(5, .int (x5_12)), (0, .ref (a 0)), (1, .int (x1)), (2, .int (x2)), (3, .int (x3)), (4, .int (x4))]) hx hb dX8_route_38 hl (by decide) rfl (fun ls hl => ?_)
    refine lv_iload hx hb dX8_route_40 (lv_at hl 0 rfl) ?_
    refine lv_iconst hx hb dX8_route_42 ic_m1 ?_
    refine lv_icmp_eq (tgt := 103) hx hb dX8_route_43 (by decide) (fun c_13 => ?_) (fun c_13 => ?_)
    · replace hf := ite_t hf c_13
      obtain ⟨x4_14, ex4_14⟩ : ∃ y : Int32, y = x4 + (1) := ⟨_, rfl⟩
      replace hf := bnd_at hf ex4_14
      refine lv_iinc (v := x4_14) (lv' := [(4, .int (x4_14)), (5, .int (x5_12)), (0, .ref (a 0)), (1, .int (x1)), (2, .int (x2)), (3, .int (x3))]) hx hb dX8_route_103 hl (k := 5) rfl (by rw [ex4_14]; rfl) (by decide) rfl (fun ls hl => ?_)
      refine lv_goto (tgt := 22) hx hb dX8_route_106 (by decide) ?_
      exact hrec22 (x3) (x4_14) _ _ ls hf hw (lv_sub hl [2, 3, 4, 5, 0] rfl)
    · replace hf := ite_f hf c_13
      refine lv_aload_n hx hb dX8_route_46 rfl (lv_at hl 1 rfl) ?_
      refine lv_iload hx hb dX8_route_47 (lv_at hl 0 rfl) ?_
      refine lv_iload_n hx hb dX8_route_49 rfl (lv_at hl 3 rfl) ?_
      obtain ⟨r_16, h_15, hf⟩ := ob_at hf
      refine qk8_least E hw (mk8_least E.hD h_15) wl757 dX8_route_50 ⟨Nat.le_of_ble_eq_true rfl, Nat.le_of_ble_eq_true rfl⟩ hl.1 (Nat.le_of_ble_eq_true rfl) ⟨Nat.le_refl 0, Nat.le_refl 0⟩ (fun H locs hw => ?_)
      refine lv_iconst hx hb dX8_route_53 ic_m1 ?_
      refine lv_icmp_eq (tgt := 103) hx hb dX8_route_54 (by decide) (fun c_18 => ?_) (fun c_18 => ?_)
      · replace hf := ite_t hf c_18
        obtain ⟨x4_19, ex4_19⟩ : ∃ y : Int32, y = x4 + (1) := ⟨_, rfl⟩
        replace hf := bnd_at hf ex4_19
        refine lv_iinc (v := x4_19) (lv' := [(4, .int (x4_19)), (5, .int (x5_12)), (0, .ref (a 0)), (1, .int (x1)), (2, .int (x2)), (3, .int (x3))]) hx hb dX8_route_103 hl (k := 5) rfl (by rw [ex4_19]; rfl) (by decide) rfl (fun ls hl => ?_)
        refine lv_goto (tgt := 22) hx hb dX8_route_106 (by decide) ?_
        exact hrec22 (x3) (x4_19) _ _ ls hf hw (lv_sub hl [2, 3, 4, 5, 0] rfl)
      · replace hf := ite_f hf c_18
        refine lv_aload_n hx hb dX8_route_57 rfl (lv_at hl 1 rfl) ?_
        refine gM_0_4 E hw (E.hts _ wl645) dX8_route_58 ?_
        refine lv_iload hx hb dX8_route_61 (lv_at hl 5 rfl) ?_
        obtain ⟨h_v_20, hf⟩ := rdA_at hf
        refine lM_4 E hw h_v_20 dX8_route_63 (fun v_20 ev_20 => ?_)
        replace hf := hf v_20 ev_20
        refine lv_aload_n hx hb dX8_route_64 rfl (lv_at hl 1 rfl) ?_
        refine lv_iload hx hb dX8_route_65 (lv_at hl 0 rfl) ?_
        refine lv_iload_n hx hb dX8_route_67 rfl (lv_at hl 3 rfl) ?_
        obtain ⟨r_22, h_21, hf⟩ := ob_at hf
        refine qk8_least E hw (mk8_least E.hD h_21) wl757 dX8_route_68 ⟨Nat.le_of_ble_eq_true rfl, Nat.le_of_ble_eq_true rfl⟩ hl.1 (Nat.le_of_ble_eq_true rfl) ⟨Nat.le_refl 0, Nat.le_refl 0⟩ (fun H locs hw => ?_)
        refine lv_iadd hx hb dX8_route_71 ?_
        refine lv_aload_n hx hb dX8_route_72 rfl (lv_at hl 1 rfl) ?_
        refine lv_iload_n hx hb dX8_route_73 rfl (lv_at hl 2 rfl) ?_
        refine lv_iload_n hx hb dX8_route_74 rfl (lv_at hl 3 rfl) ?_
        obtain ⟨r_25, h_24, hf⟩ := ob_at hf
        refine qk8_least E hw (mk8_least E.hD h_24) wl757 dX8_route_75 ⟨Nat.le_of_ble_eq_true rfl, Nat.le_of_ble_eq_true rfl⟩ hl.1 (Nat.le_of_ble_eq_true rfl) ⟨Nat.le_refl 0, Nat.le_refl 0⟩ (fun H locs hw => ?_)
        refine lv_icmp_eq (tgt := 84) hx hb dX8_route_78 (by decide) (fun c_27 => ?_) (fun c_27 => ?_)
        · replace hf := ite_t hf c_27
          refine lv_iload_n hx hb dX8_route_84 rfl (lv_at hl 4 rfl) ?_
          refine lv_iconst hx hb dX8_route_85 ic_m1 ?_
          refine lv_icmp_eq (tgt := 100) hx hb dX8_route_86 (by decide) (fun c_28 => ?_) (fun c_28 => ?_)
          · replace hf := ite_t hf c_28
            refine lv_iload hx hb dX8_route_100 (lv_at hl 5 rfl) ?_
            refine lv_topi (fun x3_29 ex3_29 => ?_)
            replace hf := bnd_at hf ex3_29
            refine lv_istore_n (lv' := [(3, .int (x3_29)), (5, .int (x5_12)), (0, .ref (a 0)), (1, .int (x1)), (2, .int (x2)), (4, .int (x4))]) hx hb dX8_route_102 rfl hl (by decide) rfl (fun ls hl => ?_)
            obtain ⟨x4_30, ex4_30⟩ : ∃ y : Int32, y = x4 + (1) := ⟨_, rfl⟩
            replace hf := bnd_at hf ex4_30
            refine lv_iinc (v := x4_30) (lv' := [(4, .int (x4_30)), (3, .int (x3_29)), (5, .int (x5_12)), (0, .ref (a 0)), (1, .int (x1)), (2, .int (x2))]) hx hb dX8_route_103 hl (k := 5) rfl (by rw [ex4_30]; rfl) (by decide) rfl (fun ls hl => ?_)
            refine lv_goto (tgt := 22) hx hb dX8_route_106 (by decide) ?_
            exact hrec22 (x3_29) (x4_30) _ _ ls hf hw (lv_sub hl [3, 4, 5, 1, 0] rfl)
          · replace hf := ite_f hf c_28
            refine lv_iload hx hb dX8_route_89 (lv_at hl 0 rfl) ?_
            refine lv_aload_n hx hb dX8_route_91 rfl (lv_at hl 1 rfl) ?_
            refine lv_iload_n hx hb dX8_route_92 rfl (lv_at hl 4 rfl) ?_
            refine lv_iload_n hx hb dX8_route_93 rfl (lv_at hl 2 rfl) ?_
            obtain ⟨r_32, h_31, hf⟩ := ob_at hf
            refine qk8_otherEnd E hw (mk8_otherEnd E.hD h_31) wl758 dX8_route_94 ⟨Nat.le_of_ble_eq_true rfl, Nat.le_of_ble_eq_true rfl⟩ hl.1 (Nat.le_of_ble_eq_true rfl) ⟨Nat.le_refl 0, Nat.le_refl 0⟩ (fun H locs hw => ?_)
            refine lv_icmp_ge (tgt := 103) hx hb dX8_route_97 (by decide) (fun c_34 => ?_) (fun c_34 => ?_)
            · replace hf := ite_t hf c_34
              obtain ⟨x4_35, ex4_35⟩ : ∃ y : Int32, y = x4 + (1) := ⟨_, rfl⟩
              replace hf := bnd_at hf ex4_35
              refine lv_iinc (v := x4_35) (lv' := [(4, .int (x4_35)), (5, .int (x5_12)), (0, .ref (a 0)), (1, .int (x1)), (2, .int (x2)), (3, .int (x3))]) hx hb dX8_route_103 hl (k := 5) rfl (by rw [ex4_35]; rfl) (by decide) rfl (fun ls hl => ?_)
              refine lv_goto (tgt := 22) hx hb dX8_route_106 (by decide) ?_
              exact hrec22 (x3) (x4_35) _ _ ls hf hw (lv_sub hl [2, 3, 4, 5, 0] rfl)
            · replace hf := ite_f hf c_34
              refine lv_iload hx hb dX8_route_100 (lv_at hl 5 rfl) ?_
              refine lv_topi (fun x3_36 ex3_36 => ?_)
              replace hf := bnd_at hf ex3_36
              refine lv_istore_n (lv' := [(3, .int (x3_36)), (5, .int (x5_12)), (0, .ref (a 0)), (1, .int (x1)), (2, .int (x2)), (4, .int (x4))]) hx hb dX8_route_102 rfl hl (by decide) rfl (fun ls hl => ?_)
              obtain ⟨x4_37, ex4_37⟩ : ∃ y : Int32, y = x4 + (1) := ⟨_, rfl⟩
              replace hf := bnd_at hf ex4_37
              refine lv_iinc (v := x4_37) (lv' := [(4, .int (x4_37)), (3, .int (x3_36)), (5, .int (x5_12)), (0, .ref (a 0)), (1, .int (x1)), (2, .int (x2))]) hx hb dX8_route_103 hl (k := 5) rfl (by rw [ex4_37]; rfl) (by decide) rfl (fun ls hl => ?_)
              refine lv_goto (tgt := 22) hx hb dX8_route_106 (by decide) ?_
              exact hrec22 (x3_36) (x4_37) _ _ ls hf hw (lv_sub hl [3, 4, 5, 1, 0] rfl)
        · replace hf := ite_f hf c_27
          refine lv_goto (tgt := 103) hx hb dX8_route_81 (by decide) ?_
          obtain ⟨x4_38, ex4_38⟩ : ∃ y : Int32, y = x4 + (1) := ⟨_, rfl⟩
          replace hf := bnd_at hf ex4_38
          refine lv_iinc (v := x4_38) (lv' := [(4, .int (x4_38)), (5, .int (x5_12)), (0, .ref (a 0)), (1, .int (x1)), (2, .int (x2)), (3, .int (x3))]) hx hb dX8_route_103 hl (k := 5) rfl (by rw [ex4_38]; rfl) (by decide) rfl (fun ls hl => ?_)
          refine lv_goto (tgt := 22) hx hb dX8_route_106 (by decide) ?_
          exact hrec22 (x3) (x4_38) _ _ ls hf hw (lv_sub hl [2, 3, 4, 5, 0] rfl)
theorem k8_route_l22 {p : Program} {l : Launch} {e : Env} {s : State} {m : MethodId} {args : Array Value} {below : List Frame} {meth : Method} {c : Code} {D : va_G} {a : Nat → Nat} {g : Nat → ClassId} (E : EM p s m args meth c D a g cX8_route 6 RX8 (some .int)) {F : Nat}  (S : SM) (x1 : Int32) (x2 : Int32) {out : Int32}  : ∀ (n : Nat) (x3 : Int32) (x4 : Int32) (H : Heap) (locs : List Loc) (ls : Array Slot), lpN (fun _ _ => none) (fun rec22 => k8_route_B22 F S x1 x2 rec22) n x3 x4 = some out → WM D a g S s H locs → lv_has ls 6 [(0, .ref (a 0)), (1, .int (x1)), (2, .int (x2)), (3, .int (x3)), (4, .int (x4))] → W p l e (RM 4) s m args below meth c H locs 0 0 (MQ below (QM D a g (some (.int out)) S) args s 0 0 (AM a)) (F0 m 22 ls []) := by
  intro n
  induction n with
  | zero => intro x3 x4 H locs ls hf; cases (show (none : Option Int32) = some out from hf)
  | succ n ih => intro x3 x4 H locs ls hf hw hl; exact k8_route_b22 E (F := F) S x1 x2 ih x3 x4 H locs ls hf hw hl
set_option maxRecDepth 100000 in
set_option maxHeartbeats 4000000 in
theorem mk8_route {l : Launch} {D : va_G} {a : Nat → Nat} {g : Nat → ClassId} (hD : ∀ S, va_D (AM a) (wM a g S)) {F : Nat} {S : SM} {x1 x2 : Int32} {out : Int32} (hf : k8_route F S x1 x2 = some out) : Met l yX8_route (wsm yX8_route cX8_route 6 (some .int)) (RM 4) (PM D a g S [.ref (a 0), .int x1, .int x2]) (QM D a g (some (.int out)) S) 0 0 (AM a) := by
  refine Met.ofW (cc := cX8_route) (maxL := 6) (ret := (some .int)) (by decide) rfl ?_
  intro p e s m args below meth c s₁ B hml hv
  obtain ⟨rfl, hP, hK, hN⟩ := hv
  have hts := atoms_spec (ws := wsm yX8_route cX8_route 6 (some .int)) B.pre
  have E : EM p s m _ meth c D a g cX8_route 6 RX8 (some .int) := ⟨B.exec, B.bytes, B.returns, hml, findClass_of_methodNamed B.named, fun w h => hts w (List.mem_cons_of_mem _ h), hK, hN, hD, B.notSynchronized⟩
  have hx := E.hx
  have hb := E.hb
  have hw : WM D a g S s s.heap [] := ⟨hP, va_S.rf⟩
  have hl := lv_entry ([.ref (a 0), .int x1, .int x2]) (n := 6) (Nat.le_of_ble_eq_true rfl)
  rw [lg_entry_eq]
  generalize (lg_sl ([.ref (a 0), .int x1, .int x2]) ++ List.replicate (6 - (lg_sl ([.ref (a 0), .int x1, .int x2])).length) Slot.unset).toArray = ls at hl ⊢
  have hl : lv_has ls 6 [(0, .ref (a 0)), (1, .int (x1)), (2, .int (x2))] := hl
  show W p l e (RM 4) s m _ below meth c s.heap [] 0 0 (MQ below (QM D a g (some (.int out)) S) _ s 0 0 (AM a)) (F0 m 0 ls [])
  unfold k8_route at hf
  refine lv_iload_n hx hb dX8_route_0 rfl (lv_at hl 1 rfl) ?_
  refine lv_iload_n hx hb dX8_route_1 rfl (lv_at hl 2 rfl) ?_
  refine lv_icmp_eq (tgt := 15) hx hb dX8_route_2 (by decide) (fun c_1 => ?_) (fun c_1 => ?_)
  · replace hf := ite_t hf c_1
    refine lv_iconst hx hb dX8_route_15 ic_m1 ?_
    cases hf
    exact retM_i E hw dX8_route_16
  · replace hf := ite_f hf c_1
    refine lv_aload_n hx hb dX8_route_5 rfl (lv_at hl 0 rfl) ?_
    refine lv_iload_n hx hb dX8_route_6 rfl (lv_at hl 1 rfl) ?_
    refine lv_iload_n hx hb dX8_route_7 rfl (lv_at hl 2 rfl) ?_
    obtain ⟨r_3, h_2, hf⟩ := ob_at hf
    refine qk8_least E hw (mk8_least E.hD h_2) wl757 dX8_route_8 ⟨Nat.le_of_ble_eq_true rfl, Nat.le_of_ble_eq_true rfl⟩ hl.1 (Nat.le_of_ble_eq_true rfl) ⟨Nat.le_refl 0, Nat.le_refl 0⟩ (fun H locs hw => ?_)
    refine lv_iconst hx hb dX8_route_11 ic_m1 ?_
    refine lv_icmp_ne (tgt := 17) hx hb dX8_route_12 (by decide) (fun c_5 => ?_) (fun c_5 => ?_)
    · replace hf := ite_f hf c_5
      refine lv_iconst hx hb dX8_route_17 ic_m1 ?_
      refine lv_topi (fun x3_6 ex3_6 => ?_)
      replace hf := bnd_at hf ex3_6
      refine lv_istore_n (lv' := [(3, .int (x3_6)), (0, .ref (a 0)), (1, .int (x1)), (2, .int (x2))]) hx hb dX8_route_18 rfl hl (by decide) rfl (fun ls hl => ?_)
      refine lv_iconst hx hb dX8_route_19 ic_0 ?_
      refine lv_topi (fun x4_7 ex4_7 => ?_)
      replace hf := bnd_at hf ex4_7
      refine lv_istore (lv' := [(4, .int (x4_7)), (3, .int (x3_6)), (0, .ref (a 0)), (1, .int (x1)), (2, .int (x2))]) hx hb dX8_route_20 hl (by decide) rfl (fun ls hl => ?_)
      refine k8_route_l22 E S (x1) (x2)  F (x3_6) (x4_7) _ _ ls hf hw (lv_sub hl [2, 3, 4, 1, 0] rfl)
    · replace hf := ite_t hf c_5
      refine lv_iconst hx hb dX8_route_15 ic_m1 ?_
      cases hf
      exact retM_i E hw dX8_route_16
theorem qk8_route {p : Program} {l : Launch} {e : Env} {R : Room} {s : State} {m : MethodId} {args : Array Value} {below : List Frame} {meth : Method} {c : Code} {H : Heap} {locs : List Loc} {cells slots : Nat} {Q : State → Prop} {cc : ByteArray} {pc : Nat} {ls : Array Slot} {rest : List Value} {D : va_G} {a : Nat → Nat} {g : Nat → ClassId} {nL : Nat} {own : String} {ret : Option FieldType} {S S1 : SM} {k : Nat} {x1 x2 : Int32} {r : Int32} (E : EM p s m args meth c D a g cc nL own ret) (hw : WM D a g S s H locs) (hM : Met l yX8_route (wsm yX8_route cX8_route 6 (some .int)) (RM k) (PM D a g S [.ref (a 0), .int x1, .int x2]) (QM D a g (some (.int r)) S1) 0 0 (AM a)) {idx : Nat} (hlk : Cond.methodLink own idx yX8_route ∈ wd) (hdg : decode cc pc = .ok (.invokevirtual idx, 3)) (hR : k + 1 ≤ R.frames ∧ 8 + (6 + 11) + 64 * k ≤ R.locals) (hls : ls.size = nL) (hrest : (rest.map fun v => v.category).sum ≤ 8) (hcs : cells ≤ R.cells ∧ slots ≤ R.slots) (kk : ∀ (H1 : Heap) (locs1 : List Loc), WM D a g S1 s H1 locs1 → W p l e R s m args below meth c H1 locs1 cells slots Q (F0 m (pc + 3) ls (.int r :: rest))) : W p l e R s m args below meth c H locs cells slots Q (F0 m pc ls (.int x2 :: .int x1 :: .ref (a 0) :: rest)) :=
  callM_i hw (va_runV (As := [.int x1, .int x2]) (rest := rest) ⟨E.hx, E.hb, E.hml, E.hown, E.hts⟩ hM ⟨cb_of 2 E.hts wl756 wl44 hlk (by decide +kernel) hR, E.hts _ wl754, E.hts _ wl755⟩ ⟨PM_blind, va_recv E.hK hw.1 (ci := 8) (q0 := 0) rfl rfl, PM_pre E.hK E.hN hw.1⟩ rfl rfl hls rfl (lv_room hrest) hdg hcs) kk
/-! X8_parts -/
def k8_parts_B25 (F : Nat) (x1 : Int32) (x2 : Int32) (x3 : Int32) (rec25 : SM → Int32 → Option (Int32 × SM)) (k54 : SM → Option (Int32 × SM)) (S : SM) (x4 : Int32) : Option (Int32 × SM) :=
  if ((8 : Int32)) ≤ x4 then (k54 S) else ((ckA 8 x4).bind fun _ => bnd (stM S 15 (Int32.toNatClampNeg x4) ((0 : Int32))) fun S_11 => (ckA 8 x4).bind fun _ => bnd (stM S_11 16 (Int32.toNatClampNeg x4) ((0 : Int32))) fun S_12 => bnd (x4 + (1)) fun x4_13 => rec25 S_12 (x4_13))
def k8_parts_B60 (F : Nat) (x1 : Int32) (x2 : Int32) (x3 : Int32) (rec60 : SM → Int32 → Int32 → Option (Int32 × SM)) (k110 : SM → Int32 → Option (Int32 × SM)) (S : SM) (x4 : Int32) (x5 : Int32) : Option (Int32 × SM) :=
  if x4 = x2 then (k110 S (x5)) else ((k8_route F S (x4) (x2)).bind fun r_19 => bnd (r_19) fun x5_21 => (rdA 24 (S.1 3) x5_21).bind fun v_22 => (rdA 8 (S.1 16) v_22).bind fun v_23 => (rdA 24 (S.1 4) x5_21).bind fun v_24 => (ckA 8 v_22).bind fun _ => bnd (stM S 16 (Int32.toNatClampNeg v_22) (v_23 + v_24)) fun S_25 => (k8_otherEnd F S_25 (x5_21) (x4)).bind fun r_27 => bnd (r_27) fun x4_29 => rec60 S_25 (x4_29) (x5_21))
def k8_parts_B139_J202 (F : Nat) (x1 : Int32) (x2 : Int32) (x5 : Int32) (x6 : Int32) (x7 : Int32) (x8 : Int32) (rec139 : SM → Int32 → Int32 → Option (Int32 × SM)) (k221 : SM → Int32 → Option (Int32 × SM)) (S : SM) (x9 : Int32) (x10 : Int32) (s0 : Int64) (s1 : Int32) : Option (Int32 × SM) :=
  (ckA 8 s1).bind fun _ => bnd (stL S (Int32.toNatClampNeg s1) s0) fun S_45 => (rdA 8 (S_45.1 15) x10).bind fun v_46 => bnd (x9 - v_46) fun x9_47 => bnd (x10 + (1)) fun x10_48 => rec139 S_45 (x9_47) (x10_48)
def k8_parts_B139 (F : Nat) (x1 : Int32) (x2 : Int32) (x5 : Int32) (x6 : Int32) (x7 : Int32) (x8 : Int32) (rec139 : SM → Int32 → Int32 → Option (Int32 × SM)) (k221 : SM → Int32 → Option (Int32 × SM)) (S : SM) (x9 : Int32) (x10 : Int32) : Option (Int32 × SM) :=
  if ((8 : Int32)) ≤ x10 then (k221 S (x9)) else ((rdA 8 (S.1 16) x10).bind fun v_40 => bnd ((Int32.toInt64 x7) * (Int32.toInt64 v_40)) fun x11_41 => (ckL (Int32.toInt64 x8)).bind fun _ => (ckA 8 x10).bind fun _ => bnd (stM S 15 (Int32.toNatClampNeg x10) (Int64.toInt32 (x11_41 / (Int32.toInt64 x8)))) fun S_42 => (rdA 8 (S_42.1 16) x10).bind fun v_43 => if v_43 = 0 then (k8_parts_B139_J202 F x1 x2 x5 x6 x7 x8 rec139 k221 S_42 (x9) (x10) ((-1 : Int64)) (x10)) else ((ckL (Int32.toInt64 x8)).bind fun _ => k8_parts_B139_J202 F x1 x2 x5 x6 x7 x8 rec139 k221 S_42 (x9) (x10) (x11_41 - x11_41 / (Int32.toInt64 x8) * (Int32.toInt64 x8)) (x10)))
def k8_parts_B232 (F : Nat) (S : SM) (x1 : Int32) (x2 : Int32) (x5 : Int32) (x6 : Int32) (x9 : Int32) (rec232 : Int32 → Int32 → Option (Int32 × SM)) (k267 : Int32 → Option (Int32 × SM)) (x10 : Int32) (x11 : Int32) : Option (Int32 × SM) :=
  if ((8 : Int32)) ≤ x11 then (k267 (x10)) else ((rdA 8 S.2 x11).bind fun v_56 => (rdA 8 S.2 x10).bind fun v_57 => if (lg_cmp v_56 v_57) ≤ 0 then (bnd (x11 + (1)) fun x11_59 => rec232 (x10) (x11_59)) else (bnd (x11) fun x10_60 => bnd (x11 + (1)) fun x11_61 => rec232 (x10_60) (x11_61)))
def k8_parts_B221 (F : Nat) (x1 : Int32) (x2 : Int32) (x5 : Int32) (x6 : Int32) (rec221 : SM → Int32 → Option (Int32 × SM)) (k294 : SM → Option (Int32 × SM)) (S : SM) (x9 : Int32) : Option (Int32 × SM) :=
  if x9 ≤ 0 then (k294 S) else (bnd ((0 : Int32)) fun x10_53 => bnd ((1 : Int32)) fun x11_54 => lpN (fun _ _ => none) (fun rec232 => k8_parts_B232 F S (x1) (x2) (x5) (x6) (x9) rec232 (fun x10_62 => (rdA 8 (S.1 15) x10_62).bind fun v_63 => (ckA 8 x10_62).bind fun _ => bnd (stM S 15 (Int32.toNatClampNeg x10_62) (v_63 + ((1 : Int32)))) fun S_64 => (ckA 8 x10_62).bind fun _ => bnd (stL S_64 (Int32.toNatClampNeg x10_62) ((-1 : Int64))) fun S_65 => bnd (x9 + (-1)) fun x9_66 => rec221 S_65 (x9_66))) F (x10_53) (x11_54))
def k8_parts (F : Nat) (S : SM) (x1 : Int32) (x2 : Int32) (x3 : Int32) : Option (Int32 × SM) :=
  (k8_in F S (x3) ((0 : Int32)) ((1000000 : Int32))).bind fun r_2 => if r_2 = 0 then (some ((0 : Int32), S)) else ((k8_route F S (x1) (x2)).bind fun r_6 => if r_6 = ((-1 : Int32)) then (some ((0 : Int32), S)) else (bnd ((0 : Int32)) fun x4_9 => lpN (fun _ _ => none) (fun rec25 => k8_parts_B25 F (x1) (x2) (x3) rec25 (fun S_14 => bnd (x1) fun x4_15 => bnd ((-1 : Int32)) fun x5_16 => lpN (fun _ _ _ => none) (fun rec60 => k8_parts_B60 F (x1) (x2) (x3) rec60 (fun S_30 x5_30 => bnd (x3 / ((10 : Int32))) fun x6_31 => bnd (x3 - (((2 : Int32)) * x6_31)) fun x7_32 => (k8_least F S_30 (x1) (x2)).bind fun r_34 => bnd (r_34) fun x8_36 => bnd (x7_32) fun x9_37 => bnd ((0 : Int32)) fun x10_38 => lpN (fun _ _ _ => none) (fun rec139 => k8_parts_B139 F (x1) (x2) (x5_30) (x6_31) (x7_32) (x8_36) rec139 (fun S_51 x9_51 => lpN (fun _ _ => none) (fun rec221 => k8_parts_B221 F (x1) (x2) (x5_30) (x6_31) rec221 (fun S_67 => (k8_route F S_67 (x1) (x2)).bind fun r_69 => (rdA 24 (S_67.1 3) r_69).bind fun v_71 => (rdA 8 (S_67.1 15) v_71).bind fun v_72 => (ckA 8 v_71).bind fun _ => bnd (stM S_67 15 (Int32.toNatClampNeg v_71) (v_72 + x6_31)) fun S_73 => (rdA 24 (S_73.1 3) x5_30).bind fun v_74 => (rdA 8 (S_73.1 15) v_74).bind fun v_75 => (ckA 8 v_74).bind fun _ => bnd (stM S_73 15 (Int32.toNatClampNeg v_74) (v_75 + x6_31)) fun S_76 => some ((1 : Int32), S_76))) F S_51 (x9_51))) F S_30 (x9_37) (x10_38))) F S_14 (x4_15) (x5_16))) F S (x4_9)))
set_option maxRecDepth 100000 in
set_option maxHeartbeats 4000000 in
theorem k8_parts_b25 {p : Program} {l : Launch} {e : Env} {s : State} {m : MethodId} {args : Array Value} {below : List Frame} {meth : Method} {c : Code} {D : va_G} {a : Nat → Nat} {g : Nat → ClassId} (E : EM p s m args meth c D a g cX8_parts 13 RX8 (some .boolean)) {F : Nat}  (x1 : Int32) (x2 : Int32) (x3 : Int32) {rec25 : SM → Int32 → Option (Int32 × SM)} {k54 : SM → Option (Int32 × SM)} {out : (Int32 × SM)} (hrec25 : ∀ (S : SM) (x4 : Int32) (H : Heap) (locs : List Loc) (ls : Array Slot), rec25 S x4 = some out → WM D a g S s H locs → lv_has ls 13 [(0, .ref (a 0)), (1, .int (x1)), (2, .int (x2)), (3, .int (x3)), (4, .int (x4))] → W p l e (RM 5) s m args below meth c H locs 0 0 (MQ below (QM D a g (some (.int out.1)) out.2) args s 0 0 (AM a)) (F0 m 25 ls [])) (hk54 : ∀ (S : SM) (H : Heap) (locs : List Loc) (ls : Array Slot), k54 S = some out → WM D a g S s H locs → lv_has ls 13 [(0, .ref (a 0)), (1, .int (x1)), (2, .int (x2)), (3, .int (x3))] → W p l e (RM 5) s m args below meth c H locs 0 0 (MQ below (QM D a g (some (.int out.1)) out.2) args s 0 0 (AM a)) (F0 m 54 ls [])) (S : SM) (x4 : Int32) (H : Heap) (locs : List Loc) (ls : Array Slot) (hf : k8_parts_B25 F x1 x2 x3 rec25 k54 S x4 = some out) (hw : WM D a g S s H locs) (hl : lv_has ls 13 [(0, .ref (a 0)), (1, .int (x1)), (2, .int (x2)), (3, .int (x3)), (4, .int (x4))]) : W p l e (RM 5) s m args below meth c H locs 0 0 (MQ below (QM D a g (some (.int out.1)) out.2) args s 0 0 (AM a)) (F0 m 25 ls []) := by
  have hx := E.hx
  have hb := E.hb
  unfold k8_parts_B25 at hf
  refine lv_iload hx hb dX8_parts_25 (lv_at hl 4 rfl) ?_
  refine lv_bipush hx hb dX8_parts_27 bp_8 ?_
  refine lv_icmp_ge (tgt := 54) hx hb dX8_parts_29 (by decide) (fun c_10 => ?_) (fun c_10 => ?_)
  · replace hf := ite_t hf c_10
    exact hk54 S _ _ ls hf hw (lv_sub hl [0, 1, 2, 3] rfl)
  · replace hf := ite_f hf c_10
    refine lv_aload_n hx hb dX8_parts_32 rfl (lv_at hl 0 rfl) ?_
    refine gM_0_20 E hw (E.hts _ wl661) dX8_parts_33 ?_
    refine lv_iload hx hb dX8_parts_36 (lv_at hl 4 rfl) ?_
    refine lv_iconst hx hb dX8_parts_38 ic_0 ?_
    obtain ⟨h_S_11, hf⟩ := ckA_at hf
    refine sM_15 E hw h_S_11 dX8_parts_39 (fun S_11 eS_11 H locs hw => ?_)
    replace hf := bnd_at hf eS_11
    refine lv_aload_n hx hb dX8_parts_40 rfl (lv_at hl 0 rfl) ?_
    refine gM_0_21 E hw (E.hts _ wl662) dX8_parts_41 ?_
    refine lv_iload hx hb dX8_parts_44 (lv_at hl 4 rfl) ?_
    refine lv_iconst hx hb dX8_parts_46 ic_0 ?_
    obtain ⟨h_S_12, hf⟩ := ckA_at hf
    refine sM_16 E hw h_S_12 dX8_parts_47 (fun S_12 eS_12 H locs hw => ?_)
    replace hf := bnd_at hf eS_12
    obtain ⟨x4_13, ex4_13⟩ : ∃ y : Int32, y = x4 + (1) := ⟨_, rfl⟩
    replace hf := bnd_at hf ex4_13
    refine lv_iinc (v := x4_13) (lv' := [(4, .int (x4_13)), (0, .ref (a 0)), (1, .int (x1)), (2, .int (x2)), (3, .int (x3))]) hx hb dX8_parts_48 hl (k := 4) rfl (by rw [ex4_13]; rfl) (by decide) rfl (fun ls hl => ?_)
    refine lv_goto (tgt := 25) hx hb dX8_parts_51 (by decide) ?_
    exact hrec25 S_12 (x4_13) _ _ ls hf hw (lv_sub hl [1, 2, 3, 4, 0] rfl)
theorem k8_parts_l25 {p : Program} {l : Launch} {e : Env} {s : State} {m : MethodId} {args : Array Value} {below : List Frame} {meth : Method} {c : Code} {D : va_G} {a : Nat → Nat} {g : Nat → ClassId} (E : EM p s m args meth c D a g cX8_parts 13 RX8 (some .boolean)) {F : Nat}  (x1 : Int32) (x2 : Int32) (x3 : Int32) {k54 : SM → Option (Int32 × SM)} {out : (Int32 × SM)} (hk54 : ∀ (S : SM) (H : Heap) (locs : List Loc) (ls : Array Slot), k54 S = some out → WM D a g S s H locs → lv_has ls 13 [(0, .ref (a 0)), (1, .int (x1)), (2, .int (x2)), (3, .int (x3))] → W p l e (RM 5) s m args below meth c H locs 0 0 (MQ below (QM D a g (some (.int out.1)) out.2) args s 0 0 (AM a)) (F0 m 54 ls [])) : ∀ (n : Nat) (S : SM) (x4 : Int32) (H : Heap) (locs : List Loc) (ls : Array Slot), lpN (fun _ _ => none) (fun rec25 => k8_parts_B25 F x1 x2 x3 rec25 k54) n S x4 = some out → WM D a g S s H locs → lv_has ls 13 [(0, .ref (a 0)), (1, .int (x1)), (2, .int (x2)), (3, .int (x3)), (4, .int (x4))] → W p l e (RM 5) s m args below meth c H locs 0 0 (MQ below (QM D a g (some (.int out.1)) out.2) args s 0 0 (AM a)) (F0 m 25 ls []) := by
  intro n
  induction n with
  | zero => intro S x4 H locs ls hf; cases (show (none : Option (Int32 × SM)) = some out from hf)
  | succ n ih => intro S x4 H locs ls hf hw hl; exact k8_parts_b25 E (F := F) x1 x2 x3 ih hk54 S x4 H locs ls hf hw hl
set_option maxRecDepth 100000 in
set_option maxHeartbeats 4000000 in
theorem k8_parts_b60 {p : Program} {l : Launch} {e : Env} {s : State} {m : MethodId} {args : Array Value} {below : List Frame} {meth : Method} {c : Code} {D : va_G} {a : Nat → Nat} {g : Nat → ClassId} (E : EM p s m args meth c D a g cX8_parts 13 RX8 (some .boolean)) {F : Nat}  (x1 : Int32) (x2 : Int32) (x3 : Int32) {rec60 : SM → Int32 → Int32 → Option (Int32 × SM)} {k110 : SM → Int32 → Option (Int32 × SM)} {out : (Int32 × SM)} (hrec60 : ∀ (S : SM) (x4 : Int32) (x5 : Int32) (H : Heap) (locs : List Loc) (ls : Array Slot), rec60 S x4 x5 = some out → WM D a g S s H locs → lv_has ls 13 [(0, .ref (a 0)), (1, .int (x1)), (2, .int (x2)), (3, .int (x3)), (4, .int (x4)), (5, .int (x5))] → W p l e (RM 5) s m args below meth c H locs 0 0 (MQ below (QM D a g (some (.int out.1)) out.2) args s 0 0 (AM a)) (F0 m 60 ls [])) (hk110 : ∀ (S : SM) (x5 : Int32) (H : Heap) (locs : List Loc) (ls : Array Slot), k110 S x5 = some out → WM D a g S s H locs → lv_has ls 13 [(0, .ref (a 0)), (1, .int (x1)), (2, .int (x2)), (3, .int (x3)), (5, .int (x5))] → W p l e (RM 5) s m args below meth c H locs 0 0 (MQ below (QM D a g (some (.int out.1)) out.2) args s 0 0 (AM a)) (F0 m 110 ls [])) (S : SM) (x4 : Int32) (x5 : Int32) (H : Heap) (locs : List Loc) (ls : Array Slot) (hf : k8_parts_B60 F x1 x2 x3 rec60 k110 S x4 x5 = some out) (hw : WM D a g S s H locs) (hl : lv_has ls 13 [(0, .ref (a 0)), (1, .int (x1)), (2, .int (x2)), (3, .int (x3)), (4, .int (x4)), (5, .int (x5))]) : W p l e (RM 5) s m args below meth c H locs 0 0 (MQ below (QM D a g (some (.int out.1)) out.2) args s 0 0 (AM a)) (F0 m 60 ls []) := by
  have hx := E.hx
  have hb := E.hb
  unfold k8_parts_B60 at hf
  refine lv_iload hx hb dX8_parts_60 (lv_at hl 4 rfl) ?_
  refine lv_iload_n hx hb dX8_parts_62 rfl (lv_at hl 2 rfl) ?_
  refine lv_icmp_eq (tgt := 110) hx hb dX8_parts_63 (by decide) (fun c_17 => ?_) (fun c_17 => ?_)
  · replace hf := ite_t hf c_17
    exact hk110 S (x5) _ _ ls hf hw (lv_sub hl [0, 1, 2, 3, 5] rfl)
  · replace hf := ite_f hf c_17
    refine lv_aload_n hx hb dX8_parts_66 rfl (lv_at hl 0 rfl) ?_
    refine lv_iload hx hb dX8_parts_67 (lv_at hl 4 rfl) ?_
    refine lv_iload_n hx hb dX8_parts_69 rfl (lv_at hl 2 rfl) ?_
    obtain ⟨r_19, h_18, hf⟩ := ob_at hf
    refine qk8_route E hw (mk8_route E.hD h_18) wl770 dX8_parts_70 ⟨Nat.le_of_ble_eq_true rfl, Nat.le_of_ble_eq_true rfl⟩ hl.1 (Nat.le_of_ble_eq_true rfl) ⟨Nat.le_refl 0, Nat.le_refl 0⟩ (fun H locs hw => ?_)
    refine lv_topi (fun x5_21 ex5_21 => ?_)
    replace hf := bnd_at hf ex5_21
    refine lv_istore (lv' := [(5, .int (x5_21)), (0, .ref (a 0)), (1, .int (x1)), (2, .int (x2)), (3, .int (x3)), (4, .int (x4))]) hx hb dX8_parts_73 hl (by decide) rfl (fun ls hl => ?_)
    refine lv_aload_n hx hb dX8_parts_75 rfl (lv_at hl 1 rfl) ?_
    refine gM_0_21 E hw (E.hts _ wl662) dX8_parts_76 ?_
    refine lv_aload_n hx hb dX8_parts_79 rfl (lv_at hl 1 rfl) ?_
    refine gM_0_3 E hw (E.hts _ wl644) dX8_parts_80 ?_
    refine lv_iload hx hb dX8_parts_83 (lv_at hl 0 rfl) ?_
    obtain ⟨h_v_22, hf⟩ := rdA_at hf
    refine lM_3 E hw h_v_22 dX8_parts_85 (fun v_22 ev_22 => ?_)
    replace hf := hf v_22 ev_22
    refine lv_dup2_11 hx hb dX8_parts_86 rfl rfl ?_
    obtain ⟨h_v_23, hf⟩ := rdA_at hf
    refine lM_16 E hw h_v_23 dX8_parts_87 (fun v_23 ev_23 => ?_)
    replace hf := hf v_23 ev_23
    refine lv_aload_n hx hb dX8_parts_88 rfl (lv_at hl 1 rfl) ?_
    refine gM_0_4 E hw (E.hts _ wl645) dX8_parts_89 ?_
    refine lv_iload hx hb dX8_parts_92 (lv_at hl 0 rfl) ?_
    obtain ⟨h_v_24, hf⟩ := rdA_at hf
    refine lM_4 E hw h_v_24 dX8_parts_94 (fun v_24 ev_24 => ?_)
    replace hf := hf v_24 ev_24
    refine lv_iadd hx hb dX8_parts_95 ?_
    obtain ⟨h_S_25, hf⟩ := ckA_at hf
    refine sM_16 E hw h_S_25 dX8_parts_96 (fun S_25 eS_25 H locs hw => ?_)
    replace hf := bnd_at hf eS_25
    refine lv_aload_n hx hb dX8_parts_97 rfl (lv_at hl 1 rfl) ?_
    refine lv_iload hx hb dX8_parts_98 (lv_at hl 0 rfl) ?_
    refine lv_iload hx hb dX8_parts_100 (lv_at hl 5 rfl) ?_
    obtain ⟨r_27, h_26, hf⟩ := ob_at hf
    refine qk8_otherEnd E hw (mk8_otherEnd E.hD h_26) wl758 dX8_parts_102 ⟨Nat.le_of_ble_eq_true rfl, Nat.le_of_ble_eq_true rfl⟩ hl.1 (Nat.le_of_ble_eq_true rfl) ⟨Nat.le_refl 0, Nat.le_refl 0⟩ (fun H locs hw => ?_)
    refine lv_topi (fun x4_29 ex4_29 => ?_)
    replace hf := bnd_at hf ex4_29
    refine lv_istore (lv' := [(4, .int (x4_29)), (5, .int (x5_21)), (0, .ref (a 0)), (1, .int (x1)), (2, .int (x2)), (3, .int (x3))]) hx hb dX8_parts_105 hl (by decide) rfl (fun ls hl => ?_)
    refine lv_goto (tgt := 60) hx hb dX8_parts_107 (by decide) ?_
    exact hrec60 S_25 (x4_29) (x5_21) _ _ ls hf hw (lv_sub hl [2, 3, 4, 5, 0, 1] rfl)
theorem k8_parts_l60 {p : Program} {l : Launch} {e : Env} {s : State} {m : MethodId} {args : Array Value} {below : List Frame} {meth : Method} {c : Code} {D : va_G} {a : Nat → Nat} {g : Nat → ClassId} (E : EM p s m args meth c D a g cX8_parts 13 RX8 (some .boolean)) {F : Nat}  (x1 : Int32) (x2 : Int32) (x3 : Int32) {k110 : SM → Int32 → Option (Int32 × SM)} {out : (Int32 × SM)} (hk110 : ∀ (S : SM) (x5 : Int32) (H : Heap) (locs : List Loc) (ls : Array Slot), k110 S x5 = some out → WM D a g S s H locs → lv_has ls 13 [(0, .ref (a 0)), (1, .int (x1)), (2, .int (x2)), (3, .int (x3)), (5, .int (x5))] → W p l e (RM 5) s m args below meth c H locs 0 0 (MQ below (QM D a g (some (.int out.1)) out.2) args s 0 0 (AM a)) (F0 m 110 ls [])) : ∀ (n : Nat) (S : SM) (x4 : Int32) (x5 : Int32) (H : Heap) (locs : List Loc) (ls : Array Slot), lpN (fun _ _ _ => none) (fun rec60 => k8_parts_B60 F x1 x2 x3 rec60 k110) n S x4 x5 = some out → WM D a g S s H locs → lv_has ls 13 [(0, .ref (a 0)), (1, .int (x1)), (2, .int (x2)), (3, .int (x3)), (4, .int (x4)), (5, .int (x5))] → W p l e (RM 5) s m args below meth c H locs 0 0 (MQ below (QM D a g (some (.int out.1)) out.2) args s 0 0 (AM a)) (F0 m 60 ls []) := by
  intro n
  induction n with
  | zero => intro S x4 x5 H locs ls hf; cases (show (none : Option (Int32 × SM)) = some out from hf)
  | succ n ih => intro S x4 x5 H locs ls hf hw hl; exact k8_parts_b60 E (F := F) x1 x2 x3 ih hk110 S x4 x5 H locs ls hf hw hl
set_option maxRecDepth 100000 in
set_option maxHeartbeats 4000000 in
theorem k8_parts_B139_J202_j {p : Program} {l : Launch} {e : Env} {s : State} {m : MethodId} {args : Array Value} {below : List Frame} {meth : Method} {c : Code} {D : va_G} {a : Nat → Nat} {g : Nat → ClassId} (E : EM p s m args meth c D a g cX8_parts 13 RX8 (some .boolean)) {F : Nat}  (x1 : Int32) (x2 : Int32) (x5 : Int32) (x6 : Int32) (x7 : Int32) (x8 : Int32) {rec139 : SM → Int32 → Int32 → Option (Int32 × SM)} {k221 : SM → Int32 → Option (Int32 × SM)} {out : (Int32 × SM)} (hrec139 : ∀ (S : SM) (x9 : Int32) (x10 : Int32) (H : Heap) (locs : List Loc) (ls : Array Slot), rec139 S x9 x10 = some out → WM D a g S s H locs → lv_has ls 13 [(0, .ref (a 0)), (1, .int (x1)), (2, .int (x2)), (5, .int (x5)), (6, .int (x6)), (7, .int (x7)), (8, .int (x8)), (9, .int (x9)), (10, .int (x10))] → W p l e (RM 5) s m args below meth c H locs 0 0 (MQ below (QM D a g (some (.int out.1)) out.2) args s 0 0 (AM a)) (F0 m 139 ls [])) (hk221 : ∀ (S : SM) (x9 : Int32) (H : Heap) (locs : List Loc) (ls : Array Slot), k221 S x9 = some out → WM D a g S s H locs → lv_has ls 13 [(0, .ref (a 0)), (1, .int (x1)), (2, .int (x2)), (5, .int (x5)), (6, .int (x6)), (9, .int (x9))] → W p l e (RM 5) s m args below meth c H locs 0 0 (MQ below (QM D a g (some (.int out.1)) out.2) args s 0 0 (AM a)) (F0 m 221 ls [])) (S : SM) (x9 : Int32) (x10 : Int32) (s0 : Int64) (s1 : Int32) (H : Heap) (locs : List Loc) (ls : Array Slot) (hf : k8_parts_B139_J202 F x1 x2 x5 x6 x7 x8 rec139 k221 S x9 x10 s0 s1 = some out) (hw : WM D a g S s H locs) (hl : lv_has ls 13 [(0, .ref (a 0)), (1, .int (x1)), (2, .int (x2)), (5, .int (x5)), (6, .int (x6)), (7, .int (x7)), (8, .int (x8)), (9, .int (x9)), (10, .int (x10))]) : W p l e (RM 5) s m args below meth c H locs 0 0 (MQ below (QM D a g (some (.int out.1)) out.2) args s 0 0 (AM a)) (F0 m 202 ls [.long (s0), .int (s1), .ref (a 24)]) := by
  have hx := E.hx
  have hb := E.hb
  unfold k8_parts_B139_J202 at hf
  obtain ⟨h_S_45, hf⟩ := ckA_at hf
  refine sM_24 E hw h_S_45 dX8_parts_202 (fun S_45 eS_45 H locs hw => ?_)
  replace hf := bnd_at hf eS_45
  refine lv_iload hx hb dX8_parts_203 (lv_at hl 7 rfl) ?_
  refine lv_aload_n hx hb dX8_parts_205 rfl (lv_at hl 0 rfl) ?_
  refine gM_0_20 E hw (E.hts _ wl661) dX8_parts_206 ?_
  refine lv_iload hx hb dX8_parts_209 (lv_at hl 8 rfl) ?_
  obtain ⟨h_v_46, hf⟩ := rdA_at hf
  refine lM_15 E hw h_v_46 dX8_parts_211 (fun v_46 ev_46 => ?_)
  replace hf := hf v_46 ev_46
  refine lv_isub hx hb dX8_parts_212 ?_
  refine lv_topi (fun x9_47 ex9_47 => ?_)
  replace hf := bnd_at hf ex9_47
  refine lv_istore (lv' := [(9, .int (x9_47)), (0, .ref (a 0)), (1, .int (x1)), (2, .int (x2)), (5, .int (x5)), (6, .int (x6)), (7, .int (x7)), (8, .int (x8)), (10, .int (x10))]) hx hb dX8_parts_213 hl (by decide) rfl (fun ls hl => ?_)
  obtain ⟨x10_48, ex10_48⟩ : ∃ y : Int32, y = x10 + (1) := ⟨_, rfl⟩
  replace hf := bnd_at hf ex10_48
  refine lv_iinc (v := x10_48) (lv' := [(10, .int (x10_48)), (9, .int (x9_47)), (0, .ref (a 0)), (1, .int (x1)), (2, .int (x2)), (5, .int (x5)), (6, .int (x6)), (7, .int (x7)), (8, .int (x8))]) hx hb dX8_parts_215 hl (k := 8) rfl (by rw [ex10_48]; rfl) (by decide) rfl (fun ls hl => ?_)
  refine lv_goto (tgt := 139) hx hb dX8_parts_218 (by decide) ?_
  exact hrec139 S_45 (x9_47) (x10_48) _ _ ls hf hw (lv_sub hl [2, 3, 4, 5, 6, 7, 8, 1, 0] rfl)
set_option maxRecDepth 100000 in
set_option maxHeartbeats 4000000 in
theorem k8_parts_b139 {p : Program} {l : Launch} {e : Env} {s : State} {m : MethodId} {args : Array Value} {below : List Frame} {meth : Method} {c : Code} {D : va_G} {a : Nat → Nat} {g : Nat → ClassId} (E : EM p s m args meth c D a g cX8_parts 13 RX8 (some .boolean)) {F : Nat}  (x1 : Int32) (x2 : Int32) (x5 : Int32) (x6 : Int32) (x7 : Int32) (x8 : Int32) {rec139 : SM → Int32 → Int32 → Option (Int32 × SM)} {k221 : SM → Int32 → Option (Int32 × SM)} {out : (Int32 × SM)} (hrec139 : ∀ (S : SM) (x9 : Int32) (x10 : Int32) (H : Heap) (locs : List Loc) (ls : Array Slot), rec139 S x9 x10 = some out → WM D a g S s H locs → lv_has ls 13 [(0, .ref (a 0)), (1, .int (x1)), (2, .int (x2)), (5, .int (x5)), (6, .int (x6)), (7, .int (x7)), (8, .int (x8)), (9, .int (x9)), (10, .int (x10))] → W p l e (RM 5) s m args below meth c H locs 0 0 (MQ below (QM D a g (some (.int out.1)) out.2) args s 0 0 (AM a)) (F0 m 139 ls [])) (hk221 : ∀ (S : SM) (x9 : Int32) (H : Heap) (locs : List Loc) (ls : Array Slot), k221 S x9 = some out → WM D a g S s H locs → lv_has ls 13 [(0, .ref (a 0)), (1, .int (x1)), (2, .int (x2)), (5, .int (x5)), (6, .int (x6)), (9, .int (x9))] → W p l e (RM 5) s m args below meth c H locs 0 0 (MQ below (QM D a g (some (.int out.1)) out.2) args s 0 0 (AM a)) (F0 m 221 ls [])) (S : SM) (x9 : Int32) (x10 : Int32) (H : Heap) (locs : List Loc) (ls : Array Slot) (hf : k8_parts_B139 F x1 x2 x5 x6 x7 x8 rec139 k221 S x9 x10 = some out) (hw : WM D a g S s H locs) (hl : lv_has ls 13 [(0, .ref (a 0)), (1, .int (x1)), (2, .int (x2)), (5, .int (x5)), (6, .int (x6)), (7, .int (x7)), (8, .int (x8)), (9, .int (x9)), (10, .int (x10))]) : W p l e (RM 5) s m args below meth c H locs 0 0 (MQ below (QM D a g (some (.int out.1)) out.2) args s 0 0 (AM a)) (F0 m 139 ls []) := by
  have hx := E.hx
  have hb := E.hb
  unfold k8_parts_B139 at hf
  refine lv_iload hx hb dX8_parts_139 (lv_at hl 8 rfl) ?_
  refine lv_bipush hx hb dX8_parts_141 bp_8 ?_
  refine lv_icmp_ge (tgt := 221) hx hb dX8_parts_143 (by decide) (fun c_39 => ?_) (fun c_39 => ?_)
  · replace hf := ite_t hf c_39
    exact hk221 S (x9) _ _ ls hf hw (lv_sub hl [0, 1, 2, 3, 4, 7] rfl)
  · replace hf := ite_f hf c_39
    refine lv_iload hx hb dX8_parts_146 (lv_at hl 5 rfl) ?_
    refine lv_i2l (v := Int32.toInt64 x7) hx hb dX8_parts_148 rfl ?_
    refine lv_aload_n hx hb dX8_parts_149 rfl (lv_at hl 0 rfl) ?_
    refine gM_0_21 E hw (E.hts _ wl662) dX8_parts_150 ?_
    refine lv_iload hx hb dX8_parts_153 (lv_at hl 8 rfl) ?_
    obtain ⟨h_v_40, hf⟩ := rdA_at hf
    refine lM_16 E hw h_v_40 dX8_parts_155 (fun v_40 ev_40 => ?_)
    replace hf := hf v_40 ev_40
    refine lv_i2l (v := Int32.toInt64 v_40) hx hb dX8_parts_156 rfl ?_
    refine lv_lmul hx hb dX8_parts_157 ?_
    refine lv_topl (fun x11_41 ex11_41 => ?_)
    replace hf := bnd_at hf ex11_41
    refine lv_lstore (lv' := [(11, .long (x11_41)), (0, .ref (a 0)), (1, .int (x1)), (2, .int (x2)), (5, .int (x5)), (6, .int (x6)), (7, .int (x7)), (8, .int (x8)), (9, .int (x9)), (10, .int (x10))]) hx hb dX8_parts_158 hl (by decide) rfl (fun ls hl => ?_)
    refine lv_aload_n hx hb dX8_parts_160 rfl (lv_at hl 1 rfl) ?_
    refine gM_0_20 E hw (E.hts _ wl661) dX8_parts_161 ?_
    refine lv_iload hx hb dX8_parts_164 (lv_at hl 9 rfl) ?_
    refine lv_lload hx hb dX8_parts_166 (lv_at hl 0 rfl) ?_
    refine lv_iload hx hb dX8_parts_168 (lv_at hl 7 rfl) ?_
    refine lv_i2l (v := Int32.toInt64 x8) hx hb dX8_parts_170 rfl ?_
    obtain ⟨h_50, hf⟩ := ckL_at hf
    refine lv_ldiv hx hb dX8_parts_171 h_50 ?_
    refine lv_l2i (v := Int64.toInt32 (x11_41 / (Int32.toInt64 x8))) hx hb dX8_parts_172 rfl ?_
    obtain ⟨h_S_42, hf⟩ := ckA_at hf
    refine sM_15 E hw h_S_42 dX8_parts_173 (fun S_42 eS_42 H locs hw => ?_)
    replace hf := bnd_at hf eS_42
    refine lv_aload_n hx hb dX8_parts_174 rfl (lv_at hl 1 rfl) ?_
    refine gM_0_22 E hw (E.hts _ wl663) dX8_parts_175 ?_
    refine lv_iload hx hb dX8_parts_178 (lv_at hl 9 rfl) ?_
    refine lv_aload_n hx hb dX8_parts_180 rfl (lv_at hl 1 rfl) ?_
    refine gM_0_21 E hw (E.hts _ wl662) dX8_parts_181 ?_
    refine lv_iload hx hb dX8_parts_184 (lv_at hl 9 rfl) ?_
    obtain ⟨h_v_43, hf⟩ := rdA_at hf
    refine lM_16 E hw h_v_43 dX8_parts_186 (fun v_43 ev_43 => ?_)
    replace hf := hf v_43 ev_43
    refine lv_if_ne (tgt := 196) hx hb dX8_parts_187 (by decide) (fun c_44 => ?_) (fun c_44 => ?_)
    · replace hf := ite_f hf c_44
      refine lv_lload hx hb dX8_parts_196 (lv_at hl 0 rfl) ?_
      refine lv_iload hx hb dX8_parts_198 (lv_at hl 7 rfl) ?_
      refine lv_i2l (v := Int32.toInt64 x8) hx hb dX8_parts_200 rfl ?_
      obtain ⟨h_49, hf⟩ := ckL_at hf
      refine lv_lrem hx hb dX8_parts_201 h_49 ?_
      exact k8_parts_B139_J202_j E x1 x2 x5 x6 x7 x8 hrec139 hk221 S_42 (x9) (x10) (x11_41 - x11_41 / (Int32.toInt64 x8) * (Int32.toInt64 x8)) (x10) _ _ ls hf hw (lv_sub hl [1, 2, 3, 4, 5, 6, 7, 8, 9] rfl)
    · replace hf := ite_t hf c_44
      refine lv_ldc2 hx hb E.hown (E.hts _ wl771) dX8_parts_190 ?_
      refine lv_goto (tgt := 202) hx hb dX8_parts_193 (by decide) ?_
      exact k8_parts_B139_J202_j E x1 x2 x5 x6 x7 x8 hrec139 hk221 S_42 (x9) (x10) ((-1 : Int64)) (x10) _ _ ls hf hw (lv_sub hl [1, 2, 3, 4, 5, 6, 7, 8, 9] rfl)
theorem k8_parts_l139 {p : Program} {l : Launch} {e : Env} {s : State} {m : MethodId} {args : Array Value} {below : List Frame} {meth : Method} {c : Code} {D : va_G} {a : Nat → Nat} {g : Nat → ClassId} (E : EM p s m args meth c D a g cX8_parts 13 RX8 (some .boolean)) {F : Nat}  (x1 : Int32) (x2 : Int32) (x5 : Int32) (x6 : Int32) (x7 : Int32) (x8 : Int32) {k221 : SM → Int32 → Option (Int32 × SM)} {out : (Int32 × SM)} (hk221 : ∀ (S : SM) (x9 : Int32) (H : Heap) (locs : List Loc) (ls : Array Slot), k221 S x9 = some out → WM D a g S s H locs → lv_has ls 13 [(0, .ref (a 0)), (1, .int (x1)), (2, .int (x2)), (5, .int (x5)), (6, .int (x6)), (9, .int (x9))] → W p l e (RM 5) s m args below meth c H locs 0 0 (MQ below (QM D a g (some (.int out.1)) out.2) args s 0 0 (AM a)) (F0 m 221 ls [])) : ∀ (n : Nat) (S : SM) (x9 : Int32) (x10 : Int32) (H : Heap) (locs : List Loc) (ls : Array Slot), lpN (fun _ _ _ => none) (fun rec139 => k8_parts_B139 F x1 x2 x5 x6 x7 x8 rec139 k221) n S x9 x10 = some out → WM D a g S s H locs → lv_has ls 13 [(0, .ref (a 0)), (1, .int (x1)), (2, .int (x2)), (5, .int (x5)), (6, .int (x6)), (7, .int (x7)), (8, .int (x8)), (9, .int (x9)), (10, .int (x10))] → W p l e (RM 5) s m args below meth c H locs 0 0 (MQ below (QM D a g (some (.int out.1)) out.2) args s 0 0 (AM a)) (F0 m 139 ls []) := by
  intro n
  induction n with
  | zero => intro S x9 x10 H locs ls hf; cases (show (none : Option (Int32 × SM)) = some out from hf)
  | succ n ih => intro S x9 x10 H locs ls hf hw hl; exact k8_parts_b139 E (F := F) x1 x2 x5 x6 x7 x8 ih hk221 S x9 x10 H locs ls hf hw hl
set_option maxRecDepth 100000 in
set_option maxHeartbeats 4000000 in
theorem k8_parts_b232 {p : Program} {l : Launch} {e : Env} {s : State} {m : MethodId} {args : Array Value} {below : List Frame} {meth : Method} {c : Code} {D : va_G} {a : Nat → Nat} {g : Nat → ClassId} (E : EM p s m args meth c D a g cX8_parts 13 RX8 (some .boolean)) {F : Nat}  (S : SM) (x1 : Int32) (x2 : Int32) (x5 : Int32) (x6 : Int32) (x9 : Int32) {rec232 : Int32 → Int32 → Option (Int32 × SM)} {k267 : Int32 → Option (Int32 × SM)} {out : (Int32 × SM)} (hrec232 : ∀ (x10 : Int32) (x11 : Int32) (H : Heap) (locs : List Loc) (ls : Array Slot), rec232 x10 x11 = some out → WM D a g S s H locs → lv_has ls 13 [(0, .ref (a 0)), (1, .int (x1)), (2, .int (x2)), (5, .int (x5)), (6, .int (x6)), (9, .int (x9)), (10, .int (x10)), (11, .int (x11))] → W p l e (RM 5) s m args below meth c H locs 0 0 (MQ below (QM D a g (some (.int out.1)) out.2) args s 0 0 (AM a)) (F0 m 232 ls [])) (hk267 : ∀ (x10 : Int32) (H : Heap) (locs : List Loc) (ls : Array Slot), k267 x10 = some out → WM D a g S s H locs → lv_has ls 13 [(0, .ref (a 0)), (1, .int (x1)), (2, .int (x2)), (5, .int (x5)), (6, .int (x6)), (9, .int (x9)), (10, .int (x10))] → W p l e (RM 5) s m args below meth c H locs 0 0 (MQ below (QM D a g (some (.int out.1)) out.2) args s 0 0 (AM a)) (F0 m 267 ls [])) (x10 : Int32) (x11 : Int32) (H : Heap) (locs : List Loc) (ls : Array Slot) (hf : k8_parts_B232 F S x1 x2 x5 x6 x9 rec232 k267 x10 x11 = some out) (hw : WM D a g S s H locs) (hl : lv_has ls 13 [(0, .ref (a 0)), (1, .int (x1)), (2, .int (x2)), (5, .int (x5)), (6, .int (x6)), (9, .int (x9)), (10, .int (x10)), (11, .int (x11))]) : W p l e (RM 5) s m args below meth c H locs 0 0 (MQ below (QM D a g (some (.int out.1)) out.2) args s 0 0 (AM a)) (F0 m 232 ls []) := by
  have hx := E.hx
  have hb := E.hb
  unfold k8_parts_B232 at hf
  refine lv_iload hx hb dX8_parts_232 (lv_at hl 7 rfl) ?_
  refine lv_bipush hx hb dX8_parts_234 bp_8 ?_
  refine lv_icmp_ge (tgt := 267) hx hb dX8_parts_236 (by decide) (fun c_55 => ?_) (fun c_55 => ?_)
  · replace hf := ite_t hf c_55
    exact hk267 (x10) _ _ ls hf hw (lv_sub hl [0, 1, 2, 3, 4, 5, 6] rfl)
  · replace hf := ite_f hf c_55
    refine lv_aload_n hx hb dX8_parts_239 rfl (lv_at hl 0 rfl) ?_
    refine gM_0_22 E hw (E.hts _ wl663) dX8_parts_240 ?_
    refine lv_iload hx hb dX8_parts_243 (lv_at hl 7 rfl) ?_
    obtain ⟨h_v_56, hf⟩ := rdA_at hf
    refine lM_24 E hw h_v_56 dX8_parts_245 (fun v_56 ev_56 => ?_)
    replace hf := hf v_56 ev_56
    refine lv_aload_n hx hb dX8_parts_246 rfl (lv_at hl 0 rfl) ?_
    refine gM_0_22 E hw (E.hts _ wl663) dX8_parts_247 ?_
    refine lv_iload hx hb dX8_parts_250 (lv_at hl 6 rfl) ?_
    obtain ⟨h_v_57, hf⟩ := rdA_at hf
    refine lM_24 E hw h_v_57 dX8_parts_252 (fun v_57 ev_57 => ?_)
    replace hf := hf v_57 ev_57
    refine W.lcmp hx hb dX8_parts_253 ?_
    refine lv_if_le (tgt := 261) hx hb dX8_parts_254 (by decide) (fun c_58 => ?_) (fun c_58 => ?_)
    · replace hf := ite_t hf c_58
      obtain ⟨x11_59, ex11_59⟩ : ∃ y : Int32, y = x11 + (1) := ⟨_, rfl⟩
      replace hf := bnd_at hf ex11_59
      refine lv_iinc (v := x11_59) (lv' := [(11, .int (x11_59)), (0, .ref (a 0)), (1, .int (x1)), (2, .int (x2)), (5, .int (x5)), (6, .int (x6)), (9, .int (x9)), (10, .int (x10))]) hx hb dX8_parts_261 hl (k := 7) rfl (by rw [ex11_59]; rfl) (by decide) rfl (fun ls hl => ?_)
      refine lv_goto (tgt := 232) hx hb dX8_parts_264 (by decide) ?_
      exact hrec232 (x10) (x11_59) _ _ ls hf hw (lv_sub hl [1, 2, 3, 4, 5, 6, 7, 0] rfl)
    · replace hf := ite_f hf c_58
      refine lv_iload hx hb dX8_parts_257 (lv_at hl 7 rfl) ?_
      refine lv_topi (fun x10_60 ex10_60 => ?_)
      replace hf := bnd_at hf ex10_60
      refine lv_istore (lv' := [(10, .int (x10_60)), (0, .ref (a 0)), (1, .int (x1)), (2, .int (x2)), (5, .int (x5)), (6, .int (x6)), (9, .int (x9)), (11, .int (x11))]) hx hb dX8_parts_259 hl (by decide) rfl (fun ls hl => ?_)
      obtain ⟨x11_61, ex11_61⟩ : ∃ y : Int32, y = x11 + (1) := ⟨_, rfl⟩
      replace hf := bnd_at hf ex11_61
      refine lv_iinc (v := x11_61) (lv' := [(11, .int (x11_61)), (10, .int (x10_60)), (0, .ref (a 0)), (1, .int (x1)), (2, .int (x2)), (5, .int (x5)), (6, .int (x6)), (9, .int (x9))]) hx hb dX8_parts_261 hl (k := 7) rfl (by rw [ex11_61]; rfl) (by decide) rfl (fun ls hl => ?_)
      refine lv_goto (tgt := 232) hx hb dX8_parts_264 (by decide) ?_
      exact hrec232 (x10_60) (x11_61) _ _ ls hf hw (lv_sub hl [2, 3, 4, 5, 6, 7, 1, 0] rfl)
theorem k8_parts_l232 {p : Program} {l : Launch} {e : Env} {s : State} {m : MethodId} {args : Array Value} {below : List Frame} {meth : Method} {c : Code} {D : va_G} {a : Nat → Nat} {g : Nat → ClassId} (E : EM p s m args meth c D a g cX8_parts 13 RX8 (some .boolean)) {F : Nat}  (S : SM) (x1 : Int32) (x2 : Int32) (x5 : Int32) (x6 : Int32) (x9 : Int32) {k267 : Int32 → Option (Int32 × SM)} {out : (Int32 × SM)} (hk267 : ∀ (x10 : Int32) (H : Heap) (locs : List Loc) (ls : Array Slot), k267 x10 = some out → WM D a g S s H locs → lv_has ls 13 [(0, .ref (a 0)), (1, .int (x1)), (2, .int (x2)), (5, .int (x5)), (6, .int (x6)), (9, .int (x9)), (10, .int (x10))] → W p l e (RM 5) s m args below meth c H locs 0 0 (MQ below (QM D a g (some (.int out.1)) out.2) args s 0 0 (AM a)) (F0 m 267 ls [])) : ∀ (n : Nat) (x10 : Int32) (x11 : Int32) (H : Heap) (locs : List Loc) (ls : Array Slot), lpN (fun _ _ => none) (fun rec232 => k8_parts_B232 F S x1 x2 x5 x6 x9 rec232 k267) n x10 x11 = some out → WM D a g S s H locs → lv_has ls 13 [(0, .ref (a 0)), (1, .int (x1)), (2, .int (x2)), (5, .int (x5)), (6, .int (x6)), (9, .int (x9)), (10, .int (x10)), (11, .int (x11))] → W p l e (RM 5) s m args below meth c H locs 0 0 (MQ below (QM D a g (some (.int out.1)) out.2) args s 0 0 (AM a)) (F0 m 232 ls []) := by
  intro n
  induction n with
  | zero => intro x10 x11 H locs ls hf; cases (show (none : Option (Int32 × SM)) = some out from hf)
  | succ n ih => intro x10 x11 H locs ls hf hw hl; exact k8_parts_b232 E (F := F) S x1 x2 x5 x6 x9 ih hk267 x10 x11 H locs ls hf hw hl
set_option maxRecDepth 100000 in
set_option maxHeartbeats 4000000 in
theorem k8_parts_b221 {p : Program} {l : Launch} {e : Env} {s : State} {m : MethodId} {args : Array Value} {below : List Frame} {meth : Method} {c : Code} {D : va_G} {a : Nat → Nat} {g : Nat → ClassId} (E : EM p s m args meth c D a g cX8_parts 13 RX8 (some .boolean)) {F : Nat}  (x1 : Int32) (x2 : Int32) (x5 : Int32) (x6 : Int32) {rec221 : SM → Int32 → Option (Int32 × SM)} {k294 : SM → Option (Int32 × SM)} {out : (Int32 × SM)} (hrec221 : ∀ (S : SM) (x9 : Int32) (H : Heap) (locs : List Loc) (ls : Array Slot), rec221 S x9 = some out → WM D a g S s H locs → lv_has ls 13 [(0, .ref (a 0)), (1, .int (x1)), (2, .int (x2)), (5, .int (x5)), (6, .int (x6)), (9, .int (x9))] → W p l e (RM 5) s m args below meth c H locs 0 0 (MQ below (QM D a g (some (.int out.1)) out.2) args s 0 0 (AM a)) (F0 m 221 ls [])) (hk294 : ∀ (S : SM) (H : Heap) (locs : List Loc) (ls : Array Slot), k294 S = some out → WM D a g S s H locs → lv_has ls 13 [(0, .ref (a 0)), (1, .int (x1)), (2, .int (x2)), (5, .int (x5)), (6, .int (x6))] → W p l e (RM 5) s m args below meth c H locs 0 0 (MQ below (QM D a g (some (.int out.1)) out.2) args s 0 0 (AM a)) (F0 m 294 ls [])) (S : SM) (x9 : Int32) (H : Heap) (locs : List Loc) (ls : Array Slot) (hf : k8_parts_B221 F x1 x2 x5 x6 rec221 k294 S x9 = some out) (hw : WM D a g S s H locs) (hl : lv_has ls 13 [(0, .ref (a 0)), (1, .int (x1)), (2, .int (x2)), (5, .int (x5)), (6, .int (x6)), (9, .int (x9))]) : W p l e (RM 5) s m args below meth c H locs 0 0 (MQ below (QM D a g (some (.int out.1)) out.2) args s 0 0 (AM a)) (F0 m 221 ls []) := by
  have hx := E.hx
  have hb := E.hb
  unfold k8_parts_B221 at hf
  refine lv_iload hx hb dX8_parts_221 (lv_at hl 5 rfl) ?_
  refine lv_if_le (tgt := 294) hx hb dX8_parts_223 (by decide) (fun c_52 => ?_) (fun c_52 => ?_)
  · replace hf := ite_t hf c_52
    exact hk294 S _ _ ls hf hw (lv_sub hl [0, 1, 2, 3, 4] rfl)
  · replace hf := ite_f hf c_52
    refine lv_iconst hx hb dX8_parts_226 ic_0 ?_
    refine lv_topi (fun x10_53 ex10_53 => ?_)
    replace hf := bnd_at hf ex10_53
    refine lv_istore (lv' := [(10, .int (x10_53)), (0, .ref (a 0)), (1, .int (x1)), (2, .int (x2)), (5, .int (x5)), (6, .int (x6)), (9, .int (x9))]) hx hb dX8_parts_227 hl (by decide) rfl (fun ls hl => ?_)
    refine lv_iconst hx hb dX8_parts_229 ic_1 ?_
    refine lv_topi (fun x11_54 ex11_54 => ?_)
    replace hf := bnd_at hf ex11_54
    refine lv_istore (lv' := [(11, .int (x11_54)), (10, .int (x10_53)), (0, .ref (a 0)), (1, .int (x1)), (2, .int (x2)), (5, .int (x5)), (6, .int (x6)), (9, .int (x9))]) hx hb dX8_parts_230 hl (by decide) rfl (fun ls hl => ?_)
    refine k8_parts_l232 E S (x1) (x2) (x5) (x6) (x9) ?_ F (x10_53) (x11_54) _ _ ls hf hw (lv_sub hl [2, 3, 4, 5, 6, 7, 1, 0] rfl)
    · intro x10_62 H locs ls hf hw hl
      refine lv_aload_n hx hb dX8_parts_267 rfl (lv_at hl 0 rfl) ?_
      refine gM_0_20 E hw (E.hts _ wl661) dX8_parts_268 ?_
      refine lv_iload hx hb dX8_parts_271 (lv_at hl 6 rfl) ?_
      refine lv_dup2_11 hx hb dX8_parts_273 rfl rfl ?_
      obtain ⟨h_v_63, hf⟩ := rdA_at hf
      refine lM_15 E hw h_v_63 dX8_parts_274 (fun v_63 ev_63 => ?_)
      replace hf := hf v_63 ev_63
      refine lv_iconst hx hb dX8_parts_275 ic_1 ?_
      refine lv_iadd hx hb dX8_parts_276 ?_
      obtain ⟨h_S_64, hf⟩ := ckA_at hf
      refine sM_15 E hw h_S_64 dX8_parts_277 (fun S_64 eS_64 H locs hw => ?_)
      replace hf := bnd_at hf eS_64
      refine lv_aload_n hx hb dX8_parts_278 rfl (lv_at hl 0 rfl) ?_
      refine gM_0_22 E hw (E.hts _ wl663) dX8_parts_279 ?_
      refine lv_iload hx hb dX8_parts_282 (lv_at hl 6 rfl) ?_
      refine lv_ldc2 hx hb E.hown (E.hts _ wl771) dX8_parts_284 ?_
      obtain ⟨h_S_65, hf⟩ := ckA_at hf
      refine sM_24 E hw h_S_65 dX8_parts_287 (fun S_65 eS_65 H locs hw => ?_)
      replace hf := bnd_at hf eS_65
      obtain ⟨x9_66, ex9_66⟩ : ∃ y : Int32, y = x9 + (-1) := ⟨_, rfl⟩
      replace hf := bnd_at hf ex9_66
      refine lv_iinc (v := x9_66) (lv' := [(9, .int (x9_66)), (0, .ref (a 0)), (1, .int (x1)), (2, .int (x2)), (5, .int (x5)), (6, .int (x6)), (10, .int (x10_62))]) hx hb dX8_parts_288 hl (k := 5) rfl (by rw [ex9_66]; rfl) (by decide) rfl (fun ls hl => ?_)
      refine lv_goto (tgt := 221) hx hb dX8_parts_291 (by decide) ?_
      exact hrec221 S_65 (x9_66) _ _ ls hf hw (lv_sub hl [1, 2, 3, 4, 5, 0] rfl)
theorem k8_parts_l221 {p : Program} {l : Launch} {e : Env} {s : State} {m : MethodId} {args : Array Value} {below : List Frame} {meth : Method} {c : Code} {D : va_G} {a : Nat → Nat} {g : Nat → ClassId} (E : EM p s m args meth c D a g cX8_parts 13 RX8 (some .boolean)) {F : Nat}  (x1 : Int32) (x2 : Int32) (x5 : Int32) (x6 : Int32) {k294 : SM → Option (Int32 × SM)} {out : (Int32 × SM)} (hk294 : ∀ (S : SM) (H : Heap) (locs : List Loc) (ls : Array Slot), k294 S = some out → WM D a g S s H locs → lv_has ls 13 [(0, .ref (a 0)), (1, .int (x1)), (2, .int (x2)), (5, .int (x5)), (6, .int (x6))] → W p l e (RM 5) s m args below meth c H locs 0 0 (MQ below (QM D a g (some (.int out.1)) out.2) args s 0 0 (AM a)) (F0 m 294 ls [])) : ∀ (n : Nat) (S : SM) (x9 : Int32) (H : Heap) (locs : List Loc) (ls : Array Slot), lpN (fun _ _ => none) (fun rec221 => k8_parts_B221 F x1 x2 x5 x6 rec221 k294) n S x9 = some out → WM D a g S s H locs → lv_has ls 13 [(0, .ref (a 0)), (1, .int (x1)), (2, .int (x2)), (5, .int (x5)), (6, .int (x6)), (9, .int (x9))] → W p l e (RM 5) s m args below meth c H locs 0 0 (MQ below (QM D a g (some (.int out.1)) out.2) args s 0 0 (AM a)) (F0 m 221 ls []) := by
  intro n
  induction n with
  | zero => intro S x9 H locs ls hf; cases (show (none : Option (Int32 × SM)) = some out from hf)
  | succ n ih => intro S x9 H locs ls hf hw hl; exact k8_parts_b221 E (F := F) x1 x2 x5 x6 ih hk294 S x9 H locs ls hf hw hl
set_option maxRecDepth 100000 in
set_option maxHeartbeats 4000000 in
theorem mk8_parts {l : Launch} {D : va_G} {a : Nat → Nat} {g : Nat → ClassId} (hD : ∀ S, va_D (AM a) (wM a g S)) {F : Nat} {S : SM} {x1 x2 x3 : Int32} {out : (Int32 × SM)} (hf : k8_parts F S x1 x2 x3 = some out) : Met l yX8_parts (wsm yX8_parts cX8_parts 13 (some .boolean)) (RM 5) (PM D a g S [.ref (a 0), .int x1, .int x2, .int x3]) (QM D a g (some (.int out.1)) out.2) 0 0 (AM a) := by
  refine Met.ofW (cc := cX8_parts) (maxL := 13) (ret := (some .boolean)) (by decide) rfl ?_
  intro p e s m args below meth c s₁ B hml hv
  obtain ⟨rfl, hP, hK, hN⟩ := hv
  have hts := atoms_spec (ws := wsm yX8_parts cX8_parts 13 (some .boolean)) B.pre
  have E : EM p s m _ meth c D a g cX8_parts 13 RX8 (some .boolean) := ⟨B.exec, B.bytes, B.returns, hml, findClass_of_methodNamed B.named, fun w h => hts w (List.mem_cons_of_mem _ h), hK, hN, hD, B.notSynchronized⟩
  have hx := E.hx
  have hb := E.hb
  have hw : WM D a g S s s.heap [] := ⟨hP, va_S.rf⟩
  have hl := lv_entry ([.ref (a 0), .int x1, .int x2, .int x3]) (n := 13) (Nat.le_of_ble_eq_true rfl)
  rw [lg_entry_eq]
  generalize (lg_sl ([.ref (a 0), .int x1, .int x2, .int x3]) ++ List.replicate (13 - (lg_sl ([.ref (a 0), .int x1, .int x2, .int x3])).length) Slot.unset).toArray = ls at hl ⊢
  have hl : lv_has ls 13 [(0, .ref (a 0)), (1, .int (x1)), (2, .int (x2)), (3, .int (x3))] := hl
  show W p l e (RM 5) s m _ below meth c s.heap [] 0 0 (MQ below (QM D a g (some (.int out.1)) out.2) _ s 0 0 (AM a)) (F0 m 0 ls [])
  unfold k8_parts at hf
  refine lv_iload_n hx hb dX8_parts_0 rfl (lv_at hl 3 rfl) ?_
  refine lv_iconst hx hb dX8_parts_1 ic_0 ?_
  refine lv_ldc hx hb E.hown (E.hts _ wl640) dX8_parts_2 ?_
  obtain ⟨r_2, h_1, hf⟩ := ob_at hf
  refine qk8_in E hw (mk8_in E.hD h_1) wl743 dX8_parts_4 ⟨Nat.le_of_ble_eq_true rfl, Nat.le_of_ble_eq_true rfl⟩ hl.1 (Nat.le_of_ble_eq_true rfl) ⟨Nat.le_refl 0, Nat.le_refl 0⟩ (fun H locs hw => ?_)
  refine lv_if_eq (tgt := 20) hx hb dX8_parts_7 (by decide) (fun c_4 => ?_) (fun c_4 => ?_)
  · replace hf := ite_t hf c_4
    refine lv_iconst hx hb dX8_parts_20 ic_0 ?_
    cases hf
    exact retM_z E hw nb0 dX8_parts_21
  · replace hf := ite_f hf c_4
    refine lv_aload_n hx hb dX8_parts_10 rfl (lv_at hl 0 rfl) ?_
    refine lv_iload_n hx hb dX8_parts_11 rfl (lv_at hl 1 rfl) ?_
    refine lv_iload_n hx hb dX8_parts_12 rfl (lv_at hl 2 rfl) ?_
    obtain ⟨r_6, h_5, hf⟩ := ob_at hf
    refine qk8_route E hw (mk8_route E.hD h_5) wl770 dX8_parts_13 ⟨Nat.le_of_ble_eq_true rfl, Nat.le_of_ble_eq_true rfl⟩ hl.1 (Nat.le_of_ble_eq_true rfl) ⟨Nat.le_refl 0, Nat.le_refl 0⟩ (fun H locs hw => ?_)
    refine lv_iconst hx hb dX8_parts_16 ic_m1 ?_
    refine lv_icmp_ne (tgt := 22) hx hb dX8_parts_17 (by decide) (fun c_8 => ?_) (fun c_8 => ?_)
    · replace hf := ite_f hf c_8
      refine lv_iconst hx hb dX8_parts_22 ic_0 ?_
      refine lv_topi (fun x4_9 ex4_9 => ?_)
      replace hf := bnd_at hf ex4_9
      refine lv_istore (lv' := [(4, .int (x4_9)), (0, .ref (a 0)), (1, .int (x1)), (2, .int (x2)), (3, .int (x3))]) hx hb dX8_parts_23 hl (by decide) rfl (fun ls hl => ?_)
      refine k8_parts_l25 E (x1) (x2) (x3) ?_ F S (x4_9) _ _ ls hf hw (lv_sub hl [1, 2, 3, 4, 0] rfl)
      · intro S_14 H locs ls hf hw hl
        refine lv_iload_n hx hb dX8_parts_54 rfl (lv_at hl 1 rfl) ?_
        refine lv_topi (fun x4_15 ex4_15 => ?_)
        replace hf := bnd_at hf ex4_15
        refine lv_istore (lv' := [(4, .int (x4_15)), (0, .ref (a 0)), (1, .int (x1)), (2, .int (x2)), (3, .int (x3))]) hx hb dX8_parts_55 hl (by decide) rfl (fun ls hl => ?_)
        refine lv_iconst hx hb dX8_parts_57 ic_m1 ?_
        refine lv_topi (fun x5_16 ex5_16 => ?_)
        replace hf := bnd_at hf ex5_16
        refine lv_istore (lv' := [(5, .int (x5_16)), (4, .int (x4_15)), (0, .ref (a 0)), (1, .int (x1)), (2, .int (x2)), (3, .int (x3))]) hx hb dX8_parts_58 hl (by decide) rfl (fun ls hl => ?_)
        refine k8_parts_l60 E (x1) (x2) (x3) ?_ F S_14 (x4_15) (x5_16) _ _ ls hf hw (lv_sub hl [2, 3, 4, 5, 1, 0] rfl)
        · intro S_30 x5_30 H locs ls hf hw hl
          refine lv_iload_n hx hb dX8_parts_110 rfl (lv_at hl 3 rfl) ?_
          refine lv_bipush hx hb dX8_parts_111 bp_10 ?_
          refine lv_idiv hx hb dX8_parts_113 (by decide) ?_
          refine lv_topi (fun x6_31 ex6_31 => ?_)
          replace hf := bnd_at hf ex6_31
          refine lv_istore (lv' := [(6, .int (x6_31)), (0, .ref (a 0)), (1, .int (x1)), (2, .int (x2)), (3, .int (x3)), (5, .int (x5_30))]) hx hb dX8_parts_114 hl (by decide) rfl (fun ls hl => ?_)
          refine lv_iload_n hx hb dX8_parts_116 rfl (lv_at hl 4 rfl) ?_
          refine lv_iconst hx hb dX8_parts_117 ic_2 ?_
          refine lv_iload hx hb dX8_parts_118 (lv_at hl 0 rfl) ?_
          refine lv_imul hx hb dX8_parts_120 ?_
          refine lv_isub hx hb dX8_parts_121 ?_
          refine lv_topi (fun x7_32 ex7_32 => ?_)
          replace hf := bnd_at hf ex7_32
          refine lv_istore (lv' := [(7, .int (x7_32)), (6, .int (x6_31)), (0, .ref (a 0)), (1, .int (x1)), (2, .int (x2)), (3, .int (x3)), (5, .int (x5_30))]) hx hb dX8_parts_122 hl (by decide) rfl (fun ls hl => ?_)
          refine lv_aload_n hx hb dX8_parts_124 rfl (lv_at hl 2 rfl) ?_
          refine lv_iload_n hx hb dX8_parts_125 rfl (lv_at hl 3 rfl) ?_
          refine lv_iload_n hx hb dX8_parts_126 rfl (lv_at hl 4 rfl) ?_
          obtain ⟨r_34, h_33, hf⟩ := ob_at hf
          refine qk8_least E hw (mk8_least E.hD h_33) wl757 dX8_parts_127 ⟨Nat.le_of_ble_eq_true rfl, Nat.le_of_ble_eq_true rfl⟩ hl.1 (Nat.le_of_ble_eq_true rfl) ⟨Nat.le_refl 0, Nat.le_refl 0⟩ (fun H locs hw => ?_)
          refine lv_topi (fun x8_36 ex8_36 => ?_)
          replace hf := bnd_at hf ex8_36
          refine lv_istore (lv' := [(8, .int (x8_36)), (7, .int (x7_32)), (6, .int (x6_31)), (0, .ref (a 0)), (1, .int (x1)), (2, .int (x2)), (3, .int (x3)), (5, .int (x5_30))]) hx hb dX8_parts_130 hl (by decide) rfl (fun ls hl => ?_)
          refine lv_iload hx hb dX8_parts_132 (lv_at hl 1 rfl) ?_
          refine lv_topi (fun x9_37 ex9_37 => ?_)
          replace hf := bnd_at hf ex9_37
          refine lv_istore (lv' := [(9, .int (x9_37)), (8, .int (x8_36)), (7, .int (x7_32)), (6, .int (x6_31)), (0, .ref (a 0)), (1, .int (x1)), (2, .int (x2)), (3, .int (x3)), (5, .int (x5_30))]) hx hb dX8_parts_134 hl (by decide) rfl (fun ls hl => ?_)
          refine lv_iconst hx hb dX8_parts_136 ic_0 ?_
          refine lv_topi (fun x10_38 ex10_38 => ?_)
          replace hf := bnd_at hf ex10_38
          refine lv_istore (lv' := [(10, .int (x10_38)), (9, .int (x9_37)), (8, .int (x8_36)), (7, .int (x7_32)), (6, .int (x6_31)), (0, .ref (a 0)), (1, .int (x1)), (2, .int (x2)), (3, .int (x3)), (5, .int (x5_30))]) hx hb dX8_parts_137 hl (by decide) rfl (fun ls hl => ?_)
          refine k8_parts_l139 E (x1) (x2) (x5_30) (x6_31) (x7_32) (x8_36) ?_ F S_30 (x9_37) (x10_38) _ _ ls hf hw (lv_sub hl [5, 6, 7, 9, 4, 3, 2, 1, 0] rfl)
          · intro S_51 x9_51 H locs ls hf hw hl
            refine k8_parts_l221 E (x1) (x2) (x5_30) (x6_31) ?_ F S_51 (x9_51) _ _ ls hf hw (lv_sub hl [0, 1, 2, 3, 4, 5] rfl)
            · intro S_67 H locs ls hf hw hl
              refine lv_aload_n hx hb dX8_parts_294 rfl (lv_at hl 0 rfl) ?_
              refine gM_0_20 E hw (E.hts _ wl661) dX8_parts_295 ?_
              refine lv_aload_n hx hb dX8_parts_298 rfl (lv_at hl 0 rfl) ?_
              refine gM_0_3 E hw (E.hts _ wl644) dX8_parts_299 ?_
              refine lv_aload_n hx hb dX8_parts_302 rfl (lv_at hl 0 rfl) ?_
              refine lv_iload_n hx hb dX8_parts_303 rfl (lv_at hl 1 rfl) ?_
              refine lv_iload_n hx hb dX8_parts_304 rfl (lv_at hl 2 rfl) ?_
              obtain ⟨r_69, h_68, hf⟩ := ob_at hf
              refine qk8_route E hw (mk8_route E.hD h_68) wl770 dX8_parts_305 ⟨Nat.le_of_ble_eq_true rfl, Nat.le_of_ble_eq_true rfl⟩ hl.1 (Nat.le_of_ble_eq_true rfl) ⟨Nat.le_refl 0, Nat.le_refl 0⟩ (fun H locs hw => ?_)
              obtain ⟨h_v_71, hf⟩ := rdA_at hf
              refine lM_3 E hw h_v_71 dX8_parts_308 (fun v_71 ev_71 => ?_)
              replace hf := hf v_71 ev_71
              refine lv_dup2_11 hx hb dX8_parts_309 rfl rfl ?_
              obtain ⟨h_v_72, hf⟩ := rdA_at hf
              refine lM_15 E hw h_v_72 dX8_parts_310 (fun v_72 ev_72 => ?_)
              replace hf := hf v_72 ev_72
              refine lv_iload hx hb dX8_parts_311 (lv_at hl 4 rfl) ?_
              refine lv_iadd hx hb dX8_parts_313 ?_
              obtain ⟨h_S_73, hf⟩ := ckA_at hf
              refine sM_15 E hw h_S_73 dX8_parts_314 (fun S_73 eS_73 H locs hw => ?_)
              replace hf := bnd_at hf eS_73
              refine lv_aload_n hx hb dX8_parts_315 rfl (lv_at hl 0 rfl) ?_
              refine gM_0_20 E hw (E.hts _ wl661) dX8_parts_316 ?_
              refine lv_aload_n hx hb dX8_parts_319 rfl (lv_at hl 0 rfl) ?_
              refine gM_0_3 E hw (E.hts _ wl644) dX8_parts_320 ?_
              refine lv_iload hx hb dX8_parts_323 (lv_at hl 3 rfl) ?_
              obtain ⟨h_v_74, hf⟩ := rdA_at hf
              refine lM_3 E hw h_v_74 dX8_parts_325 (fun v_74 ev_74 => ?_)
              replace hf := hf v_74 ev_74
              refine lv_dup2_11 hx hb dX8_parts_326 rfl rfl ?_
              obtain ⟨h_v_75, hf⟩ := rdA_at hf
              refine lM_15 E hw h_v_75 dX8_parts_327 (fun v_75 ev_75 => ?_)
              replace hf := hf v_75 ev_75
              refine lv_iload hx hb dX8_parts_328 (lv_at hl 4 rfl) ?_
              refine lv_iadd hx hb dX8_parts_330 ?_
              obtain ⟨h_S_76, hf⟩ := ckA_at hf
              refine sM_15 E hw h_S_76 dX8_parts_331 (fun S_76 eS_76 H locs hw => ?_)
              replace hf := bnd_at hf eS_76
              refine lv_iconst hx hb dX8_parts_332 ic_1 ?_
              cases hf
              exact retM_z E hw nb1 dX8_parts_333
    · replace hf := ite_t hf c_8
      refine lv_iconst hx hb dX8_parts_20 ic_0 ?_
      cases hf
      exact retM_z E hw nb0 dX8_parts_21
theorem qk8_parts {p : Program} {l : Launch} {e : Env} {R : Room} {s : State} {m : MethodId} {args : Array Value} {below : List Frame} {meth : Method} {c : Code} {H : Heap} {locs : List Loc} {cells slots : Nat} {Q : State → Prop} {cc : ByteArray} {pc : Nat} {ls : Array Slot} {rest : List Value} {D : va_G} {a : Nat → Nat} {g : Nat → ClassId} {nL : Nat} {own : String} {ret : Option FieldType} {S S1 : SM} {k : Nat} {x1 x2 x3 : Int32} {r : Int32} (E : EM p s m args meth c D a g cc nL own ret) (hw : WM D a g S s H locs) (hM : Met l yX8_parts (wsm yX8_parts cX8_parts 13 (some .boolean)) (RM k) (PM D a g S [.ref (a 0), .int x1, .int x2, .int x3]) (QM D a g (some (.int r)) S1) 0 0 (AM a)) {idx : Nat} (hlk : Cond.methodLink own idx yX8_parts ∈ wd) (hdg : decode cc pc = .ok (.invokevirtual idx, 3)) (hR : k + 1 ≤ R.frames ∧ 8 + (13 + 11) + 64 * k ≤ R.locals) (hls : ls.size = nL) (hrest : (rest.map fun v => v.category).sum ≤ 8) (hcs : cells ≤ R.cells ∧ slots ≤ R.slots) (kk : ∀ (H1 : Heap) (locs1 : List Loc), WM D a g S1 s H1 locs1 → W p l e R s m args below meth c H1 locs1 cells slots Q (F0 m (pc + 3) ls (.int r :: rest))) : W p l e R s m args below meth c H locs cells slots Q (F0 m pc ls (.int x3 :: .int x2 :: .int x1 :: .ref (a 0) :: rest)) :=
  callM_i hw (va_runV (As := [.int x1, .int x2, .int x3]) (rest := rest) ⟨E.hx, E.hb, E.hml, E.hown, E.hts⟩ hM ⟨cb_of 3 E.hts wl769 wl44 hlk (by decide +kernel) hR, E.hts _ wl768, E.hts _ wl24⟩ ⟨PM_blind, va_recv E.hK hw.1 (ci := 8) (q0 := 0) rfl rfl, PM_pre E.hK E.hN hw.1⟩ rfl rfl hls rfl (lv_room hrest) hdg hcs) kk
/-! X8_part -/
def k8_part (F : Nat) (S : SM) (x1 : Int32) (x2 : Int32) (x3 : Int32) (x4 : Int32) : Option (Int32 × SM) :=
  (k8_isCompany F S (x4)).bind fun r_2 => if r_2 = 0 then (some ((-1 : Int32), S)) else (ob2 (k8_parts F S (x1) (x2) (x3)) fun r_6 S_7 => if r_6 = 0 then (some ((-1 : Int32), S_7)) else ((rdA 8 (S_7.1 15) x4).bind fun v_9 => some (v_9, S_7)))
set_option maxRecDepth 100000 in
set_option maxHeartbeats 4000000 in
theorem mk8_part {l : Launch} {D : va_G} {a : Nat → Nat} {g : Nat → ClassId} (hD : ∀ S, va_D (AM a) (wM a g S)) {F : Nat} {S : SM} {x1 x2 x3 x4 : Int32} {out : (Int32 × SM)} (hf : k8_part F S x1 x2 x3 x4 = some out) : Met l yX8_part (wsm yX8_part cX8_part 5 (some .int)) (RM 6) (PM D a g S [.ref (a 0), .int x1, .int x2, .int x3, .int x4]) (QM D a g (some (.int out.1)) out.2) 0 0 (AM a) := by
  refine Met.ofW (cc := cX8_part) (maxL := 5) (ret := (some .int)) (by decide) rfl ?_
  intro p e s m args below meth c s₁ B hml hv
  obtain ⟨rfl, hP, hK, hN⟩ := hv
  have hts := atoms_spec (ws := wsm yX8_part cX8_part 5 (some .int)) B.pre
  have E : EM p s m _ meth c D a g cX8_part 5 RX8 (some .int) := ⟨B.exec, B.bytes, B.returns, hml, findClass_of_methodNamed B.named, fun w h => hts w (List.mem_cons_of_mem _ h), hK, hN, hD, B.notSynchronized⟩
  have hx := E.hx
  have hb := E.hb
  have hw : WM D a g S s s.heap [] := ⟨hP, va_S.rf⟩
  have hl := lv_entry ([.ref (a 0), .int x1, .int x2, .int x3, .int x4]) (n := 5) (Nat.le_of_ble_eq_true rfl)
  rw [lg_entry_eq]
  generalize (lg_sl ([.ref (a 0), .int x1, .int x2, .int x3, .int x4]) ++ List.replicate (5 - (lg_sl ([.ref (a 0), .int x1, .int x2, .int x3, .int x4])).length) Slot.unset).toArray = ls at hl ⊢
  have hl : lv_has ls 5 [(0, .ref (a 0)), (1, .int (x1)), (2, .int (x2)), (3, .int (x3)), (4, .int (x4))] := hl
  show W p l e (RM 6) s m _ below meth c s.heap [] 0 0 (MQ below (QM D a g (some (.int out.1)) out.2) _ s 0 0 (AM a)) (F0 m 0 ls [])
  unfold k8_part at hf
  refine lv_iload hx hb dX8_part_0 (lv_at hl 4 rfl) ?_
  obtain ⟨r_2, h_1, hf⟩ := ob_at hf
  refine qk8_isCompany E hw (mk8_isCompany E.hD h_1) wl746 dX8_part_2 ⟨Nat.le_of_ble_eq_true rfl, Nat.le_of_ble_eq_true rfl⟩ hl.1 (Nat.le_of_ble_eq_true rfl) ⟨Nat.le_refl 0, Nat.le_refl 0⟩ (fun H locs hw => ?_)
  refine lv_if_eq (tgt := 28) hx hb dX8_part_5 (by decide) (fun c_4 => ?_) (fun c_4 => ?_)
  · replace hf := ite_t hf c_4
    refine lv_iconst hx hb dX8_part_28 ic_m1 ?_
    cases hf
    exact retM_i E hw dX8_part_29
  · replace hf := ite_f hf c_4
    refine lv_aload_n hx hb dX8_part_8 rfl (lv_at hl 0 rfl) ?_
    refine lv_iload_n hx hb dX8_part_9 rfl (lv_at hl 1 rfl) ?_
    refine lv_iload_n hx hb dX8_part_10 rfl (lv_at hl 2 rfl) ?_
    refine lv_iload_n hx hb dX8_part_11 rfl (lv_at hl 3 rfl) ?_
    obtain ⟨r_6, S_7, h_5, hf⟩ := ob2_at hf
    refine qk8_parts E hw (mk8_parts E.hD h_5) wl766 dX8_part_12 ⟨Nat.le_of_ble_eq_true rfl, Nat.le_of_ble_eq_true rfl⟩ hl.1 (Nat.le_of_ble_eq_true rfl) ⟨Nat.le_refl 0, Nat.le_refl 0⟩ (fun H locs hw => ?_)
    refine lv_if_eq (tgt := 28) hx hb dX8_part_15 (by decide) (fun c_8 => ?_) (fun c_8 => ?_)
    · replace hf := ite_t hf c_8
      refine lv_iconst hx hb dX8_part_28 ic_m1 ?_
      cases hf
      exact retM_i E hw dX8_part_29
    · replace hf := ite_f hf c_8
      refine lv_aload_n hx hb dX8_part_18 rfl (lv_at hl 0 rfl) ?_
      refine gM_0_20 E hw (E.hts _ wl661) dX8_part_19 ?_
      refine lv_iload hx hb dX8_part_22 (lv_at hl 4 rfl) ?_
      obtain ⟨h_v_9, hf⟩ := rdA_at hf
      refine lM_15 E hw h_v_9 dX8_part_24 (fun v_9 ev_9 => ?_)
      replace hf := hf v_9 ev_9
      refine lv_goto (tgt := 29) hx hb dX8_part_25 (by decide) ?_
      cases hf
      exact retM_i E hw dX8_part_29
theorem qk8_part {p : Program} {l : Launch} {e : Env} {R : Room} {s : State} {m : MethodId} {args : Array Value} {below : List Frame} {meth : Method} {c : Code} {H : Heap} {locs : List Loc} {cells slots : Nat} {Q : State → Prop} {cc : ByteArray} {pc : Nat} {ls : Array Slot} {rest : List Value} {D : va_G} {a : Nat → Nat} {g : Nat → ClassId} {nL : Nat} {own : String} {ret : Option FieldType} {S S1 : SM} {k : Nat} {x1 x2 x3 x4 : Int32} {r : Int32} (E : EM p s m args meth c D a g cc nL own ret) (hw : WM D a g S s H locs) (hM : Met l yX8_part (wsm yX8_part cX8_part 5 (some .int)) (RM k) (PM D a g S [.ref (a 0), .int x1, .int x2, .int x3, .int x4]) (QM D a g (some (.int r)) S1) 0 0 (AM a)) {idx : Nat} (hlk : Cond.methodLink own idx yX8_part ∈ wd) (hdg : decode cc pc = .ok (.invokevirtual idx, 3)) (hR : k + 1 ≤ R.frames ∧ 8 + (5 + 11) + 64 * k ≤ R.locals) (hls : ls.size = nL) (hrest : (rest.map fun v => v.category).sum ≤ 8) (hcs : cells ≤ R.cells ∧ slots ≤ R.slots) (kk : ∀ (H1 : Heap) (locs1 : List Loc), WM D a g S1 s H1 locs1 → W p l e R s m args below meth c H1 locs1 cells slots Q (F0 m (pc + 3) ls (.int r :: rest))) : W p l e R s m args below meth c H locs cells slots Q (F0 m pc ls (.int x4 :: .int x3 :: .int x2 :: .int x1 :: .ref (a 0) :: rest)) :=
  callM_i hw (va_runV (As := [.int x1, .int x2, .int x3, .int x4]) (rest := rest) ⟨E.hx, E.hb, E.hml, E.hown, E.hts⟩ hM ⟨cb_of 4 E.hts wl765 wl44 hlk (by decide +kernel) hR, E.hts _ wl763, E.hts _ wl764⟩ ⟨PM_blind, va_recv E.hK hw.1 (ci := 8) (q0 := 0) rfl rfl, PM_pre E.hK E.hN hw.1⟩ rfl rfl hls rfl (lv_room hrest) hdg hcs) kk
/-! X8_book -/
def k8_book_B33 (F : Nat) (x4 : Int32) (rec33 : SM → Int32 → Option (Int32 × SM)) (k80 : SM → Option (Int32 × SM)) (S : SM) (x5 : Int32) : Option (Int32 × SM) :=
  if ((8 : Int32)) ≤ x5 then (k80 S) else ((rdA 8 (S.1 12) x5).bind fun v_12 => (rdA 8 (S.1 15) x5).bind fun v_13 => (ckA 8 x5).bind fun _ => bnd (stM S 12 (Int32.toNatClampNeg x5) (v_12 + v_13)) fun S_14 => (rdA 8 (S_14.1 12) x4).bind fun v_15 => (rdA 8 (S_14.1 15) x5).bind fun v_16 => (ckA 8 x4).bind fun _ => bnd (stM S_14 12 (Int32.toNatClampNeg x4) (v_15 - v_16)) fun S_17 => bnd (x5 + (1)) fun x5_18 => rec33 S_17 (x5_18))
def k8_book (F : Nat) (S : SM) (x1 : Int32) (x2 : Int32) (x3 : Int32) (x4 : Int32) : Option (Int32 × SM) :=
  (k8_isCompany F S (x4)).bind fun r_2 => if r_2 = 0 then (some ((0 : Int32), S)) else (if (S.1 0 16) = ((1000 : Int32)) then (some ((0 : Int32), S)) else (ob2 (k8_parts F S (x1) (x2) (x3)) fun r_7 S_8 => if r_7 = 0 then (some ((0 : Int32), S_8)) else (bnd ((0 : Int32)) fun x5_10 => lpN (fun _ _ => none) (fun rec33 => k8_book_B33 F (x4) rec33 (fun S_19 => bnd (stM S_19 0 16 ((S_19.1 0 16) + ((1 : Int32)))) fun S_20 => some ((1 : Int32), S_20))) F S_8 (x5_10))))
set_option maxRecDepth 100000 in
set_option maxHeartbeats 4000000 in
theorem k8_book_b33 {p : Program} {l : Launch} {e : Env} {s : State} {m : MethodId} {args : Array Value} {below : List Frame} {meth : Method} {c : Code} {D : va_G} {a : Nat → Nat} {g : Nat → ClassId} (E : EM p s m args meth c D a g cX8_book 6 RX8 (some .boolean)) {F : Nat}  (x4 : Int32) {rec33 : SM → Int32 → Option (Int32 × SM)} {k80 : SM → Option (Int32 × SM)} {out : (Int32 × SM)} (hrec33 : ∀ (S : SM) (x5 : Int32) (H : Heap) (locs : List Loc) (ls : Array Slot), rec33 S x5 = some out → WM D a g S s H locs → lv_has ls 6 [(0, .ref (a 0)), (4, .int (x4)), (5, .int (x5))] → W p l e (RM 6) s m args below meth c H locs 0 0 (MQ below (QM D a g (some (.int out.1)) out.2) args s 0 0 (AM a)) (F0 m 33 ls [])) (hk80 : ∀ (S : SM) (H : Heap) (locs : List Loc) (ls : Array Slot), k80 S = some out → WM D a g S s H locs → lv_has ls 6 [(0, .ref (a 0))] → W p l e (RM 6) s m args below meth c H locs 0 0 (MQ below (QM D a g (some (.int out.1)) out.2) args s 0 0 (AM a)) (F0 m 80 ls [])) (S : SM) (x5 : Int32) (H : Heap) (locs : List Loc) (ls : Array Slot) (hf : k8_book_B33 F x4 rec33 k80 S x5 = some out) (hw : WM D a g S s H locs) (hl : lv_has ls 6 [(0, .ref (a 0)), (4, .int (x4)), (5, .int (x5))]) : W p l e (RM 6) s m args below meth c H locs 0 0 (MQ below (QM D a g (some (.int out.1)) out.2) args s 0 0 (AM a)) (F0 m 33 ls []) := by
  have hx := E.hx
  have hb := E.hb
  unfold k8_book_B33 at hf
  refine lv_iload hx hb dX8_book_33 (lv_at hl 2 rfl) ?_
  refine lv_bipush hx hb dX8_book_35 bp_8 ?_
  refine lv_icmp_ge (tgt := 80) hx hb dX8_book_37 (by decide) (fun c_11 => ?_) (fun c_11 => ?_)
  · replace hf := ite_t hf c_11
    exact hk80 S _ _ ls hf hw (lv_sub hl [0] rfl)
  · replace hf := ite_f hf c_11
    refine lv_aload_n hx hb dX8_book_40 rfl (lv_at hl 0 rfl) ?_
    refine gM_0_17 E hw (E.hts _ wl658) dX8_book_41 ?_
    refine lv_iload hx hb dX8_book_44 (lv_at hl 2 rfl) ?_
    refine lv_dup2_11 hx hb dX8_book_46 rfl rfl ?_
    obtain ⟨h_v_12, hf⟩ := rdA_at hf
    refine lM_12 E hw h_v_12 dX8_book_47 (fun v_12 ev_12 => ?_)
    replace hf := hf v_12 ev_12
    refine lv_aload_n hx hb dX8_book_48 rfl (lv_at hl 0 rfl) ?_
    refine gM_0_20 E hw (E.hts _ wl661) dX8_book_49 ?_
    refine lv_iload hx hb dX8_book_52 (lv_at hl 2 rfl) ?_
    obtain ⟨h_v_13, hf⟩ := rdA_at hf
    refine lM_15 E hw h_v_13 dX8_book_54 (fun v_13 ev_13 => ?_)
    replace hf := hf v_13 ev_13
    refine lv_iadd hx hb dX8_book_55 ?_
    obtain ⟨h_S_14, hf⟩ := ckA_at hf
    refine sM_12 E hw h_S_14 dX8_book_56 (fun S_14 eS_14 H locs hw => ?_)
    replace hf := bnd_at hf eS_14
    refine lv_aload_n hx hb dX8_book_57 rfl (lv_at hl 0 rfl) ?_
    refine gM_0_17 E hw (E.hts _ wl658) dX8_book_58 ?_
    refine lv_iload hx hb dX8_book_61 (lv_at hl 1 rfl) ?_
    refine lv_dup2_11 hx hb dX8_book_63 rfl rfl ?_
    obtain ⟨h_v_15, hf⟩ := rdA_at hf
    refine lM_12 E hw h_v_15 dX8_book_64 (fun v_15 ev_15 => ?_)
    replace hf := hf v_15 ev_15
    refine lv_aload_n hx hb dX8_book_65 rfl (lv_at hl 0 rfl) ?_
    refine gM_0_20 E hw (E.hts _ wl661) dX8_book_66 ?_
    refine lv_iload hx hb dX8_book_69 (lv_at hl 2 rfl) ?_
    obtain ⟨h_v_16, hf⟩ := rdA_at hf
    refine lM_15 E hw h_v_16 dX8_book_71 (fun v_16 ev_16 => ?_)
    replace hf := hf v_16 ev_16
    refine lv_isub hx hb dX8_book_72 ?_
    obtain ⟨h_S_17, hf⟩ := ckA_at hf
    refine sM_12 E hw h_S_17 dX8_book_73 (fun S_17 eS_17 H locs hw => ?_)
    replace hf := bnd_at hf eS_17
    obtain ⟨x5_18, ex5_18⟩ : ∃ y : Int32, y = x5 + (1) := ⟨_, rfl⟩
    replace hf := bnd_at hf ex5_18
    refine lv_iinc (v := x5_18) (lv' := [(5, .int (x5_18)), (0, .ref (a 0)), (4, .int (x4))]) hx hb dX8_book_74 hl (k := 2) rfl (by rw [ex5_18]; rfl) (by decide) rfl (fun ls hl => ?_)
    refine lv_goto (tgt := 33) hx hb dX8_book_77 (by decide) ?_
    exact hrec33 S_17 (x5_18) _ _ ls hf hw (lv_sub hl [1, 2, 0] rfl)
theorem k8_book_l33 {p : Program} {l : Launch} {e : Env} {s : State} {m : MethodId} {args : Array Value} {below : List Frame} {meth : Method} {c : Code} {D : va_G} {a : Nat → Nat} {g : Nat → ClassId} (E : EM p s m args meth c D a g cX8_book 6 RX8 (some .boolean)) {F : Nat}  (x4 : Int32) {k80 : SM → Option (Int32 × SM)} {out : (Int32 × SM)} (hk80 : ∀ (S : SM) (H : Heap) (locs : List Loc) (ls : Array Slot), k80 S = some out → WM D a g S s H locs → lv_has ls 6 [(0, .ref (a 0))] → W p l e (RM 6) s m args below meth c H locs 0 0 (MQ below (QM D a g (some (.int out.1)) out.2) args s 0 0 (AM a)) (F0 m 80 ls [])) : ∀ (n : Nat) (S : SM) (x5 : Int32) (H : Heap) (locs : List Loc) (ls : Array Slot), lpN (fun _ _ => none) (fun rec33 => k8_book_B33 F x4 rec33 k80) n S x5 = some out → WM D a g S s H locs → lv_has ls 6 [(0, .ref (a 0)), (4, .int (x4)), (5, .int (x5))] → W p l e (RM 6) s m args below meth c H locs 0 0 (MQ below (QM D a g (some (.int out.1)) out.2) args s 0 0 (AM a)) (F0 m 33 ls []) := by
  intro n
  induction n with
  | zero => intro S x5 H locs ls hf; cases (show (none : Option (Int32 × SM)) = some out from hf)
  | succ n ih => intro S x5 H locs ls hf hw hl; exact k8_book_b33 E (F := F) x4 ih hk80 S x5 H locs ls hf hw hl
set_option maxRecDepth 100000 in
set_option maxHeartbeats 4000000 in
theorem mk8_book {l : Launch} {D : va_G} {a : Nat → Nat} {g : Nat → ClassId} (hD : ∀ S, va_D (AM a) (wM a g S)) {F : Nat} {S : SM} {x1 x2 x3 x4 : Int32} {out : (Int32 × SM)} (hf : k8_book F S x1 x2 x3 x4 = some out) : Met l yX8_book (wsm yX8_book cX8_book 6 (some .boolean)) (RM 6) (PM D a g S [.ref (a 0), .int x1, .int x2, .int x3, .int x4]) (QM D a g (some (.int out.1)) out.2) 0 0 (AM a) := by
  refine Met.ofW (cc := cX8_book) (maxL := 6) (ret := (some .boolean)) (by decide) rfl ?_
  intro p e s m args below meth c s₁ B hml hv
  obtain ⟨rfl, hP, hK, hN⟩ := hv
  have hts := atoms_spec (ws := wsm yX8_book cX8_book 6 (some .boolean)) B.pre
  have E : EM p s m _ meth c D a g cX8_book 6 RX8 (some .boolean) := ⟨B.exec, B.bytes, B.returns, hml, findClass_of_methodNamed B.named, fun w h => hts w (List.mem_cons_of_mem _ h), hK, hN, hD, B.notSynchronized⟩
  have hx := E.hx
  have hb := E.hb
  have hw : WM D a g S s s.heap [] := ⟨hP, va_S.rf⟩
  have hl := lv_entry ([.ref (a 0), .int x1, .int x2, .int x3, .int x4]) (n := 6) (Nat.le_of_ble_eq_true rfl)
  rw [lg_entry_eq]
  generalize (lg_sl ([.ref (a 0), .int x1, .int x2, .int x3, .int x4]) ++ List.replicate (6 - (lg_sl ([.ref (a 0), .int x1, .int x2, .int x3, .int x4])).length) Slot.unset).toArray = ls at hl ⊢
  have hl : lv_has ls 6 [(0, .ref (a 0)), (1, .int (x1)), (2, .int (x2)), (3, .int (x3)), (4, .int (x4))] := hl
  show W p l e (RM 6) s m _ below meth c s.heap [] 0 0 (MQ below (QM D a g (some (.int out.1)) out.2) _ s 0 0 (AM a)) (F0 m 0 ls [])
  unfold k8_book at hf
  refine lv_iload hx hb dX8_book_0 (lv_at hl 4 rfl) ?_
  obtain ⟨r_2, h_1, hf⟩ := ob_at hf
  refine qk8_isCompany E hw (mk8_isCompany E.hD h_1) wl746 dX8_book_2 ⟨Nat.le_of_ble_eq_true rfl, Nat.le_of_ble_eq_true rfl⟩ hl.1 (Nat.le_of_ble_eq_true rfl) ⟨Nat.le_refl 0, Nat.le_refl 0⟩ (fun H locs hw => ?_)
  refine lv_if_eq (tgt := 28) hx hb dX8_book_5 (by decide) (fun c_4 => ?_) (fun c_4 => ?_)
  · replace hf := ite_t hf c_4
    refine lv_iconst hx hb dX8_book_28 ic_0 ?_
    cases hf
    exact retM_z E hw nb0 dX8_book_29
  · replace hf := ite_f hf c_4
    refine lv_aload_n hx hb dX8_book_8 rfl (lv_at hl 0 rfl) ?_
    refine gM_0_16 E hw (E.hts _ wl657) dX8_book_9 ?_
    refine lv_sipush hx hb dX8_book_12 sp_1000 ?_
    refine lv_icmp_eq (tgt := 28) hx hb dX8_book_15 (by decide) (fun c_5 => ?_) (fun c_5 => ?_)
    · replace hf := ite_t hf c_5
      refine lv_iconst hx hb dX8_book_28 ic_0 ?_
      cases hf
      exact retM_z E hw nb0 dX8_book_29
    · replace hf := ite_f hf c_5
      refine lv_aload_n hx hb dX8_book_18 rfl (lv_at hl 0 rfl) ?_
      refine lv_iload_n hx hb dX8_book_19 rfl (lv_at hl 1 rfl) ?_
      refine lv_iload_n hx hb dX8_book_20 rfl (lv_at hl 2 rfl) ?_
      refine lv_iload_n hx hb dX8_book_21 rfl (lv_at hl 3 rfl) ?_
      obtain ⟨r_7, S_8, h_6, hf⟩ := ob2_at hf
      refine qk8_parts E hw (mk8_parts E.hD h_6) wl766 dX8_book_22 ⟨Nat.le_of_ble_eq_true rfl, Nat.le_of_ble_eq_true rfl⟩ hl.1 (Nat.le_of_ble_eq_true rfl) ⟨Nat.le_refl 0, Nat.le_refl 0⟩ (fun H locs hw => ?_)
      refine lv_if_ne (tgt := 30) hx hb dX8_book_25 (by decide) (fun c_9 => ?_) (fun c_9 => ?_)
      · replace hf := ite_f hf c_9
        refine lv_iconst hx hb dX8_book_30 ic_0 ?_
        refine lv_topi (fun x5_10 ex5_10 => ?_)
        replace hf := bnd_at hf ex5_10
        refine lv_istore (lv' := [(5, .int (x5_10)), (0, .ref (a 0)), (1, .int (x1)), (2, .int (x2)), (3, .int (x3)), (4, .int (x4))]) hx hb dX8_book_31 hl (by decide) rfl (fun ls hl => ?_)
        refine k8_book_l33 E (x4) ?_ F S_8 (x5_10) _ _ ls hf hw (lv_sub hl [1, 5, 0] rfl)
        · intro S_19 H locs ls hf hw hl
          refine lv_aload_n hx hb dX8_book_80 rfl (lv_at hl 0 rfl) ?_
          refine lv_dup hx hb dX8_book_81 rfl ?_
          refine gM_0_16 E hw (E.hts _ wl657) dX8_book_82 ?_
          refine lv_iconst hx hb dX8_book_85 ic_1 ?_
          refine lv_iadd hx hb dX8_book_86 ?_
          refine pM_0_16 E hw (E.hts _ wl657) dX8_book_87 (fun S_20 eS_20 H locs hw => ?_)
          replace hf := bnd_at hf eS_20
          refine lv_iconst hx hb dX8_book_90 ic_1 ?_
          cases hf
          exact retM_z E hw nb1 dX8_book_91
      · replace hf := ite_t hf c_9
        refine lv_iconst hx hb dX8_book_28 ic_0 ?_
        cases hf
        exact retM_z E hw nb0 dX8_book_29
theorem qk8_book {p : Program} {l : Launch} {e : Env} {R : Room} {s : State} {m : MethodId} {args : Array Value} {below : List Frame} {meth : Method} {c : Code} {H : Heap} {locs : List Loc} {cells slots : Nat} {Q : State → Prop} {cc : ByteArray} {pc : Nat} {ls : Array Slot} {rest : List Value} {D : va_G} {a : Nat → Nat} {g : Nat → ClassId} {nL : Nat} {own : String} {ret : Option FieldType} {S S1 : SM} {k : Nat} {x1 x2 x3 x4 : Int32} {r : Int32} (E : EM p s m args meth c D a g cc nL own ret) (hw : WM D a g S s H locs) (hM : Met l yX8_book (wsm yX8_book cX8_book 6 (some .boolean)) (RM k) (PM D a g S [.ref (a 0), .int x1, .int x2, .int x3, .int x4]) (QM D a g (some (.int r)) S1) 0 0 (AM a)) {idx : Nat} (hlk : Cond.methodLink own idx yX8_book ∈ wd) (hdg : decode cc pc = .ok (.invokevirtual idx, 3)) (hR : k + 1 ≤ R.frames ∧ 8 + (6 + 11) + 64 * k ≤ R.locals) (hls : ls.size = nL) (hrest : (rest.map fun v => v.category).sum ≤ 8) (hcs : cells ≤ R.cells ∧ slots ≤ R.slots) (kk : ∀ (H1 : Heap) (locs1 : List Loc), WM D a g S1 s H1 locs1 → W p l e R s m args below meth c H1 locs1 cells slots Q (F0 m (pc + 3) ls (.int r :: rest))) : W p l e R s m args below meth c H locs cells slots Q (F0 m pc ls (.int x4 :: .int x3 :: .int x2 :: .int x1 :: .ref (a 0) :: rest)) :=
  callM_i hw (va_runV (As := [.int x1, .int x2, .int x3, .int x4]) (rest := rest) ⟨E.hx, E.hb, E.hml, E.hown, E.hts⟩ hM ⟨cb_of 4 E.hts wl775 wl44 hlk (by decide +kernel) hR, E.hts _ wl773, E.hts _ wl774⟩ ⟨PM_blind, va_recv E.hK hw.1 (ci := 8) (q0 := 0) rfl rfl, PM_pre E.hK E.hN hw.1⟩ rfl rfl hls rfl (lv_room hrest) hdg hcs) kk

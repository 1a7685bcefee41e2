/-! X7_isJunction -/
def k7_isJunction (F : Nat) (S : SS) (x0 : Int32) : Option Int32 :=
  if x0 < 0 then (some ((0 : Int32))) else (if ((12 : Int32)) ≤ x0 then (some ((0 : Int32))) else (some ((1 : Int32))))
set_option maxRecDepth 100000 in
set_option maxHeartbeats 4000000 in
theorem mk7_isJunction {l : Launch} {D : va_G} {a : Nat → Nat} {g : Nat → ClassId} (hD : ∀ S, va_D (AK a) (wK a g S)) {F : Nat} {S : SS} {x0 : Int32} {out : Int32} (hf : k7_isJunction F S x0 = some out) : Met l yX7_isJunction (wsm yX7_isJunction cX7_isJunction 1 (some .boolean)) (RM 1) (PK D a g S [.int x0]) (QK D a g (some (.int out)) S) 0 0 (AK a) := by
  refine Met.ofW (cc := cX7_isJunction) (maxL := 1) (ret := (some .boolean)) (by decide) rfl ?_
  intro p e s m args below meth c s₁ B hml hv
  obtain ⟨rfl, hP, hK, hN⟩ := hv
  have hts := atoms_spec (ws := wsm yX7_isJunction cX7_isJunction 1 (some .boolean)) B.pre
  have E : EK p s m _ meth c D a g cX7_isJunction 1 RX7 (some .boolean) := ⟨B.exec, B.bytes, B.returns, hml, findClass_of_methodNamed B.named, fun w h => hts w (List.mem_cons_of_mem _ h), hK, hN, hD, B.notSynchronized⟩
  have hx := E.hx
  have hb := E.hb
  have hw : WK D a g S s s.heap [] := ⟨hP, va_S.rf⟩
  have hl := lv_entry ([.int x0]) (n := 1) (Nat.le_of_ble_eq_true rfl)
  rw [lg_entry_eq]
  generalize (lg_sl ([.int x0]) ++ List.replicate (1 - (lg_sl ([.int x0])).length) Slot.unset).toArray = ls at hl ⊢
  have hl : lv_has ls 1 [(0, .int (x0))] := hl
  show W p l e (RM 1) s m _ below meth c s.heap [] 0 0 (MQ below (QK D a g (some (.int out)) S) _ s 0 0 (AK a)) (F0 m 0 ls [])
  unfold k7_isJunction at hf
  refine lv_iload_n hx hb dX7_isJunction_0 rfl (lv_at hl 0 rfl) ?_
  refine lv_if_lt (tgt := 14) hx hb dX7_isJunction_1 (by decide) (fun c_1 => ?_) (fun c_1 => ?_)
  · replace hf := ite_t hf c_1
    refine lv_iconst hx hb dX7_isJunction_14 ic_0 ?_
    cases hf
    exact retK_z E hw nb0 dX7_isJunction_15
  · replace hf := ite_f hf c_1
    refine lv_iload_n hx hb dX7_isJunction_4 rfl (lv_at hl 0 rfl) ?_
    refine lv_bipush hx hb dX7_isJunction_5 bp_12 ?_
    refine lv_icmp_ge (tgt := 14) hx hb dX7_isJunction_7 (by decide) (fun c_2 => ?_) (fun c_2 => ?_)
    · replace hf := ite_t hf c_2
      refine lv_iconst hx hb dX7_isJunction_14 ic_0 ?_
      cases hf
      exact retK_z E hw nb0 dX7_isJunction_15
    · replace hf := ite_f hf c_2
      refine lv_iconst hx hb dX7_isJunction_10 ic_1 ?_
      refine lv_goto (tgt := 15) hx hb dX7_isJunction_11 (by decide) ?_
      cases hf
      exact retK_z E hw nb1 dX7_isJunction_15
theorem qnk7_isJunction {p : Program} {l : Launch} {e : Env} {R : Room} {s : State} {m : MethodId} {args : Array Value} {below : List Frame} {meth : Method} {c : Code} {H : Heap} {locs : List Loc} {cells slots : Nat} {Q : State → Prop} {cc : ByteArray} {pc : Nat} {ls : Array Slot} {rest : List Value} {D : va_G} {a : Nat → Nat} {g : Nat → ClassId} {nL : Nat} {own : String} {ret : Option FieldType} {S S1 : SS} {k : Nat} {x0 : Int32} {r : Int32} (E : EK p s m args meth c D a g cc nL own ret) (hw : WK D a g S s H locs) (hM : Met l yX7_isJunction (wsm yX7_isJunction cX7_isJunction 1 (some .boolean)) (RM k) (PK D a g S [.int x0]) (QK D a g (some (.int r)) S1) 0 0 (AK a)) {idx : Nat} {host : String} (hlk : Cond.methodLinkNest own idx yX7_isJunction host ∈ nestW) (hdg : decode cc pc = .ok (.invokestatic idx, 3)) (hR : k + 1 ≤ R.frames ∧ 8 + (1 + 11) + 64 * k ≤ R.locals) (hls : ls.size = nL) (hrest : (rest.map fun v => v.category).sum ≤ 8) (hcs : cells ≤ R.cells ∧ slots ≤ R.slots) (kk : ∀ (H1 : Heap) (locs1 : List Loc), WK D a g S1 s H1 locs1 → W p l e R s m args below meth c H1 locs1 cells slots Q (F0 m (pc + 3) ls (.int r :: rest))) : W p l e R s m args below meth c H locs cells slots Q (F0 m pc ls (.int x0 :: rest)) :=
  callK_i hw (va_runSN (As := [.int x0]) (rest := rest) ⟨E.hx, E.hb, E.hml, E.hown, E.hts⟩ hM ⟨cn_of 1 E.hts wl313 wl35 (E.hN.at hlk) (by decide +kernel) hR, E.hts _ wl312, trivial⟩ ⟨PK_blind, PK_pre E.hK E.hN hw.1⟩ rfl rfl hls rfl (lv_room hrest) hdg hcs) kk
/-! X7_isCompany -/
def k7_isCompany (F : Nat) (S : SS) (x0 : Int32) : Option Int32 :=
  if x0 < 0 then (some ((0 : Int32))) else (if ((8 : Int32)) ≤ x0 then (some ((0 : Int32))) else (some ((1 : Int32))))
set_option maxRecDepth 100000 in
set_option maxHeartbeats 4000000 in
theorem mk7_isCompany {l : Launch} {D : va_G} {a : Nat → Nat} {g : Nat → ClassId} (hD : ∀ S, va_D (AK a) (wK a g S)) {F : Nat} {S : SS} {x0 : Int32} {out : Int32} (hf : k7_isCompany F S x0 = some out) : Met l yX7_isCompany (wsm yX7_isCompany cX7_isCompany 1 (some .boolean)) (RM 1) (PK D a g S [.int x0]) (QK D a g (some (.int out)) S) 0 0 (AK a) := by
  refine Met.ofW (cc := cX7_isCompany) (maxL := 1) (ret := (some .boolean)) (by decide) rfl ?_
  intro p e s m args below meth c s₁ B hml hv
  obtain ⟨rfl, hP, hK, hN⟩ := hv
  have hts := atoms_spec (ws := wsm yX7_isCompany cX7_isCompany 1 (some .boolean)) B.pre
  have E : EK p s m _ meth c D a g cX7_isCompany 1 RX7 (some .boolean) := ⟨B.exec, B.bytes, B.returns, hml, findClass_of_methodNamed B.named, fun w h => hts w (List.mem_cons_of_mem _ h), hK, hN, hD, B.notSynchronized⟩
  have hx := E.hx
  have hb := E.hb
  have hw : WK D a g S s s.heap [] := ⟨hP, va_S.rf⟩
  have hl := lv_entry ([.int x0]) (n := 1) (Nat.le_of_ble_eq_true rfl)
  rw [lg_entry_eq]
  generalize (lg_sl ([.int x0]) ++ List.replicate (1 - (lg_sl ([.int x0])).length) Slot.unset).toArray = ls at hl ⊢
  have hl : lv_has ls 1 [(0, .int (x0))] := hl
  show W p l e (RM 1) s m _ below meth c s.heap [] 0 0 (MQ below (QK D a g (some (.int out)) S) _ s 0 0 (AK a)) (F0 m 0 ls [])
  unfold k7_isCompany at hf
  refine lv_iload_n hx hb dX7_isCompany_0 rfl (lv_at hl 0 rfl) ?_
  refine lv_if_lt (tgt := 14) hx hb dX7_isCompany_1 (by decide) (fun c_1 => ?_) (fun c_1 => ?_)
  · replace hf := ite_t hf c_1
    refine lv_iconst hx hb dX7_isCompany_14 ic_0 ?_
    cases hf
    exact retK_z E hw nb0 dX7_isCompany_15
  · replace hf := ite_f hf c_1
    refine lv_iload_n hx hb dX7_isCompany_4 rfl (lv_at hl 0 rfl) ?_
    refine lv_bipush hx hb dX7_isCompany_5 bp_8 ?_
    refine lv_icmp_ge (tgt := 14) hx hb dX7_isCompany_7 (by decide) (fun c_2 => ?_) (fun c_2 => ?_)
    · replace hf := ite_t hf c_2
      refine lv_iconst hx hb dX7_isCompany_14 ic_0 ?_
      cases hf
      exact retK_z E hw nb0 dX7_isCompany_15
    · replace hf := ite_f hf c_2
      refine lv_iconst hx hb dX7_isCompany_10 ic_1 ?_
      refine lv_goto (tgt := 15) hx hb dX7_isCompany_11 (by decide) ?_
      cases hf
      exact retK_z E hw nb1 dX7_isCompany_15
theorem qk7_isCompany {p : Program} {l : Launch} {e : Env} {R : Room} {s : State} {m : MethodId} {args : Array Value} {below : List Frame} {meth : Method} {c : Code} {H : Heap} {locs : List Loc} {cells slots : Nat} {Q : State → Prop} {cc : ByteArray} {pc : Nat} {ls : Array Slot} {rest : List Value} {D : va_G} {a : Nat → Nat} {g : Nat → ClassId} {nL : Nat} {own : String} {ret : Option FieldType} {S S1 : SS} {k : Nat} {x0 : Int32} {r : Int32} (E : EK p s m args meth c D a g cc nL own ret) (hw : WK D a g S s H locs) (hM : Met l yX7_isCompany (wsm yX7_isCompany cX7_isCompany 1 (some .boolean)) (RM k) (PK D a g S [.int x0]) (QK D a g (some (.int r)) S1) 0 0 (AK a)) {idx : Nat} (hlk : Cond.methodLink own idx yX7_isCompany ∈ wd) (hdg : decode cc pc = .ok (.invokestatic idx, 3)) (hR : k + 1 ≤ R.frames ∧ 8 + (1 + 11) + 64 * k ≤ R.locals) (hls : ls.size = nL) (hrest : (rest.map fun v => v.category).sum ≤ 8) (hcs : cells ≤ R.cells ∧ slots ≤ R.slots) (kk : ∀ (H1 : Heap) (locs1 : List Loc), WK D a g S1 s H1 locs1 → W p l e R s m args below meth c H1 locs1 cells slots Q (F0 m (pc + 3) ls (.int r :: rest))) : W p l e R s m args below meth c H locs cells slots Q (F0 m pc ls (.int x0 :: rest)) :=
  callK_i hw (va_runS (As := [.int x0]) (rest := rest) ⟨E.hx, E.hb, E.hml, E.hown, E.hts⟩ hM ⟨cb_of 1 E.hts wl316 wl35 hlk (by decide +kernel) hR, E.hts _ wl315⟩ ⟨PK_blind, PK_pre E.hK E.hN hw.1⟩ rfl rfl hls rfl (lv_room hrest) hdg hcs) kk
theorem qnk7_isCompany {p : Program} {l : Launch} {e : Env} {R : Room} {s : State} {m : MethodId} {args : Array Value} {below : List Frame} {meth : Method} {c : Code} {H : Heap} {locs : List Loc} {cells slots : Nat} {Q : State → Prop} {cc : ByteArray} {pc : Nat} {ls : Array Slot} {rest : List Value} {D : va_G} {a : Nat → Nat} {g : Nat → ClassId} {nL : Nat} {own : String} {ret : Option FieldType} {S S1 : SS} {k : Nat} {x0 : Int32} {r : Int32} (E : EK p s m args meth c D a g cc nL own ret) (hw : WK D a g S s H locs) (hM : Met l yX7_isCompany (wsm yX7_isCompany cX7_isCompany 1 (some .boolean)) (RM k) (PK D a g S [.int x0]) (QK D a g (some (.int r)) S1) 0 0 (AK a)) {idx : Nat} {host : String} (hlk : Cond.methodLinkNest own idx yX7_isCompany host ∈ nestW) (hdg : decode cc pc = .ok (.invokestatic idx, 3)) (hR : k + 1 ≤ R.frames ∧ 8 + (1 + 11) + 64 * k ≤ R.locals) (hls : ls.size = nL) (hrest : (rest.map fun v => v.category).sum ≤ 8) (hcs : cells ≤ R.cells ∧ slots ≤ R.slots) (kk : ∀ (H1 : Heap) (locs1 : List Loc), WK D a g S1 s H1 locs1 → W p l e R s m args below meth c H1 locs1 cells slots Q (F0 m (pc + 3) ls (.int r :: rest))) : W p l e R s m args below meth c H locs cells slots Q (F0 m pc ls (.int x0 :: rest)) :=
  callK_i hw (va_runSN (As := [.int x0]) (rest := rest) ⟨E.hx, E.hb, E.hml, E.hown, E.hts⟩ hM ⟨cn_of 1 E.hts wl316 wl35 (E.hN.at hlk) (by decide +kernel) hR, E.hts _ wl315, trivial⟩ ⟨PK_blind, PK_pre E.hK E.hN hw.1⟩ rfl rfl hls rfl (lv_room hrest) hdg hcs) kk
/-! X7_isWithin -/
def k7_isWithin (F : Nat) (S : SS) (x0 : Int32) (x1 : Int32) (x2 : Int32) : Option Int32 :=
  if x0 < x1 then (some ((0 : Int32))) else (if x2 < x0 then (some ((0 : Int32))) else (some ((1 : Int32))))
set_option maxRecDepth 100000 in
set_option maxHeartbeats 4000000 in
theorem mk7_isWithin {l : Launch} {D : va_G} {a : Nat → Nat} {g : Nat → ClassId} (hD : ∀ S, va_D (AK a) (wK a g S)) {F : Nat} {S : SS} {x0 x1 x2 : Int32} {out : Int32} (hf : k7_isWithin F S x0 x1 x2 = some out) : Met l yX7_isWithin (wsm yX7_isWithin cX7_isWithin 3 (some .boolean)) (RM 1) (PK D a g S [.int x0, .int x1, .int x2]) (QK D a g (some (.int out)) S) 0 0 (AK a) := by
  refine Met.ofW (cc := cX7_isWithin) (maxL := 3) (ret := (some .boolean)) (by decide) rfl ?_
  intro p e s m args below meth c s₁ B hml hv
  obtain ⟨rfl, hP, hK, hN⟩ := hv
  have hts := atoms_spec (ws := wsm yX7_isWithin cX7_isWithin 3 (some .boolean)) B.pre
  have E : EK p s m _ meth c D a g cX7_isWithin 3 RX7 (some .boolean) := ⟨B.exec, B.bytes, B.returns, hml, findClass_of_methodNamed B.named, fun w h => hts w (List.mem_cons_of_mem _ h), hK, hN, hD, B.notSynchronized⟩
  have hx := E.hx
  have hb := E.hb
  have hw : WK D a g S s s.heap [] := ⟨hP, va_S.rf⟩
  have hl := lv_entry ([.int x0, .int x1, .int x2]) (n := 3) (Nat.le_of_ble_eq_true rfl)
  rw [lg_entry_eq]
  generalize (lg_sl ([.int x0, .int x1, .int x2]) ++ List.replicate (3 - (lg_sl ([.int x0, .int x1, .int x2])).length) Slot.unset).toArray = ls at hl ⊢
  have hl : lv_has ls 3 [(0, .int (x0)), (1, .int (x1)), (2, .int (x2))] := hl
  show W p l e (RM 1) s m _ below meth c s.heap [] 0 0 (MQ below (QK D a g (some (.int out)) S) _ s 0 0 (AK a)) (F0 m 0 ls [])
  unfold k7_isWithin at hf
  refine lv_iload_n hx hb dX7_isWithin_0 rfl (lv_at hl 0 rfl) ?_
  refine lv_iload_n hx hb dX7_isWithin_1 rfl (lv_at hl 1 rfl) ?_
  refine lv_icmp_lt (tgt := 14) hx hb dX7_isWithin_2 (by decide) (fun c_1 => ?_) (fun c_1 => ?_)
  · replace hf := ite_t hf c_1
    refine lv_iconst hx hb dX7_isWithin_14 ic_0 ?_
    cases hf
    exact retK_z E hw nb0 dX7_isWithin_15
  · replace hf := ite_f hf c_1
    refine lv_iload_n hx hb dX7_isWithin_5 rfl (lv_at hl 0 rfl) ?_
    refine lv_iload_n hx hb dX7_isWithin_6 rfl (lv_at hl 2 rfl) ?_
    refine lv_icmp_gt (tgt := 14) hx hb dX7_isWithin_7 (by decide) (fun c_2 => ?_) (fun c_2 => ?_)
    · replace hf := ite_t hf c_2
      refine lv_iconst hx hb dX7_isWithin_14 ic_0 ?_
      cases hf
      exact retK_z E hw nb0 dX7_isWithin_15
    · replace hf := ite_f hf c_2
      refine lv_iconst hx hb dX7_isWithin_10 ic_1 ?_
      refine lv_goto (tgt := 15) hx hb dX7_isWithin_11 (by decide) ?_
      cases hf
      exact retK_z E hw nb1 dX7_isWithin_15
theorem qk7_isWithin {p : Program} {l : Launch} {e : Env} {R : Room} {s : State} {m : MethodId} {args : Array Value} {below : List Frame} {meth : Method} {c : Code} {H : Heap} {locs : List Loc} {cells slots : Nat} {Q : State → Prop} {cc : ByteArray} {pc : Nat} {ls : Array Slot} {rest : List Value} {D : va_G} {a : Nat → Nat} {g : Nat → ClassId} {nL : Nat} {own : String} {ret : Option FieldType} {S S1 : SS} {k : Nat} {x0 x1 x2 : Int32} {r : Int32} (E : EK p s m args meth c D a g cc nL own ret) (hw : WK D a g S s H locs) (hM : Met l yX7_isWithin (wsm yX7_isWithin cX7_isWithin 3 (some .boolean)) (RM k) (PK D a g S [.int x0, .int x1, .int x2]) (QK D a g (some (.int r)) S1) 0 0 (AK a)) {idx : Nat} (hlk : Cond.methodLink own idx yX7_isWithin ∈ wd) (hdg : decode cc pc = .ok (.invokestatic idx, 3)) (hR : k + 1 ≤ R.frames ∧ 8 + (3 + 11) + 64 * k ≤ R.locals) (hls : ls.size = nL) (hrest : (rest.map fun v => v.category).sum ≤ 8) (hcs : cells ≤ R.cells ∧ slots ≤ R.slots) (kk : ∀ (H1 : Heap) (locs1 : List Loc), WK D a g S1 s H1 locs1 → W p l e R s m args below meth c H1 locs1 cells slots Q (F0 m (pc + 3) ls (.int r :: rest))) : W p l e R s m args below meth c H locs cells slots Q (F0 m pc ls (.int x2 :: .int x1 :: .int x0 :: rest)) :=
  callK_i hw (va_runS (As := [.int x0, .int x1, .int x2]) (rest := rest) ⟨E.hx, E.hb, E.hml, E.hown, E.hts⟩ hM ⟨cb_of 3 E.hts wl319 wl35 hlk (by decide +kernel) hR, E.hts _ wl318⟩ ⟨PK_blind, PK_pre E.hK E.hN hw.1⟩ rfl rfl hls rfl (lv_room hrest) hdg hcs) kk
theorem qnk7_isWithin {p : Program} {l : Launch} {e : Env} {R : Room} {s : State} {m : MethodId} {args : Array Value} {below : List Frame} {meth : Method} {c : Code} {H : Heap} {locs : List Loc} {cells slots : Nat} {Q : State → Prop} {cc : ByteArray} {pc : Nat} {ls : Array Slot} {rest : List Value} {D : va_G} {a : Nat → Nat} {g : Nat → ClassId} {nL : Nat} {own : String} {ret : Option FieldType} {S S1 : SS} {k : Nat} {x0 x1 x2 : Int32} {r : Int32} (E : EK p s m args meth c D a g cc nL own ret) (hw : WK D a g S s H locs) (hM : Met l yX7_isWithin (wsm yX7_isWithin cX7_isWithin 3 (some .boolean)) (RM k) (PK D a g S [.int x0, .int x1, .int x2]) (QK D a g (some (.int r)) S1) 0 0 (AK a)) {idx : Nat} {host : String} (hlk : Cond.methodLinkNest own idx yX7_isWithin host ∈ nestW) (hdg : decode cc pc = .ok (.invokestatic idx, 3)) (hR : k + 1 ≤ R.frames ∧ 8 + (3 + 11) + 64 * k ≤ R.locals) (hls : ls.size = nL) (hrest : (rest.map fun v => v.category).sum ≤ 8) (hcs : cells ≤ R.cells ∧ slots ≤ R.slots) (kk : ∀ (H1 : Heap) (locs1 : List Loc), WK D a g S1 s H1 locs1 → W p l e R s m args below meth c H1 locs1 cells slots Q (F0 m (pc + 3) ls (.int r :: rest))) : W p l e R s m args below meth c H locs cells slots Q (F0 m pc ls (.int x2 :: .int x1 :: .int x0 :: rest)) :=
  callK_i hw (va_runSN (As := [.int x0, .int x1, .int x2]) (rest := rest) ⟨E.hx, E.hb, E.hml, E.hown, E.hts⟩ hM ⟨cn_of 3 E.hts wl319 wl35 (E.hN.at hlk) (by decide +kernel) hR, E.hts _ wl318, trivial⟩ ⟨PK_blind, PK_pre E.hK E.hN hw.1⟩ rfl rfl hls rfl (lv_room hrest) hdg hcs) kk
/-! X4_shorten -/
def k4_shorten_B13 (F : Nat) (x1 : Int32) (x2 : Int32) (x3 : Int32) (x4 : Int32) (rec13 : SS → Int32 → Option SS) (k84 : SS → Option SS) (S : SS) (x5 : Int32) : Option SS :=
  if ((12 : Int32)) ≤ x5 then (k84 S) else ((rdA 144 (S 12) ((x4 * ((12 : Int32))) + x1)).bind fun v_5 => (rdA 144 (S 12) ((x2 * ((12 : Int32))) + x5)).bind fun v_6 => bnd ((v_5 + x3) + v_6) fun x6_7 => bnd ((x4 * ((12 : Int32))) + x5) fun x7_8 => (rdA 144 (S 12) x7_8).bind fun v_9 => (ckA 144 x7_8).bind fun _ => bnd (st S 12 (Int32.toNatClampNeg x7_8) (if x6_7 < v_9 then x6_7 else v_9)) fun S_10 => bnd (x5 + (1)) fun x5_11 => rec13 S_10 (x5_11))
def k4_shorten_B3 (F : Nat) (x1 : Int32) (x2 : Int32) (x3 : Int32) (rec3 : SS → Int32 → Option SS) (S : SS) (x4 : Int32) : Option SS :=
  if ((12 : Int32)) ≤ x4 then (some S) else (bnd ((0 : Int32)) fun x5_3 => lpN (fun _ _ => none) (fun rec13 => k4_shorten_B13 F (x1) (x2) (x3) (x4) rec13 (fun S_12 => bnd (x4 + (1)) fun x4_13 => rec3 S_12 (x4_13))) F S (x5_3))
def k4_shorten (F : Nat) (S : SS) (x1 : Int32) (x2 : Int32) (x3 : Int32) : Option SS :=
  bnd ((0 : Int32)) fun x4_1 => lpN (fun _ _ => none) (fun rec3 => k4_shorten_B3 F (x1) (x2) (x3) rec3 ) F S (x4_1)
set_option maxRecDepth 100000 in
set_option maxHeartbeats 4000000 in
theorem k4_shorten_b13 {p : Program} {l : Launch} {e : Env} {s : State} {m : MethodId} {args : Array Value} {below : List Frame} {meth : Method} {c : Code} {D : va_G} {a : Nat → Nat} {g : Nat → ClassId} (E : EK p s m args meth c D a g cX4_shorten 8 RX4 none) {F : Nat}  (x1 : Int32) (x2 : Int32) (x3 : Int32) (x4 : Int32) {rec13 : SS → Int32 → Option SS} {k84 : SS → Option SS} {out : SS} (hrec13 : ∀ (S : SS) (x5 : Int32) (H : Heap) (locs : List Loc) (ls : Array Slot), rec13 S x5 = some out → WK D a g S s H locs → lv_has ls 8 [(0, .ref (a 1)), (1, .int (x1)), (2, .int (x2)), (3, .int (x3)), (4, .int (x4)), (5, .int (x5))] → W p l e (RM 1) s m args below meth c H locs 0 0 (MQ below (QK D a g none out) args s 0 0 (AK a)) (F0 m 13 ls [])) (hk84 : ∀ (S : SS) (H : Heap) (locs : List Loc) (ls : Array Slot), k84 S = some out → WK D a g S s H locs → lv_has ls 8 [(0, .ref (a 1)), (1, .int (x1)), (2, .int (x2)), (3, .int (x3)), (4, .int (x4))] → W p l e (RM 1) s m args below meth c H locs 0 0 (MQ below (QK D a g none out) args s 0 0 (AK a)) (F0 m 84 ls [])) (S : SS) (x5 : Int32) (H : Heap) (locs : List Loc) (ls : Array Slot) (hf : k4_shorten_B13 F x1 x2 x3 x4 rec13 k84 S x5 = some out) (hw : WK D a g S s H locs) (hl : lv_has ls 8 [(0, .ref (a 1)), (1, .int (x1)), (2, .int (x2)), (3, .int (x3)), (4, .int (x4)), (5, .int (x5))]) : W p l e (RM 1) s m args below meth c H locs 0 0 (MQ below (QK D a g none out) args s 0 0 (AK a)) (F0 m 13 ls []) := by
  have hx := E.hx
  have hb := E.hb
  unfold k4_shorten_B13 at hf
  refine lv_iload hx hb dX4_shorten_13 (lv_at hl 5 rfl) ?_
  refine lv_bipush hx hb dX4_shorten_15 bp_12 ?_
  refine lv_icmp_ge (tgt := 84) hx hb dX4_shorten_17 (by decide) (fun c_4 => ?_) (fun c_4 => ?_)
  · replace hf := ite_t hf c_4
    exact hk84 S _ _ ls hf hw (lv_sub hl [0, 1, 2, 3, 4] rfl)
  · replace hf := ite_f hf c_4
    refine lv_aload_n hx hb dX4_shorten_20 rfl (lv_at hl 0 rfl) ?_
    refine gK_1_4 E hw (E.hts _ wl72) dX4_shorten_21 ?_
    refine lv_iload hx hb dX4_shorten_24 (lv_at hl 4 rfl) ?_
    refine lv_bipush hx hb dX4_shorten_26 bp_12 ?_
    refine lv_imul hx hb dX4_shorten_28 ?_
    refine lv_iload_n hx hb dX4_shorten_29 rfl (lv_at hl 1 rfl) ?_
    refine lv_iadd hx hb dX4_shorten_30 ?_
    obtain ⟨h_v_5, hf⟩ := rdA_at hf
    refine lK_12 E hw h_v_5 dX4_shorten_31 (fun v_5 ev_5 => ?_)
    replace hf := hf v_5 ev_5
    refine lv_iload_n hx hb dX4_shorten_32 rfl (lv_at hl 3 rfl) ?_
    refine lv_iadd hx hb dX4_shorten_33 ?_
    refine lv_aload_n hx hb dX4_shorten_34 rfl (lv_at hl 0 rfl) ?_
    refine gK_1_4 E hw (E.hts _ wl72) dX4_shorten_35 ?_
    refine lv_iload_n hx hb dX4_shorten_38 rfl (lv_at hl 2 rfl) ?_
    refine lv_bipush hx hb dX4_shorten_39 bp_12 ?_
    refine lv_imul hx hb dX4_shorten_41 ?_
    refine lv_iload hx hb dX4_shorten_42 (lv_at hl 5 rfl) ?_
    refine lv_iadd hx hb dX4_shorten_44 ?_
    obtain ⟨h_v_6, hf⟩ := rdA_at hf
    refine lK_12 E hw h_v_6 dX4_shorten_45 (fun v_6 ev_6 => ?_)
    replace hf := hf v_6 ev_6
    refine lv_iadd hx hb dX4_shorten_46 ?_
    refine lv_topi (fun x6_7 ex6_7 => ?_)
    replace hf := bnd_at hf ex6_7
    refine lv_istore (lv' := [(6, .int (x6_7)), (0, .ref (a 1)), (1, .int (x1)), (2, .int (x2)), (3, .int (x3)), (4, .int (x4)), (5, .int (x5))]) hx hb dX4_shorten_47 hl (by decide) rfl (fun ls hl => ?_)
    refine lv_iload hx hb dX4_shorten_49 (lv_at hl 5 rfl) ?_
    refine lv_bipush hx hb dX4_shorten_51 bp_12 ?_
    refine lv_imul hx hb dX4_shorten_53 ?_
    refine lv_iload hx hb dX4_shorten_54 (lv_at hl 6 rfl) ?_
    refine lv_iadd hx hb dX4_shorten_56 ?_
    refine lv_topi (fun x7_8 ex7_8 => ?_)
    replace hf := bnd_at hf ex7_8
    refine lv_istore (lv' := [(7, .int (x7_8)), (6, .int (x6_7)), (0, .ref (a 1)), (1, .int (x1)), (2, .int (x2)), (3, .int (x3)), (4, .int (x4)), (5, .int (x5))]) hx hb dX4_shorten_57 hl (by decide) rfl (fun ls hl => ?_)
    refine lv_aload_n hx hb dX4_shorten_59 rfl (lv_at hl 2 rfl) ?_
    refine gK_1_4 E hw (E.hts _ wl72) dX4_shorten_60 ?_
    refine lv_iload hx hb dX4_shorten_63 (lv_at hl 0 rfl) ?_
    refine lv_aload_n hx hb dX4_shorten_65 rfl (lv_at hl 2 rfl) ?_
    refine gK_1_4 E hw (E.hts _ wl72) dX4_shorten_66 ?_
    refine lv_iload hx hb dX4_shorten_69 (lv_at hl 0 rfl) ?_
    obtain ⟨h_v_9, hf⟩ := rdA_at hf
    refine lK_12 E hw h_v_9 dX4_shorten_71 (fun v_9 ev_9 => ?_)
    replace hf := hf v_9 ev_9
    refine lv_iload hx hb dX4_shorten_72 (lv_at hl 1 rfl) ?_
    refine va_mmin hx hb (by rw [E.hml]; exact hl.1.symm) E.hown (E.hts _ wl324) (E.hts _ wl325) (E.hts _ wl45) (E.hts _ wl326) (Nat.le_of_ble_eq_true rfl) (Nat.le_of_ble_eq_true rfl) (Nat.le_refl 0) (Nat.le_refl 0) dX4_shorten_74 ?_
    obtain ⟨h_S_10, hf⟩ := ckA_at hf
    refine sK_12 E hw h_S_10 dX4_shorten_77 (fun S_10 eS_10 H locs hw => ?_)
    replace hf := bnd_at hf eS_10
    obtain ⟨x5_11, ex5_11⟩ : ∃ y : Int32, y = x5 + (1) := ⟨_, rfl⟩
    replace hf := bnd_at hf ex5_11
    refine lv_iinc (v := x5_11) (lv' := [(5, .int (x5_11)), (7, .int (x7_8)), (6, .int (x6_7)), (0, .ref (a 1)), (1, .int (x1)), (2, .int (x2)), (3, .int (x3)), (4, .int (x4))]) hx hb dX4_shorten_78 hl (k := 7) rfl (by rw [ex5_11]; rfl) (by decide) rfl (fun ls hl => ?_)
    refine lv_goto (tgt := 13) hx hb dX4_shorten_81 (by decide) ?_
    exact hrec13 S_10 (x5_11) _ _ ls hf hw (lv_sub hl [3, 4, 5, 6, 7, 0] rfl)
theorem k4_shorten_l13 {p : Program} {l : Launch} {e : Env} {s : State} {m : MethodId} {args : Array Value} {below : List Frame} {meth : Method} {c : Code} {D : va_G} {a : Nat → Nat} {g : Nat → ClassId} (E : EK p s m args meth c D a g cX4_shorten 8 RX4 none) {F : Nat}  (x1 : Int32) (x2 : Int32) (x3 : Int32) (x4 : Int32) {k84 : SS → Option SS} {out : SS} (hk84 : ∀ (S : SS) (H : Heap) (locs : List Loc) (ls : Array Slot), k84 S = some out → WK D a g S s H locs → lv_has ls 8 [(0, .ref (a 1)), (1, .int (x1)), (2, .int (x2)), (3, .int (x3)), (4, .int (x4))] → W p l e (RM 1) s m args below meth c H locs 0 0 (MQ below (QK D a g none out) args s 0 0 (AK a)) (F0 m 84 ls [])) : ∀ (n : Nat) (S : SS) (x5 : Int32) (H : Heap) (locs : List Loc) (ls : Array Slot), lpN (fun _ _ => none) (fun rec13 => k4_shorten_B13 F x1 x2 x3 x4 rec13 k84) n S x5 = some out → WK D a g S s H locs → lv_has ls 8 [(0, .ref (a 1)), (1, .int (x1)), (2, .int (x2)), (3, .int (x3)), (4, .int (x4)), (5, .int (x5))] → W p l e (RM 1) s m args below meth c H locs 0 0 (MQ below (QK D a g none out) args s 0 0 (AK a)) (F0 m 13 ls []) := by
  intro n
  induction n with
  | zero => intro S x5 H locs ls hf; cases (show (none : Option SS) = some out from hf)
  | succ n ih => intro S x5 H locs ls hf hw hl; exact k4_shorten_b13 E (F := F) x1 x2 x3 x4 ih hk84 S x5 H locs ls hf hw hl
set_option maxRecDepth 100000 in
set_option maxHeartbeats 4000000 in
theorem k4_shorten_b3 {p : Program} {l : Launch} {e : Env} {s : State} {m : MethodId} {args : Array Value} {below : List Frame} {meth : Method} {c : Code} {D : va_G} {a : Nat → Nat} {g : Nat → ClassId} (E : EK p s m args meth c D a g cX4_shorten 8 RX4 none) {F : Nat}  (x1 : Int32) (x2 : Int32) (x3 : Int32) {rec3 : SS → Int32 → Option SS} {out : SS} (hrec3 : ∀ (S : SS) (x4 : Int32) (H : Heap) (locs : List Loc) (ls : Array Slot), rec3 S x4 = some out → WK D a g S s H locs → lv_has ls 8 [(0, .ref (a 1)), (1, .int (x1)), (2, .int (x2)), (3, .int (x3)), (4, .int (x4))] → W p l e (RM 1) s m args below meth c H locs 0 0 (MQ below (QK D a g none out) args s 0 0 (AK a)) (F0 m 3 ls []))  (S : SS) (x4 : Int32) (H : Heap) (locs : List Loc) (ls : Array Slot) (hf : k4_shorten_B3 F x1 x2 x3 rec3 S x4 = some out) (hw : WK D a g S s H locs) (hl : lv_has ls 8 [(0, .ref (a 1)), (1, .int (x1)), (2, .int (x2)), (3, .int (x3)), (4, .int (x4))]) : W p l e (RM 1) s m args below meth c H locs 0 0 (MQ below (QK D a g none out) args s 0 0 (AK a)) (F0 m 3 ls []) := by
  have hx := E.hx
  have hb := E.hb
  unfold k4_shorten_B3 at hf
  refine lv_iload hx hb dX4_shorten_3 (lv_at hl 4 rfl) ?_
  refine lv_bipush hx hb dX4_shorten_5 bp_12 ?_
  refine lv_icmp_ge (tgt := 90) hx hb dX4_shorten_7 (by decide) (fun c_2 => ?_) (fun c_2 => ?_)
  · replace hf := ite_t hf c_2
    cases hf
    exact retK_v E hw dX4_shorten_90
  · replace hf := ite_f hf c_2
    refine lv_iconst hx hb dX4_shorten_10 ic_0 ?_
    refine lv_topi (fun x5_3 ex5_3 => ?_)
    replace hf := bnd_at hf ex5_3
    refine lv_istore (lv' := [(5, .int (x5_3)), (0, .ref (a 1)), (1, .int (x1)), (2, .int (x2)), (3, .int (x3)), (4, .int (x4))]) hx hb dX4_shorten_11 hl (by decide) rfl (fun ls hl => ?_)
    refine k4_shorten_l13 E (x1) (x2) (x3) (x4) ?_ F S (x5_3) _ _ ls hf hw (lv_sub hl [1, 2, 3, 4, 5, 0] rfl)
    · intro S_12 H locs ls hf hw hl
      obtain ⟨x4_13, ex4_13⟩ : ∃ y : Int32, y = x4 + (1) := ⟨_, rfl⟩
      replace hf := bnd_at hf ex4_13
      refine lv_iinc (v := x4_13) (lv' := [(4, .int (x4_13)), (0, .ref (a 1)), (1, .int (x1)), (2, .int (x2)), (3, .int (x3))]) hx hb dX4_shorten_84 hl (k := 4) rfl (by rw [ex4_13]; rfl) (by decide) rfl (fun ls hl => ?_)
      refine lv_goto (tgt := 3) hx hb dX4_shorten_87 (by decide) ?_
      exact hrec3 S_12 (x4_13) _ _ ls hf hw (lv_sub hl [1, 2, 3, 4, 0] rfl)
theorem k4_shorten_l3 {p : Program} {l : Launch} {e : Env} {s : State} {m : MethodId} {args : Array Value} {below : List Frame} {meth : Method} {c : Code} {D : va_G} {a : Nat → Nat} {g : Nat → ClassId} (E : EK p s m args meth c D a g cX4_shorten 8 RX4 none) {F : Nat}  (x1 : Int32) (x2 : Int32) (x3 : Int32) {out : SS}  : ∀ (n : Nat) (S : SS) (x4 : Int32) (H : Heap) (locs : List Loc) (ls : Array Slot), lpN (fun _ _ => none) (fun rec3 => k4_shorten_B3 F x1 x2 x3 rec3) n S x4 = some out → WK D a g S s H locs → lv_has ls 8 [(0, .ref (a 1)), (1, .int (x1)), (2, .int (x2)), (3, .int (x3)), (4, .int (x4))] → W p l e (RM 1) s m args below meth c H locs 0 0 (MQ below (QK D a g none out) args s 0 0 (AK a)) (F0 m 3 ls []) := by
  intro n
  induction n with
  | zero => intro S x4 H locs ls hf; cases (show (none : Option SS) = some out from hf)
  | succ n ih => intro S x4 H locs ls hf hw hl; exact k4_shorten_b3 E (F := F) x1 x2 x3 ih S x4 H locs ls hf hw hl
set_option maxRecDepth 100000 in
set_option maxHeartbeats 4000000 in
theorem mk4_shorten {l : Launch} {D : va_G} {a : Nat → Nat} {g : Nat → ClassId} (hD : ∀ S, va_D (AK a) (wK a g S)) {F : Nat} {S : SS} {x1 x2 x3 : Int32} {out : SS} (hf : k4_shorten F S x1 x2 x3 = some out) : Met l yX4_shorten (wsm yX4_shorten cX4_shorten 8 none) (RM 1) (PK D a g S [.ref (a 1), .int x1, .int x2, .int x3]) (QK D a g none out) 0 0 (AK a) := by
  refine Met.ofW (cc := cX4_shorten) (maxL := 8) (ret := none) (by decide) rfl ?_
  intro p e s m args below meth c s₁ B hml hv
  obtain ⟨rfl, hP, hK, hN⟩ := hv
  have hts := atoms_spec (ws := wsm yX4_shorten cX4_shorten 8 none) B.pre
  have E : EK p s m _ meth c D a g cX4_shorten 8 RX4 none := ⟨B.exec, B.bytes, B.returns, hml, findClass_of_methodNamed B.named, fun w h => hts w (List.mem_cons_of_mem _ h), hK, hN, hD, B.notSynchronized⟩
  have hx := E.hx
  have hb := E.hb
  have hw : WK D a g S s s.heap [] := ⟨hP, va_S.rf⟩
  have hl := lv_entry ([.ref (a 1), .int x1, .int x2, .int x3]) (n := 8) (Nat.le_of_ble_eq_true rfl)
  rw [lg_entry_eq]
  generalize (lg_sl ([.ref (a 1), .int x1, .int x2, .int x3]) ++ List.replicate (8 - (lg_sl ([.ref (a 1), .int x1, .int x2, .int x3])).length) Slot.unset).toArray = ls at hl ⊢
  have hl : lv_has ls 8 [(0, .ref (a 1)), (1, .int (x1)), (2, .int (x2)), (3, .int (x3))] := hl
  show W p l e (RM 1) s m _ below meth c s.heap [] 0 0 (MQ below (QK D a g none out) _ s 0 0 (AK a)) (F0 m 0 ls [])
  unfold k4_shorten at hf
  refine lv_iconst hx hb dX4_shorten_0 ic_0 ?_
  refine lv_topi (fun x4_1 ex4_1 => ?_)
  replace hf := bnd_at hf ex4_1
  refine lv_istore (lv' := [(4, .int (x4_1)), (0, .ref (a 1)), (1, .int (x1)), (2, .int (x2)), (3, .int (x3))]) hx hb dX4_shorten_1 hl (by decide) rfl (fun ls hl => ?_)
  refine k4_shorten_l3 E (x1) (x2) (x3)  F S (x4_1) _ _ ls hf hw (lv_sub hl [1, 2, 3, 4, 0] rfl)
theorem qk4_shorten {p : Program} {l : Launch} {e : Env} {R : Room} {s : State} {m : MethodId} {args : Array Value} {below : List Frame} {meth : Method} {c : Code} {H : Heap} {locs : List Loc} {cells slots : Nat} {Q : State → Prop} {cc : ByteArray} {pc : Nat} {ls : Array Slot} {rest : List Value} {D : va_G} {a : Nat → Nat} {g : Nat → ClassId} {nL : Nat} {own : String} {ret : Option FieldType} {S S1 : SS} {k : Nat} {x1 x2 x3 : Int32} (E : EK p s m args meth c D a g cc nL own ret) (hw : WK D a g S s H locs) (hM : Met l yX4_shorten (wsm yX4_shorten cX4_shorten 8 none) (RM k) (PK D a g S [.ref (a 1), .int x1, .int x2, .int x3]) (QK D a g none S1) 0 0 (AK a)) {idx : Nat} (hlk : Cond.methodLink own idx yX4_shorten ∈ wd) (hdg : decode cc pc = .ok (.invokevirtual idx, 3)) (hR : k + 1 ≤ R.frames ∧ 8 + (8 + 11) + 64 * k ≤ R.locals) (hls : ls.size = nL) (hrest : (rest.map fun v => v.category).sum ≤ 8) (hcs : cells ≤ R.cells ∧ slots ≤ R.slots) (kk : ∀ (H1 : Heap) (locs1 : List Loc), WK D a g S1 s H1 locs1 → W p l e R s m args below meth c H1 locs1 cells slots Q (F0 m (pc + 3) ls (rest))) : W p l e R s m args below meth c H locs cells slots Q (F0 m pc ls (.int x3 :: .int x2 :: .int x1 :: .ref (a 1) :: rest)) :=
  callK_v hw (va_runV (As := [.int x1, .int x2, .int x3]) (rest := rest) ⟨E.hx, E.hb, E.hml, E.hown, E.hts⟩ hM ⟨cb_of 3 E.hts wl323 wl36 hlk (by decide +kernel) hR, E.hts _ wl322, E.hts _ wl0⟩ ⟨PK_blind, va_recv E.hK hw.1 (ci := 4) (q0 := 1) rfl rfl, PK_pre E.hK E.hN hw.1⟩ rfl rfl hls rfl (lv_room hrest) hdg hcs) kk
/-! X4_addLine -/
def k4_addLine (F : Nat) (S : SS) (x1 : Int32) (x2 : Int32) (x3 : Int32) (x4 : Int32) : Option (Int32 × SS) :=
  (k7_isJunction F S (x1)).bind fun r_2 => if r_2 = 0 then (some ((-1 : Int32), S)) else ((k7_isJunction F S (x2)).bind fun r_6 => if r_6 = 0 then (some ((-1 : Int32), S)) else (if x1 = x2 then (some ((-1 : Int32), S)) else ((k7_isCompany F S (x3)).bind fun r_11 => if r_11 = 0 then (some ((-1 : Int32), S)) else ((k7_isWithin F S (x4) ((1 : Int32)) ((200 : Int32))).bind fun r_15 => if r_15 = 0 then (some ((-1 : Int32), S)) else (if (S 1 5) < ((24 : Int32)) then ((ckA 24 (S 1 5)).bind fun _ => bnd (st S 8 (Int32.toNatClampNeg (S 1 5)) x1) fun S_19 => (ckA 24 (S_19 1 5)).bind fun _ => bnd (st S_19 9 (Int32.toNatClampNeg (S_19 1 5)) x2) fun S_20 => (ckA 24 (S_20 1 5)).bind fun _ => bnd (st S_20 10 (Int32.toNatClampNeg (S_20 1 5)) x3) fun S_21 => (ckA 24 (S_21 1 5)).bind fun _ => bnd (st S_21 11 (Int32.toNatClampNeg (S_21 1 5)) x4) fun S_22 => bnd (st S_22 1 5 ((S_22 1 5) + ((1 : Int32)))) fun S_23 => (k4_shorten F S_23 (x1) (x2) (x4)).bind fun S_26 => (k4_shorten F S_26 (x2) (x1) (x4)).bind fun S_29 => some ((S_29 1 5) - ((1 : Int32)), S_29)) else (some ((-1 : Int32), S)))))))
set_option maxRecDepth 100000 in
set_option maxHeartbeats 4000000 in
theorem mk4_addLine {l : Launch} {D : va_G} {a : Nat → Nat} {g : Nat → ClassId} (hD : ∀ S, va_D (AK a) (wK a g S)) {F : Nat} {S : SS} {x1 x2 x3 x4 : Int32} {out : (Int32 × SS)} (hf : k4_addLine F S x1 x2 x3 x4 = some out) : Met l yX4_addLine (wsm yX4_addLine cX4_addLine 5 (some .int)) (RM 2) (PK D a g S [.ref (a 1), .int x1, .int x2, .int x3, .int x4]) (QK D a g (some (.int out.1)) out.2) 0 0 (AK a) := by
  refine Met.ofW (cc := cX4_addLine) (maxL := 5) (ret := (some .int)) (by decide) rfl ?_
  intro p e s m args below meth c s₁ B hml hv
  obtain ⟨rfl, hP, hK, hN⟩ := hv
  have hts := atoms_spec (ws := wsm yX4_addLine cX4_addLine 5 (some .int)) B.pre
  have E : EK p s m _ meth c D a g cX4_addLine 5 RX4 (some .int) := ⟨B.exec, B.bytes, B.returns, hml, findClass_of_methodNamed B.named, fun w h => hts w (List.mem_cons_of_mem _ h), hK, hN, hD, B.notSynchronized⟩
  have hx := E.hx
  have hb := E.hb
  have hw : WK D a g S s s.heap [] := ⟨hP, va_S.rf⟩
  have hl := lv_entry ([.ref (a 1), .int x1, .int x2, .int x3, .int x4]) (n := 5) (Nat.le_of_ble_eq_true rfl)
  rw [lg_entry_eq]
  generalize (lg_sl ([.ref (a 1), .int x1, .int x2, .int x3, .int x4]) ++ List.replicate (5 - (lg_sl ([.ref (a 1), .int x1, .int x2, .int x3, .int x4])).length) Slot.unset).toArray = ls at hl ⊢
  have hl : lv_has ls 5 [(0, .ref (a 1)), (1, .int (x1)), (2, .int (x2)), (3, .int (x3)), (4, .int (x4))] := hl
  show W p l e (RM 2) s m _ below meth c s.heap [] 0 0 (MQ below (QK D a g (some (.int out.1)) out.2) _ s 0 0 (AK a)) (F0 m 0 ls [])
  unfold k4_addLine at hf
  refine lv_iload_n hx hb dX4_addLine_0 rfl (lv_at hl 1 rfl) ?_
  obtain ⟨r_2, h_1, hf⟩ := ob_at hf
  refine qnk7_isJunction E hw (mk7_isJunction E.hD h_1) nw2 dX4_addLine_1 ⟨Nat.le_of_ble_eq_true rfl, Nat.le_of_ble_eq_true rfl⟩ hl.1 (Nat.le_of_ble_eq_true rfl) ⟨Nat.le_refl 0, Nat.le_refl 0⟩ (fun H locs hw => ?_)
  refine lv_if_eq (tgt := 26) hx hb dX4_addLine_4 (by decide) (fun c_4 => ?_) (fun c_4 => ?_)
  · replace hf := ite_t hf c_4
    refine lv_iconst hx hb dX4_addLine_26 ic_m1 ?_
    cases hf
    exact retK_i E hw dX4_addLine_27
  · replace hf := ite_f hf c_4
    refine lv_iload_n hx hb dX4_addLine_7 rfl (lv_at hl 2 rfl) ?_
    obtain ⟨r_6, h_5, hf⟩ := ob_at hf
    refine qnk7_isJunction E hw (mk7_isJunction E.hD h_5) nw2 dX4_addLine_8 ⟨Nat.le_of_ble_eq_true rfl, Nat.le_of_ble_eq_true rfl⟩ hl.1 (Nat.le_of_ble_eq_true rfl) ⟨Nat.le_refl 0, Nat.le_refl 0⟩ (fun H locs hw => ?_)
    refine lv_if_eq (tgt := 26) hx hb dX4_addLine_11 (by decide) (fun c_8 => ?_) (fun c_8 => ?_)
    · replace hf := ite_t hf c_8
      refine lv_iconst hx hb dX4_addLine_26 ic_m1 ?_
      cases hf
      exact retK_i E hw dX4_addLine_27
    · replace hf := ite_f hf c_8
      refine lv_iload_n hx hb dX4_addLine_14 rfl (lv_at hl 1 rfl) ?_
      refine lv_iload_n hx hb dX4_addLine_15 rfl (lv_at hl 2 rfl) ?_
      refine lv_icmp_eq (tgt := 26) hx hb dX4_addLine_16 (by decide) (fun c_9 => ?_) (fun c_9 => ?_)
      · replace hf := ite_t hf c_9
        refine lv_iconst hx hb dX4_addLine_26 ic_m1 ?_
        cases hf
        exact retK_i E hw dX4_addLine_27
      · replace hf := ite_f hf c_9
        refine lv_iload_n hx hb dX4_addLine_19 rfl (lv_at hl 3 rfl) ?_
        obtain ⟨r_11, h_10, hf⟩ := ob_at hf
        refine qnk7_isCompany E hw (mk7_isCompany E.hD h_10) nw3 dX4_addLine_20 ⟨Nat.le_of_ble_eq_true rfl, Nat.le_of_ble_eq_true rfl⟩ hl.1 (Nat.le_of_ble_eq_true rfl) ⟨Nat.le_refl 0, Nat.le_refl 0⟩ (fun H locs hw => ?_)
        refine lv_if_ne (tgt := 28) hx hb dX4_addLine_23 (by decide) (fun c_13 => ?_) (fun c_13 => ?_)
        · replace hf := ite_f hf c_13
          refine lv_iload hx hb dX4_addLine_28 (lv_at hl 4 rfl) ?_
          refine lv_iconst hx hb dX4_addLine_30 ic_1 ?_
          refine lv_sipush hx hb dX4_addLine_31 sp_200 ?_
          obtain ⟨r_15, h_14, hf⟩ := ob_at hf
          refine qnk7_isWithin E hw (mk7_isWithin E.hD h_14) nw4 dX4_addLine_34 ⟨Nat.le_of_ble_eq_true rfl, Nat.le_of_ble_eq_true rfl⟩ hl.1 (Nat.le_of_ble_eq_true rfl) ⟨Nat.le_refl 0, Nat.le_refl 0⟩ (fun H locs hw => ?_)
          refine lv_if_eq (tgt := 49) hx hb dX4_addLine_37 (by decide) (fun c_17 => ?_) (fun c_17 => ?_)
          · replace hf := ite_t hf c_17
            refine lv_iconst hx hb dX4_addLine_49 ic_m1 ?_
            cases hf
            exact retK_i E hw dX4_addLine_50
          · replace hf := ite_f hf c_17
            refine lv_aload_n hx hb dX4_addLine_40 rfl (lv_at hl 0 rfl) ?_
            refine gK_1_5 E hw (E.hts _ wl75) dX4_addLine_41 ?_
            refine lv_bipush hx hb dX4_addLine_44 bp_24 ?_
            refine lv_icmp_lt (tgt := 51) hx hb dX4_addLine_46 (by decide) (fun c_18 => ?_) (fun c_18 => ?_)
            · replace hf := ite_t hf c_18
              refine lv_aload_n hx hb dX4_addLine_51 rfl (lv_at hl 0 rfl) ?_
              refine gK_1_0 E hw (E.hts _ wl66) dX4_addLine_52 ?_
              refine lv_aload_n hx hb dX4_addLine_55 rfl (lv_at hl 0 rfl) ?_
              refine gK_1_5 E hw (E.hts _ wl75) dX4_addLine_56 ?_
              refine lv_iload_n hx hb dX4_addLine_59 rfl (lv_at hl 1 rfl) ?_
              obtain ⟨h_S_19, hf⟩ := ckA_at hf
              refine sK_8 E hw h_S_19 dX4_addLine_60 (fun S_19 eS_19 H locs hw => ?_)
              replace hf := bnd_at hf eS_19
              refine lv_aload_n hx hb dX4_addLine_61 rfl (lv_at hl 0 rfl) ?_
              refine gK_1_1 E hw (E.hts _ wl67) dX4_addLine_62 ?_
              refine lv_aload_n hx hb dX4_addLine_65 rfl (lv_at hl 0 rfl) ?_
              refine gK_1_5 E hw (E.hts _ wl75) dX4_addLine_66 ?_
              refine lv_iload_n hx hb dX4_addLine_69 rfl (lv_at hl 2 rfl) ?_
              obtain ⟨h_S_20, hf⟩ := ckA_at hf
              refine sK_9 E hw h_S_20 dX4_addLine_70 (fun S_20 eS_20 H locs hw => ?_)
              replace hf := bnd_at hf eS_20
              refine lv_aload_n hx hb dX4_addLine_71 rfl (lv_at hl 0 rfl) ?_
              refine gK_1_2 E hw (E.hts _ wl68) dX4_addLine_72 ?_
              refine lv_aload_n hx hb dX4_addLine_75 rfl (lv_at hl 0 rfl) ?_
              refine gK_1_5 E hw (E.hts _ wl75) dX4_addLine_76 ?_
              refine lv_iload_n hx hb dX4_addLine_79 rfl (lv_at hl 3 rfl) ?_
              obtain ⟨h_S_21, hf⟩ := ckA_at hf
              refine sK_10 E hw h_S_21 dX4_addLine_80 (fun S_21 eS_21 H locs hw => ?_)
              replace hf := bnd_at hf eS_21
              refine lv_aload_n hx hb dX4_addLine_81 rfl (lv_at hl 0 rfl) ?_
              refine gK_1_3 E hw (E.hts _ wl70) dX4_addLine_82 ?_
              refine lv_aload_n hx hb dX4_addLine_85 rfl (lv_at hl 0 rfl) ?_
              refine gK_1_5 E hw (E.hts _ wl75) dX4_addLine_86 ?_
              refine lv_iload hx hb dX4_addLine_89 (lv_at hl 4 rfl) ?_
              obtain ⟨h_S_22, hf⟩ := ckA_at hf
              refine sK_11 E hw h_S_22 dX4_addLine_91 (fun S_22 eS_22 H locs hw => ?_)
              replace hf := bnd_at hf eS_22
              refine lv_aload_n hx hb dX4_addLine_92 rfl (lv_at hl 0 rfl) ?_
              refine lv_dup hx hb dX4_addLine_93 rfl ?_
              refine gK_1_5 E hw (E.hts _ wl75) dX4_addLine_94 ?_
              refine lv_iconst hx hb dX4_addLine_97 ic_1 ?_
              refine lv_iadd hx hb dX4_addLine_98 ?_
              refine pK_1_5 E hw (E.hts _ wl75) dX4_addLine_99 (fun S_23 eS_23 H locs hw => ?_)
              replace hf := bnd_at hf eS_23
              refine lv_aload_n hx hb dX4_addLine_102 rfl (lv_at hl 0 rfl) ?_
              refine lv_iload_n hx hb dX4_addLine_103 rfl (lv_at hl 1 rfl) ?_
              refine lv_iload_n hx hb dX4_addLine_104 rfl (lv_at hl 2 rfl) ?_
              refine lv_iload hx hb dX4_addLine_105 (lv_at hl 4 rfl) ?_
              obtain ⟨S_26, h_24, hf⟩ := ob_at hf
              refine qk4_shorten E hw (mk4_shorten E.hD h_24) wl320 dX4_addLine_107 ⟨Nat.le_of_ble_eq_true rfl, Nat.le_of_ble_eq_true rfl⟩ hl.1 (Nat.le_of_ble_eq_true rfl) ⟨Nat.le_refl 0, Nat.le_refl 0⟩ (fun H locs hw => ?_)
              refine lv_aload_n hx hb dX4_addLine_110 rfl (lv_at hl 0 rfl) ?_
              refine lv_iload_n hx hb dX4_addLine_111 rfl (lv_at hl 2 rfl) ?_
              refine lv_iload_n hx hb dX4_addLine_112 rfl (lv_at hl 1 rfl) ?_
              refine lv_iload hx hb dX4_addLine_113 (lv_at hl 4 rfl) ?_
              obtain ⟨S_29, h_27, hf⟩ := ob_at hf
              refine qk4_shorten E hw (mk4_shorten E.hD h_27) wl320 dX4_addLine_115 ⟨Nat.le_of_ble_eq_true rfl, Nat.le_of_ble_eq_true rfl⟩ hl.1 (Nat.le_of_ble_eq_true rfl) ⟨Nat.le_refl 0, Nat.le_refl 0⟩ (fun H locs hw => ?_)
              refine lv_aload_n hx hb dX4_addLine_118 rfl (lv_at hl 0 rfl) ?_
              refine gK_1_5 E hw (E.hts _ wl75) dX4_addLine_119 ?_
              refine lv_iconst hx hb dX4_addLine_122 ic_1 ?_
              refine lv_isub hx hb dX4_addLine_123 ?_
              cases hf
              exact retK_i E hw dX4_addLine_124
            · replace hf := ite_f hf c_18
              refine lv_iconst hx hb dX4_addLine_49 ic_m1 ?_
              cases hf
              exact retK_i E hw dX4_addLine_50
        · replace hf := ite_t hf c_13
          refine lv_iconst hx hb dX4_addLine_26 ic_m1 ?_
          cases hf
          exact retK_i E hw dX4_addLine_27
theorem qk4_addLine {p : Program} {l : Launch} {e : Env} {R : Room} {s : State} {m : MethodId} {args : Array Value} {below : List Frame} {meth : Method} {c : Code} {H : Heap} {locs : List Loc} {cells slots : Nat} {Q : State → Prop} {cc : ByteArray} {pc : Nat} {ls : Array Slot} {rest : List Value} {D : va_G} {a : Nat → Nat} {g : Nat → ClassId} {nL : Nat} {own : String} {ret : Option FieldType} {S S1 : SS} {k : Nat} {x1 x2 x3 x4 : Int32} {r : Int32} (E : EK p s m args meth c D a g cc nL own ret) (hw : WK D a g S s H locs) (hM : Met l yX4_addLine (wsm yX4_addLine cX4_addLine 5 (some .int)) (RM k) (PK D a g S [.ref (a 1), .int x1, .int x2, .int x3, .int x4]) (QK D a g (some (.int r)) S1) 0 0 (AK a)) {idx : Nat} (hlk : Cond.methodLink own idx yX4_addLine ∈ wd) (hdg : decode cc pc = .ok (.invokevirtual idx, 3)) (hR : k + 1 ≤ R.frames ∧ 8 + (5 + 11) + 64 * k ≤ R.locals) (hls : ls.size = nL) (hrest : (rest.map fun v => v.category).sum ≤ 8) (hcs : cells ≤ R.cells ∧ slots ≤ R.slots) (kk : ∀ (H1 : Heap) (locs1 : List Loc), WK D a g S1 s H1 locs1 → W p l e R s m args below meth c H1 locs1 cells slots Q (F0 m (pc + 3) ls (.int r :: rest))) : W p l e R s m args below meth c H locs cells slots Q (F0 m pc ls (.int x4 :: .int x3 :: .int x2 :: .int x1 :: .ref (a 1) :: rest)) :=
  callK_i hw (va_runV (As := [.int x1, .int x2, .int x3, .int x4]) (rest := rest) ⟨E.hx, E.hb, E.hml, E.hown, E.hts⟩ hM ⟨cb_of 4 E.hts wl310 wl36 hlk (by decide +kernel) hR, E.hts _ wl308, E.hts _ wl309⟩ ⟨PK_blind, va_recv E.hK hw.1 (ci := 4) (q0 := 1) rfl rfl, PK_pre E.hK E.hN hw.1⟩ rfl rfl hls rfl (lv_room hrest) hdg hcs) kk
/-! X2_forget -/
def k2_forget (F : Nat) (S : SS) : Option SS :=
  bnd (st S 4 8 ((0 : Int32))) fun S_1 => some S_1
set_option maxRecDepth 100000 in
set_option maxHeartbeats 4000000 in
theorem mk2_forget {l : Launch} {D : va_G} {a : Nat → Nat} {g : Nat → ClassId} (hD : ∀ S, va_D (AK a) (wK a g S)) {F : Nat} {S : SS} {out : SS} (hf : k2_forget F S  = some out) : Met l yX2_forget (wsm yX2_forget cX2_forget 1 none) (RM 1) (PK D a g S [.ref (a 4)]) (QK D a g none out) 0 0 (AK a) := by
  refine Met.ofW (cc := cX2_forget) (maxL := 1) (ret := none) (by decide) rfl ?_
  intro p e s m args below meth c s₁ B hml hv
  obtain ⟨rfl, hP, hK, hN⟩ := hv
  have hts := atoms_spec (ws := wsm yX2_forget cX2_forget 1 none) B.pre
  have E : EK p s m _ meth c D a g cX2_forget 1 RX2 none := ⟨B.exec, B.bytes, B.returns, hml, findClass_of_methodNamed B.named, fun w h => hts w (List.mem_cons_of_mem _ h), hK, hN, hD, B.notSynchronized⟩
  have hx := E.hx
  have hb := E.hb
  have hw : WK D a g S s s.heap [] := ⟨hP, va_S.rf⟩
  have hl := lv_entry ([.ref (a 4)]) (n := 1) (Nat.le_of_ble_eq_true rfl)
  rw [lg_entry_eq]
  generalize (lg_sl ([.ref (a 4)]) ++ List.replicate (1 - (lg_sl ([.ref (a 4)])).length) Slot.unset).toArray = ls at hl ⊢
  have hl : lv_has ls 1 [(0, .ref (a 4))] := hl
  show W p l e (RM 1) s m _ below meth c s.heap [] 0 0 (MQ below (QK D a g none out) _ s 0 0 (AK a)) (F0 m 0 ls [])
  unfold k2_forget at hf
  refine lv_aload_n hx hb dX2_forget_0 rfl (lv_at hl 0 rfl) ?_
  refine lv_iconst hx hb dX2_forget_1 ic_0 ?_
  refine pK_4_8 E hw nb0 fb0 (E.hts _ wl176) dX2_forget_2 (fun S_1 eS_1 H locs hw => ?_)
  replace hf := bnd_at hf eS_1
  cases hf
  exact retK_v E hw dX2_forget_5
theorem qk2_forget {p : Program} {l : Launch} {e : Env} {R : Room} {s : State} {m : MethodId} {args : Array Value} {below : List Frame} {meth : Method} {c : Code} {H : Heap} {locs : List Loc} {cells slots : Nat} {Q : State → Prop} {cc : ByteArray} {pc : Nat} {ls : Array Slot} {rest : List Value} {D : va_G} {a : Nat → Nat} {g : Nat → ClassId} {nL : Nat} {own : String} {ret : Option FieldType} {S S1 : SS} {k : Nat} (E : EK p s m args meth c D a g cc nL own ret) (hw : WK D a g S s H locs) (hM : Met l yX2_forget (wsm yX2_forget cX2_forget 1 none) (RM k) (PK D a g S [.ref (a 4)]) (QK D a g none S1) 0 0 (AK a)) {idx : Nat} (hlk : Cond.methodLink own idx yX2_forget ∈ wd) (hdg : decode cc pc = .ok (.invokevirtual idx, 3)) (hR : k + 1 ≤ R.frames ∧ 8 + (1 + 11) + 64 * k ≤ R.locals) (hls : ls.size = nL) (hrest : (rest.map fun v => v.category).sum ≤ 8) (hcs : cells ≤ R.cells ∧ slots ≤ R.slots) (kk : ∀ (H1 : Heap) (locs1 : List Loc), WK D a g S1 s H1 locs1 → W p l e R s m args below meth c H1 locs1 cells slots Q (F0 m (pc + 3) ls (rest))) : W p l e R s m args below meth c H locs cells slots Q (F0 m pc ls (.ref (a 4) :: rest)) :=
  callK_v hw (va_runV (As := []) (rest := rest) ⟨E.hx, E.hb, E.hml, E.hown, E.hts⟩ hM ⟨cb_of 0 E.hts wl330 wl40 hlk (by decide +kernel) hR, E.hts _ wl328, E.hts _ wl329⟩ ⟨PK_blind, va_recv E.hK hw.1 (ci := 2) (q0 := 4) rfl rfl, PK_pre E.hK E.hN hw.1⟩ rfl rfl hls rfl (lv_room hrest) hdg hcs) kk
/-! X3_forget -/
def k3_forget (F : Nat) (S : SS) : Option SS :=
  bnd (st S 7 9 ((0 : Int32))) fun S_1 => some S_1
set_option maxRecDepth 100000 in
set_option maxHeartbeats 4000000 in
theorem mk3_forget {l : Launch} {D : va_G} {a : Nat → Nat} {g : Nat → ClassId} (hD : ∀ S, va_D (AK a) (wK a g S)) {F : Nat} {S : SS} {out : SS} (hf : k3_forget F S  = some out) : Met l yX3_forget (wsm yX3_forget cX3_forget 1 none) (RM 1) (PK D a g S [.ref (a 7)]) (QK D a g none out) 0 0 (AK a) := by
  refine Met.ofW (cc := cX3_forget) (maxL := 1) (ret := none) (by decide) rfl ?_
  intro p e s m args below meth c s₁ B hml hv
  obtain ⟨rfl, hP, hK, hN⟩ := hv
  have hts := atoms_spec (ws := wsm yX3_forget cX3_forget 1 none) B.pre
  have E : EK p s m _ meth c D a g cX3_forget 1 RX3 none := ⟨B.exec, B.bytes, B.returns, hml, findClass_of_methodNamed B.named, fun w h => hts w (List.mem_cons_of_mem _ h), hK, hN, hD, B.notSynchronized⟩
  have hx := E.hx
  have hb := E.hb
  have hw : WK D a g S s s.heap [] := ⟨hP, va_S.rf⟩
  have hl := lv_entry ([.ref (a 7)]) (n := 1) (Nat.le_of_ble_eq_true rfl)
  rw [lg_entry_eq]
  generalize (lg_sl ([.ref (a 7)]) ++ List.replicate (1 - (lg_sl ([.ref (a 7)])).length) Slot.unset).toArray = ls at hl ⊢
  have hl : lv_has ls 1 [(0, .ref (a 7))] := hl
  show W p l e (RM 1) s m _ below meth c s.heap [] 0 0 (MQ below (QK D a g none out) _ s 0 0 (AK a)) (F0 m 0 ls [])
  unfold k3_forget at hf
  refine lv_aload_n hx hb dX3_forget_0 rfl (lv_at hl 0 rfl) ?_
  refine lv_iconst hx hb dX3_forget_1 ic_0 ?_
  refine pK_7_9 E hw nb0 fb0 (E.hts _ wl250) dX3_forget_2 (fun S_1 eS_1 H locs hw => ?_)
  replace hf := bnd_at hf eS_1
  cases hf
  exact retK_v E hw dX3_forget_5
theorem qk3_forget {p : Program} {l : Launch} {e : Env} {R : Room} {s : State} {m : MethodId} {args : Array Value} {below : List Frame} {meth : Method} {c : Code} {H : Heap} {locs : List Loc} {cells slots : Nat} {Q : State → Prop} {cc : ByteArray} {pc : Nat} {ls : Array Slot} {rest : List Value} {D : va_G} {a : Nat → Nat} {g : Nat → ClassId} {nL : Nat} {own : String} {ret : Option FieldType} {S S1 : SS} {k : Nat} (E : EK p s m args meth c D a g cc nL own ret) (hw : WK D a g S s H locs) (hM : Met l yX3_forget (wsm yX3_forget cX3_forget 1 none) (RM k) (PK D a g S [.ref (a 7)]) (QK D a g none S1) 0 0 (AK a)) {idx : Nat} (hlk : Cond.methodLink own idx yX3_forget ∈ wd) (hdg : decode cc pc = .ok (.invokevirtual idx, 3)) (hR : k + 1 ≤ R.frames ∧ 8 + (1 + 11) + 64 * k ≤ R.locals) (hls : ls.size = nL) (hrest : (rest.map fun v => v.category).sum ≤ 8) (hcs : cells ≤ R.cells ∧ slots ≤ R.slots) (kk : ∀ (H1 : Heap) (locs1 : List Loc), WK D a g S1 s H1 locs1 → W p l e R s m args below meth c H1 locs1 cells slots Q (F0 m (pc + 3) ls (rest))) : W p l e R s m args below meth c H locs cells slots Q (F0 m pc ls (.ref (a 7) :: rest)) :=
  callK_v hw (va_runV (As := []) (rest := rest) ⟨E.hx, E.hb, E.hml, E.hown, E.hts⟩ hM ⟨cb_of 0 E.hts wl334 wl43 hlk (by decide +kernel) hR, E.hts _ wl332, E.hts _ wl333⟩ ⟨PK_blind, va_recv E.hK hw.1 (ci := 3) (q0 := 7) rfl rfl, PK_pre E.hK E.hN hw.1⟩ rfl rfl hls rfl (lv_room hrest) hdg hcs) kk
/-! X7_line -/
def k7_line (F : Nat) (S : SS) (x1 : Int32) (x2 : Int32) (x3 : Int32) (x4 : Int32) : Option (Int32 × SS) :=
  ob2 (k4_addLine F S (x1) (x2) (x3) (x4)) fun r_2 S_3 => bnd (r_2) fun x5_4 => if x5_4 = ((-1 : Int32)) then (some (x5_4, S_3)) else ((k2_forget F S_3 ).bind fun S_8 => (k3_forget F S_8 ).bind fun S_11 => some (x5_4, S_11))
set_option maxRecDepth 100000 in
set_option maxHeartbeats 4000000 in
theorem mk7_line {l : Launch} {D : va_G} {a : Nat → Nat} {g : Nat → ClassId} (hD : ∀ S, va_D (AK a) (wK a g S)) {F : Nat} {S : SS} {x1 x2 x3 x4 : Int32} {out : (Int32 × SS)} (hf : k7_line F S x1 x2 x3 x4 = some out) : Met l yX7_line (wsm yX7_line cX7_line 6 (some .int)) (RM 3) (PK D a g S [.ref (a 0), .int x1, .int x2, .int x3, .int x4]) (QK D a g (some (.int out.1)) out.2) 0 0 (AK a) := by
  refine Met.ofW (cc := cX7_line) (maxL := 6) (ret := (some .int)) (by decide) rfl ?_
  intro p e s m args below meth c s₁ B hml hv
  obtain ⟨rfl, hP, hK, hN⟩ := hv
  have hts := atoms_spec (ws := wsm yX7_line cX7_line 6 (some .int)) B.pre
  have E : EK p s m _ meth c D a g cX7_line 6 RX7 (some .int) := ⟨B.exec, B.bytes, B.returns, hml, findClass_of_methodNamed B.named, fun w h => hts w (List.mem_cons_of_mem _ h), hK, hN, hD, B.notSynchronized⟩
  have hx := E.hx
  have hb := E.hb
  have hw : WK D a g S s s.heap [] := ⟨hP, va_S.rf⟩
  have hl := lv_entry ([.ref (a 0), .int x1, .int x2, .int x3, .int x4]) (n := 6) (Nat.le_of_ble_eq_true rfl)
  rw [lg_entry_eq]
  generalize (lg_sl ([.ref (a 0), .int x1, .int x2, .int x3, .int x4]) ++ List.replicate (6 - (lg_sl ([.ref (a 0), .int x1, .int x2, .int x3, .int x4])).length) Slot.unset).toArray = ls at hl ⊢
  have hl : lv_has ls 6 [(0, .ref (a 0)), (1, .int (x1)), (2, .int (x2)), (3, .int (x3)), (4, .int (x4))] := hl
  show W p l e (RM 3) s m _ below meth c s.heap [] 0 0 (MQ below (QK D a g (some (.int out.1)) out.2) _ s 0 0 (AK a)) (F0 m 0 ls [])
  unfold k7_line at hf
  refine lv_aload_n hx hb dX7_line_0 rfl (lv_at hl 0 rfl) ?_
  refine gK_0_0 E hw (E.hts _ wl272) dX7_line_1 ?_
  refine lv_iload_n hx hb dX7_line_4 rfl (lv_at hl 1 rfl) ?_
  refine lv_iload_n hx hb dX7_line_5 rfl (lv_at hl 2 rfl) ?_
  refine lv_iload_n hx hb dX7_line_6 rfl (lv_at hl 3 rfl) ?_
  refine lv_iload hx hb dX7_line_7 (lv_at hl 4 rfl) ?_
  obtain ⟨r_2, S_3, h_1, hf⟩ := ob2_at hf
  refine qk4_addLine E hw (mk4_addLine E.hD h_1) wl307 dX7_line_9 ⟨Nat.le_of_ble_eq_true rfl, Nat.le_of_ble_eq_true rfl⟩ hl.1 (Nat.le_of_ble_eq_true rfl) ⟨Nat.le_refl 0, Nat.le_refl 0⟩ (fun H locs hw => ?_)
  refine lv_topi (fun x5_4 ex5_4 => ?_)
  replace hf := bnd_at hf ex5_4
  refine lv_istore (lv' := [(5, .int (x5_4)), (0, .ref (a 0)), (1, .int (x1)), (2, .int (x2)), (3, .int (x3)), (4, .int (x4))]) hx hb dX7_line_12 hl (by decide) rfl (fun ls hl => ?_)
  refine lv_iload hx hb dX7_line_14 (lv_at hl 0 rfl) ?_
  refine lv_iconst hx hb dX7_line_16 ic_m1 ?_
  refine lv_icmp_eq (tgt := 34) hx hb dX7_line_17 (by decide) (fun c_5 => ?_) (fun c_5 => ?_)
  · replace hf := ite_t hf c_5
    refine lv_iload hx hb dX7_line_34 (lv_at hl 0 rfl) ?_
    cases hf
    exact retK_i E hw dX7_line_36
  · replace hf := ite_f hf c_5
    refine lv_aload_n hx hb dX7_line_20 rfl (lv_at hl 1 rfl) ?_
    refine gK_0_3 E hw (E.hts _ wl275) dX7_line_21 ?_
    obtain ⟨S_8, h_6, hf⟩ := ob_at hf
    refine qk2_forget E hw (mk2_forget E.hD h_6) wl327 dX7_line_24 ⟨Nat.le_of_ble_eq_true rfl, Nat.le_of_ble_eq_true rfl⟩ hl.1 (Nat.le_of_ble_eq_true rfl) ⟨Nat.le_refl 0, Nat.le_refl 0⟩ (fun H locs hw => ?_)
    refine lv_aload_n hx hb dX7_line_27 rfl (lv_at hl 1 rfl) ?_
    refine gK_0_6 E hw (E.hts _ wl278) dX7_line_28 ?_
    obtain ⟨S_11, h_9, hf⟩ := ob_at hf
    refine qk3_forget E hw (mk3_forget E.hD h_9) wl331 dX7_line_31 ⟨Nat.le_of_ble_eq_true rfl, Nat.le_of_ble_eq_true rfl⟩ hl.1 (Nat.le_of_ble_eq_true rfl) ⟨Nat.le_refl 0, Nat.le_refl 0⟩ (fun H locs hw => ?_)
    refine lv_iload hx hb dX7_line_34 (lv_at hl 0 rfl) ?_
    cases hf
    exact retK_i E hw dX7_line_36
theorem qk7_line {p : Program} {l : Launch} {e : Env} {R : Room} {s : State} {m : MethodId} {args : Array Value} {below : List Frame} {meth : Method} {c : Code} {H : Heap} {locs : List Loc} {cells slots : Nat} {Q : State → Prop} {cc : ByteArray} {pc : Nat} {ls : Array Slot} {rest : List Value} {D : va_G} {a : Nat → Nat} {g : Nat → ClassId} {nL : Nat} {own : String} {ret : Option FieldType} {S S1 : SS} {k : Nat} {x1 x2 x3 x4 : Int32} {r : Int32} (E : EK p s m args meth c D a g cc nL own ret) (hw : WK D a g S s H locs) (hM : Met l yX7_line (wsm yX7_line cX7_line 6 (some .int)) (RM k) (PK D a g S [.ref (a 0), .int x1, .int x2, .int x3, .int x4]) (QK D a g (some (.int r)) S1) 0 0 (AK a)) {idx : Nat} (hlk : Cond.methodLink own idx yX7_line ∈ wd) (hdg : decode cc pc = .ok (.invokevirtual idx, 3)) (hR : k + 1 ≤ R.frames ∧ 8 + (6 + 11) + 64 * k ≤ R.locals) (hls : ls.size = nL) (hrest : (rest.map fun v => v.category).sum ≤ 8) (hcs : cells ≤ R.cells ∧ slots ≤ R.slots) (kk : ∀ (H1 : Heap) (locs1 : List Loc), WK D a g S1 s H1 locs1 → W p l e R s m args below meth c H1 locs1 cells slots Q (F0 m (pc + 3) ls (.int r :: rest))) : W p l e R s m args below meth c H locs cells slots Q (F0 m pc ls (.int x4 :: .int x3 :: .int x2 :: .int x1 :: .ref (a 0) :: rest)) :=
  callK_i hw (va_runV (As := [.int x1, .int x2, .int x3, .int x4]) (rest := rest) ⟨E.hx, E.hb, E.hml, E.hown, E.hts⟩ hM ⟨cb_of 4 E.hts wl306 wl35 hlk (by decide +kernel) hR, E.hts _ wl304, E.hts _ wl305⟩ ⟨PK_blind, va_recv E.hK hw.1 (ci := 7) (q0 := 0) rfl rfl, PK_pre E.hK E.hN hw.1⟩ rfl rfl hls rfl (lv_room hrest) hdg hcs) kk
/-! X4_milesBetween -/
def k4_milesBetween (F : Nat) (S : SS) (x1 : Int32) (x2 : Int32) : Option Int32 :=
  (k7_isJunction F S (x1)).bind fun r_2 => if r_2 = 0 then (some ((-1 : Int32))) else ((k7_isJunction F S (x2)).bind fun r_6 => if r_6 = 0 then (some ((-1 : Int32))) else ((rdA 144 (S 12) ((x1 * ((12 : Int32))) + x2)).bind fun v_9 => bnd (v_9) fun x3_10 => if x3_10 < ((1000000 : Int32)) then (some (x3_10)) else (some ((-1 : Int32)))))
set_option maxRecDepth 100000 in
set_option maxHeartbeats 4000000 in
theorem mk4_milesBetween {l : Launch} {D : va_G} {a : Nat → Nat} {g : Nat → ClassId} (hD : ∀ S, va_D (AK a) (wK a g S)) {F : Nat} {S : SS} {x1 x2 : Int32} {out : Int32} (hf : k4_milesBetween F S x1 x2 = some out) : Met l yX4_milesBetween (wsm yX4_milesBetween cX4_milesBetween 4 (some .int)) (RM 2) (PK D a g S [.ref (a 1), .int x1, .int x2]) (QK D a g (some (.int out)) S) 0 0 (AK a) := by
  refine Met.ofW (cc := cX4_milesBetween) (maxL := 4) (ret := (some .int)) (by decide) rfl ?_
  intro p e s m args below meth c s₁ B hml hv
  obtain ⟨rfl, hP, hK, hN⟩ := hv
  have hts := atoms_spec (ws := wsm yX4_milesBetween cX4_milesBetween 4 (some .int)) B.pre
  have E : EK p s m _ meth c D a g cX4_milesBetween 4 RX4 (some .int) := ⟨B.exec, B.bytes, B.returns, hml, findClass_of_methodNamed B.named, fun w h => hts w (List.mem_cons_of_mem _ h), hK, hN, hD, B.notSynchronized⟩
  have hx := E.hx
  have hb := E.hb
  have hw : WK D a g S s s.heap [] := ⟨hP, va_S.rf⟩
  have hl := lv_entry ([.ref (a 1), .int x1, .int x2]) (n := 4) (Nat.le_of_ble_eq_true rfl)
  rw [lg_entry_eq]
  generalize (lg_sl ([.ref (a 1), .int x1, .int x2]) ++ List.replicate (4 - (lg_sl ([.ref (a 1), .int x1, .int x2])).length) Slot.unset).toArray = ls at hl ⊢
  have hl : lv_has ls 4 [(0, .ref (a 1)), (1, .int (x1)), (2, .int (x2))] := hl
  show W p l e (RM 2) s m _ below meth c s.heap [] 0 0 (MQ below (QK D a g (some (.int out)) S) _ s 0 0 (AK a)) (F0 m 0 ls [])
  unfold k4_milesBetween at hf
  refine lv_iload_n hx hb dX4_milesBetween_0 rfl (lv_at hl 1 rfl) ?_
  obtain ⟨r_2, h_1, hf⟩ := ob_at hf
  refine qnk7_isJunction E hw (mk7_isJunction E.hD h_1) nw2 dX4_milesBetween_1 ⟨Nat.le_of_ble_eq_true rfl, Nat.le_of_ble_eq_true rfl⟩ hl.1 (Nat.le_of_ble_eq_true rfl) ⟨Nat.le_refl 0, Nat.le_refl 0⟩ (fun H locs hw => ?_)
  refine lv_if_eq (tgt := 14) hx hb dX4_milesBetween_4 (by decide) (fun c_4 => ?_) (fun c_4 => ?_)
  · replace hf := ite_t hf c_4
    refine lv_iconst hx hb dX4_milesBetween_14 ic_m1 ?_
    cases hf
    exact retK_i E hw dX4_milesBetween_15
  · replace hf := ite_f hf c_4
    refine lv_iload_n hx hb dX4_milesBetween_7 rfl (lv_at hl 2 rfl) ?_
    obtain ⟨r_6, h_5, hf⟩ := ob_at hf
    refine qnk7_isJunction E hw (mk7_isJunction E.hD h_5) nw2 dX4_milesBetween_8 ⟨Nat.le_of_ble_eq_true rfl, Nat.le_of_ble_eq_true rfl⟩ hl.1 (Nat.le_of_ble_eq_true rfl) ⟨Nat.le_refl 0, Nat.le_refl 0⟩ (fun H locs hw => ?_)
    refine lv_if_ne (tgt := 16) hx hb dX4_milesBetween_11 (by decide) (fun c_8 => ?_) (fun c_8 => ?_)
    · replace hf := ite_f hf c_8
      refine lv_aload_n hx hb dX4_milesBetween_16 rfl (lv_at hl 0 rfl) ?_
      refine gK_1_4 E hw (E.hts _ wl72) dX4_milesBetween_17 ?_
      refine lv_iload_n hx hb dX4_milesBetween_20 rfl (lv_at hl 1 rfl) ?_
      refine lv_bipush hx hb dX4_milesBetween_21 bp_12 ?_
      refine lv_imul hx hb dX4_milesBetween_23 ?_
      refine lv_iload_n hx hb dX4_milesBetween_24 rfl (lv_at hl 2 rfl) ?_
      refine lv_iadd hx hb dX4_milesBetween_25 ?_
      obtain ⟨h_v_9, hf⟩ := rdA_at hf
      refine lK_12 E hw h_v_9 dX4_milesBetween_26 (fun v_9 ev_9 => ?_)
      replace hf := hf v_9 ev_9
      refine lv_topi (fun x3_10 ex3_10 => ?_)
      replace hf := bnd_at hf ex3_10
      refine lv_istore_n (lv' := [(3, .int (x3_10)), (0, .ref (a 1)), (1, .int (x1)), (2, .int (x2))]) hx hb dX4_milesBetween_27 rfl hl (by decide) rfl (fun ls hl => ?_)
      refine lv_iload_n hx hb dX4_milesBetween_28 rfl (lv_at hl 0 rfl) ?_
      refine lv_ldc hx hb E.hown (E.hts _ wl62) dX4_milesBetween_29 ?_
      refine lv_icmp_lt (tgt := 38) hx hb dX4_milesBetween_31 (by decide) (fun c_11 => ?_) (fun c_11 => ?_)
      · replace hf := ite_t hf c_11
        refine lv_iload_n hx hb dX4_milesBetween_38 rfl (lv_at hl 0 rfl) ?_
        cases hf
        exact retK_i E hw dX4_milesBetween_39
      · replace hf := ite_f hf c_11
        refine lv_iconst hx hb dX4_milesBetween_34 ic_m1 ?_
        refine lv_goto (tgt := 39) hx hb dX4_milesBetween_35 (by decide) ?_
        cases hf
        exact retK_i E hw dX4_milesBetween_39
    · replace hf := ite_t hf c_8
      refine lv_iconst hx hb dX4_milesBetween_14 ic_m1 ?_
      cases hf
      exact retK_i E hw dX4_milesBetween_15
theorem qk4_milesBetween {p : Program} {l : Launch} {e : Env} {R : Room} {s : State} {m : MethodId} {args : Array Value} {below : List Frame} {meth : Method} {c : Code} {H : Heap} {locs : List Loc} {cells slots : Nat} {Q : State → Prop} {cc : ByteArray} {pc : Nat} {ls : Array Slot} {rest : List Value} {D : va_G} {a : Nat → Nat} {g : Nat → ClassId} {nL : Nat} {own : String} {ret : Option FieldType} {S S1 : SS} {k : Nat} {x1 x2 : Int32} {r : Int32} (E : EK p s m args meth c D a g cc nL own ret) (hw : WK D a g S s H locs) (hM : Met l yX4_milesBetween (wsm yX4_milesBetween cX4_milesBetween 4 (some .int)) (RM k) (PK D a g S [.ref (a 1), .int x1, .int x2]) (QK D a g (some (.int r)) S1) 0 0 (AK a)) {idx : Nat} (hlk : Cond.methodLink own idx yX4_milesBetween ∈ wd) (hdg : decode cc pc = .ok (.invokevirtual idx, 3)) (hR : k + 1 ≤ R.frames ∧ 8 + (4 + 11) + 64 * k ≤ R.locals) (hls : ls.size = nL) (hrest : (rest.map fun v => v.category).sum ≤ 8) (hcs : cells ≤ R.cells ∧ slots ≤ R.slots) (kk : ∀ (H1 : Heap) (locs1 : List Loc), WK D a g S1 s H1 locs1 → W p l e R s m args below meth c H1 locs1 cells slots Q (F0 m (pc + 3) ls (.int r :: rest))) : W p l e R s m args below meth c H locs cells slots Q (F0 m pc ls (.int x2 :: .int x1 :: .ref (a 1) :: rest)) :=
  callK_i hw (va_runV (As := [.int x1, .int x2]) (rest := rest) ⟨E.hx, E.hb, E.hml, E.hown, E.hts⟩ hM ⟨cb_of 2 E.hts wl342 wl36 hlk (by decide +kernel) hR, E.hts _ wl340, E.hts _ wl341⟩ ⟨PK_blind, va_recv E.hK hw.1 (ci := 4) (q0 := 1) rfl rfl, PK_pre E.hK E.hN hw.1⟩ rfl rfl hls rfl (lv_room hrest) hdg hcs) kk
/-! X7_least -/
def k7_least (F : Nat) (S : SS) (x1 : Int32) (x2 : Int32) : Option Int32 :=
  (k4_milesBetween F S (x1) (x2)).bind fun r_2 => some (r_2)
set_option maxRecDepth 100000 in
set_option maxHeartbeats 4000000 in
theorem mk7_least {l : Launch} {D : va_G} {a : Nat → Nat} {g : Nat → ClassId} (hD : ∀ S, va_D (AK a) (wK a g S)) {F : Nat} {S : SS} {x1 x2 : Int32} {out : Int32} (hf : k7_least F S x1 x2 = some out) : Met l yX7_least (wsm yX7_least cX7_least 3 (some .int)) (RM 3) (PK D a g S [.ref (a 0), .int x1, .int x2]) (QK D a g (some (.int out)) S) 0 0 (AK a) := by
  refine Met.ofW (cc := cX7_least) (maxL := 3) (ret := (some .int)) (by decide) rfl ?_
  intro p e s m args below meth c s₁ B hml hv
  obtain ⟨rfl, hP, hK, hN⟩ := hv
  have hts := atoms_spec (ws := wsm yX7_least cX7_least 3 (some .int)) B.pre
  have E : EK p s m _ meth c D a g cX7_least 3 RX7 (some .int) := ⟨B.exec, B.bytes, B.returns, hml, findClass_of_methodNamed B.named, fun w h => hts w (List.mem_cons_of_mem _ h), hK, hN, hD, B.notSynchronized⟩
  have hx := E.hx
  have hb := E.hb
  have hw : WK D a g S s s.heap [] := ⟨hP, va_S.rf⟩
  have hl := lv_entry ([.ref (a 0), .int x1, .int x2]) (n := 3) (Nat.le_of_ble_eq_true rfl)
  rw [lg_entry_eq]
  generalize (lg_sl ([.ref (a 0), .int x1, .int x2]) ++ List.replicate (3 - (lg_sl ([.ref (a 0), .int x1, .int x2])).length) Slot.unset).toArray = ls at hl ⊢
  have hl : lv_has ls 3 [(0, .ref (a 0)), (1, .int (x1)), (2, .int (x2))] := hl
  show W p l e (RM 3) s m _ below meth c s.heap [] 0 0 (MQ below (QK D a g (some (.int out)) S) _ s 0 0 (AK a)) (F0 m 0 ls [])
  unfold k7_least at hf
  refine lv_aload_n hx hb dX7_least_0 rfl (lv_at hl 0 rfl) ?_
  refine gK_0_0 E hw (E.hts _ wl272) dX7_least_1 ?_
  refine lv_iload_n hx hb dX7_least_4 rfl (lv_at hl 1 rfl) ?_
  refine lv_iload_n hx hb dX7_least_5 rfl (lv_at hl 2 rfl) ?_
  obtain ⟨r_2, h_1, hf⟩ := ob_at hf
  refine qk4_milesBetween E hw (mk4_milesBetween E.hD h_1) wl339 dX7_least_6 ⟨Nat.le_of_ble_eq_true rfl, Nat.le_of_ble_eq_true rfl⟩ hl.1 (Nat.le_of_ble_eq_true rfl) ⟨Nat.le_refl 0, Nat.le_refl 0⟩ (fun H locs hw => ?_)
  cases hf
  exact retK_i E hw dX7_least_9
theorem qk7_least {p : Program} {l : Launch} {e : Env} {R : Room} {s : State} {m : MethodId} {args : Array Value} {below : List Frame} {meth : Method} {c : Code} {H : Heap} {locs : List Loc} {cells slots : Nat} {Q : State → Prop} {cc : ByteArray} {pc : Nat} {ls : Array Slot} {rest : List Value} {D : va_G} {a : Nat → Nat} {g : Nat → ClassId} {nL : Nat} {own : String} {ret : Option FieldType} {S S1 : SS} {k : Nat} {x1 x2 : Int32} {r : Int32} (E : EK p s m args meth c D a g cc nL own ret) (hw : WK D a g S s H locs) (hM : Met l yX7_least (wsm yX7_least cX7_least 3 (some .int)) (RM k) (PK D a g S [.ref (a 0), .int x1, .int x2]) (QK D a g (some (.int r)) S1) 0 0 (AK a)) {idx : Nat} (hlk : Cond.methodLink own idx yX7_least ∈ wd) (hdg : decode cc pc = .ok (.invokevirtual idx, 3)) (hR : k + 1 ≤ R.frames ∧ 8 + (3 + 11) + 64 * k ≤ R.locals) (hls : ls.size = nL) (hrest : (rest.map fun v => v.category).sum ≤ 8) (hcs : cells ≤ R.cells ∧ slots ≤ R.slots) (kk : ∀ (H1 : Heap) (locs1 : List Loc), WK D a g S1 s H1 locs1 → W p l e R s m args below meth c H1 locs1 cells slots Q (F0 m (pc + 3) ls (.int r :: rest))) : W p l e R s m args below meth c H locs cells slots Q (F0 m pc ls (.int x2 :: .int x1 :: .ref (a 0) :: rest)) :=
  callK_i hw (va_runV (As := [.int x1, .int x2]) (rest := rest) ⟨E.hx, E.hb, E.hml, E.hown, E.hts⟩ hM ⟨cb_of 2 E.hts wl338 wl35 hlk (by decide +kernel) hR, E.hts _ wl336, E.hts _ wl337⟩ ⟨PK_blind, va_recv E.hK hw.1 (ci := 7) (q0 := 0) rfl rfl, PK_pre E.hK E.hN hw.1⟩ rfl rfl hls rfl (lv_room hrest) hdg hcs) kk
/-! X4_farEnd -/
def k4_farEnd (F : Nat) (S : SS) (x1 : Int32) (x2 : Int32) : Option Int32 :=
  if x1 < 0 then (some ((-1 : Int32))) else (if x1 < (S 1 5) then ((rdA 24 (S 8) x1).bind fun v_3 => if v_3 = x2 then ((rdA 24 (S 9) x1).bind fun v_8 => some (v_8)) else ((rdA 24 (S 9) x1).bind fun v_5 => if v_5 = x2 then ((rdA 24 (S 8) x1).bind fun v_7 => some (v_7)) else (some ((-1 : Int32))))) else (some ((-1 : Int32))))
set_option maxRecDepth 100000 in
set_option maxHeartbeats 4000000 in
theorem mk4_farEnd {l : Launch} {D : va_G} {a : Nat → Nat} {g : Nat → ClassId} (hD : ∀ S, va_D (AK a) (wK a g S)) {F : Nat} {S : SS} {x1 x2 : Int32} {out : Int32} (hf : k4_farEnd F S x1 x2 = some out) : Met l yX4_farEnd (wsm yX4_farEnd cX4_farEnd 3 (some .int)) (RM 1) (PK D a g S [.ref (a 1), .int x1, .int x2]) (QK D a g (some (.int out)) S) 0 0 (AK a) := by
  refine Met.ofW (cc := cX4_farEnd) (maxL := 3) (ret := (some .int)) (by decide) rfl ?_
  intro p e s m args below meth c s₁ B hml hv
  obtain ⟨rfl, hP, hK, hN⟩ := hv
  have hts := atoms_spec (ws := wsm yX4_farEnd cX4_farEnd 3 (some .int)) B.pre
  have E : EK p s m _ meth c D a g cX4_farEnd 3 RX4 (some .int) := ⟨B.exec, B.bytes, B.returns, hml, findClass_of_methodNamed B.named, fun w h => hts w (List.mem_cons_of_mem _ h), hK, hN, hD, B.notSynchronized⟩
  have hx := E.hx
  have hb := E.hb
  have hw : WK D a g S s s.heap [] := ⟨hP, va_S.rf⟩
  have hl := lv_entry ([.ref (a 1), .int x1, .int x2]) (n := 3) (Nat.le_of_ble_eq_true rfl)
  rw [lg_entry_eq]
  generalize (lg_sl ([.ref (a 1), .int x1, .int x2]) ++ List.replicate (3 - (lg_sl ([.ref (a 1), .int x1, .int x2])).length) Slot.unset).toArray = ls at hl ⊢
  have hl : lv_has ls 3 [(0, .ref (a 1)), (1, .int (x1)), (2, .int (x2))] := hl
  show W p l e (RM 1) s m _ below meth c s.heap [] 0 0 (MQ below (QK D a g (some (.int out)) S) _ s 0 0 (AK a)) (F0 m 0 ls [])
  unfold k4_farEnd at hf
  refine lv_iload_n hx hb dX4_farEnd_0 rfl (lv_at hl 1 rfl) ?_
  refine lv_if_lt (tgt := 12) hx hb dX4_farEnd_1 (by decide) (fun c_1 => ?_) (fun c_1 => ?_)
  · replace hf := ite_t hf c_1
    refine lv_iconst hx hb dX4_farEnd_12 ic_m1 ?_
    cases hf
    exact retK_i E hw dX4_farEnd_13
  · replace hf := ite_f hf c_1
    refine lv_iload_n hx hb dX4_farEnd_4 rfl (lv_at hl 1 rfl) ?_
    refine lv_aload_n hx hb dX4_farEnd_5 rfl (lv_at hl 0 rfl) ?_
    refine gK_1_5 E hw (E.hts _ wl75) dX4_farEnd_6 ?_
    refine lv_icmp_lt (tgt := 14) hx hb dX4_farEnd_9 (by decide) (fun c_2 => ?_) (fun c_2 => ?_)
    · replace hf := ite_t hf c_2
      refine lv_aload_n hx hb dX4_farEnd_14 rfl (lv_at hl 0 rfl) ?_
      refine gK_1_0 E hw (E.hts _ wl66) dX4_farEnd_15 ?_
      refine lv_iload_n hx hb dX4_farEnd_18 rfl (lv_at hl 1 rfl) ?_
      obtain ⟨h_v_3, hf⟩ := rdA_at hf
      refine lK_8 E hw h_v_3 dX4_farEnd_19 (fun v_3 ev_3 => ?_)
      replace hf := hf v_3 ev_3
      refine lv_iload_n hx hb dX4_farEnd_20 rfl (lv_at hl 2 rfl) ?_
      refine lv_icmp_ne (tgt := 31) hx hb dX4_farEnd_21 (by decide) (fun c_4 => ?_) (fun c_4 => ?_)
      · replace hf := ite_f hf c_4
        refine lv_aload_n hx hb dX4_farEnd_31 rfl (lv_at hl 0 rfl) ?_
        refine gK_1_1 E hw (E.hts _ wl67) dX4_farEnd_32 ?_
        refine lv_iload_n hx hb dX4_farEnd_35 rfl (lv_at hl 1 rfl) ?_
        obtain ⟨h_v_5, hf⟩ := rdA_at hf
        refine lK_9 E hw h_v_5 dX4_farEnd_36 (fun v_5 ev_5 => ?_)
        replace hf := hf v_5 ev_5
        refine lv_iload_n hx hb dX4_farEnd_37 rfl (lv_at hl 2 rfl) ?_
        refine lv_icmp_ne (tgt := 50) hx hb dX4_farEnd_38 (by decide) (fun c_6 => ?_) (fun c_6 => ?_)
        · replace hf := ite_f hf c_6
          refine lv_iconst hx hb dX4_farEnd_50 ic_m1 ?_
          cases hf
          exact retK_i E hw dX4_farEnd_51
        · replace hf := ite_t hf c_6
          refine lv_aload_n hx hb dX4_farEnd_41 rfl (lv_at hl 0 rfl) ?_
          refine gK_1_0 E hw (E.hts _ wl66) dX4_farEnd_42 ?_
          refine lv_iload_n hx hb dX4_farEnd_45 rfl (lv_at hl 1 rfl) ?_
          obtain ⟨h_v_7, hf⟩ := rdA_at hf
          refine lK_8 E hw h_v_7 dX4_farEnd_46 (fun v_7 ev_7 => ?_)
          replace hf := hf v_7 ev_7
          refine lv_goto (tgt := 51) hx hb dX4_farEnd_47 (by decide) ?_
          cases hf
          exact retK_i E hw dX4_farEnd_51
      · replace hf := ite_t hf c_4
        refine lv_aload_n hx hb dX4_farEnd_24 rfl (lv_at hl 0 rfl) ?_
        refine gK_1_1 E hw (E.hts _ wl67) dX4_farEnd_25 ?_
        refine lv_iload_n hx hb dX4_farEnd_28 rfl (lv_at hl 1 rfl) ?_
        obtain ⟨h_v_8, hf⟩ := rdA_at hf
        refine lK_9 E hw h_v_8 dX4_farEnd_29 (fun v_8 ev_8 => ?_)
        replace hf := hf v_8 ev_8
        cases hf
        exact retK_i E hw dX4_farEnd_30
    · replace hf := ite_f hf c_2
      refine lv_iconst hx hb dX4_farEnd_12 ic_m1 ?_
      cases hf
      exact retK_i E hw dX4_farEnd_13
theorem qk4_farEnd {p : Program} {l : Launch} {e : Env} {R : Room} {s : State} {m : MethodId} {args : Array Value} {below : List Frame} {meth : Method} {c : Code} {H : Heap} {locs : List Loc} {cells slots : Nat} {Q : State → Prop} {cc : ByteArray} {pc : Nat} {ls : Array Slot} {rest : List Value} {D : va_G} {a : Nat → Nat} {g : Nat → ClassId} {nL : Nat} {own : String} {ret : Option FieldType} {S S1 : SS} {k : Nat} {x1 x2 : Int32} {r : Int32} (E : EK p s m args meth c D a g cc nL own ret) (hw : WK D a g S s H locs) (hM : Met l yX4_farEnd (wsm yX4_farEnd cX4_farEnd 3 (some .int)) (RM k) (PK D a g S [.ref (a 1), .int x1, .int x2]) (QK D a g (some (.int r)) S1) 0 0 (AK a)) {idx : Nat} (hlk : Cond.methodLink own idx yX4_farEnd ∈ wd) (hdg : decode cc pc = .ok (.invokevirtual idx, 3)) (hR : k + 1 ≤ R.frames ∧ 8 + (3 + 11) + 64 * k ≤ R.locals) (hls : ls.size = nL) (hrest : (rest.map fun v => v.category).sum ≤ 8) (hcs : cells ≤ R.cells ∧ slots ≤ R.slots) (kk : ∀ (H1 : Heap) (locs1 : List Loc), WK D a g S1 s H1 locs1 → W p l e R s m args below meth c H1 locs1 cells slots Q (F0 m (pc + 3) ls (.int r :: rest))) : W p l e R s m args below meth c H locs cells slots Q (F0 m pc ls (.int x2 :: .int x1 :: .ref (a 1) :: rest)) :=
  callK_i hw (va_runV (As := [.int x1, .int x2]) (rest := rest) ⟨E.hx, E.hb, E.hml, E.hown, E.hts⟩ hM ⟨cb_of 2 E.hts wl355 wl36 hlk (by decide +kernel) hR, E.hts _ wl353, E.hts _ wl354⟩ ⟨PK_blind, va_recv E.hK hw.1 (ci := 4) (q0 := 1) rfl rfl, PK_pre E.hK E.hN hw.1⟩ rfl rfl hls rfl (lv_room hrest) hdg hcs) kk
/-! X4_lineTowards -/
def k4_lineTowards_B29 (F : Nat) (S : SS) (x1 : Int32) (x2 : Int32) (x3 : Int32) (rec29 : Int32 → Int32 → Int32 → Option Int32) (x4 : Int32) (x5 : Int32) (x6 : Int32) : Option Int32 :=
  if (S 1 5) ≤ x6 then (some (x4)) else ((k4_farEnd F S (x6) (x1)).bind fun r_12 => bnd (r_12) fun x7_14 => if x7_14 = ((-1 : Int32)) then (bnd (x6 + (1)) fun x6_16 => rec29 (x4) (x5) (x6_16)) else (if x5 ≤ x7_14 then (bnd (x6 + (1)) fun x6_18 => rec29 (x4) (x5) (x6_18)) else ((rdA 24 (S 11) x6).bind fun v_19 => (rdA 144 (S 12) ((x7_14 * ((12 : Int32))) + x2)).bind fun v_20 => if (v_19 + v_20) = x3 then (bnd (x6) fun x4_23 => bnd (x7_14) fun x5_24 => bnd (x6 + (1)) fun x6_25 => rec29 (x4_23) (x5_24) (x6_25)) else (bnd (x6 + (1)) fun x6_22 => rec29 (x4) (x5) (x6_22)))))
def k4_lineTowards (F : Nat) (S : SS) (x1 : Int32) (x2 : Int32) : Option Int32 :=
  (k4_milesBetween F S (x1) (x2)).bind fun r_2 => bnd (r_2) fun x3_4 => if x3_4 = ((-1 : Int32)) then (some ((-1 : Int32))) else (if x1 = x2 then (some ((-1 : Int32))) else (bnd ((-1 : Int32)) fun x4_7 => bnd ((12 : Int32)) fun x5_8 => bnd ((0 : Int32)) fun x6_9 => lpN (fun _ _ _ => none) (fun rec29 => k4_lineTowards_B29 F S (x1) (x2) (x3_4) rec29 ) F (x4_7) (x5_8) (x6_9)))
set_option maxRecDepth 100000 in
set_option maxHeartbeats 4000000 in
theorem k4_lineTowards_b29 {p : Program} {l : Launch} {e : Env} {s : State} {m : MethodId} {args : Array Value} {below : List Frame} {meth : Method} {c : Code} {D : va_G} {a : Nat → Nat} {g : Nat → ClassId} (E : EK p s m args meth c D a g cX4_lineTowards 8 RX4 (some .int)) {F : Nat}  (S : SS) (x1 : Int32) (x2 : Int32) (x3 : Int32) {rec29 : Int32 → Int32 → Int32 → Option Int32} {out : Int32} (hrec29 : ∀ (x4 : Int32) (x5 : Int32) (x6 : Int32) (H : Heap) (locs : List Loc) (ls : Array Slot), rec29 x4 x5 x6 = some out → WK D a g S s H locs → lv_has ls 8 [(0, .ref (a 1)), (1, .int (x1)), (2, .int (x2)), (3, .int (x3)), (4, .int (x4)), (5, .int (x5)), (6, .int (x6))] → W p l e (RM 3) s m args below meth c H locs 0 0 (MQ below (QK D a g (some (.int out)) S) args s 0 0 (AK a)) (F0 m 29 ls []))  (x4 : Int32) (x5 : Int32) (x6 : Int32) (H : Heap) (locs : List Loc) (ls : Array Slot) (hf : k4_lineTowards_B29 F S x1 x2 x3 rec29 x4 x5 x6 = some out) (hw : WK D a g S s H locs) (hl : lv_has ls 8 [(0, .ref (a 1)), (1, .int (x1)), (2, .int (x2)), (3, .int (x3)), (4, .int (x4)), (5, .int (x5)), (6, .int (x6))]) : W p l e (RM 3) s m args below meth c H locs 0 0 (MQ below (QK D a g (some (.int out)) S) args s 0 0 (AK a)) (F0 m 29 ls []) := by
  have hx := E.hx
  have hb := E.hb
  unfold k4_lineTowards_B29 at hf
  refine lv_iload hx hb dX4_lineTowards_29 (lv_at hl 6 rfl) ?_
  refine lv_aload_n hx hb dX4_lineTowards_31 rfl (lv_at hl 0 rfl) ?_
  refine gK_1_5 E hw (E.hts _ wl75) dX4_lineTowards_32 ?_
  refine lv_icmp_ge (tgt := 98) hx hb dX4_lineTowards_35 (by decide) (fun c_10 => ?_) (fun c_10 => ?_)
  · replace hf := ite_t hf c_10
    refine lv_iload hx hb dX4_lineTowards_98 (lv_at hl 4 rfl) ?_
    cases hf
    exact retK_i E hw dX4_lineTowards_100
  · replace hf := ite_f hf c_10
    refine lv_aload_n hx hb dX4_lineTowards_38 rfl (lv_at hl 0 rfl) ?_
    refine lv_iload hx hb dX4_lineTowards_39 (lv_at hl 6 rfl) ?_
    refine lv_iload_n hx hb dX4_lineTowards_41 rfl (lv_at hl 1 rfl) ?_
    obtain ⟨r_12, h_11, hf⟩ := ob_at hf
    refine qk4_farEnd E hw (mk4_farEnd E.hD h_11) wl352 dX4_lineTowards_42 ⟨Nat.le_of_ble_eq_true rfl, Nat.le_of_ble_eq_true rfl⟩ hl.1 (Nat.le_of_ble_eq_true rfl) ⟨Nat.le_refl 0, Nat.le_refl 0⟩ (fun H locs hw => ?_)
    refine lv_topi (fun x7_14 ex7_14 => ?_)
    replace hf := bnd_at hf ex7_14
    refine lv_istore (lv' := [(7, .int (x7_14)), (0, .ref (a 1)), (1, .int (x1)), (2, .int (x2)), (3, .int (x3)), (4, .int (x4)), (5, .int (x5)), (6, .int (x6))]) hx hb dX4_lineTowards_45 hl (by decide) rfl (fun ls hl => ?_)
    refine lv_iload hx hb dX4_lineTowards_47 (lv_at hl 0 rfl) ?_
    refine lv_iconst hx hb dX4_lineTowards_49 ic_m1 ?_
    refine lv_icmp_eq (tgt := 92) hx hb dX4_lineTowards_50 (by decide) (fun c_15 => ?_) (fun c_15 => ?_)
    · replace hf := ite_t hf c_15
      obtain ⟨x6_16, ex6_16⟩ : ∃ y : Int32, y = x6 + (1) := ⟨_, rfl⟩
      replace hf := bnd_at hf ex6_16
      refine lv_iinc (v := x6_16) (lv' := [(6, .int (x6_16)), (7, .int (x7_14)), (0, .ref (a 1)), (1, .int (x1)), (2, .int (x2)), (3, .int (x3)), (4, .int (x4)), (5, .int (x5))]) hx hb dX4_lineTowards_92 hl (k := 7) rfl (by rw [ex6_16]; rfl) (by decide) rfl (fun ls hl => ?_)
      refine lv_goto (tgt := 29) hx hb dX4_lineTowards_95 (by decide) ?_
      exact hrec29 (x4) (x5) (x6_16) _ _ ls hf hw (lv_sub hl [2, 3, 4, 5, 6, 7, 0] rfl)
    · replace hf := ite_f hf c_15
      refine lv_iload hx hb dX4_lineTowards_53 (lv_at hl 0 rfl) ?_
      refine lv_iload hx hb dX4_lineTowards_55 (lv_at hl 6 rfl) ?_
      refine lv_icmp_ge (tgt := 92) hx hb dX4_lineTowards_57 (by decide) (fun c_17 => ?_) (fun c_17 => ?_)
      · replace hf := ite_t hf c_17
        obtain ⟨x6_18, ex6_18⟩ : ∃ y : Int32, y = x6 + (1) := ⟨_, rfl⟩
        replace hf := bnd_at hf ex6_18
        refine lv_iinc (v := x6_18) (lv' := [(6, .int (x6_18)), (7, .int (x7_14)), (0, .ref (a 1)), (1, .int (x1)), (2, .int (x2)), (3, .int (x3)), (4, .int (x4)), (5, .int (x5))]) hx hb dX4_lineTowards_92 hl (k := 7) rfl (by rw [ex6_18]; rfl) (by decide) rfl (fun ls hl => ?_)
        refine lv_goto (tgt := 29) hx hb dX4_lineTowards_95 (by decide) ?_
        exact hrec29 (x4) (x5) (x6_18) _ _ ls hf hw (lv_sub hl [2, 3, 4, 5, 6, 7, 0] rfl)
      · replace hf := ite_f hf c_17
        refine lv_aload_n hx hb dX4_lineTowards_60 rfl (lv_at hl 1 rfl) ?_
        refine gK_1_3 E hw (E.hts _ wl70) dX4_lineTowards_61 ?_
        refine lv_iload hx hb dX4_lineTowards_64 (lv_at hl 7 rfl) ?_
        obtain ⟨h_v_19, hf⟩ := rdA_at hf
        refine lK_11 E hw h_v_19 dX4_lineTowards_66 (fun v_19 ev_19 => ?_)
        replace hf := hf v_19 ev_19
        refine lv_aload_n hx hb dX4_lineTowards_67 rfl (lv_at hl 1 rfl) ?_
        refine gK_1_4 E hw (E.hts _ wl72) dX4_lineTowards_68 ?_
        refine lv_iload hx hb dX4_lineTowards_71 (lv_at hl 0 rfl) ?_
        refine lv_bipush hx hb dX4_lineTowards_73 bp_12 ?_
        refine lv_imul hx hb dX4_lineTowards_75 ?_
        refine lv_iload_n hx hb dX4_lineTowards_76 rfl (lv_at hl 3 rfl) ?_
        refine lv_iadd hx hb dX4_lineTowards_77 ?_
        obtain ⟨h_v_20, hf⟩ := rdA_at hf
        refine lK_12 E hw h_v_20 dX4_lineTowards_78 (fun v_20 ev_20 => ?_)
        replace hf := hf v_20 ev_20
        refine lv_iadd hx hb dX4_lineTowards_79 ?_
        refine lv_iload_n hx hb dX4_lineTowards_80 rfl (lv_at hl 4 rfl) ?_
        refine lv_icmp_ne (tgt := 92) hx hb dX4_lineTowards_81 (by decide) (fun c_21 => ?_) (fun c_21 => ?_)
        · replace hf := ite_f hf c_21
          obtain ⟨x6_22, ex6_22⟩ : ∃ y : Int32, y = x6 + (1) := ⟨_, rfl⟩
          replace hf := bnd_at hf ex6_22
          refine lv_iinc (v := x6_22) (lv' := [(6, .int (x6_22)), (7, .int (x7_14)), (0, .ref (a 1)), (1, .int (x1)), (2, .int (x2)), (3, .int (x3)), (4, .int (x4)), (5, .int (x5))]) hx hb dX4_lineTowards_92 hl (k := 7) rfl (by rw [ex6_22]; rfl) (by decide) rfl (fun ls hl => ?_)
          refine lv_goto (tgt := 29) hx hb dX4_lineTowards_95 (by decide) ?_
          exact hrec29 (x4) (x5) (x6_22) _ _ ls hf hw (lv_sub hl [2, 3, 4, 5, 6, 7, 0] rfl)
        · replace hf := ite_t hf c_21
          refine lv_iload hx hb dX4_lineTowards_84 (lv_at hl 7 rfl) ?_
          refine lv_topi (fun x4_23 ex4_23 => ?_)
          replace hf := bnd_at hf ex4_23
          refine lv_istore (lv' := [(4, .int (x4_23)), (7, .int (x7_14)), (0, .ref (a 1)), (1, .int (x1)), (2, .int (x2)), (3, .int (x3)), (5, .int (x5)), (6, .int (x6))]) hx hb dX4_lineTowards_86 hl (by decide) rfl (fun ls hl => ?_)
          refine lv_iload hx hb dX4_lineTowards_88 (lv_at hl 1 rfl) ?_
          refine lv_topi (fun x5_24 ex5_24 => ?_)
          replace hf := bnd_at hf ex5_24
          refine lv_istore (lv' := [(5, .int (x5_24)), (4, .int (x4_23)), (7, .int (x7_14)), (0, .ref (a 1)), (1, .int (x1)), (2, .int (x2)), (3, .int (x3)), (6, .int (x6))]) hx hb dX4_lineTowards_90 hl (by decide) rfl (fun ls hl => ?_)
          obtain ⟨x6_25, ex6_25⟩ : ∃ y : Int32, y = x6 + (1) := ⟨_, rfl⟩
          replace hf := bnd_at hf ex6_25
          refine lv_iinc (v := x6_25) (lv' := [(6, .int (x6_25)), (5, .int (x5_24)), (4, .int (x4_23)), (7, .int (x7_14)), (0, .ref (a 1)), (1, .int (x1)), (2, .int (x2)), (3, .int (x3))]) hx hb dX4_lineTowards_92 hl (k := 7) rfl (by rw [ex6_25]; rfl) (by decide) rfl (fun ls hl => ?_)
          refine lv_goto (tgt := 29) hx hb dX4_lineTowards_95 (by decide) ?_
          exact hrec29 (x4_23) (x5_24) (x6_25) _ _ ls hf hw (lv_sub hl [4, 5, 6, 7, 2, 1, 0] rfl)
theorem k4_lineTowards_l29 {p : Program} {l : Launch} {e : Env} {s : State} {m : MethodId} {args : Array Value} {below : List Frame} {meth : Method} {c : Code} {D : va_G} {a : Nat → Nat} {g : Nat → ClassId} (E : EK p s m args meth c D a g cX4_lineTowards 8 RX4 (some .int)) {F : Nat}  (S : SS) (x1 : Int32) (x2 : Int32) (x3 : Int32) {out : Int32}  : ∀ (n : Nat) (x4 : Int32) (x5 : Int32) (x6 : Int32) (H : Heap) (locs : List Loc) (ls : Array Slot), lpN (fun _ _ _ => none) (fun rec29 => k4_lineTowards_B29 F S x1 x2 x3 rec29) n x4 x5 x6 = some out → WK D a g S s H locs → lv_has ls 8 [(0, .ref (a 1)), (1, .int (x1)), (2, .int (x2)), (3, .int (x3)), (4, .int (x4)), (5, .int (x5)), (6, .int (x6))] → W p l e (RM 3) s m args below meth c H locs 0 0 (MQ below (QK D a g (some (.int out)) S) args s 0 0 (AK a)) (F0 m 29 ls []) := by
  intro n
  induction n with
  | zero => intro x4 x5 x6 H locs ls hf; cases (show (none : Option Int32) = some out from hf)
  | succ n ih => intro x4 x5 x6 H locs ls hf hw hl; exact k4_lineTowards_b29 E (F := F) S x1 x2 x3 ih x4 x5 x6 H locs ls hf hw hl
set_option maxRecDepth 100000 in
set_option maxHeartbeats 4000000 in
theorem mk4_lineTowards {l : Launch} {D : va_G} {a : Nat → Nat} {g : Nat → ClassId} (hD : ∀ S, va_D (AK a) (wK a g S)) {F : Nat} {S : SS} {x1 x2 : Int32} {out : Int32} (hf : k4_lineTowards F S x1 x2 = some out) : Met l yX4_lineTowards (wsm yX4_lineTowards cX4_lineTowards 8 (some .int)) (RM 3) (PK D a g S [.ref (a 1), .int x1, .int x2]) (QK D a g (some (.int out)) S) 0 0 (AK a) := by
  refine Met.ofW (cc := cX4_lineTowards) (maxL := 8) (ret := (some .int)) (by decide) rfl ?_
  intro p e s m args below meth c s₁ B hml hv
  obtain ⟨rfl, hP, hK, hN⟩ := hv
  have hts := atoms_spec (ws := wsm yX4_lineTowards cX4_lineTowards 8 (some .int)) B.pre
  have E : EK p s m _ meth c D a g cX4_lineTowards 8 RX4 (some .int) := ⟨B.exec, B.bytes, B.returns, hml, findClass_of_methodNamed B.named, fun w h => hts w (List.mem_cons_of_mem _ h), hK, hN, hD, B.notSynchronized⟩
  have hx := E.hx
  have hb := E.hb
  have hw : WK D a g S s s.heap [] := ⟨hP, va_S.rf⟩
  have hl := lv_entry ([.ref (a 1), .int x1, .int x2]) (n := 8) (Nat.le_of_ble_eq_true rfl)
  rw [lg_entry_eq]
  generalize (lg_sl ([.ref (a 1), .int x1, .int x2]) ++ List.replicate (8 - (lg_sl ([.ref (a 1), .int x1, .int x2])).length) Slot.unset).toArray = ls at hl ⊢
  have hl : lv_has ls 8 [(0, .ref (a 1)), (1, .int (x1)), (2, .int (x2))] := hl
  show W p l e (RM 3) s m _ below meth c s.heap [] 0 0 (MQ below (QK D a g (some (.int out)) S) _ s 0 0 (AK a)) (F0 m 0 ls [])
  unfold k4_lineTowards at hf
  refine lv_aload_n hx hb dX4_lineTowards_0 rfl (lv_at hl 0 rfl) ?_
  refine lv_iload_n hx hb dX4_lineTowards_1 rfl (lv_at hl 1 rfl) ?_
  refine lv_iload_n hx hb dX4_lineTowards_2 rfl (lv_at hl 2 rfl) ?_
  obtain ⟨r_2, h_1, hf⟩ := ob_at hf
  refine qk4_milesBetween E hw (mk4_milesBetween E.hD h_1) wl351 dX4_lineTowards_3 ⟨Nat.le_of_ble_eq_true rfl, Nat.le_of_ble_eq_true rfl⟩ hl.1 (Nat.le_of_ble_eq_true rfl) ⟨Nat.le_refl 0, Nat.le_refl 0⟩ (fun H locs hw => ?_)
  refine lv_topi (fun x3_4 ex3_4 => ?_)
  replace hf := bnd_at hf ex3_4
  refine lv_istore_n (lv' := [(3, .int (x3_4)), (0, .ref (a 1)), (1, .int (x1)), (2, .int (x2))]) hx hb dX4_lineTowards_6 rfl hl (by decide) rfl (fun ls hl => ?_)
  refine lv_iload_n hx hb dX4_lineTowards_7 rfl (lv_at hl 0 rfl) ?_
  refine lv_iconst hx hb dX4_lineTowards_8 ic_m1 ?_
  refine lv_icmp_eq (tgt := 17) hx hb dX4_lineTowards_9 (by decide) (fun c_5 => ?_) (fun c_5 => ?_)
  · replace hf := ite_t hf c_5
    refine lv_iconst hx hb dX4_lineTowards_17 ic_m1 ?_
    cases hf
    exact retK_i E hw dX4_lineTowards_18
  · replace hf := ite_f hf c_5
    refine lv_iload_n hx hb dX4_lineTowards_12 rfl (lv_at hl 2 rfl) ?_
    refine lv_iload_n hx hb dX4_lineTowards_13 rfl (lv_at hl 3 rfl) ?_
    refine lv_icmp_ne (tgt := 19) hx hb dX4_lineTowards_14 (by decide) (fun c_6 => ?_) (fun c_6 => ?_)
    · replace hf := ite_f hf c_6
      refine lv_iconst hx hb dX4_lineTowards_19 ic_m1 ?_
      refine lv_topi (fun x4_7 ex4_7 => ?_)
      replace hf := bnd_at hf ex4_7
      refine lv_istore (lv' := [(4, .int (x4_7)), (3, .int (x3_4)), (0, .ref (a 1)), (1, .int (x1)), (2, .int (x2))]) hx hb dX4_lineTowards_20 hl (by decide) rfl (fun ls hl => ?_)
      refine lv_bipush hx hb dX4_lineTowards_22 bp_12 ?_
      refine lv_topi (fun x5_8 ex5_8 => ?_)
      replace hf := bnd_at hf ex5_8
      refine lv_istore (lv' := [(5, .int (x5_8)), (4, .int (x4_7)), (3, .int (x3_4)), (0, .ref (a 1)), (1, .int (x1)), (2, .int (x2))]) hx hb dX4_lineTowards_24 hl (by decide) rfl (fun ls hl => ?_)
      refine lv_iconst hx hb dX4_lineTowards_26 ic_0 ?_
      refine lv_topi (fun x6_9 ex6_9 => ?_)
      replace hf := bnd_at hf ex6_9
      refine lv_istore (lv' := [(6, .int (x6_9)), (5, .int (x5_8)), (4, .int (x4_7)), (3, .int (x3_4)), (0, .ref (a 1)), (1, .int (x1)), (2, .int (x2))]) hx hb dX4_lineTowards_27 hl (by decide) rfl (fun ls hl => ?_)
      refine k4_lineTowards_l29 E S (x1) (x2) (x3_4)  F (x4_7) (x5_8) (x6_9) _ _ ls hf hw (lv_sub hl [4, 5, 6, 3, 2, 1, 0] rfl)
    · replace hf := ite_t hf c_6
      refine lv_iconst hx hb dX4_lineTowards_17 ic_m1 ?_
      cases hf
      exact retK_i E hw dX4_lineTowards_18
theorem qk4_lineTowards {p : Program} {l : Launch} {e : Env} {R : Room} {s : State} {m : MethodId} {args : Array Value} {below : List Frame} {meth : Method} {c : Code} {H : Heap} {locs : List Loc} {cells slots : Nat} {Q : State → Prop} {cc : ByteArray} {pc : Nat} {ls : Array Slot} {rest : List Value} {D : va_G} {a : Nat → Nat} {g : Nat → ClassId} {nL : Nat} {own : String} {ret : Option FieldType} {S S1 : SS} {k : Nat} {x1 x2 : Int32} {r : Int32} (E : EK p s m args meth c D a g cc nL own ret) (hw : WK D a g S s H locs) (hM : Met l yX4_lineTowards (wsm yX4_lineTowards cX4_lineTowards 8 (some .int)) (RM k) (PK D a g S [.ref (a 1), .int x1, .int x2]) (QK D a g (some (.int r)) S1) 0 0 (AK a)) {idx : Nat} (hlk : Cond.methodLink own idx yX4_lineTowards ∈ wd) (hdg : decode cc pc = .ok (.invokevirtual idx, 3)) (hR : k + 1 ≤ R.frames ∧ 8 + (8 + 11) + 64 * k ≤ R.locals) (hls : ls.size = nL) (hrest : (rest.map fun v => v.category).sum ≤ 8) (hcs : cells ≤ R.cells ∧ slots ≤ R.slots) (kk : ∀ (H1 : Heap) (locs1 : List Loc), WK D a g S1 s H1 locs1 → W p l e R s m args below meth c H1 locs1 cells slots Q (F0 m (pc + 3) ls (.int r :: rest))) : W p l e R s m args below meth c H locs cells slots Q (F0 m pc ls (.int x2 :: .int x1 :: .ref (a 1) :: rest)) :=
  callK_i hw (va_runV (As := [.int x1, .int x2]) (rest := rest) ⟨E.hx, E.hb, E.hml, E.hown, E.hts⟩ hM ⟨cb_of 2 E.hts wl350 wl36 hlk (by decide +kernel) hR, E.hts _ wl348, E.hts _ wl349⟩ ⟨PK_blind, va_recv E.hK hw.1 (ci := 4) (q0 := 1) rfl rfl, PK_pre E.hK E.hN hw.1⟩ rfl rfl hls rfl (lv_room hrest) hdg hcs) kk
/-! X7_route -/
def k7_route (F : Nat) (S : SS) (x1 : Int32) (x2 : Int32) : Option Int32 :=
  (k4_lineTowards F S (x1) (x2)).bind fun r_2 => some (r_2)
set_option maxRecDepth 100000 in
set_option maxHeartbeats 4000000 in
theorem mk7_route {l : Launch} {D : va_G} {a : Nat → Nat} {g : Nat → ClassId} (hD : ∀ S, va_D (AK a) (wK a g S)) {F : Nat} {S : SS} {x1 x2 : Int32} {out : Int32} (hf : k7_route F S x1 x2 = some out) : Met l yX7_route (wsm yX7_route cX7_route 3 (some .int)) (RM 4) (PK D a g S [.ref (a 0), .int x1, .int x2]) (QK D a g (some (.int out)) S) 0 0 (AK a) := by
  refine Met.ofW (cc := cX7_route) (maxL := 3) (ret := (some .int)) (by decide) rfl ?_
  intro p e s m args below meth c s₁ B hml hv
  obtain ⟨rfl, hP, hK, hN⟩ := hv
  have hts := atoms_spec (ws := wsm yX7_route cX7_route 3 (some .int)) B.pre
  have E : EK p s m _ meth c D a g cX7_route 3 RX7 (some .int) := ⟨B.exec, B.bytes, B.returns, hml, findClass_of_methodNamed B.named, fun w h => hts w (List.mem_cons_of_mem _ h), hK, hN, hD, B.notSynchronized⟩
  have hx := E.hx
  have hb := E.hb
  have hw : WK D a g S s s.heap [] := ⟨hP, va_S.rf⟩
  have hl := lv_entry ([.ref (a 0), .int x1, .int x2]) (n := 3) (Nat.le_of_ble_eq_true rfl)
  rw [lg_entry_eq]
  generalize (lg_sl ([.ref (a 0), .int x1, .int x2]) ++ List.replicate (3 - (lg_sl ([.ref (a 0), .int x1, .int x2])).length) Slot.unset).toArray = ls at hl ⊢
  have hl : lv_has ls 3 [(0, .ref (a 0)), (1, .int (x1)), (2, .int (x2))] := hl
  show W p l e (RM 4) s m _ below meth c s.heap [] 0 0 (MQ below (QK D a g (some (.int out)) S) _ s 0 0 (AK a)) (F0 m 0 ls [])
  unfold k7_route at hf
  refine lv_aload_n hx hb dX7_route_0 rfl (lv_at hl 0 rfl) ?_
  refine gK_0_0 E hw (E.hts _ wl272) dX7_route_1 ?_
  refine lv_iload_n hx hb dX7_route_4 rfl (lv_at hl 1 rfl) ?_
  refine lv_iload_n hx hb dX7_route_5 rfl (lv_at hl 2 rfl) ?_
  obtain ⟨r_2, h_1, hf⟩ := ob_at hf
  refine qk4_lineTowards E hw (mk4_lineTowards E.hD h_1) wl347 dX7_route_6 ⟨Nat.le_of_ble_eq_true rfl, Nat.le_of_ble_eq_true rfl⟩ hl.1 (Nat.le_of_ble_eq_true rfl) ⟨Nat.le_refl 0, Nat.le_refl 0⟩ (fun H locs hw => ?_)
  cases hf
  exact retK_i E hw dX7_route_9
theorem qk7_route {p : Program} {l : Launch} {e : Env} {R : Room} {s : State} {m : MethodId} {args : Array Value} {below : List Frame} {meth : Method} {c : Code} {H : Heap} {locs : List Loc} {cells slots : Nat} {Q : State → Prop} {cc : ByteArray} {pc : Nat} {ls : Array Slot} {rest : List Value} {D : va_G} {a : Nat → Nat} {g : Nat → ClassId} {nL : Nat} {own : String} {ret : Option FieldType} {S S1 : SS} {k : Nat} {x1 x2 : Int32} {r : Int32} (E : EK p s m args meth c D a g cc nL own ret) (hw : WK D a g S s H locs) (hM : Met l yX7_route (wsm yX7_route cX7_route 3 (some .int)) (RM k) (PK D a g S [.ref (a 0), .int x1, .int x2]) (QK D a g (some (.int r)) S1) 0 0 (AK a)) {idx : Nat} (hlk : Cond.methodLink own idx yX7_route ∈ wd) (hdg : decode cc pc = .ok (.invokevirtual idx, 3)) (hR : k + 1 ≤ R.frames ∧ 8 + (3 + 11) + 64 * k ≤ R.locals) (hls : ls.size = nL) (hrest : (rest.map fun v => v.category).sum ≤ 8) (hcs : cells ≤ R.cells ∧ slots ≤ R.slots) (kk : ∀ (H1 : Heap) (locs1 : List Loc), WK D a g S1 s H1 locs1 → W p l e R s m args below meth c H1 locs1 cells slots Q (F0 m (pc + 3) ls (.int r :: rest))) : W p l e R s m args below meth c H locs cells slots Q (F0 m pc ls (.int x2 :: .int x1 :: .ref (a 0) :: rest)) :=
  callK_i hw (va_runV (As := [.int x1, .int x2]) (rest := rest) ⟨E.hx, E.hb, E.hml, E.hown, E.hts⟩ hM ⟨cb_of 2 E.hts wl346 wl35 hlk (by decide +kernel) hR, E.hts _ wl344, E.hts _ wl345⟩ ⟨PK_blind, va_recv E.hK hw.1 (ci := 7) (q0 := 0) rfl rfl, PK_pre E.hK E.hN hw.1⟩ rfl rfl hls rfl (lv_room hrest) hdg hcs) kk
/-! J7_fill_53178[14] -/
def k7_fill_14_B5 (F : Nat) (x1 : Int32) (x3 : Int32) (rec5 : SS → Int32 → Option SS) (S : SS) (x2 : Int32) : Option SS :=
  if x3 ≤ x2 then (some S) else ((ckA 8 x2).bind fun _ => bnd (st S 14 (Int32.toNatClampNeg x2) x1) fun S_4 => bnd (x2 + (1)) fun x2_5 => rec5 S_4 (x2_5))
def k7_fill_14 (F : Nat) (S : SS) (x1 : Int32) : Option SS :=
  bnd ((0 : Int32)) fun x2_1 => bnd ((8 : Int32)) fun x3_2 => lpN (fun _ _ => none) (fun rec5 => k7_fill_14_B5 F (x1) (x3_2) rec5 ) F S (x2_1)
set_option maxRecDepth 100000 in
set_option maxHeartbeats 4000000 in
theorem k7_fill_14_b5 {p : Program} {l : Launch} {e : Env} {s : State} {m : MethodId} {args : Array Value} {below : List Frame} {meth : Method} {c : Code} {D : va_G} {a : Nat → Nat} {g : Nat → ClassId} (E : EK p s m args meth c D a g cJ7_fill_53178 4 RJ7 none) {F : Nat}  (x1 : Int32) (x3 : Int32) {rec5 : SS → Int32 → Option SS} {out : SS} (hrec5 : ∀ (S : SS) (x2 : Int32) (H : Heap) (locs : List Loc) (ls : Array Slot), rec5 S x2 = some out → WK D a g S s H locs → lv_has ls 4 [(0, .ref (a 14)), (1, .int (x1)), (2, .int (x2)), (3, .int (x3))] → W p l e (RM 1) s m args below meth c H locs 0 0 (MQ below (QK D a g none out) args s 0 0 (AK a)) (F0 m 5 ls []))  (S : SS) (x2 : Int32) (H : Heap) (locs : List Loc) (ls : Array Slot) (hf : k7_fill_14_B5 F x1 x3 rec5 S x2 = some out) (hw : WK D a g S s H locs) (hl : lv_has ls 4 [(0, .ref (a 14)), (1, .int (x1)), (2, .int (x2)), (3, .int (x3))]) : W p l e (RM 1) s m args below meth c H locs 0 0 (MQ below (QK D a g none out) args s 0 0 (AK a)) (F0 m 5 ls []) := by
  have hx := E.hx
  have hb := E.hb
  unfold k7_fill_14_B5 at hf
  refine lv_iload_n hx hb dJ7_fill_53178_5 rfl (lv_at hl 2 rfl) ?_
  refine lv_iload_n hx hb dJ7_fill_53178_6 rfl (lv_at hl 3 rfl) ?_
  refine lv_icmp_ge (tgt := 20) hx hb dJ7_fill_53178_7 (by decide) (fun c_3 => ?_) (fun c_3 => ?_)
  · replace hf := ite_t hf c_3
    cases hf
    exact retK_v E hw dJ7_fill_53178_20
  · replace hf := ite_f hf c_3
    refine lv_aload_n hx hb dJ7_fill_53178_10 rfl (lv_at hl 0 rfl) ?_
    refine lv_iload_n hx hb dJ7_fill_53178_11 rfl (lv_at hl 2 rfl) ?_
    refine lv_iload_n hx hb dJ7_fill_53178_12 rfl (lv_at hl 1 rfl) ?_
    obtain ⟨h_S_4, hf⟩ := ckA_at hf
    refine sK_14 E hw h_S_4 dJ7_fill_53178_13 (fun S_4 eS_4 H locs hw => ?_)
    replace hf := bnd_at hf eS_4
    obtain ⟨x2_5, ex2_5⟩ : ∃ y : Int32, y = x2 + (1) := ⟨_, rfl⟩
    replace hf := bnd_at hf ex2_5
    refine lv_iinc (v := x2_5) (lv' := [(2, .int (x2_5)), (0, .ref (a 14)), (1, .int (x1)), (3, .int (x3))]) hx hb dJ7_fill_53178_14 hl (k := 2) rfl (by rw [ex2_5]; rfl) (by decide) rfl (fun ls hl => ?_)
    refine lv_goto (tgt := 5) hx hb dJ7_fill_53178_17 (by decide) ?_
    exact hrec5 S_4 (x2_5) _ _ ls hf hw (lv_sub hl [1, 2, 0, 3] rfl)
theorem k7_fill_14_l5 {p : Program} {l : Launch} {e : Env} {s : State} {m : MethodId} {args : Array Value} {below : List Frame} {meth : Method} {c : Code} {D : va_G} {a : Nat → Nat} {g : Nat → ClassId} (E : EK p s m args meth c D a g cJ7_fill_53178 4 RJ7 none) {F : Nat}  (x1 : Int32) (x3 : Int32) {out : SS}  : ∀ (n : Nat) (S : SS) (x2 : Int32) (H : Heap) (locs : List Loc) (ls : Array Slot), lpN (fun _ _ => none) (fun rec5 => k7_fill_14_B5 F x1 x3 rec5) n S x2 = some out → WK D a g S s H locs → lv_has ls 4 [(0, .ref (a 14)), (1, .int (x1)), (2, .int (x2)), (3, .int (x3))] → W p l e (RM 1) s m args below meth c H locs 0 0 (MQ below (QK D a g none out) args s 0 0 (AK a)) (F0 m 5 ls []) := by
  intro n
  induction n with
  | zero => intro S x2 H locs ls hf; cases (show (none : Option SS) = some out from hf)
  | succ n ih => intro S x2 H locs ls hf hw hl; exact k7_fill_14_b5 E (F := F) x1 x3 ih S x2 H locs ls hf hw hl
set_option maxRecDepth 100000 in
set_option maxHeartbeats 4000000 in
theorem mk7_fill_14 {l : Launch} {D : va_G} {a : Nat → Nat} {g : Nat → ClassId} (hD : ∀ S, va_D (AK a) (wK a g S)) {F : Nat} {S : SS} {x1 : Int32} {out : SS} (hf : k7_fill_14 F S x1 = some out) : Met l yJ7_fill_53178 (wsm yJ7_fill_53178 cJ7_fill_53178 4 none) (RM 1) (PK D a g S [.ref (a 14), .int x1]) (QK D a g none out) 0 0 (AK a) := by
  refine Met.ofW (cc := cJ7_fill_53178) (maxL := 4) (ret := none) (by decide) rfl ?_
  intro p e s m args below meth c s₁ B hml hv
  obtain ⟨rfl, hP, hK, hN⟩ := hv
  have hts := atoms_spec (ws := wsm yJ7_fill_53178 cJ7_fill_53178 4 none) B.pre
  have E : EK p s m _ meth c D a g cJ7_fill_53178 4 RJ7 none := ⟨B.exec, B.bytes, B.returns, hml, findClass_of_methodNamed B.named, fun w h => hts w (List.mem_cons_of_mem _ h), hK, hN, hD, B.notSynchronized⟩
  have hx := E.hx
  have hb := E.hb
  have hw : WK D a g S s s.heap [] := ⟨hP, va_S.rf⟩
  have hl := lv_entry ([.ref (a 14), .int x1]) (n := 4) (Nat.le_of_ble_eq_true rfl)
  rw [lg_entry_eq]
  generalize (lg_sl ([.ref (a 14), .int x1]) ++ List.replicate (4 - (lg_sl ([.ref (a 14), .int x1])).length) Slot.unset).toArray = ls at hl ⊢
  have hl : lv_has ls 4 [(0, .ref (a 14)), (1, .int (x1))] := hl
  show W p l e (RM 1) s m _ below meth c s.heap [] 0 0 (MQ below (QK D a g none out) _ s 0 0 (AK a)) (F0 m 0 ls [])
  unfold k7_fill_14 at hf
  refine lv_iconst hx hb dJ7_fill_53178_0 ic_0 ?_
  refine lv_topi (fun x2_1 ex2_1 => ?_)
  replace hf := bnd_at hf ex2_1
  refine lv_istore_n (lv' := [(2, .int (x2_1)), (0, .ref (a 14)), (1, .int (x1))]) hx hb dJ7_fill_53178_1 rfl hl (by decide) rfl (fun ls hl => ?_)
  refine lv_aload_n hx hb dJ7_fill_53178_2 rfl (lv_at hl 1 rfl) ?_
  refine va_alen hx hb E.hK hw.1 14 6 rfl rfl (v := 8) rfl dJ7_fill_53178_3 ?_
  refine lv_topi (fun x3_2 ex3_2 => ?_)
  replace hf := bnd_at hf ex3_2
  refine lv_istore_n (lv' := [(3, .int (x3_2)), (2, .int (x2_1)), (0, .ref (a 14)), (1, .int (x1))]) hx hb dJ7_fill_53178_4 rfl hl (by decide) rfl (fun ls hl => ?_)
  refine k7_fill_14_l5 E (x1) (x3_2)  F S (x2_1) _ _ ls hf hw (lv_sub hl [2, 3, 1, 0] rfl)
theorem qk7_fill_14 {p : Program} {l : Launch} {e : Env} {R : Room} {s : State} {m : MethodId} {args : Array Value} {below : List Frame} {meth : Method} {c : Code} {H : Heap} {locs : List Loc} {cells slots : Nat} {Q : State → Prop} {cc : ByteArray} {pc : Nat} {ls : Array Slot} {rest : List Value} {D : va_G} {a : Nat → Nat} {g : Nat → ClassId} {nL : Nat} {own : String} {ret : Option FieldType} {S S1 : SS} {k : Nat} {x1 : Int32} (E : EK p s m args meth c D a g cc nL own ret) (hw : WK D a g S s H locs) (hM : Met l yJ7_fill_53178 (wsm yJ7_fill_53178 cJ7_fill_53178 4 none) (RM k) (PK D a g S [.ref (a 14), .int x1]) (QK D a g none S1) 0 0 (AK a)) {idx : Nat} (hlk : Cond.methodLink own idx yJ7_fill_53178 ∈ wd) (hdg : decode cc pc = .ok (.invokestatic idx, 3)) (hR : k + 1 ≤ R.frames ∧ 8 + (4 + 11) + 64 * k ≤ R.locals) (hls : ls.size = nL) (hrest : (rest.map fun v => v.category).sum ≤ 8) (hcs : cells ≤ R.cells ∧ slots ≤ R.slots) (kk : ∀ (H1 : Heap) (locs1 : List Loc), WK D a g S1 s H1 locs1 → W p l e R s m args below meth c H1 locs1 cells slots Q (F0 m (pc + 3) ls (rest))) : W p l e R s m args below meth c H locs cells slots Q (F0 m pc ls (.int x1 :: .ref (a 14) :: rest)) :=
  callK_v hw (va_runS (As := [.ref (a 14), .int x1]) (rest := rest) ⟨E.hx, E.hb, E.hml, E.hown, E.hts⟩ hM ⟨cb_of 2 E.hts wl65 wl37 hlk (by decide +kernel) hR, E.hts _ wl64⟩ ⟨PK_blind, PK_pre E.hK E.hN hw.1⟩ rfl rfl hls rfl (lv_room hrest) hdg hcs) kk
/-! X5_travel -/
def k5_travel_B23_J81 (F : Nat) (x2 : Int32) (rec23 : SS → Int32 → Int32 → Option (Int32 × SS)) (k120 : SS → Int32 → Option (Int32 × SS)) (S : SS) (x3 : Int32) (x4 : Int32) (x5 : Int32) : Option (Int32 × SS) :=
  (rdA 8 (S 14) (S 2 5)).bind fun v_18 => (rdA 24 (S 11) x5).bind fun v_19 => (ckA 8 (S 2 5)).bind fun _ => bnd (st S 14 (Int32.toNatClampNeg (S 2 5)) (v_18 + v_19)) fun S_20 => (k4_farEnd F S_20 (x5) (x3)).bind fun r_22 => bnd (r_22) fun x3_24 => bnd (x4 + (1)) fun x4_25 => rec23 S_20 (x3_24) (x4_25)
def k5_travel_B23 (F : Nat) (x2 : Int32) (rec23 : SS → Int32 → Int32 → Option (Int32 × SS)) (k120 : SS → Int32 → Option (Int32 × SS)) (S : SS) (x3 : Int32) (x4 : Int32) : Option (Int32 × SS) :=
  if ((12 : Int32)) ≤ x4 then (k120 S (x3)) else (if x3 = x2 then (k120 S (x3)) else ((k4_lineTowards F S (x3) (x2)).bind fun r_11 => bnd (r_11) fun x5_13 => if x5_13 = ((-1 : Int32)) then (some ((0 : Int32), S)) else ((rdA 24 (S 10) x5_13).bind fun v_15 => bnd (st S 2 5 v_15) fun S_16 => if x4 = 0 then (bnd (st S_16 2 4 (S_16 2 5)) fun S_26 => k5_travel_B23_J81 F x2 rec23 k120 S_26 (x3) (x4) (x5_13)) else (k5_travel_B23_J81 F x2 rec23 k120 S_16 (x3) (x4) (x5_13)))))
def k5_travel_J120 (F : Nat) (S : SS) (x2 : Int32) (x3 : Int32) : Option (Int32 × SS) :=
  (k7_isCompany F S (S 2 4)).bind fun r_29 => if r_29 = 0 then (some ((0 : Int32), S)) else ((k7_isCompany F S (S 2 5)).bind fun r_33 => if r_33 = 0 then (some ((0 : Int32), S)) else (if x3 = x2 then (some ((1 : Int32), S)) else (some ((0 : Int32), S))))
def k5_travel (F : Nat) (S : SS) (x1 : Int32) (x2 : Int32) : Option (Int32 × SS) :=
  (k7_fill_14 F S ((0 : Int32))).bind fun S_3 => bnd (st S_3 2 4 ((-1 : Int32))) fun S_4 => bnd (st S_4 2 5 ((-1 : Int32))) fun S_5 => bnd (x1) fun x3_6 => bnd ((0 : Int32)) fun x4_7 => lpN (fun _ _ _ => none) (fun rec23 => k5_travel_B23 F (x2) rec23 (fun S_27 x3_27 => k5_travel_J120 F S_27 (x2) (x3_27))) F S_5 (x3_6) (x4_7)
set_option maxRecDepth 100000 in
set_option maxHeartbeats 4000000 in
theorem k5_travel_B23_J81_j {p : Program} {l : Launch} {e : Env} {s : State} {m : MethodId} {args : Array Value} {below : List Frame} {meth : Method} {c : Code} {D : va_G} {a : Nat → Nat} {g : Nat → ClassId} (E : EK p s m args meth c D a g cX5_travel 6 RX5 (some .boolean)) {F : Nat}  (x2 : Int32) {rec23 : SS → Int32 → Int32 → Option (Int32 × SS)} {k120 : SS → Int32 → Option (Int32 × SS)} {out : (Int32 × SS)} (hrec23 : ∀ (S : SS) (x3 : Int32) (x4 : Int32) (H : Heap) (locs : List Loc) (ls : Array Slot), rec23 S x3 x4 = some out → WK D a g S s H locs → lv_has ls 6 [(0, .ref (a 2)), (2, .int (x2)), (3, .int (x3)), (4, .int (x4))] → W p l e (RM 4) s m args below meth c H locs 0 0 (MQ below (QK D a g (some (.int out.1)) out.2) args s 0 0 (AK a)) (F0 m 23 ls [])) (hk120 : ∀ (S : SS) (x3 : Int32) (H : Heap) (locs : List Loc) (ls : Array Slot), k120 S x3 = some out → WK D a g S s H locs → lv_has ls 6 [(0, .ref (a 2)), (2, .int (x2)), (3, .int (x3))] → W p l e (RM 4) s m args below meth c H locs 0 0 (MQ below (QK D a g (some (.int out.1)) out.2) args s 0 0 (AK a)) (F0 m 120 ls [])) (S : SS) (x3 : Int32) (x4 : Int32) (x5 : Int32) (H : Heap) (locs : List Loc) (ls : Array Slot) (hf : k5_travel_B23_J81 F x2 rec23 k120 S x3 x4 x5 = some out) (hw : WK D a g S s H locs) (hl : lv_has ls 6 [(0, .ref (a 2)), (2, .int (x2)), (3, .int (x3)), (4, .int (x4)), (5, .int (x5))]) : W p l e (RM 4) s m args below meth c H locs 0 0 (MQ below (QK D a g (some (.int out.1)) out.2) args s 0 0 (AK a)) (F0 m 81 ls []) := by
  have hx := E.hx
  have hb := E.hb
  unfold k5_travel_B23_J81 at hf
  refine lv_aload_n hx hb dX5_travel_81 rfl (lv_at hl 0 rfl) ?_
  refine gK_2_1 E hw (E.hts _ wl99) dX5_travel_82 ?_
  refine lv_aload_n hx hb dX5_travel_85 rfl (lv_at hl 0 rfl) ?_
  refine gK_2_5 E hw (E.hts _ wl103) dX5_travel_86 ?_
  refine lv_dup2_11 hx hb dX5_travel_89 rfl rfl ?_
  obtain ⟨h_v_18, hf⟩ := rdA_at hf
  refine lK_14 E hw h_v_18 dX5_travel_90 (fun v_18 ev_18 => ?_)
  replace hf := hf v_18 ev_18
  refine lv_aload_n hx hb dX5_travel_91 rfl (lv_at hl 0 rfl) ?_
  refine gK_2_3 E hw (E.hts _ wl101) dX5_travel_92 ?_
  refine gK_1_3 E hw (E.hts _ wl71) dX5_travel_95 ?_
  refine lv_iload hx hb dX5_travel_98 (lv_at hl 4 rfl) ?_
  obtain ⟨h_v_19, hf⟩ := rdA_at hf
  refine lK_11 E hw h_v_19 dX5_travel_100 (fun v_19 ev_19 => ?_)
  replace hf := hf v_19 ev_19
  refine lv_iadd hx hb dX5_travel_101 ?_
  obtain ⟨h_S_20, hf⟩ := ckA_at hf
  refine sK_14 E hw h_S_20 dX5_travel_102 (fun S_20 eS_20 H locs hw => ?_)
  replace hf := bnd_at hf eS_20
  refine lv_aload_n hx hb dX5_travel_103 rfl (lv_at hl 0 rfl) ?_
  refine gK_2_3 E hw (E.hts _ wl101) dX5_travel_104 ?_
  refine lv_iload hx hb dX5_travel_107 (lv_at hl 4 rfl) ?_
  refine lv_iload_n hx hb dX5_travel_109 rfl (lv_at hl 2 rfl) ?_
  obtain ⟨r_22, h_21, hf⟩ := ob_at hf
  refine qk4_farEnd E hw (mk4_farEnd E.hD h_21) wl373 dX5_travel_110 ⟨Nat.le_of_ble_eq_true rfl, Nat.le_of_ble_eq_true rfl⟩ hl.1 (Nat.le_of_ble_eq_true rfl) ⟨Nat.le_refl 0, Nat.le_refl 0⟩ (fun H locs hw => ?_)
  refine lv_topi (fun x3_24 ex3_24 => ?_)
  replace hf := bnd_at hf ex3_24
  refine lv_istore_n (lv' := [(3, .int (x3_24)), (0, .ref (a 2)), (2, .int (x2)), (4, .int (x4)), (5, .int (x5))]) hx hb dX5_travel_113 rfl hl (by decide) rfl (fun ls hl => ?_)
  obtain ⟨x4_25, ex4_25⟩ : ∃ y : Int32, y = x4 + (1) := ⟨_, rfl⟩
  replace hf := bnd_at hf ex4_25
  refine lv_iinc (v := x4_25) (lv' := [(4, .int (x4_25)), (3, .int (x3_24)), (0, .ref (a 2)), (2, .int (x2)), (5, .int (x5))]) hx hb dX5_travel_114 hl (k := 3) rfl (by rw [ex4_25]; rfl) (by decide) rfl (fun ls hl => ?_)
  refine lv_goto (tgt := 23) hx hb dX5_travel_117 (by decide) ?_
  exact hrec23 S_20 (x3_24) (x4_25) _ _ ls hf hw (lv_sub hl [2, 3, 1, 0] rfl)
set_option maxRecDepth 100000 in
set_option maxHeartbeats 4000000 in
theorem k5_travel_b23 {p : Program} {l : Launch} {e : Env} {s : State} {m : MethodId} {args : Array Value} {below : List Frame} {meth : Method} {c : Code} {D : va_G} {a : Nat → Nat} {g : Nat → ClassId} (E : EK p s m args meth c D a g cX5_travel 6 RX5 (some .boolean)) {F : Nat}  (x2 : Int32) {rec23 : SS → Int32 → Int32 → Option (Int32 × SS)} {k120 : SS → Int32 → Option (Int32 × SS)} {out : (Int32 × SS)} (hrec23 : ∀ (S : SS) (x3 : Int32) (x4 : Int32) (H : Heap) (locs : List Loc) (ls : Array Slot), rec23 S x3 x4 = some out → WK D a g S s H locs → lv_has ls 6 [(0, .ref (a 2)), (2, .int (x2)), (3, .int (x3)), (4, .int (x4))] → W p l e (RM 4) s m args below meth c H locs 0 0 (MQ below (QK D a g (some (.int out.1)) out.2) args s 0 0 (AK a)) (F0 m 23 ls [])) (hk120 : ∀ (S : SS) (x3 : Int32) (H : Heap) (locs : List Loc) (ls : Array Slot), k120 S x3 = some out → WK D a g S s H locs → lv_has ls 6 [(0, .ref (a 2)), (2, .int (x2)), (3, .int (x3))] → W p l e (RM 4) s m args below meth c H locs 0 0 (MQ below (QK D a g (some (.int out.1)) out.2) args s 0 0 (AK a)) (F0 m 120 ls [])) (S : SS) (x3 : Int32) (x4 : Int32) (H : Heap) (locs : List Loc) (ls : Array Slot) (hf : k5_travel_B23 F x2 rec23 k120 S x3 x4 = some out) (hw : WK D a g S s H locs) (hl : lv_has ls 6 [(0, .ref (a 2)), (2, .int (x2)), (3, .int (x3)), (4, .int (x4))]) : W p l e (RM 4) s m args below meth c H locs 0 0 (MQ below (QK D a g (some (.int out.1)) out.2) args s 0 0 (AK a)) (F0 m 23 ls []) := by
  have hx := E.hx
  have hb := E.hb
  unfold k5_travel_B23 at hf
  refine lv_iload hx hb dX5_travel_23 (lv_at hl 3 rfl) ?_
  refine lv_bipush hx hb dX5_travel_25 bp_12 ?_
  refine lv_icmp_ge (tgt := 120) hx hb dX5_travel_27 (by decide) (fun c_8 => ?_) (fun c_8 => ?_)
  · replace hf := ite_t hf c_8
    exact hk120 S (x3) _ _ ls hf hw (lv_sub hl [0, 1, 2] rfl)
  · replace hf := ite_f hf c_8
    refine lv_iload_n hx hb dX5_travel_30 rfl (lv_at hl 2 rfl) ?_
    refine lv_iload_n hx hb dX5_travel_31 rfl (lv_at hl 1 rfl) ?_
    refine lv_icmp_eq (tgt := 120) hx hb dX5_travel_32 (by decide) (fun c_9 => ?_) (fun c_9 => ?_)
    · replace hf := ite_t hf c_9
      exact hk120 S (x3) _ _ ls hf hw (lv_sub hl [0, 1, 2] rfl)
    · replace hf := ite_f hf c_9
      refine lv_aload_n hx hb dX5_travel_35 rfl (lv_at hl 0 rfl) ?_
      refine gK_2_3 E hw (E.hts _ wl101) dX5_travel_36 ?_
      refine lv_iload_n hx hb dX5_travel_39 rfl (lv_at hl 2 rfl) ?_
      refine lv_iload_n hx hb dX5_travel_40 rfl (lv_at hl 1 rfl) ?_
      obtain ⟨r_11, h_10, hf⟩ := ob_at hf
      refine qk4_lineTowards E hw (mk4_lineTowards E.hD h_10) wl372 dX5_travel_41 ⟨Nat.le_of_ble_eq_true rfl, Nat.le_of_ble_eq_true rfl⟩ hl.1 (Nat.le_of_ble_eq_true rfl) ⟨Nat.le_refl 0, Nat.le_refl 0⟩ (fun H locs hw => ?_)
      refine lv_topi (fun x5_13 ex5_13 => ?_)
      replace hf := bnd_at hf ex5_13
      refine lv_istore (lv' := [(5, .int (x5_13)), (0, .ref (a 2)), (2, .int (x2)), (3, .int (x3)), (4, .int (x4))]) hx hb dX5_travel_44 hl (by decide) rfl (fun ls hl => ?_)
      refine lv_iload hx hb dX5_travel_46 (lv_at hl 0 rfl) ?_
      refine lv_iconst hx hb dX5_travel_48 ic_m1 ?_
      refine lv_icmp_ne (tgt := 54) hx hb dX5_travel_49 (by decide) (fun c_14 => ?_) (fun c_14 => ?_)
      · replace hf := ite_f hf c_14
        refine lv_aload_n hx hb dX5_travel_54 rfl (lv_at hl 1 rfl) ?_
        refine lv_aload_n hx hb dX5_travel_55 rfl (lv_at hl 1 rfl) ?_
        refine gK_2_3 E hw (E.hts _ wl101) dX5_travel_56 ?_
        refine gK_1_2 E hw (E.hts _ wl69) dX5_travel_59 ?_
        refine lv_iload hx hb dX5_travel_62 (lv_at hl 0 rfl) ?_
        obtain ⟨h_v_15, hf⟩ := rdA_at hf
        refine lK_10 E hw h_v_15 dX5_travel_64 (fun v_15 ev_15 => ?_)
        replace hf := hf v_15 ev_15
        refine pK_2_5 E hw (E.hts _ wl103) dX5_travel_65 (fun S_16 eS_16 H locs hw => ?_)
        replace hf := bnd_at hf eS_16
        refine lv_iload hx hb dX5_travel_68 (lv_at hl 4 rfl) ?_
        refine lv_if_ne (tgt := 81) hx hb dX5_travel_70 (by decide) (fun c_17 => ?_) (fun c_17 => ?_)
        · replace hf := ite_f hf c_17
          exact k5_travel_B23_J81_j E x2 hrec23 hk120 S_16 (x3) (x4) (x5_13) _ _ ls hf hw (lv_sub hl [1, 2, 3, 4, 0] rfl)
        · replace hf := ite_t hf c_17
          refine lv_aload_n hx hb dX5_travel_73 rfl (lv_at hl 1 rfl) ?_
          refine lv_aload_n hx hb dX5_travel_74 rfl (lv_at hl 1 rfl) ?_
          refine gK_2_5 E hw (E.hts _ wl103) dX5_travel_75 ?_
          refine pK_2_4 E hw (E.hts _ wl102) dX5_travel_78 (fun S_26 eS_26 H locs hw => ?_)
          replace hf := bnd_at hf eS_26
          exact k5_travel_B23_J81_j E x2 hrec23 hk120 S_26 (x3) (x4) (x5_13) _ _ ls hf hw (lv_sub hl [1, 2, 3, 4, 0] rfl)
      · replace hf := ite_t hf c_14
        refine lv_iconst hx hb dX5_travel_52 ic_0 ?_
        cases hf
        exact retK_z E hw nb0 dX5_travel_53
theorem k5_travel_l23 {p : Program} {l : Launch} {e : Env} {s : State} {m : MethodId} {args : Array Value} {below : List Frame} {meth : Method} {c : Code} {D : va_G} {a : Nat → Nat} {g : Nat → ClassId} (E : EK p s m args meth c D a g cX5_travel 6 RX5 (some .boolean)) {F : Nat}  (x2 : Int32) {k120 : SS → Int32 → Option (Int32 × SS)} {out : (Int32 × SS)} (hk120 : ∀ (S : SS) (x3 : Int32) (H : Heap) (locs : List Loc) (ls : Array Slot), k120 S x3 = some out → WK D a g S s H locs → lv_has ls 6 [(0, .ref (a 2)), (2, .int (x2)), (3, .int (x3))] → W p l e (RM 4) s m args below meth c H locs 0 0 (MQ below (QK D a g (some (.int out.1)) out.2) args s 0 0 (AK a)) (F0 m 120 ls [])) : ∀ (n : Nat) (S : SS) (x3 : Int32) (x4 : Int32) (H : Heap) (locs : List Loc) (ls : Array Slot), lpN (fun _ _ _ => none) (fun rec23 => k5_travel_B23 F x2 rec23 k120) n S x3 x4 = some out → WK D a g S s H locs → lv_has ls 6 [(0, .ref (a 2)), (2, .int (x2)), (3, .int (x3)), (4, .int (x4))] → W p l e (RM 4) s m args below meth c H locs 0 0 (MQ below (QK D a g (some (.int out.1)) out.2) args s 0 0 (AK a)) (F0 m 23 ls []) := by
  intro n
  induction n with
  | zero => intro S x3 x4 H locs ls hf; cases (show (none : Option (Int32 × SS)) = some out from hf)
  | succ n ih => intro S x3 x4 H locs ls hf hw hl; exact k5_travel_b23 E (F := F) x2 ih hk120 S x3 x4 H locs ls hf hw hl
set_option maxRecDepth 100000 in
set_option maxHeartbeats 4000000 in
theorem k5_travel_J120_j {p : Program} {l : Launch} {e : Env} {s : State} {m : MethodId} {args : Array Value} {below : List Frame} {meth : Method} {c : Code} {D : va_G} {a : Nat → Nat} {g : Nat → ClassId} (E : EK p s m args meth c D a g cX5_travel 6 RX5 (some .boolean)) {F : Nat}  {out : (Int32 × SS)} (S : SS) (x2 : Int32) (x3 : Int32) (H : Heap) (locs : List Loc) (ls : Array Slot) (hf : k5_travel_J120 F S x2 x3 = some out) (hw : WK D a g S s H locs) (hl : lv_has ls 6 [(0, .ref (a 2)), (2, .int (x2)), (3, .int (x3))]) : W p l e (RM 4) s m args below meth c H locs 0 0 (MQ below (QK D a g (some (.int out.1)) out.2) args s 0 0 (AK a)) (F0 m 120 ls []) := by
  have hx := E.hx
  have hb := E.hb
  unfold k5_travel_J120 at hf
  refine lv_aload_n hx hb dX5_travel_120 rfl (lv_at hl 0 rfl) ?_
  refine gK_2_4 E hw (E.hts _ wl102) dX5_travel_121 ?_
  obtain ⟨r_29, h_28, hf⟩ := ob_at hf
  refine qnk7_isCompany E hw (mk7_isCompany E.hD h_28) nw6 dX5_travel_124 ⟨Nat.le_of_ble_eq_true rfl, Nat.le_of_ble_eq_true rfl⟩ hl.1 (Nat.le_of_ble_eq_true rfl) ⟨Nat.le_refl 0, Nat.le_refl 0⟩ (fun H locs hw => ?_)
  refine lv_if_eq (tgt := 149) hx hb dX5_travel_127 (by decide) (fun c_31 => ?_) (fun c_31 => ?_)
  · replace hf := ite_t hf c_31
    refine lv_iconst hx hb dX5_travel_149 ic_0 ?_
    cases hf
    exact retK_z E hw nb0 dX5_travel_150
  · replace hf := ite_f hf c_31
    refine lv_aload_n hx hb dX5_travel_130 rfl (lv_at hl 0 rfl) ?_
    refine gK_2_5 E hw (E.hts _ wl103) dX5_travel_131 ?_
    obtain ⟨r_33, h_32, hf⟩ := ob_at hf
    refine qnk7_isCompany E hw (mk7_isCompany E.hD h_32) nw6 dX5_travel_134 ⟨Nat.le_of_ble_eq_true rfl, Nat.le_of_ble_eq_true rfl⟩ hl.1 (Nat.le_of_ble_eq_true rfl) ⟨Nat.le_refl 0, Nat.le_refl 0⟩ (fun H locs hw => ?_)
    refine lv_if_eq (tgt := 149) hx hb dX5_travel_137 (by decide) (fun c_35 => ?_) (fun c_35 => ?_)
    · replace hf := ite_t hf c_35
      refine lv_iconst hx hb dX5_travel_149 ic_0 ?_
      cases hf
      exact retK_z E hw nb0 dX5_travel_150
    · replace hf := ite_f hf c_35
      refine lv_iload_n hx hb dX5_travel_140 rfl (lv_at hl 2 rfl) ?_
      refine lv_iload_n hx hb dX5_travel_141 rfl (lv_at hl 1 rfl) ?_
      refine lv_icmp_ne (tgt := 149) hx hb dX5_travel_142 (by decide) (fun c_36 => ?_) (fun c_36 => ?_)
      · replace hf := ite_f hf c_36
        refine lv_iconst hx hb dX5_travel_149 ic_0 ?_
        cases hf
        exact retK_z E hw nb0 dX5_travel_150
      · replace hf := ite_t hf c_36
        refine lv_iconst hx hb dX5_travel_145 ic_1 ?_
        refine lv_goto (tgt := 150) hx hb dX5_travel_146 (by decide) ?_
        cases hf
        exact retK_z E hw nb1 dX5_travel_150
set_option maxRecDepth 100000 in
set_option maxHeartbeats 4000000 in
theorem mk5_travel {l : Launch} {D : va_G} {a : Nat → Nat} {g : Nat → ClassId} (hD : ∀ S, va_D (AK a) (wK a g S)) {F : Nat} {S : SS} {x1 x2 : Int32} {out : (Int32 × SS)} (hf : k5_travel F S x1 x2 = some out) : Met l yX5_travel (wsm yX5_travel cX5_travel 6 (some .boolean)) (RM 4) (PK D a g S [.ref (a 2), .int x1, .int x2]) (QK D a g (some (.int out.1)) out.2) 0 0 (AK a) := by
  refine Met.ofW (cc := cX5_travel) (maxL := 6) (ret := (some .boolean)) (by decide) rfl ?_
  intro p e s m args below meth c s₁ B hml hv
  obtain ⟨rfl, hP, hK, hN⟩ := hv
  have hts := atoms_spec (ws := wsm yX5_travel cX5_travel 6 (some .boolean)) B.pre
  have E : EK p s m _ meth c D a g cX5_travel 6 RX5 (some .boolean) := ⟨B.exec, B.bytes, B.returns, hml, findClass_of_methodNamed B.named, fun w h => hts w (List.mem_cons_of_mem _ h), hK, hN, hD, B.notSynchronized⟩
  have hx := E.hx
  have hb := E.hb
  have hw : WK D a g S s s.heap [] := ⟨hP, va_S.rf⟩
  have hl := lv_entry ([.ref (a 2), .int x1, .int x2]) (n := 6) (Nat.le_of_ble_eq_true rfl)
  rw [lg_entry_eq]
  generalize (lg_sl ([.ref (a 2), .int x1, .int x2]) ++ List.replicate (6 - (lg_sl ([.ref (a 2), .int x1, .int x2])).length) Slot.unset).toArray = ls at hl ⊢
  have hl : lv_has ls 6 [(0, .ref (a 2)), (1, .int (x1)), (2, .int (x2))] := hl
  show W p l e (RM 4) s m _ below meth c s.heap [] 0 0 (MQ below (QK D a g (some (.int out.1)) out.2) _ s 0 0 (AK a)) (F0 m 0 ls [])
  unfold k5_travel at hf
  refine lv_aload_n hx hb dX5_travel_0 rfl (lv_at hl 0 rfl) ?_
  refine gK_2_1 E hw (E.hts _ wl99) dX5_travel_1 ?_
  refine lv_iconst hx hb dX5_travel_4 ic_0 ?_
  obtain ⟨S_3, h_1, hf⟩ := ob_at hf
  refine qk7_fill_14 E hw (mk7_fill_14 E.hD h_1) wl371 dX5_travel_5 ⟨Nat.le_of_ble_eq_true rfl, Nat.le_of_ble_eq_true rfl⟩ hl.1 (Nat.le_of_ble_eq_true rfl) ⟨Nat.le_refl 0, Nat.le_refl 0⟩ (fun H locs hw => ?_)
  refine lv_aload_n hx hb dX5_travel_8 rfl (lv_at hl 0 rfl) ?_
  refine lv_iconst hx hb dX5_travel_9 ic_m1 ?_
  refine pK_2_4 E hw (E.hts _ wl102) dX5_travel_10 (fun S_4 eS_4 H locs hw => ?_)
  replace hf := bnd_at hf eS_4
  refine lv_aload_n hx hb dX5_travel_13 rfl (lv_at hl 0 rfl) ?_
  refine lv_iconst hx hb dX5_travel_14 ic_m1 ?_
  refine pK_2_5 E hw (E.hts _ wl103) dX5_travel_15 (fun S_5 eS_5 H locs hw => ?_)
  replace hf := bnd_at hf eS_5
  refine lv_iload_n hx hb dX5_travel_18 rfl (lv_at hl 1 rfl) ?_
  refine lv_topi (fun x3_6 ex3_6 => ?_)
  replace hf := bnd_at hf ex3_6
  refine lv_istore_n (lv' := [(3, .int (x3_6)), (0, .ref (a 2)), (1, .int (x1)), (2, .int (x2))]) hx hb dX5_travel_19 rfl hl (by decide) rfl (fun ls hl => ?_)
  refine lv_iconst hx hb dX5_travel_20 ic_0 ?_
  refine lv_topi (fun x4_7 ex4_7 => ?_)
  replace hf := bnd_at hf ex4_7
  refine lv_istore (lv' := [(4, .int (x4_7)), (3, .int (x3_6)), (0, .ref (a 2)), (1, .int (x1)), (2, .int (x2))]) hx hb dX5_travel_21 hl (by decide) rfl (fun ls hl => ?_)
  refine k5_travel_l23 E (x2) ?_ F S_5 (x3_6) (x4_7) _ _ ls hf hw (lv_sub hl [2, 4, 1, 0] rfl)
  · intro S_27 x3_27 H locs ls hf hw hl
    exact k5_travel_J120_j E S_27 (x2) (x3_27) _ _ ls hf hw (lv_sub hl [0, 1, 2] rfl)
theorem qk5_travel {p : Program} {l : Launch} {e : Env} {R : Room} {s : State} {m : MethodId} {args : Array Value} {below : List Frame} {meth : Method} {c : Code} {H : Heap} {locs : List Loc} {cells slots : Nat} {Q : State → Prop} {cc : ByteArray} {pc : Nat} {ls : Array Slot} {rest : List Value} {D : va_G} {a : Nat → Nat} {g : Nat → ClassId} {nL : Nat} {own : String} {ret : Option FieldType} {S S1 : SS} {k : Nat} {x1 x2 : Int32} {r : Int32} (E : EK p s m args meth c D a g cc nL own ret) (hw : WK D a g S s H locs) (hM : Met l yX5_travel (wsm yX5_travel cX5_travel 6 (some .boolean)) (RM k) (PK D a g S [.ref (a 2), .int x1, .int x2]) (QK D a g (some (.int r)) S1) 0 0 (AK a)) {idx : Nat} (hlk : Cond.methodLink own idx yX5_travel ∈ wd) (hdg : decode cc pc = .ok (.invokevirtual idx, 3)) (hR : k + 1 ≤ R.frames ∧ 8 + (6 + 11) + 64 * k ≤ R.locals) (hls : ls.size = nL) (hrest : (rest.map fun v => v.category).sum ≤ 8) (hcs : cells ≤ R.cells ∧ slots ≤ R.slots) (kk : ∀ (H1 : Heap) (locs1 : List Loc), WK D a g S1 s H1 locs1 → W p l e R s m args below meth c H1 locs1 cells slots Q (F0 m (pc + 3) ls (.int r :: rest))) : W p l e R s m args below meth c H locs cells slots Q (F0 m pc ls (.int x2 :: .int x1 :: .ref (a 2) :: rest)) :=
  callK_i hw (va_runV (As := [.int x1, .int x2]) (rest := rest) ⟨E.hx, E.hb, E.hml, E.hown, E.hts⟩ hM ⟨cb_of 2 E.hts wl370 wl38 hlk (by decide +kernel) hR, E.hts _ wl369, E.hts _ wl1⟩ ⟨PK_blind, va_recv E.hK hw.1 (ci := 5) (q0 := 2) rfl rfl, PK_pre E.hK E.hN hw.1⟩ rfl rfl hls rfl (lv_room hrest) hdg hcs) kk
/-! X7_sumOf[14] -/
def k7_sumOf_14_B4 (F : Nat) (S : SS) (rec4 : Int32 → Int32 → Option Int32) (x1 : Int32) (x2 : Int32) : Option Int32 :=
  if ((8 : Int32)) ≤ x2 then (some (x1)) else ((rdA 8 (S 14) x2).bind fun v_4 => bnd (x1 + v_4) fun x1_5 => bnd (x2 + (1)) fun x2_6 => rec4 (x1_5) (x2_6))
def k7_sumOf_14 (F : Nat) (S : SS) : Option Int32 :=
  bnd ((0 : Int32)) fun x1_1 => bnd ((0 : Int32)) fun x2_2 => lpN (fun _ _ => none) (fun rec4 => k7_sumOf_14_B4 F S rec4 ) F (x1_1) (x2_2)
set_option maxRecDepth 100000 in
set_option maxHeartbeats 4000000 in
theorem k7_sumOf_14_b4 {p : Program} {l : Launch} {e : Env} {s : State} {m : MethodId} {args : Array Value} {below : List Frame} {meth : Method} {c : Code} {D : va_G} {a : Nat → Nat} {g : Nat → ClassId} (E : EK p s m args meth c D a g cX7_sumOf 3 RX7 (some .int)) {F : Nat}  (S : SS) {rec4 : Int32 → Int32 → Option Int32} {out : Int32} (hrec4 : ∀ (x1 : Int32) (x2 : Int32) (H : Heap) (locs : List Loc) (ls : Array Slot), rec4 x1 x2 = some out → WK D a g S s H locs → lv_has ls 3 [(0, .ref (a 14)), (1, .int (x1)), (2, .int (x2))] → W p l e (RM 1) s m args below meth c H locs 0 0 (MQ below (QK D a g (some (.int out)) S) args s 0 0 (AK a)) (F0 m 4 ls []))  (x1 : Int32) (x2 : Int32) (H : Heap) (locs : List Loc) (ls : Array Slot) (hf : k7_sumOf_14_B4 F S rec4 x1 x2 = some out) (hw : WK D a g S s H locs) (hl : lv_has ls 3 [(0, .ref (a 14)), (1, .int (x1)), (2, .int (x2))]) : W p l e (RM 1) s m args below meth c H locs 0 0 (MQ below (QK D a g (some (.int out)) S) args s 0 0 (AK a)) (F0 m 4 ls []) := by
  have hx := E.hx
  have hb := E.hb
  unfold k7_sumOf_14_B4 at hf
  refine lv_iload_n hx hb dX7_sumOf_4 rfl (lv_at hl 2 rfl) ?_
  refine lv_aload_n hx hb dX7_sumOf_5 rfl (lv_at hl 0 rfl) ?_
  refine va_alen hx hb E.hK hw.1 14 6 rfl rfl (v := 8) rfl dX7_sumOf_6 ?_
  refine lv_icmp_ge (tgt := 22) hx hb dX7_sumOf_7 (by decide) (fun c_3 => ?_) (fun c_3 => ?_)
  · replace hf := ite_t hf c_3
    refine lv_iload_n hx hb dX7_sumOf_22 rfl (lv_at hl 1 rfl) ?_
    cases hf
    exact retK_i E hw dX7_sumOf_23
  · replace hf := ite_f hf c_3
    refine lv_iload_n hx hb dX7_sumOf_10 rfl (lv_at hl 1 rfl) ?_
    refine lv_aload_n hx hb dX7_sumOf_11 rfl (lv_at hl 0 rfl) ?_
    refine lv_iload_n hx hb dX7_sumOf_12 rfl (lv_at hl 2 rfl) ?_
    obtain ⟨h_v_4, hf⟩ := rdA_at hf
    refine lK_14 E hw h_v_4 dX7_sumOf_13 (fun v_4 ev_4 => ?_)
    replace hf := hf v_4 ev_4
    refine lv_iadd hx hb dX7_sumOf_14 ?_
    refine lv_topi (fun x1_5 ex1_5 => ?_)
    replace hf := bnd_at hf ex1_5
    refine lv_istore_n (lv' := [(1, .int (x1_5)), (0, .ref (a 14)), (2, .int (x2))]) hx hb dX7_sumOf_15 rfl hl (by decide) rfl (fun ls hl => ?_)
    obtain ⟨x2_6, ex2_6⟩ : ∃ y : Int32, y = x2 + (1) := ⟨_, rfl⟩
    replace hf := bnd_at hf ex2_6
    refine lv_iinc (v := x2_6) (lv' := [(2, .int (x2_6)), (1, .int (x1_5)), (0, .ref (a 14))]) hx hb dX7_sumOf_16 hl (k := 2) rfl (by rw [ex2_6]; rfl) (by decide) rfl (fun ls hl => ?_)
    refine lv_goto (tgt := 4) hx hb dX7_sumOf_19 (by decide) ?_
    exact hrec4 (x1_5) (x2_6) _ _ ls hf hw (lv_sub hl [2, 1, 0] rfl)
theorem k7_sumOf_14_l4 {p : Program} {l : Launch} {e : Env} {s : State} {m : MethodId} {args : Array Value} {below : List Frame} {meth : Method} {c : Code} {D : va_G} {a : Nat → Nat} {g : Nat → ClassId} (E : EK p s m args meth c D a g cX7_sumOf 3 RX7 (some .int)) {F : Nat}  (S : SS) {out : Int32}  : ∀ (n : Nat) (x1 : Int32) (x2 : Int32) (H : Heap) (locs : List Loc) (ls : Array Slot), lpN (fun _ _ => none) (fun rec4 => k7_sumOf_14_B4 F S rec4) n x1 x2 = some out → WK D a g S s H locs → lv_has ls 3 [(0, .ref (a 14)), (1, .int (x1)), (2, .int (x2))] → W p l e (RM 1) s m args below meth c H locs 0 0 (MQ below (QK D a g (some (.int out)) S) args s 0 0 (AK a)) (F0 m 4 ls []) := by
  intro n
  induction n with
  | zero => intro x1 x2 H locs ls hf; cases (show (none : Option Int32) = some out from hf)
  | succ n ih => intro x1 x2 H locs ls hf hw hl; exact k7_sumOf_14_b4 E (F := F) S ih x1 x2 H locs ls hf hw hl
set_option maxRecDepth 100000 in
set_option maxHeartbeats 4000000 in
theorem mk7_sumOf_14 {l : Launch} {D : va_G} {a : Nat → Nat} {g : Nat → ClassId} (hD : ∀ S, va_D (AK a) (wK a g S)) {F : Nat} {S : SS} {out : Int32} (hf : k7_sumOf_14 F S  = some out) : Met l yX7_sumOf (wsm yX7_sumOf cX7_sumOf 3 (some .int)) (RM 1) (PK D a g S [.ref (a 14)]) (QK D a g (some (.int out)) S) 0 0 (AK a) := by
  refine Met.ofW (cc := cX7_sumOf) (maxL := 3) (ret := (some .int)) (by decide) rfl ?_
  intro p e s m args below meth c s₁ B hml hv
  obtain ⟨rfl, hP, hK, hN⟩ := hv
  have hts := atoms_spec (ws := wsm yX7_sumOf cX7_sumOf 3 (some .int)) B.pre
  have E : EK p s m _ meth c D a g cX7_sumOf 3 RX7 (some .int) := ⟨B.exec, B.bytes, B.returns, hml, findClass_of_methodNamed B.named, fun w h => hts w (List.mem_cons_of_mem _ h), hK, hN, hD, B.notSynchronized⟩
  have hx := E.hx
  have hb := E.hb
  have hw : WK D a g S s s.heap [] := ⟨hP, va_S.rf⟩
  have hl := lv_entry ([.ref (a 14)]) (n := 3) (Nat.le_of_ble_eq_true rfl)
  rw [lg_entry_eq]
  generalize (lg_sl ([.ref (a 14)]) ++ List.replicate (3 - (lg_sl ([.ref (a 14)])).length) Slot.unset).toArray = ls at hl ⊢
  have hl : lv_has ls 3 [(0, .ref (a 14))] := hl
  show W p l e (RM 1) s m _ below meth c s.heap [] 0 0 (MQ below (QK D a g (some (.int out)) S) _ s 0 0 (AK a)) (F0 m 0 ls [])
  unfold k7_sumOf_14 at hf
  refine lv_iconst hx hb dX7_sumOf_0 ic_0 ?_
  refine lv_topi (fun x1_1 ex1_1 => ?_)
  replace hf := bnd_at hf ex1_1
  refine lv_istore_n (lv' := [(1, .int (x1_1)), (0, .ref (a 14))]) hx hb dX7_sumOf_1 rfl hl (by decide) rfl (fun ls hl => ?_)
  refine lv_iconst hx hb dX7_sumOf_2 ic_0 ?_
  refine lv_topi (fun x2_2 ex2_2 => ?_)
  replace hf := bnd_at hf ex2_2
  refine lv_istore_n (lv' := [(2, .int (x2_2)), (1, .int (x1_1)), (0, .ref (a 14))]) hx hb dX7_sumOf_3 rfl hl (by decide) rfl (fun ls hl => ?_)
  refine k7_sumOf_14_l4 E S  F (x1_1) (x2_2) _ _ ls hf hw (lv_sub hl [2, 1, 0] rfl)
theorem qnk7_sumOf_14 {p : Program} {l : Launch} {e : Env} {R : Room} {s : State} {m : MethodId} {args : Array Value} {below : List Frame} {meth : Method} {c : Code} {H : Heap} {locs : List Loc} {cells slots : Nat} {Q : State → Prop} {cc : ByteArray} {pc : Nat} {ls : Array Slot} {rest : List Value} {D : va_G} {a : Nat → Nat} {g : Nat → ClassId} {nL : Nat} {own : String} {ret : Option FieldType} {S S1 : SS} {k : Nat} {r : Int32} (E : EK p s m args meth c D a g cc nL own ret) (hw : WK D a g S s H locs) (hM : Met l yX7_sumOf (wsm yX7_sumOf cX7_sumOf 3 (some .int)) (RM k) (PK D a g S [.ref (a 14)]) (QK D a g (some (.int r)) S1) 0 0 (AK a)) {idx : Nat} {host : String} (hlk : Cond.methodLinkNest own idx yX7_sumOf host ∈ nestW) (hdg : decode cc pc = .ok (.invokestatic idx, 3)) (hR : k + 1 ≤ R.frames ∧ 8 + (3 + 11) + 64 * k ≤ R.locals) (hls : ls.size = nL) (hrest : (rest.map fun v => v.category).sum ≤ 8) (hcs : cells ≤ R.cells ∧ slots ≤ R.slots) (kk : ∀ (H1 : Heap) (locs1 : List Loc), WK D a g S1 s H1 locs1 → W p l e R s m args below meth c H1 locs1 cells slots Q (F0 m (pc + 3) ls (.int r :: rest))) : W p l e R s m args below meth c H locs cells slots Q (F0 m pc ls (.ref (a 14) :: rest)) :=
  callK_i hw (va_runSN (As := [.ref (a 14)]) (rest := rest) ⟨E.hx, E.hb, E.hml, E.hown, E.hts⟩ hM ⟨cn_of 1 E.hts wl381 wl35 (E.hN.at hlk) (by decide +kernel) hR, E.hts _ wl380, trivial⟩ ⟨PK_blind, PK_pre E.hK E.hN hw.1⟩ rfl rfl hls rfl (lv_room hrest) hdg hcs) kk
/-! X5_giveOneMore -/
def k5_giveOneMore_B4 (F : Nat) (S : SS) (rec4 : Int32 → Int32 → Option SS) (k33 : Int32 → Option SS) (x1 : Int32) (x2 : Int32) : Option SS :=
  if ((8 : Int32)) ≤ x2 then (k33 (x1)) else ((rdA 8 (S 15) x2).bind fun v_4 => (rdA 8 (S 15) x1).bind fun v_5 => if v_4 ≤ v_5 then (bnd (x2 + (1)) fun x2_7 => rec4 (x1) (x2_7)) else (bnd (x2) fun x1_8 => bnd (x2 + (1)) fun x2_9 => rec4 (x1_8) (x2_9)))
def k5_giveOneMore (F : Nat) (S : SS) : Option SS :=
  bnd ((0 : Int32)) fun x1_1 => bnd ((1 : Int32)) fun x2_2 => lpN (fun _ _ => none) (fun rec4 => k5_giveOneMore_B4 F S rec4 (fun x1_10 => (rdA 8 (S 13) x1_10).bind fun v_11 => (ckA 8 x1_10).bind fun _ => bnd (st S 13 (Int32.toNatClampNeg x1_10) (v_11 + ((1 : Int32)))) fun S_12 => (ckA 8 x1_10).bind fun _ => bnd (st S_12 15 (Int32.toNatClampNeg x1_10) ((-1 : Int32))) fun S_13 => some S_13)) F (x1_1) (x2_2)
set_option maxRecDepth 100000 in
set_option maxHeartbeats 4000000 in
theorem k5_giveOneMore_b4 {p : Program} {l : Launch} {e : Env} {s : State} {m : MethodId} {args : Array Value} {below : List Frame} {meth : Method} {c : Code} {D : va_G} {a : Nat → Nat} {g : Nat → ClassId} (E : EK p s m args meth c D a g cX5_giveOneMore 3 RX5 none) {F : Nat}  (S : SS) {rec4 : Int32 → Int32 → Option SS} {k33 : Int32 → Option SS} {out : SS} (hrec4 : ∀ (x1 : Int32) (x2 : Int32) (H : Heap) (locs : List Loc) (ls : Array Slot), rec4 x1 x2 = some out → WK D a g S s H locs → lv_has ls 3 [(0, .ref (a 2)), (1, .int (x1)), (2, .int (x2))] → W p l e (RM 1) s m args below meth c H locs 0 0 (MQ below (QK D a g none out) args s 0 0 (AK a)) (F0 m 4 ls [])) (hk33 : ∀ (x1 : Int32) (H : Heap) (locs : List Loc) (ls : Array Slot), k33 x1 = some out → WK D a g S s H locs → lv_has ls 3 [(0, .ref (a 2)), (1, .int (x1))] → W p l e (RM 1) s m args below meth c H locs 0 0 (MQ below (QK D a g none out) args s 0 0 (AK a)) (F0 m 33 ls [])) (x1 : Int32) (x2 : Int32) (H : Heap) (locs : List Loc) (ls : Array Slot) (hf : k5_giveOneMore_B4 F S rec4 k33 x1 x2 = some out) (hw : WK D a g S s H locs) (hl : lv_has ls 3 [(0, .ref (a 2)), (1, .int (x1)), (2, .int (x2))]) : W p l e (RM 1) s m args below meth c H locs 0 0 (MQ below (QK D a g none out) args s 0 0 (AK a)) (F0 m 4 ls []) := by
  have hx := E.hx
  have hb := E.hb
  unfold k5_giveOneMore_B4 at hf
  refine lv_iload_n hx hb dX5_giveOneMore_4 rfl (lv_at hl 2 rfl) ?_
  refine lv_bipush hx hb dX5_giveOneMore_5 bp_8 ?_
  refine lv_icmp_ge (tgt := 33) hx hb dX5_giveOneMore_7 (by decide) (fun c_3 => ?_) (fun c_3 => ?_)
  · replace hf := ite_t hf c_3
    exact hk33 (x1) _ _ ls hf hw (lv_sub hl [0, 1] rfl)
  · replace hf := ite_f hf c_3
    refine lv_aload_n hx hb dX5_giveOneMore_10 rfl (lv_at hl 0 rfl) ?_
    refine gK_2_2 E hw (E.hts _ wl100) dX5_giveOneMore_11 ?_
    refine lv_iload_n hx hb dX5_giveOneMore_14 rfl (lv_at hl 2 rfl) ?_
    obtain ⟨h_v_4, hf⟩ := rdA_at hf
    refine lK_15 E hw h_v_4 dX5_giveOneMore_15 (fun v_4 ev_4 => ?_)
    replace hf := hf v_4 ev_4
    refine lv_aload_n hx hb dX5_giveOneMore_16 rfl (lv_at hl 0 rfl) ?_
    refine gK_2_2 E hw (E.hts _ wl100) dX5_giveOneMore_17 ?_
    refine lv_iload_n hx hb dX5_giveOneMore_20 rfl (lv_at hl 1 rfl) ?_
    obtain ⟨h_v_5, hf⟩ := rdA_at hf
    refine lK_15 E hw h_v_5 dX5_giveOneMore_21 (fun v_5 ev_5 => ?_)
    replace hf := hf v_5 ev_5
    refine lv_icmp_le (tgt := 27) hx hb dX5_giveOneMore_22 (by decide) (fun c_6 => ?_) (fun c_6 => ?_)
    · replace hf := ite_t hf c_6
      obtain ⟨x2_7, ex2_7⟩ : ∃ y : Int32, y = x2 + (1) := ⟨_, rfl⟩
      replace hf := bnd_at hf ex2_7
      refine lv_iinc (v := x2_7) (lv' := [(2, .int (x2_7)), (0, .ref (a 2)), (1, .int (x1))]) hx hb dX5_giveOneMore_27 hl (k := 2) rfl (by rw [ex2_7]; rfl) (by decide) rfl (fun ls hl => ?_)
      refine lv_goto (tgt := 4) hx hb dX5_giveOneMore_30 (by decide) ?_
      exact hrec4 (x1) (x2_7) _ _ ls hf hw (lv_sub hl [1, 2, 0] rfl)
    · replace hf := ite_f hf c_6
      refine lv_iload_n hx hb dX5_giveOneMore_25 rfl (lv_at hl 2 rfl) ?_
      refine lv_topi (fun x1_8 ex1_8 => ?_)
      replace hf := bnd_at hf ex1_8
      refine lv_istore_n (lv' := [(1, .int (x1_8)), (0, .ref (a 2)), (2, .int (x2))]) hx hb dX5_giveOneMore_26 rfl hl (by decide) rfl (fun ls hl => ?_)
      obtain ⟨x2_9, ex2_9⟩ : ∃ y : Int32, y = x2 + (1) := ⟨_, rfl⟩
      replace hf := bnd_at hf ex2_9
      refine lv_iinc (v := x2_9) (lv' := [(2, .int (x2_9)), (1, .int (x1_8)), (0, .ref (a 2))]) hx hb dX5_giveOneMore_27 hl (k := 2) rfl (by rw [ex2_9]; rfl) (by decide) rfl (fun ls hl => ?_)
      refine lv_goto (tgt := 4) hx hb dX5_giveOneMore_30 (by decide) ?_
      exact hrec4 (x1_8) (x2_9) _ _ ls hf hw (lv_sub hl [2, 1, 0] rfl)
theorem k5_giveOneMore_l4 {p : Program} {l : Launch} {e : Env} {s : State} {m : MethodId} {args : Array Value} {below : List Frame} {meth : Method} {c : Code} {D : va_G} {a : Nat → Nat} {g : Nat → ClassId} (E : EK p s m args meth c D a g cX5_giveOneMore 3 RX5 none) {F : Nat}  (S : SS) {k33 : Int32 → Option SS} {out : SS} (hk33 : ∀ (x1 : Int32) (H : Heap) (locs : List Loc) (ls : Array Slot), k33 x1 = some out → WK D a g S s H locs → lv_has ls 3 [(0, .ref (a 2)), (1, .int (x1))] → W p l e (RM 1) s m args below meth c H locs 0 0 (MQ below (QK D a g none out) args s 0 0 (AK a)) (F0 m 33 ls [])) : ∀ (n : Nat) (x1 : Int32) (x2 : Int32) (H : Heap) (locs : List Loc) (ls : Array Slot), lpN (fun _ _ => none) (fun rec4 => k5_giveOneMore_B4 F S rec4 k33) n x1 x2 = some out → WK D a g S s H locs → lv_has ls 3 [(0, .ref (a 2)), (1, .int (x1)), (2, .int (x2))] → W p l e (RM 1) s m args below meth c H locs 0 0 (MQ below (QK D a g none out) args s 0 0 (AK a)) (F0 m 4 ls []) := by
  intro n
  induction n with
  | zero => intro x1 x2 H locs ls hf; cases (show (none : Option SS) = some out from hf)
  | succ n ih => intro x1 x2 H locs ls hf hw hl; exact k5_giveOneMore_b4 E (F := F) S ih hk33 x1 x2 H locs ls hf hw hl
set_option maxRecDepth 100000 in
set_option maxHeartbeats 4000000 in
theorem mk5_giveOneMore {l : Launch} {D : va_G} {a : Nat → Nat} {g : Nat → ClassId} (hD : ∀ S, va_D (AK a) (wK a g S)) {F : Nat} {S : SS} {out : SS} (hf : k5_giveOneMore F S  = some out) : Met l yX5_giveOneMore (wsm yX5_giveOneMore cX5_giveOneMore 3 none) (RM 1) (PK D a g S [.ref (a 2)]) (QK D a g none out) 0 0 (AK a) := by
  refine Met.ofW (cc := cX5_giveOneMore) (maxL := 3) (ret := none) (by decide) rfl ?_
  intro p e s m args below meth c s₁ B hml hv
  obtain ⟨rfl, hP, hK, hN⟩ := hv
  have hts := atoms_spec (ws := wsm yX5_giveOneMore cX5_giveOneMore 3 none) B.pre
  have E : EK p s m _ meth c D a g cX5_giveOneMore 3 RX5 none := ⟨B.exec, B.bytes, B.returns, hml, findClass_of_methodNamed B.named, fun w h => hts w (List.mem_cons_of_mem _ h), hK, hN, hD, B.notSynchronized⟩
  have hx := E.hx
  have hb := E.hb
  have hw : WK D a g S s s.heap [] := ⟨hP, va_S.rf⟩
  have hl := lv_entry ([.ref (a 2)]) (n := 3) (Nat.le_of_ble_eq_true rfl)
  rw [lg_entry_eq]
  generalize (lg_sl ([.ref (a 2)]) ++ List.replicate (3 - (lg_sl ([.ref (a 2)])).length) Slot.unset).toArray = ls at hl ⊢
  have hl : lv_has ls 3 [(0, .ref (a 2))] := hl
  show W p l e (RM 1) s m _ below meth c s.heap [] 0 0 (MQ below (QK D a g none out) _ s 0 0 (AK a)) (F0 m 0 ls [])
  unfold k5_giveOneMore at hf
  refine lv_iconst hx hb dX5_giveOneMore_0 ic_0 ?_
  refine lv_topi (fun x1_1 ex1_1 => ?_)
  replace hf := bnd_at hf ex1_1
  refine lv_istore_n (lv' := [(1, .int (x1_1)), (0, .ref (a 2))]) hx hb dX5_giveOneMore_1 rfl hl (by decide) rfl (fun ls hl => ?_)
  refine lv_iconst hx hb dX5_giveOneMore_2 ic_1 ?_
  refine lv_topi (fun x2_2 ex2_2 => ?_)
  replace hf := bnd_at hf ex2_2
  refine lv_istore_n (lv' := [(2, .int (x2_2)), (1, .int (x1_1)), (0, .ref (a 2))]) hx hb dX5_giveOneMore_3 rfl hl (by decide) rfl (fun ls hl => ?_)
  refine k5_giveOneMore_l4 E S ?_ F (x1_1) (x2_2) _ _ ls hf hw (lv_sub hl [2, 1, 0] rfl)
  · intro x1_10 H locs ls hf hw hl
    refine lv_aload_n hx hb dX5_giveOneMore_33 rfl (lv_at hl 0 rfl) ?_
    refine gK_2_0 E hw (E.hts _ wl97) dX5_giveOneMore_34 ?_
    refine lv_iload_n hx hb dX5_giveOneMore_37 rfl (lv_at hl 1 rfl) ?_
    refine lv_dup2_11 hx hb dX5_giveOneMore_38 rfl rfl ?_
    obtain ⟨h_v_11, hf⟩ := rdA_at hf
    refine lK_13 E hw h_v_11 dX5_giveOneMore_39 (fun v_11 ev_11 => ?_)
    replace hf := hf v_11 ev_11
    refine lv_iconst hx hb dX5_giveOneMore_40 ic_1 ?_
    refine lv_iadd hx hb dX5_giveOneMore_41 ?_
    obtain ⟨h_S_12, hf⟩ := ckA_at hf
    refine sK_13 E hw h_S_12 dX5_giveOneMore_42 (fun S_12 eS_12 H locs hw => ?_)
    replace hf := bnd_at hf eS_12
    refine lv_aload_n hx hb dX5_giveOneMore_43 rfl (lv_at hl 0 rfl) ?_
    refine gK_2_2 E hw (E.hts _ wl100) dX5_giveOneMore_44 ?_
    refine lv_iload_n hx hb dX5_giveOneMore_47 rfl (lv_at hl 1 rfl) ?_
    refine lv_iconst hx hb dX5_giveOneMore_48 ic_m1 ?_
    obtain ⟨h_S_13, hf⟩ := ckA_at hf
    refine sK_15 E hw h_S_13 dX5_giveOneMore_49 (fun S_13 eS_13 H locs hw => ?_)
    replace hf := bnd_at hf eS_13
    cases hf
    exact retK_v E hw dX5_giveOneMore_50
theorem qk5_giveOneMore {p : Program} {l : Launch} {e : Env} {R : Room} {s : State} {m : MethodId} {args : Array Value} {below : List Frame} {meth : Method} {c : Code} {H : Heap} {locs : List Loc} {cells slots : Nat} {Q : State → Prop} {cc : ByteArray} {pc : Nat} {ls : Array Slot} {rest : List Value} {D : va_G} {a : Nat → Nat} {g : Nat → ClassId} {nL : Nat} {own : String} {ret : Option FieldType} {S S1 : SS} {k : Nat} (E : EK p s m args meth c D a g cc nL own ret) (hw : WK D a g S s H locs) (hM : Met l yX5_giveOneMore (wsm yX5_giveOneMore cX5_giveOneMore 3 none) (RM k) (PK D a g S [.ref (a 2)]) (QK D a g none S1) 0 0 (AK a)) {idx : Nat} (hlk : Cond.methodLink own idx yX5_giveOneMore ∈ wd) (hdg : decode cc pc = .ok (.invokevirtual idx, 3)) (hR : k + 1 ≤ R.frames ∧ 8 + (3 + 11) + 64 * k ≤ R.locals) (hls : ls.size = nL) (hrest : (rest.map fun v => v.category).sum ≤ 8) (hcs : cells ≤ R.cells ∧ slots ≤ R.slots) (kk : ∀ (H1 : Heap) (locs1 : List Loc), WK D a g S1 s H1 locs1 → W p l e R s m args below meth c H1 locs1 cells slots Q (F0 m (pc + 3) ls (rest))) : W p l e R s m args below meth c H locs cells slots Q (F0 m pc ls (.ref (a 2) :: rest)) :=
  callK_v hw (va_runV (As := []) (rest := rest) ⟨E.hx, E.hb, E.hml, E.hown, E.hts⟩ hM ⟨cb_of 0 E.hts wl385 wl38 hlk (by decide +kernel) hR, E.hts _ wl384, E.hts _ wl3⟩ ⟨PK_blind, va_recv E.hK hw.1 (ci := 5) (q0 := 2) rfl rfl, PK_pre E.hK E.hN hw.1⟩ rfl rfl hls rfl (lv_room hrest) hdg hcs) kk
/-! X5_divideByMiles -/
def k5_divideByMiles_B19 (F : Nat) (x1 : Int32) (x2 : Int32) (rec19 : SS → Int32 → Int32 → Option (Int32 × SS)) (k81 : SS → Int32 → Option (Int32 × SS)) (S : SS) (x3 : Int32) (x4 : Int32) : Option (Int32 × SS) :=
  if ((8 : Int32)) ≤ x4 then (k81 S (x3)) else ((rdA 8 (S 14) x4).bind fun v_9 => bnd ((Int32.toInt64 x1) * (Int32.toInt64 v_9)) fun x5_10 => (ckL (Int32.toInt64 x2)).bind fun _ => (ckA 8 x4).bind fun _ => bnd (st S 13 (Int32.toNatClampNeg x4) (Int64.toInt32 (x5_10 / (Int32.toInt64 x2)))) fun S_11 => (ckL (Int32.toInt64 x2)).bind fun _ => (ckA 8 x4).bind fun _ => bnd (st S_11 15 (Int32.toNatClampNeg x4) (Int64.toInt32 (x5_10 - x5_10 / (Int32.toInt64 x2) * (Int32.toInt64 x2)))) fun S_12 => (rdA 8 (S_12 13) x4).bind fun v_13 => bnd (x3 - v_13) fun x3_14 => bnd (x4 + (1)) fun x4_15 => rec19 S_12 (x3_14) (x4_15))
def k5_divideByMiles_B84 (F : Nat) (x3 : Int32) (rec84 : SS → Int32 → Option (Int32 × SS)) (S : SS) (x4 : Int32) : Option (Int32 × SS) :=
  if ((8 : Int32)) ≤ x4 then (some ((1 : Int32), S)) else (if x3 ≤ x4 then (some ((1 : Int32), S)) else ((k5_giveOneMore F S ).bind fun S_24 => bnd (x4 + (1)) fun x4_25 => rec84 S_24 (x4_25)))
def k5_divideByMiles (F : Nat) (S : SS) (x1 : Int32) : Option (Int32 × SS) :=
  (k7_sumOf_14 F S ).bind fun r_2 => bnd (r_2) fun x2_4 => if (0 : Int32) < x2_4 then (bnd (x1) fun x3_6 => bnd ((0 : Int32)) fun x4_7 => lpN (fun _ _ _ => none) (fun rec19 => k5_divideByMiles_B19 F (x1) (x2_4) rec19 (fun S_18 x3_18 => bnd ((0 : Int32)) fun x4_19 => lpN (fun _ _ => none) (fun rec84 => k5_divideByMiles_B84 F (x3_18) rec84 ) F S_18 (x4_19))) F S (x3_6) (x4_7)) else (some ((0 : Int32), S))
set_option maxRecDepth 100000 in
set_option maxHeartbeats 4000000 in
theorem k5_divideByMiles_b19 {p : Program} {l : Launch} {e : Env} {s : State} {m : MethodId} {args : Array Value} {below : List Frame} {meth : Method} {c : Code} {D : va_G} {a : Nat → Nat} {g : Nat → ClassId} (E : EK p s m args meth c D a g cX5_divideByMiles 7 RX5 (some .boolean)) {F : Nat}  (x1 : Int32) (x2 : Int32) {rec19 : SS → Int32 → Int32 → Option (Int32 × SS)} {k81 : SS → Int32 → Option (Int32 × SS)} {out : (Int32 × SS)} (hrec19 : ∀ (S : SS) (x3 : Int32) (x4 : Int32) (H : Heap) (locs : List Loc) (ls : Array Slot), rec19 S x3 x4 = some out → WK D a g S s H locs → lv_has ls 7 [(0, .ref (a 2)), (1, .int (x1)), (2, .int (x2)), (3, .int (x3)), (4, .int (x4))] → W p l e (RM 2) s m args below meth c H locs 0 0 (MQ below (QK D a g (some (.int out.1)) out.2) args s 0 0 (AK a)) (F0 m 19 ls [])) (hk81 : ∀ (S : SS) (x3 : Int32) (H : Heap) (locs : List Loc) (ls : Array Slot), k81 S x3 = some out → WK D a g S s H locs → lv_has ls 7 [(0, .ref (a 2)), (3, .int (x3))] → W p l e (RM 2) s m args below meth c H locs 0 0 (MQ below (QK D a g (some (.int out.1)) out.2) args s 0 0 (AK a)) (F0 m 81 ls [])) (S : SS) (x3 : Int32) (x4 : Int32) (H : Heap) (locs : List Loc) (ls : Array Slot) (hf : k5_divideByMiles_B19 F x1 x2 rec19 k81 S x3 x4 = some out) (hw : WK D a g S s H locs) (hl : lv_has ls 7 [(0, .ref (a 2)), (1, .int (x1)), (2, .int (x2)), (3, .int (x3)), (4, .int (x4))]) : W p l e (RM 2) s m args below meth c H locs 0 0 (MQ below (QK D a g (some (.int out.1)) out.2) args s 0 0 (AK a)) (F0 m 19 ls []) := by
  have hx := E.hx
  have hb := E.hb
  unfold k5_divideByMiles_B19 at hf
  refine lv_iload hx hb dX5_divideByMiles_19 (lv_at hl 4 rfl) ?_
  refine lv_bipush hx hb dX5_divideByMiles_21 bp_8 ?_
  refine lv_icmp_ge (tgt := 81) hx hb dX5_divideByMiles_23 (by decide) (fun c_8 => ?_) (fun c_8 => ?_)
  · replace hf := ite_t hf c_8
    exact hk81 S (x3) _ _ ls hf hw (lv_sub hl [0, 3] rfl)
  · replace hf := ite_f hf c_8
    refine lv_iload_n hx hb dX5_divideByMiles_26 rfl (lv_at hl 1 rfl) ?_
    refine lv_i2l (v := Int32.toInt64 x1) hx hb dX5_divideByMiles_27 rfl ?_
    refine lv_aload_n hx hb dX5_divideByMiles_28 rfl (lv_at hl 0 rfl) ?_
    refine gK_2_1 E hw (E.hts _ wl99) dX5_divideByMiles_29 ?_
    refine lv_iload hx hb dX5_divideByMiles_32 (lv_at hl 4 rfl) ?_
    obtain ⟨h_v_9, hf⟩ := rdA_at hf
    refine lK_14 E hw h_v_9 dX5_divideByMiles_34 (fun v_9 ev_9 => ?_)
    replace hf := hf v_9 ev_9
    refine lv_i2l (v := Int32.toInt64 v_9) hx hb dX5_divideByMiles_35 rfl ?_
    refine lv_lmul hx hb dX5_divideByMiles_36 ?_
    refine lv_topl (fun x5_10 ex5_10 => ?_)
    replace hf := bnd_at hf ex5_10
    refine lv_lstore (lv' := [(5, .long (x5_10)), (0, .ref (a 2)), (1, .int (x1)), (2, .int (x2)), (3, .int (x3)), (4, .int (x4))]) hx hb dX5_divideByMiles_37 hl (by decide) rfl (fun ls hl => ?_)
    refine lv_aload_n hx hb dX5_divideByMiles_39 rfl (lv_at hl 1 rfl) ?_
    refine gK_2_0 E hw (E.hts _ wl97) dX5_divideByMiles_40 ?_
    refine lv_iload hx hb dX5_divideByMiles_43 (lv_at hl 5 rfl) ?_
    refine lv_lload hx hb dX5_divideByMiles_45 (lv_at hl 0 rfl) ?_
    refine lv_iload_n hx hb dX5_divideByMiles_47 rfl (lv_at hl 3 rfl) ?_
    refine lv_i2l (v := Int32.toInt64 x2) hx hb dX5_divideByMiles_48 rfl ?_
    obtain ⟨h_17, hf⟩ := ckL_at hf
    refine lv_ldiv hx hb dX5_divideByMiles_49 h_17 ?_
    refine lv_l2i (v := Int64.toInt32 (x5_10 / (Int32.toInt64 x2))) hx hb dX5_divideByMiles_50 rfl ?_
    obtain ⟨h_S_11, hf⟩ := ckA_at hf
    refine sK_13 E hw h_S_11 dX5_divideByMiles_51 (fun S_11 eS_11 H locs hw => ?_)
    replace hf := bnd_at hf eS_11
    refine lv_aload_n hx hb dX5_divideByMiles_52 rfl (lv_at hl 1 rfl) ?_
    refine gK_2_2 E hw (E.hts _ wl100) dX5_divideByMiles_53 ?_
    refine lv_iload hx hb dX5_divideByMiles_56 (lv_at hl 5 rfl) ?_
    refine lv_lload hx hb dX5_divideByMiles_58 (lv_at hl 0 rfl) ?_
    refine lv_iload_n hx hb dX5_divideByMiles_60 rfl (lv_at hl 3 rfl) ?_
    refine lv_i2l (v := Int32.toInt64 x2) hx hb dX5_divideByMiles_61 rfl ?_
    obtain ⟨h_16, hf⟩ := ckL_at hf
    refine lv_lrem hx hb dX5_divideByMiles_62 h_16 ?_
    refine lv_l2i (v := Int64.toInt32 (x5_10 - x5_10 / (Int32.toInt64 x2) * (Int32.toInt64 x2))) hx hb dX5_divideByMiles_63 rfl ?_
    obtain ⟨h_S_12, hf⟩ := ckA_at hf
    refine sK_15 E hw h_S_12 dX5_divideByMiles_64 (fun S_12 eS_12 H locs hw => ?_)
    replace hf := bnd_at hf eS_12
    refine lv_iload_n hx hb dX5_divideByMiles_65 rfl (lv_at hl 4 rfl) ?_
    refine lv_aload_n hx hb dX5_divideByMiles_66 rfl (lv_at hl 1 rfl) ?_
    refine gK_2_0 E hw (E.hts _ wl97) dX5_divideByMiles_67 ?_
    refine lv_iload hx hb dX5_divideByMiles_70 (lv_at hl 5 rfl) ?_
    obtain ⟨h_v_13, hf⟩ := rdA_at hf
    refine lK_13 E hw h_v_13 dX5_divideByMiles_72 (fun v_13 ev_13 => ?_)
    replace hf := hf v_13 ev_13
    refine lv_isub hx hb dX5_divideByMiles_73 ?_
    refine lv_topi (fun x3_14 ex3_14 => ?_)
    replace hf := bnd_at hf ex3_14
    refine lv_istore_n (lv' := [(3, .int (x3_14)), (5, .long (x5_10)), (0, .ref (a 2)), (1, .int (x1)), (2, .int (x2)), (4, .int (x4))]) hx hb dX5_divideByMiles_74 rfl hl (by decide) rfl (fun ls hl => ?_)
    obtain ⟨x4_15, ex4_15⟩ : ∃ y : Int32, y = x4 + (1) := ⟨_, rfl⟩
    replace hf := bnd_at hf ex4_15
    refine lv_iinc (v := x4_15) (lv' := [(4, .int (x4_15)), (3, .int (x3_14)), (5, .long (x5_10)), (0, .ref (a 2)), (1, .int (x1)), (2, .int (x2))]) hx hb dX5_divideByMiles_75 hl (k := 5) rfl (by rw [ex4_15]; rfl) (by decide) rfl (fun ls hl => ?_)
    refine lv_goto (tgt := 19) hx hb dX5_divideByMiles_78 (by decide) ?_
    exact hrec19 S_12 (x3_14) (x4_15) _ _ ls hf hw (lv_sub hl [3, 4, 5, 1, 0] rfl)
theorem k5_divideByMiles_l19 {p : Program} {l : Launch} {e : Env} {s : State} {m : MethodId} {args : Array Value} {below : List Frame} {meth : Method} {c : Code} {D : va_G} {a : Nat → Nat} {g : Nat → ClassId} (E : EK p s m args meth c D a g cX5_divideByMiles 7 RX5 (some .boolean)) {F : Nat}  (x1 : Int32) (x2 : Int32) {k81 : SS → Int32 → Option (Int32 × SS)} {out : (Int32 × SS)} (hk81 : ∀ (S : SS) (x3 : Int32) (H : Heap) (locs : List Loc) (ls : Array Slot), k81 S x3 = some out → WK D a g S s H locs → lv_has ls 7 [(0, .ref (a 2)), (3, .int (x3))] → W p l e (RM 2) s m args below meth c H locs 0 0 (MQ below (QK D a g (some (.int out.1)) out.2) args s 0 0 (AK a)) (F0 m 81 ls [])) : ∀ (n : Nat) (S : SS) (x3 : Int32) (x4 : Int32) (H : Heap) (locs : List Loc) (ls : Array Slot), lpN (fun _ _ _ => none) (fun rec19 => k5_divideByMiles_B19 F x1 x2 rec19 k81) n S x3 x4 = some out → WK D a g S s H locs → lv_has ls 7 [(0, .ref (a 2)), (1, .int (x1)), (2, .int (x2)), (3, .int (x3)), (4, .int (x4))] → W p l e (RM 2) s m args below meth c H locs 0 0 (MQ below (QK D a g (some (.int out.1)) out.2) args s 0 0 (AK a)) (F0 m 19 ls []) := by
  intro n
  induction n with
  | zero => intro S x3 x4 H locs ls hf; cases (show (none : Option (Int32 × SS)) = some out from hf)
  | succ n ih => intro S x3 x4 H locs ls hf hw hl; exact k5_divideByMiles_b19 E (F := F) x1 x2 ih hk81 S x3 x4 H locs ls hf hw hl
set_option maxRecDepth 100000 in
set_option maxHeartbeats 4000000 in
theorem k5_divideByMiles_b84 {p : Program} {l : Launch} {e : Env} {s : State} {m : MethodId} {args : Array Value} {below : List Frame} {meth : Method} {c : Code} {D : va_G} {a : Nat → Nat} {g : Nat → ClassId} (E : EK p s m args meth c D a g cX5_divideByMiles 7 RX5 (some .boolean)) {F : Nat}  (x3 : Int32) {rec84 : SS → Int32 → Option (Int32 × SS)} {out : (Int32 × SS)} (hrec84 : ∀ (S : SS) (x4 : Int32) (H : Heap) (locs : List Loc) (ls : Array Slot), rec84 S x4 = some out → WK D a g S s H locs → lv_has ls 7 [(0, .ref (a 2)), (3, .int (x3)), (4, .int (x4))] → W p l e (RM 2) s m args below meth c H locs 0 0 (MQ below (QK D a g (some (.int out.1)) out.2) args s 0 0 (AK a)) (F0 m 84 ls []))  (S : SS) (x4 : Int32) (H : Heap) (locs : List Loc) (ls : Array Slot) (hf : k5_divideByMiles_B84 F x3 rec84 S x4 = some out) (hw : WK D a g S s H locs) (hl : lv_has ls 7 [(0, .ref (a 2)), (3, .int (x3)), (4, .int (x4))]) : W p l e (RM 2) s m args below meth c H locs 0 0 (MQ below (QK D a g (some (.int out.1)) out.2) args s 0 0 (AK a)) (F0 m 84 ls []) := by
  have hx := E.hx
  have hb := E.hb
  unfold k5_divideByMiles_B84 at hf
  refine lv_iload hx hb dX5_divideByMiles_84 (lv_at hl 2 rfl) ?_
  refine lv_bipush hx hb dX5_divideByMiles_86 bp_8 ?_
  refine lv_icmp_ge (tgt := 107) hx hb dX5_divideByMiles_88 (by decide) (fun c_20 => ?_) (fun c_20 => ?_)
  · replace hf := ite_t hf c_20
    refine lv_iconst hx hb dX5_divideByMiles_107 ic_1 ?_
    cases hf
    exact retK_z E hw nb1 dX5_divideByMiles_108
  · replace hf := ite_f hf c_20
    refine lv_iload hx hb dX5_divideByMiles_91 (lv_at hl 2 rfl) ?_
    refine lv_iload_n hx hb dX5_divideByMiles_93 rfl (lv_at hl 1 rfl) ?_
    refine lv_icmp_ge (tgt := 107) hx hb dX5_divideByMiles_94 (by decide) (fun c_21 => ?_) (fun c_21 => ?_)
    · replace hf := ite_t hf c_21
      refine lv_iconst hx hb dX5_divideByMiles_107 ic_1 ?_
      cases hf
      exact retK_z E hw nb1 dX5_divideByMiles_108
    · replace hf := ite_f hf c_21
      refine lv_aload_n hx hb dX5_divideByMiles_97 rfl (lv_at hl 0 rfl) ?_
      obtain ⟨S_24, h_22, hf⟩ := ob_at hf
      refine qk5_giveOneMore E hw (mk5_giveOneMore E.hD h_22) wl382 dX5_divideByMiles_98 ⟨Nat.le_of_ble_eq_true rfl, Nat.le_of_ble_eq_true rfl⟩ hl.1 (Nat.le_of_ble_eq_true rfl) ⟨Nat.le_refl 0, Nat.le_refl 0⟩ (fun H locs hw => ?_)
      obtain ⟨x4_25, ex4_25⟩ : ∃ y : Int32, y = x4 + (1) := ⟨_, rfl⟩
      replace hf := bnd_at hf ex4_25
      refine lv_iinc (v := x4_25) (lv' := [(4, .int (x4_25)), (0, .ref (a 2)), (3, .int (x3))]) hx hb dX5_divideByMiles_101 hl (k := 2) rfl (by rw [ex4_25]; rfl) (by decide) rfl (fun ls hl => ?_)
      refine lv_goto (tgt := 84) hx hb dX5_divideByMiles_104 (by decide) ?_
      exact hrec84 S_24 (x4_25) _ _ ls hf hw (lv_sub hl [1, 2, 0] rfl)
theorem k5_divideByMiles_l84 {p : Program} {l : Launch} {e : Env} {s : State} {m : MethodId} {args : Array Value} {below : List Frame} {meth : Method} {c : Code} {D : va_G} {a : Nat → Nat} {g : Nat → ClassId} (E : EK p s m args meth c D a g cX5_divideByMiles 7 RX5 (some .boolean)) {F : Nat}  (x3 : Int32) {out : (Int32 × SS)}  : ∀ (n : Nat) (S : SS) (x4 : Int32) (H : Heap) (locs : List Loc) (ls : Array Slot), lpN (fun _ _ => none) (fun rec84 => k5_divideByMiles_B84 F x3 rec84) n S x4 = some out → WK D a g S s H locs → lv_has ls 7 [(0, .ref (a 2)), (3, .int (x3)), (4, .int (x4))] → W p l e (RM 2) s m args below meth c H locs 0 0 (MQ below (QK D a g (some (.int out.1)) out.2) args s 0 0 (AK a)) (F0 m 84 ls []) := by
  intro n
  induction n with
  | zero => intro S x4 H locs ls hf; cases (show (none : Option (Int32 × SS)) = some out from hf)
  | succ n ih => intro S x4 H locs ls hf hw hl; exact k5_divideByMiles_b84 E (F := F) x3 ih S x4 H locs ls hf hw hl
set_option maxRecDepth 100000 in
set_option maxHeartbeats 4000000 in
theorem mk5_divideByMiles {l : Launch} {D : va_G} {a : Nat → Nat} {g : Nat → ClassId} (hD : ∀ S, va_D (AK a) (wK a g S)) {F : Nat} {S : SS} {x1 : Int32} {out : (Int32 × SS)} (hf : k5_divideByMiles F S x1 = some out) : Met l yX5_divideByMiles (wsm yX5_divideByMiles cX5_divideByMiles 7 (some .boolean)) (RM 2) (PK D a g S [.ref (a 2), .int x1]) (QK D a g (some (.int out.1)) out.2) 0 0 (AK a) := by
  refine Met.ofW (cc := cX5_divideByMiles) (maxL := 7) (ret := (some .boolean)) (by decide) rfl ?_
  intro p e s m args below meth c s₁ B hml hv
  obtain ⟨rfl, hP, hK, hN⟩ := hv
  have hts := atoms_spec (ws := wsm yX5_divideByMiles cX5_divideByMiles 7 (some .boolean)) B.pre
  have E : EK p s m _ meth c D a g cX5_divideByMiles 7 RX5 (some .boolean) := ⟨B.exec, B.bytes, B.returns, hml, findClass_of_methodNamed B.named, fun w h => hts w (List.mem_cons_of_mem _ h), hK, hN, hD, B.notSynchronized⟩
  have hx := E.hx
  have hb := E.hb
  have hw : WK D a g S s s.heap [] := ⟨hP, va_S.rf⟩
  have hl := lv_entry ([.ref (a 2), .int x1]) (n := 7) (Nat.le_of_ble_eq_true rfl)
  rw [lg_entry_eq]
  generalize (lg_sl ([.ref (a 2), .int x1]) ++ List.replicate (7 - (lg_sl ([.ref (a 2), .int x1])).length) Slot.unset).toArray = ls at hl ⊢
  have hl : lv_has ls 7 [(0, .ref (a 2)), (1, .int (x1))] := hl
  show W p l e (RM 2) s m _ below meth c s.heap [] 0 0 (MQ below (QK D a g (some (.int out.1)) out.2) _ s 0 0 (AK a)) (F0 m 0 ls [])
  unfold k5_divideByMiles at hf
  refine lv_aload_n hx hb dX5_divideByMiles_0 rfl (lv_at hl 0 rfl) ?_
  refine gK_2_1 E hw (E.hts _ wl99) dX5_divideByMiles_1 ?_
  obtain ⟨r_2, h_1, hf⟩ := ob_at hf
  refine qnk7_sumOf_14 E hw (mk7_sumOf_14 E.hD h_1) nw7 dX5_divideByMiles_4 ⟨Nat.le_of_ble_eq_true rfl, Nat.le_of_ble_eq_true rfl⟩ hl.1 (Nat.le_of_ble_eq_true rfl) ⟨Nat.le_refl 0, Nat.le_refl 0⟩ (fun H locs hw => ?_)
  refine lv_topi (fun x2_4 ex2_4 => ?_)
  replace hf := bnd_at hf ex2_4
  refine lv_istore_n (lv' := [(2, .int (x2_4)), (0, .ref (a 2)), (1, .int (x1))]) hx hb dX5_divideByMiles_7 rfl hl (by decide) rfl (fun ls hl => ?_)
  refine lv_iload_n hx hb dX5_divideByMiles_8 rfl (lv_at hl 0 rfl) ?_
  refine lv_if_gt (tgt := 14) hx hb dX5_divideByMiles_9 (by decide) (fun c_5 => ?_) (fun c_5 => ?_)
  · replace hf := ite_t hf c_5
    refine lv_iload_n hx hb dX5_divideByMiles_14 rfl (lv_at hl 2 rfl) ?_
    refine lv_topi (fun x3_6 ex3_6 => ?_)
    replace hf := bnd_at hf ex3_6
    refine lv_istore_n (lv' := [(3, .int (x3_6)), (2, .int (x2_4)), (0, .ref (a 2)), (1, .int (x1))]) hx hb dX5_divideByMiles_15 rfl hl (by decide) rfl (fun ls hl => ?_)
    refine lv_iconst hx hb dX5_divideByMiles_16 ic_0 ?_
    refine lv_topi (fun x4_7 ex4_7 => ?_)
    replace hf := bnd_at hf ex4_7
    refine lv_istore (lv' := [(4, .int (x4_7)), (3, .int (x3_6)), (2, .int (x2_4)), (0, .ref (a 2)), (1, .int (x1))]) hx hb dX5_divideByMiles_17 hl (by decide) rfl (fun ls hl => ?_)
    refine k5_divideByMiles_l19 E (x1) (x2_4) ?_ F S (x3_6) (x4_7) _ _ ls hf hw (lv_sub hl [3, 4, 2, 1, 0] rfl)
    · intro S_18 x3_18 H locs ls hf hw hl
      refine lv_iconst hx hb dX5_divideByMiles_81 ic_0 ?_
      refine lv_topi (fun x4_19 ex4_19 => ?_)
      replace hf := bnd_at hf ex4_19
      refine lv_istore (lv' := [(4, .int (x4_19)), (0, .ref (a 2)), (3, .int (x3_18))]) hx hb dX5_divideByMiles_82 hl (by decide) rfl (fun ls hl => ?_)
      refine k5_divideByMiles_l84 E (x3_18)  F S_18 (x4_19) _ _ ls hf hw (lv_sub hl [1, 2, 0] rfl)
  · replace hf := ite_f hf c_5
    refine lv_iconst hx hb dX5_divideByMiles_12 ic_0 ?_
    cases hf
    exact retK_z E hw nb0 dX5_divideByMiles_13
theorem qk5_divideByMiles {p : Program} {l : Launch} {e : Env} {R : Room} {s : State} {m : MethodId} {args : Array Value} {below : List Frame} {meth : Method} {c : Code} {H : Heap} {locs : List Loc} {cells slots : Nat} {Q : State → Prop} {cc : ByteArray} {pc : Nat} {ls : Array Slot} {rest : List Value} {D : va_G} {a : Nat → Nat} {g : Nat → ClassId} {nL : Nat} {own : String} {ret : Option FieldType} {S S1 : SS} {k : Nat} {x1 : Int32} {r : Int32} (E : EK p s m args meth c D a g cc nL own ret) (hw : WK D a g S s H locs) (hM : Met l yX5_divideByMiles (wsm yX5_divideByMiles cX5_divideByMiles 7 (some .boolean)) (RM k) (PK D a g S [.ref (a 2), .int x1]) (QK D a g (some (.int r)) S1) 0 0 (AK a)) {idx : Nat} (hlk : Cond.methodLink own idx yX5_divideByMiles ∈ wd) (hdg : decode cc pc = .ok (.invokevirtual idx, 3)) (hR : k + 1 ≤ R.frames ∧ 8 + (7 + 11) + 64 * k ≤ R.locals) (hls : ls.size = nL) (hrest : (rest.map fun v => v.category).sum ≤ 8) (hcs : cells ≤ R.cells ∧ slots ≤ R.slots) (kk : ∀ (H1 : Heap) (locs1 : List Loc), WK D a g S1 s H1 locs1 → W p l e R s m args below meth c H1 locs1 cells slots Q (F0 m (pc + 3) ls (.int r :: rest))) : W p l e R s m args below meth c H locs cells slots Q (F0 m pc ls (.int x1 :: .ref (a 2) :: rest)) :=
  callK_i hw (va_runV (As := [.int x1]) (rest := rest) ⟨E.hx, E.hb, E.hml, E.hown, E.hts⟩ hM ⟨cb_of 1 E.hts wl378 wl38 hlk (by decide +kernel) hR, E.hts _ wl377, E.hts _ wl2⟩ ⟨PK_blind, va_recv E.hK hw.1 (ci := 5) (q0 := 2) rfl rfl, PK_pre E.hK E.hN hw.1⟩ rfl rfl hls rfl (lv_room hrest) hdg hcs) kk

/-! X8_left -/
def k8_left_B9 (F : Nat) (S : SM) (x1 : Int32) (rec9 : Int32 → Int32 → Option Int32) (x2 : Int32) (x3 : Int32) : Option Int32 :=
  if ((12 : Int32)) ≤ x3 then (some (x2)) else ((rdA 144 (S.1 21) ((((12 : Int32)) * x1) + x3)).bind fun v_5 => bnd (x2 - v_5) fun x2_6 => bnd (x3 + (1)) fun x3_7 => rec9 (x2_6) (x3_7))
def k8_left (F : Nat) (S : SM) (x1 : Int32) : Option Int32 :=
  (rdA 12 (S.1 13) x1).bind fun v_1 => bnd (v_1) fun x2_2 => bnd ((0 : Int32)) fun x3_3 => lpN (fun _ _ => none) (fun rec9 => k8_left_B9 F S (x1) rec9 ) F (x2_2) (x3_3)
set_option maxRecDepth 100000 in
set_option maxHeartbeats 4000000 in
theorem k8_left_b9 {p : Program} {l : Launch} {e : Env} {s : State} {m : MethodId} {args : Array Value} {below : List Frame} {meth : Method} {c : Code} {D : va_G} {a : Nat → Nat} {g : Nat → ClassId} (E : EM p s m args meth c D a g cX8_left 4 RX8 (some .int)) {F : Nat}  (S : SM) (x1 : Int32) {rec9 : Int32 → Int32 → Option Int32} {out : Int32} (hrec9 : ∀ (x2 : Int32) (x3 : Int32) (H : Heap) (locs : List Loc) (ls : Array Slot), rec9 x2 x3 = some out → WM D a g S s H locs → lv_has ls 4 [(0, .ref (a 0)), (1, .int (x1)), (2, .int (x2)), (3, .int (x3))] → W p l e (RM 1) s m args below meth c H locs 0 0 (MQ below (QM D a g (some (.int out)) S) args s 0 0 (AM a)) (F0 m 9 ls []))  (x2 : Int32) (x3 : Int32) (H : Heap) (locs : List Loc) (ls : Array Slot) (hf : k8_left_B9 F S x1 rec9 x2 x3 = some out) (hw : WM D a g S s H locs) (hl : lv_has ls 4 [(0, .ref (a 0)), (1, .int (x1)), (2, .int (x2)), (3, .int (x3))]) : W p l e (RM 1) s m args below meth c H locs 0 0 (MQ below (QM D a g (some (.int out)) S) args s 0 0 (AM a)) (F0 m 9 ls []) := by
  have hx := E.hx
  have hb := E.hb
  unfold k8_left_B9 at hf
  refine lv_iload_n hx hb dX8_left_9 rfl (lv_at hl 3 rfl) ?_
  refine lv_bipush hx hb dX8_left_10 bp_12 ?_
  refine lv_icmp_ge (tgt := 35) hx hb dX8_left_12 (by decide) (fun c_4 => ?_) (fun c_4 => ?_)
  · replace hf := ite_t hf c_4
    refine lv_iload_n hx hb dX8_left_35 rfl (lv_at hl 2 rfl) ?_
    cases hf
    exact retM_i E hw dX8_left_36
  · replace hf := ite_f hf c_4
    refine lv_iload_n hx hb dX8_left_15 rfl (lv_at hl 2 rfl) ?_
    refine lv_aload_n hx hb dX8_left_16 rfl (lv_at hl 0 rfl) ?_
    refine gM_0_27 E hw (E.hts _ wl668) dX8_left_17 ?_
    refine lv_bipush hx hb dX8_left_20 bp_12 ?_
    refine lv_iload_n hx hb dX8_left_22 rfl (lv_at hl 1 rfl) ?_
    refine lv_imul hx hb dX8_left_23 ?_
    refine lv_iload_n hx hb dX8_left_24 rfl (lv_at hl 3 rfl) ?_
    refine lv_iadd hx hb dX8_left_25 ?_
    obtain ⟨h_v_5, hf⟩ := rdA_at hf
    refine lM_21 E hw h_v_5 dX8_left_26 (fun v_5 ev_5 => ?_)
    replace hf := hf v_5 ev_5
    refine lv_isub hx hb dX8_left_27 ?_
    refine lv_topi (fun x2_6 ex2_6 => ?_)
    replace hf := bnd_at hf ex2_6
    refine lv_istore_n (lv' := [(2, .int (x2_6)), (0, .ref (a 0)), (1, .int (x1)), (3, .int (x3))]) hx hb dX8_left_28 rfl hl (by decide) rfl (fun ls hl => ?_)
    obtain ⟨x3_7, ex3_7⟩ : ∃ y : Int32, y = x3 + (1) := ⟨_, rfl⟩
    replace hf := bnd_at hf ex3_7
    refine lv_iinc (v := x3_7) (lv' := [(3, .int (x3_7)), (2, .int (x2_6)), (0, .ref (a 0)), (1, .int (x1))]) hx hb dX8_left_29 hl (k := 3) rfl (by rw [ex3_7]; rfl) (by decide) rfl (fun ls hl => ?_)
    refine lv_goto (tgt := 9) hx hb dX8_left_32 (by decide) ?_
    exact hrec9 (x2_6) (x3_7) _ _ ls hf hw (lv_sub hl [2, 3, 1, 0] rfl)
theorem k8_left_l9 {p : Program} {l : Launch} {e : Env} {s : State} {m : MethodId} {args : Array Value} {below : List Frame} {meth : Method} {c : Code} {D : va_G} {a : Nat → Nat} {g : Nat → ClassId} (E : EM p s m args meth c D a g cX8_left 4 RX8 (some .int)) {F : Nat}  (S : SM) (x1 : Int32) {out : Int32}  : ∀ (n : Nat) (x2 : Int32) (x3 : Int32) (H : Heap) (locs : List Loc) (ls : Array Slot), lpN (fun _ _ => none) (fun rec9 => k8_left_B9 F S x1 rec9) n x2 x3 = some out → WM D a g S s H locs → lv_has ls 4 [(0, .ref (a 0)), (1, .int (x1)), (2, .int (x2)), (3, .int (x3))] → W p l e (RM 1) s m args below meth c H locs 0 0 (MQ below (QM D a g (some (.int out)) S) args s 0 0 (AM a)) (F0 m 9 ls []) := by
  intro n
  induction n with
  | zero => intro x2 x3 H locs ls hf; cases (show (none : Option Int32) = some out from hf)
  | succ n ih => intro x2 x3 H locs ls hf hw hl; exact k8_left_b9 E (F := F) S x1 ih x2 x3 H locs ls hf hw hl
set_option maxRecDepth 100000 in
set_option maxHeartbeats 4000000 in
theorem mk8_left {l : Launch} {D : va_G} {a : Nat → Nat} {g : Nat → ClassId} (hD : ∀ S, va_D (AM a) (wM a g S)) {F : Nat} {S : SM} {x1 : Int32} {out : Int32} (hf : k8_left F S x1 = some out) : Met l yX8_left (wsm yX8_left cX8_left 4 (some .int)) (RM 1) (PM D a g S [.ref (a 0), .int x1]) (QM D a g (some (.int out)) S) 0 0 (AM a) := by
  refine Met.ofW (cc := cX8_left) (maxL := 4) (ret := (some .int)) (by decide) rfl ?_
  intro p e s m args below meth c s₁ B hml hv
  obtain ⟨rfl, hP, hK, hN⟩ := hv
  have hts := atoms_spec (ws := wsm yX8_left cX8_left 4 (some .int)) B.pre
  have E : EM p s m _ meth c D a g cX8_left 4 RX8 (some .int) := ⟨B.exec, B.bytes, B.returns, hml, findClass_of_methodNamed B.named, fun w h => hts w (List.mem_cons_of_mem _ h), hK, hN, hD, B.notSynchronized⟩
  have hx := E.hx
  have hb := E.hb
  have hw : WM D a g S s s.heap [] := ⟨hP, va_S.rf⟩
  have hl := lv_entry ([.ref (a 0), .int x1]) (n := 4) (Nat.le_of_ble_eq_true rfl)
  rw [lg_entry_eq]
  generalize (lg_sl ([.ref (a 0), .int x1]) ++ List.replicate (4 - (lg_sl ([.ref (a 0), .int x1])).length) Slot.unset).toArray = ls at hl ⊢
  have hl : lv_has ls 4 [(0, .ref (a 0)), (1, .int (x1))] := hl
  show W p l e (RM 1) s m _ below meth c s.heap [] 0 0 (MQ below (QM D a g (some (.int out)) S) _ s 0 0 (AM a)) (F0 m 0 ls [])
  unfold k8_left at hf
  refine lv_aload_n hx hb dX8_left_0 rfl (lv_at hl 0 rfl) ?_
  refine gM_0_18 E hw (E.hts _ wl659) dX8_left_1 ?_
  refine lv_iload_n hx hb dX8_left_4 rfl (lv_at hl 1 rfl) ?_
  obtain ⟨h_v_1, hf⟩ := rdA_at hf
  refine lM_13 E hw h_v_1 dX8_left_5 (fun v_1 ev_1 => ?_)
  replace hf := hf v_1 ev_1
  refine lv_topi (fun x2_2 ex2_2 => ?_)
  replace hf := bnd_at hf ex2_2
  refine lv_istore_n (lv' := [(2, .int (x2_2)), (0, .ref (a 0)), (1, .int (x1))]) hx hb dX8_left_6 rfl hl (by decide) rfl (fun ls hl => ?_)
  refine lv_iconst hx hb dX8_left_7 ic_0 ?_
  refine lv_topi (fun x3_3 ex3_3 => ?_)
  replace hf := bnd_at hf ex3_3
  refine lv_istore_n (lv' := [(3, .int (x3_3)), (2, .int (x2_2)), (0, .ref (a 0)), (1, .int (x1))]) hx hb dX8_left_8 rfl hl (by decide) rfl (fun ls hl => ?_)
  refine k8_left_l9 E S (x1)  F (x2_2) (x3_3) _ _ ls hf hw (lv_sub hl [2, 3, 1, 0] rfl)
theorem qk8_left {p : Program} {l : Launch} {e : Env} {R : Room} {s : State} {m : MethodId} {args : Array Value} {below : List Frame} {meth : Method} {c : Code} {H : Heap} {locs : List Loc} {cells slots : Nat} {Q : State → Prop} {cc : ByteArray} {pc : Nat} {ls : Array Slot} {rest : List Value} {D : va_G} {a : Nat → Nat} {g : Nat → ClassId} {nL : Nat} {own : String} {ret : Option FieldType} {S S1 : SM} {k : Nat} {x1 : Int32} {r : Int32} (E : EM p s m args meth c D a g cc nL own ret) (hw : WM D a g S s H locs) (hM : Met l yX8_left (wsm yX8_left cX8_left 4 (some .int)) (RM k) (PM D a g S [.ref (a 0), .int x1]) (QM D a g (some (.int r)) S1) 0 0 (AM a)) {idx : Nat} (hlk : Cond.methodLink own idx yX8_left ∈ wd) (hdg : decode cc pc = .ok (.invokevirtual idx, 3)) (hR : k + 1 ≤ R.frames ∧ 8 + (4 + 11) + 64 * k ≤ R.locals) (hls : ls.size = nL) (hrest : (rest.map fun v => v.category).sum ≤ 8) (hcs : cells ≤ R.cells ∧ slots ≤ R.slots) (kk : ∀ (H1 : Heap) (locs1 : List Loc), WM D a g S1 s H1 locs1 → W p l e R s m args below meth c H1 locs1 cells slots Q (F0 m (pc + 3) ls (.int r :: rest))) : W p l e R s m args below meth c H locs cells slots Q (F0 m pc ls (.int x1 :: .ref (a 0) :: rest)) :=
  callM_i hw (va_runV (As := [.int x1]) (rest := rest) ⟨E.hx, E.hb, E.hml, E.hown, E.hts⟩ hM ⟨cb_of 1 E.hts wl867 wl44 hlk (by decide +kernel) hR, E.hts _ wl866, E.hts _ wl32⟩ ⟨PM_blind, va_recv E.hK hw.1 (ci := 8) (q0 := 0) rfl rfl, PM_pre E.hK E.hN hw.1⟩ rfl rfl hls rfl (lv_room hrest) hdg hcs) kk
/-! X8_lacks -/
def k8_lacks_B9 (F : Nat) (S : SM) (x1 : Int32) (rec9 : Int32 → Int32 → Option Int32) (x2 : Int32) (x3 : Int32) : Option Int32 :=
  if ((12 : Int32)) ≤ x3 then (some (x2)) else ((rdA 144 (S.1 21) ((((12 : Int32)) * x3) + x1)).bind fun v_5 => bnd (x2 - v_5) fun x2_6 => bnd (x3 + (1)) fun x3_7 => rec9 (x2_6) (x3_7))
def k8_lacks (F : Nat) (S : SM) (x1 : Int32) : Option Int32 :=
  (rdA 12 (S.1 14) x1).bind fun v_1 => bnd (v_1) fun x2_2 => bnd ((0 : Int32)) fun x3_3 => lpN (fun _ _ => none) (fun rec9 => k8_lacks_B9 F S (x1) rec9 ) F (x2_2) (x3_3)
set_option maxRecDepth 100000 in
set_option maxHeartbeats 4000000 in
theorem k8_lacks_b9 {p : Program} {l : Launch} {e : Env} {s : State} {m : MethodId} {args : Array Value} {below : List Frame} {meth : Method} {c : Code} {D : va_G} {a : Nat → Nat} {g : Nat → ClassId} (E : EM p s m args meth c D a g cX8_lacks 4 RX8 (some .int)) {F : Nat}  (S : SM) (x1 : Int32) {rec9 : Int32 → Int32 → Option Int32} {out : Int32} (hrec9 : ∀ (x2 : Int32) (x3 : Int32) (H : Heap) (locs : List Loc) (ls : Array Slot), rec9 x2 x3 = some out → WM D a g S s H locs → lv_has ls 4 [(0, .ref (a 0)), (1, .int (x1)), (2, .int (x2)), (3, .int (x3))] → W p l e (RM 1) s m args below meth c H locs 0 0 (MQ below (QM D a g (some (.int out)) S) args s 0 0 (AM a)) (F0 m 9 ls []))  (x2 : Int32) (x3 : Int32) (H : Heap) (locs : List Loc) (ls : Array Slot) (hf : k8_lacks_B9 F S x1 rec9 x2 x3 = some out) (hw : WM D a g S s H locs) (hl : lv_has ls 4 [(0, .ref (a 0)), (1, .int (x1)), (2, .int (x2)), (3, .int (x3))]) : W p l e (RM 1) s m args below meth c H locs 0 0 (MQ below (QM D a g (some (.int out)) S) args s 0 0 (AM a)) (F0 m 9 ls []) := by
  have hx := E.hx
  have hb := E.hb
  unfold k8_lacks_B9 at hf
  refine lv_iload_n hx hb dX8_lacks_9 rfl (lv_at hl 3 rfl) ?_
  refine lv_bipush hx hb dX8_lacks_10 bp_12 ?_
  refine lv_icmp_ge (tgt := 35) hx hb dX8_lacks_12 (by decide) (fun c_4 => ?_) (fun c_4 => ?_)
  · replace hf := ite_t hf c_4
    refine lv_iload_n hx hb dX8_lacks_35 rfl (lv_at hl 2 rfl) ?_
    cases hf
    exact retM_i E hw dX8_lacks_36
  · replace hf := ite_f hf c_4
    refine lv_iload_n hx hb dX8_lacks_15 rfl (lv_at hl 2 rfl) ?_
    refine lv_aload_n hx hb dX8_lacks_16 rfl (lv_at hl 0 rfl) ?_
    refine gM_0_27 E hw (E.hts _ wl668) dX8_lacks_17 ?_
    refine lv_bipush hx hb dX8_lacks_20 bp_12 ?_
    refine lv_iload_n hx hb dX8_lacks_22 rfl (lv_at hl 3 rfl) ?_
    refine lv_imul hx hb dX8_lacks_23 ?_
    refine lv_iload_n hx hb dX8_lacks_24 rfl (lv_at hl 1 rfl) ?_
    refine lv_iadd hx hb dX8_lacks_25 ?_
    obtain ⟨h_v_5, hf⟩ := rdA_at hf
    refine lM_21 E hw h_v_5 dX8_lacks_26 (fun v_5 ev_5 => ?_)
    replace hf := hf v_5 ev_5
    refine lv_isub hx hb dX8_lacks_27 ?_
    refine lv_topi (fun x2_6 ex2_6 => ?_)
    replace hf := bnd_at hf ex2_6
    refine lv_istore_n (lv' := [(2, .int (x2_6)), (0, .ref (a 0)), (1, .int (x1)), (3, .int (x3))]) hx hb dX8_lacks_28 rfl hl (by decide) rfl (fun ls hl => ?_)
    obtain ⟨x3_7, ex3_7⟩ : ∃ y : Int32, y = x3 + (1) := ⟨_, rfl⟩
    replace hf := bnd_at hf ex3_7
    refine lv_iinc (v := x3_7) (lv' := [(3, .int (x3_7)), (2, .int (x2_6)), (0, .ref (a 0)), (1, .int (x1))]) hx hb dX8_lacks_29 hl (k := 3) rfl (by rw [ex3_7]; rfl) (by decide) rfl (fun ls hl => ?_)
    refine lv_goto (tgt := 9) hx hb dX8_lacks_32 (by decide) ?_
    exact hrec9 (x2_6) (x3_7) _ _ ls hf hw (lv_sub hl [2, 3, 1, 0] rfl)
theorem k8_lacks_l9 {p : Program} {l : Launch} {e : Env} {s : State} {m : MethodId} {args : Array Value} {below : List Frame} {meth : Method} {c : Code} {D : va_G} {a : Nat → Nat} {g : Nat → ClassId} (E : EM p s m args meth c D a g cX8_lacks 4 RX8 (some .int)) {F : Nat}  (S : SM) (x1 : Int32) {out : Int32}  : ∀ (n : Nat) (x2 : Int32) (x3 : Int32) (H : Heap) (locs : List Loc) (ls : Array Slot), lpN (fun _ _ => none) (fun rec9 => k8_lacks_B9 F S x1 rec9) n x2 x3 = some out → WM D a g S s H locs → lv_has ls 4 [(0, .ref (a 0)), (1, .int (x1)), (2, .int (x2)), (3, .int (x3))] → W p l e (RM 1) s m args below meth c H locs 0 0 (MQ below (QM D a g (some (.int out)) S) args s 0 0 (AM a)) (F0 m 9 ls []) := by
  intro n
  induction n with
  | zero => intro x2 x3 H locs ls hf; cases (show (none : Option Int32) = some out from hf)
  | succ n ih => intro x2 x3 H locs ls hf hw hl; exact k8_lacks_b9 E (F := F) S x1 ih x2 x3 H locs ls hf hw hl
set_option maxRecDepth 100000 in
set_option maxHeartbeats 4000000 in
theorem mk8_lacks {l : Launch} {D : va_G} {a : Nat → Nat} {g : Nat → ClassId} (hD : ∀ S, va_D (AM a) (wM a g S)) {F : Nat} {S : SM} {x1 : Int32} {out : Int32} (hf : k8_lacks F S x1 = some out) : Met l yX8_lacks (wsm yX8_lacks cX8_lacks 4 (some .int)) (RM 1) (PM D a g S [.ref (a 0), .int x1]) (QM D a g (some (.int out)) S) 0 0 (AM a) := by
  refine Met.ofW (cc := cX8_lacks) (maxL := 4) (ret := (some .int)) (by decide) rfl ?_
  intro p e s m args below meth c s₁ B hml hv
  obtain ⟨rfl, hP, hK, hN⟩ := hv
  have hts := atoms_spec (ws := wsm yX8_lacks cX8_lacks 4 (some .int)) B.pre
  have E : EM p s m _ meth c D a g cX8_lacks 4 RX8 (some .int) := ⟨B.exec, B.bytes, B.returns, hml, findClass_of_methodNamed B.named, fun w h => hts w (List.mem_cons_of_mem _ h), hK, hN, hD, B.notSynchronized⟩
  have hx := E.hx
  have hb := E.hb
  have hw : WM D a g S s s.heap [] := ⟨hP, va_S.rf⟩
  have hl := lv_entry ([.ref (a 0), .int x1]) (n := 4) (Nat.le_of_ble_eq_true rfl)
  rw [lg_entry_eq]
  generalize (lg_sl ([.ref (a 0), .int x1]) ++ List.replicate (4 - (lg_sl ([.ref (a 0), .int x1])).length) Slot.unset).toArray = ls at hl ⊢
  have hl : lv_has ls 4 [(0, .ref (a 0)), (1, .int (x1))] := hl
  show W p l e (RM 1) s m _ below meth c s.heap [] 0 0 (MQ below (QM D a g (some (.int out)) S) _ s 0 0 (AM a)) (F0 m 0 ls [])
  unfold k8_lacks at hf
  refine lv_aload_n hx hb dX8_lacks_0 rfl (lv_at hl 0 rfl) ?_
  refine gM_0_19 E hw (E.hts _ wl660) dX8_lacks_1 ?_
  refine lv_iload_n hx hb dX8_lacks_4 rfl (lv_at hl 1 rfl) ?_
  obtain ⟨h_v_1, hf⟩ := rdA_at hf
  refine lM_14 E hw h_v_1 dX8_lacks_5 (fun v_1 ev_1 => ?_)
  replace hf := hf v_1 ev_1
  refine lv_topi (fun x2_2 ex2_2 => ?_)
  replace hf := bnd_at hf ex2_2
  refine lv_istore_n (lv' := [(2, .int (x2_2)), (0, .ref (a 0)), (1, .int (x1))]) hx hb dX8_lacks_6 rfl hl (by decide) rfl (fun ls hl => ?_)
  refine lv_iconst hx hb dX8_lacks_7 ic_0 ?_
  refine lv_topi (fun x3_3 ex3_3 => ?_)
  replace hf := bnd_at hf ex3_3
  refine lv_istore_n (lv' := [(3, .int (x3_3)), (2, .int (x2_2)), (0, .ref (a 0)), (1, .int (x1))]) hx hb dX8_lacks_8 rfl hl (by decide) rfl (fun ls hl => ?_)
  refine k8_lacks_l9 E S (x1)  F (x2_2) (x3_3) _ _ ls hf hw (lv_sub hl [2, 3, 1, 0] rfl)
theorem qk8_lacks {p : Program} {l : Launch} {e : Env} {R : Room} {s : State} {m : MethodId} {args : Array Value} {below : List Frame} {meth : Method} {c : Code} {H : Heap} {locs : List Loc} {cells slots : Nat} {Q : State → Prop} {cc : ByteArray} {pc : Nat} {ls : Array Slot} {rest : List Value} {D : va_G} {a : Nat → Nat} {g : Nat → ClassId} {nL : Nat} {own : String} {ret : Option FieldType} {S S1 : SM} {k : Nat} {x1 : Int32} {r : Int32} (E : EM p s m args meth c D a g cc nL own ret) (hw : WM D a g S s H locs) (hM : Met l yX8_lacks (wsm yX8_lacks cX8_lacks 4 (some .int)) (RM k) (PM D a g S [.ref (a 0), .int x1]) (QM D a g (some (.int r)) S1) 0 0 (AM a)) {idx : Nat} (hlk : Cond.methodLink own idx yX8_lacks ∈ wd) (hdg : decode cc pc = .ok (.invokevirtual idx, 3)) (hR : k + 1 ≤ R.frames ∧ 8 + (4 + 11) + 64 * k ≤ R.locals) (hls : ls.size = nL) (hrest : (rest.map fun v => v.category).sum ≤ 8) (hcs : cells ≤ R.cells ∧ slots ≤ R.slots) (kk : ∀ (H1 : Heap) (locs1 : List Loc), WM D a g S1 s H1 locs1 → W p l e R s m args below meth c H1 locs1 cells slots Q (F0 m (pc + 3) ls (.int r :: rest))) : W p l e R s m args below meth c H locs cells slots Q (F0 m pc ls (.int x1 :: .ref (a 0) :: rest)) :=
  callM_i hw (va_runV (As := [.int x1]) (rest := rest) ⟨E.hx, E.hb, E.hml, E.hown, E.hts⟩ hM ⟨cb_of 1 E.hts wl872 wl44 hlk (by decide +kernel) hR, E.hts _ wl871, E.hts _ wl33⟩ ⟨PM_blind, va_recv E.hK hw.1 (ci := 8) (q0 := 0) rfl rfl, PM_pre E.hK E.hN hw.1⟩ rfl rfl hls rfl (lv_room hrest) hdg hcs) kk
/-! X8_seeks -/
def k8_seeks_B2 (F : Nat) (rec2 : SM → Int32 → Option (Int32 × SM)) (k47 : SM → Option (Int32 × SM)) (S : SM) (x1 : Int32) : Option (Int32 × SM) :=
  if ((24 : Int32)) ≤ x1 then (k47 S) else (if ((12 : Int32)) ≤ x1 then ((ckA 24 x1).bind fun _ => bnd (stM S 22 (Int32.toNatClampNeg x1) ((1000000 : Int32))) fun S_4 => (ckA 24 x1).bind fun _ => bnd (stM S_4 23 (Int32.toNatClampNeg x1) ((-1 : Int32))) fun S_5 => bnd (x1 + (1)) fun x1_6 => rec2 S_5 (x1_6)) else ((k8_left F S (x1)).bind fun r_8 => if r_8 ≤ 0 then ((ckA 24 x1).bind fun _ => bnd (stM S 22 (Int32.toNatClampNeg x1) ((1000000 : Int32))) fun S_11 => (ckA 24 x1).bind fun _ => bnd (stM S_11 23 (Int32.toNatClampNeg x1) ((-1 : Int32))) fun S_12 => bnd (x1 + (1)) fun x1_13 => rec2 S_12 (x1_13)) else ((ckA 24 x1).bind fun _ => bnd (stM S 22 (Int32.toNatClampNeg x1) ((0 : Int32))) fun S_14 => (ckA 24 x1).bind fun _ => bnd (stM S_14 23 (Int32.toNatClampNeg x1) ((-1 : Int32))) fun S_15 => bnd (x1 + (1)) fun x1_16 => rec2 S_15 (x1_16))))
def k8_seeks_B65_J145 (F : Nat) (x2 : Int32) (rec65 : SM → Int32 → Int32 → Option (Int32 × SM)) (k222 : SM → Int32 → Option (Int32 × SM)) (S : SM) (x1 : Int32) (x3 : Int32) (x4 : Int32) (x5 : Int32) : Option (Int32 × SM) :=
  (rdA 144 (S.1 21) ((((12 : Int32)) * x2) + x3)).bind fun v_32 => if v_32 ≤ 0 then (bnd (x3 + (1)) fun x3_34 => rec65 S (x1) (x3_34)) else ((rdA 24 (S.1 22) x5).bind fun v_35 => if ((500000 : Int32)) ≤ v_35 then (bnd (x3 + (1)) fun x3_37 => rec65 S (x1) (x3_37)) else ((rdA 24 (S.1 22) x5).bind fun v_38 => (rdA 24 (S.1 22) x2).bind fun v_39 => if v_39 ≤ (v_38 - x4) then (bnd (x3 + (1)) fun x3_41 => rec65 S (x1) (x3_41)) else ((rdA 24 (S.1 22) x5).bind fun v_42 => (ckA 24 x2).bind fun _ => bnd (stM S 22 (Int32.toNatClampNeg x2) (v_42 - x4)) fun S_43 => (ckA 24 x2).bind fun _ => bnd (stM S_43 23 (Int32.toNatClampNeg x2) x5) fun S_44 => bnd ((1 : Int32)) fun x1_45 => bnd (x3 + (1)) fun x3_46 => rec65 S_44 (x1_45) (x3_46))))
def k8_seeks_B65 (F : Nat) (x2 : Int32) (rec65 : SM → Int32 → Int32 → Option (Int32 × SM)) (k222 : SM → Int32 → Option (Int32 × SM)) (S : SM) (x1 : Int32) (x3 : Int32) : Option (Int32 × SM) :=
  if ((12 : Int32)) ≤ x3 then (k222 S (x1)) else ((rdA 144 (S.1 5) ((((12 : Int32)) * x2) + x3)).bind fun v_25 => bnd (v_25) fun x4_26 => bnd (((12 : Int32)) + x3) fun x5_27 => if x4_26 < ((1000000 : Int32)) then ((rdA 24 (S.1 22) x2).bind fun v_29 => (rdA 24 (S.1 22) x5_27).bind fun v_30 => if v_30 ≤ (v_29 + x4_26) then (k8_seeks_B65_J145 F x2 rec65 k222 S (x1) (x3) (x4_26) (x5_27)) else ((rdA 24 (S.1 22) x2).bind fun v_47 => (ckA 24 x5_27).bind fun _ => bnd (stM S 22 (Int32.toNatClampNeg x5_27) (v_47 + x4_26)) fun S_48 => (ckA 24 x5_27).bind fun _ => bnd (stM S_48 23 (Int32.toNatClampNeg x5_27) x2) fun S_49 => bnd ((1 : Int32)) fun x1_50 => k8_seeks_B65_J145 F x2 rec65 k222 S_49 (x1_50) (x3) (x4_26) (x5_27))) else (bnd (x3 + (1)) fun x3_51 => rec65 S (x1) (x3_51)))
def k8_seeks_B57 (F : Nat) (rec57 : SM → Int32 → Int32 → Option (Int32 × SM)) (k228 : SM → Int32 → Option (Int32 × SM)) (S : SM) (x1 : Int32) (x2 : Int32) : Option (Int32 × SM) :=
  if ((12 : Int32)) ≤ x2 then (k228 S (x1)) else (bnd ((0 : Int32)) fun x3_23 => lpN (fun _ _ _ => none) (fun rec65 => k8_seeks_B65 F (x2) rec65 (fun S_52 x1_52 => bnd (x2 + (1)) fun x2_53 => rec57 S_52 (x1_52) (x2_53))) F S (x1) (x3_23))
def k8_seeks_B49 (F : Nat) (rec49 : SM → Int32 → Option (Int32 × SM)) (k231 : SM → Option (Int32 × SM)) (S : SM) (x1 : Int32) : Option (Int32 × SM) :=
  if x1 = 0 then (k231 S) else (bnd ((0 : Int32)) fun x1_20 => bnd ((0 : Int32)) fun x2_21 => lpN (fun _ _ _ => none) (fun rec57 => k8_seeks_B57 F rec57 (fun S_54 x1_54 => rec49 S_54 (x1_54))) F S (x1_20) (x2_21))
def k8_seeks_B235 (F : Nat) (S : SM) (rec235 : Int32 → Int32 → Option (Int32 × SM)) (x2 : Int32) (x3 : Int32) : Option (Int32 × SM) :=
  if ((12 : Int32)) ≤ x3 then (some (x2, S)) else ((rdA 24 (S.1 22) (((12 : Int32)) + x3)).bind fun v_59 => if ((500000 : Int32)) ≤ v_59 then (bnd (x3 + (1)) fun x3_61 => rec235 (x2) (x3_61)) else ((k8_lacks F S (x3)).bind fun r_63 => if r_63 ≤ 0 then (bnd (x3 + (1)) fun x3_66 => rec235 (x2) (x3_66)) else (if x2 = ((-1 : Int32)) then (bnd (((12 : Int32)) + x3) fun x2_68 => bnd (x3 + (1)) fun x3_69 => rec235 (x2_68) (x3_69)) else ((rdA 24 (S.1 22) (((12 : Int32)) + x3)).bind fun v_70 => (rdA 24 (S.1 22) x2).bind fun v_71 => if v_71 ≤ v_70 then (bnd (x3 + (1)) fun x3_73 => rec235 (x2) (x3_73)) else (bnd (((12 : Int32)) + x3) fun x2_74 => bnd (x3 + (1)) fun x3_75 => rec235 (x2_74) (x3_75))))))
def k8_seeks (F : Nat) (S : SM) : Option (Int32 × SM) :=
  bnd ((0 : Int32)) fun x1_1 => lpN (fun _ _ => none) (fun rec2 => k8_seeks_B2 F rec2 (fun S_17 => bnd ((1 : Int32)) fun x1_18 => lpN (fun _ _ => none) (fun rec49 => k8_seeks_B49 F rec49 (fun S_55 => bnd ((-1 : Int32)) fun x2_56 => bnd ((0 : Int32)) fun x3_57 => lpN (fun _ _ => none) (fun rec235 => k8_seeks_B235 F S_55 rec235 ) F (x2_56) (x3_57))) F S_17 (x1_18))) F S (x1_1)
set_option maxRecDepth 100000 in
set_option maxHeartbeats 4000000 in
theorem k8_seeks_b2 {p : Program} {l : Launch} {e : Env} {s : State} {m : MethodId} {args : Array Value} {below : List Frame} {meth : Method} {c : Code} {D : va_G} {a : Nat → Nat} {g : Nat → ClassId} (E : EM p s m args meth c D a g cX8_seeks 6 RX8 (some .int)) {F : Nat}  {rec2 : SM → Int32 → Option (Int32 × SM)} {k47 : SM → Option (Int32 × SM)} {out : (Int32 × SM)} (hrec2 : ∀ (S : SM) (x1 : Int32) (H : Heap) (locs : List Loc) (ls : Array Slot), rec2 S x1 = some out → WM D a g S s H locs → lv_has ls 6 [(0, .ref (a 0)), (1, .int (x1))] → W p l e (RM 2) s m args below meth c H locs 0 0 (MQ below (QM D a g (some (.int out.1)) out.2) args s 0 0 (AM a)) (F0 m 2 ls [])) (hk47 : ∀ (S : SM) (H : Heap) (locs : List Loc) (ls : Array Slot), k47 S = some out → WM D a g S s H locs → lv_has ls 6 [(0, .ref (a 0))] → W p l e (RM 2) s m args below meth c H locs 0 0 (MQ below (QM D a g (some (.int out.1)) out.2) args s 0 0 (AM a)) (F0 m 47 ls [])) (S : SM) (x1 : Int32) (H : Heap) (locs : List Loc) (ls : Array Slot) (hf : k8_seeks_B2 F rec2 k47 S x1 = some out) (hw : WM D a g S s H locs) (hl : lv_has ls 6 [(0, .ref (a 0)), (1, .int (x1))]) : W p l e (RM 2) s m args below meth c H locs 0 0 (MQ below (QM D a g (some (.int out.1)) out.2) args s 0 0 (AM a)) (F0 m 2 ls []) := by
  have hx := E.hx
  have hb := E.hb
  unfold k8_seeks_B2 at hf
  refine lv_iload_n hx hb dX8_seeks_2 rfl (lv_at hl 1 rfl) ?_
  refine lv_bipush hx hb dX8_seeks_3 bp_24 ?_
  refine lv_icmp_ge (tgt := 47) hx hb dX8_seeks_5 (by decide) (fun c_2 => ?_) (fun c_2 => ?_)
  · replace hf := ite_t hf c_2
    exact hk47 S _ _ ls hf hw (lv_sub hl [0] rfl)
  · replace hf := ite_f hf c_2
    refine lv_aload_n hx hb dX8_seeks_8 rfl (lv_at hl 0 rfl) ?_
    refine gM_0_28 E hw (E.hts _ wl669) dX8_seeks_9 ?_
    refine lv_iload_n hx hb dX8_seeks_12 rfl (lv_at hl 1 rfl) ?_
    refine lv_iload_n hx hb dX8_seeks_13 rfl (lv_at hl 1 rfl) ?_
    refine lv_bipush hx hb dX8_seeks_14 bp_12 ?_
    refine lv_icmp_ge (tgt := 31) hx hb dX8_seeks_16 (by decide) (fun c_3 => ?_) (fun c_3 => ?_)
    · replace hf := ite_t hf c_3
      refine lv_ldc hx hb E.hown (E.hts _ wl640) dX8_seeks_31 ?_
      obtain ⟨h_S_4, hf⟩ := ckA_at hf
      refine sM_22 E hw h_S_4 dX8_seeks_33 (fun S_4 eS_4 H locs hw => ?_)
      replace hf := bnd_at hf eS_4
      refine lv_aload_n hx hb dX8_seeks_34 rfl (lv_at hl 0 rfl) ?_
      refine gM_0_29 E hw (E.hts _ wl670) dX8_seeks_35 ?_
      refine lv_iload_n hx hb dX8_seeks_38 rfl (lv_at hl 1 rfl) ?_
      refine lv_iconst hx hb dX8_seeks_39 ic_m1 ?_
      obtain ⟨h_S_5, hf⟩ := ckA_at hf
      refine sM_23 E hw h_S_5 dX8_seeks_40 (fun S_5 eS_5 H locs hw => ?_)
      replace hf := bnd_at hf eS_5
      obtain ⟨x1_6, ex1_6⟩ : ∃ y : Int32, y = x1 + (1) := ⟨_, rfl⟩
      replace hf := bnd_at hf ex1_6
      refine lv_iinc (v := x1_6) (lv' := [(1, .int (x1_6)), (0, .ref (a 0))]) hx hb dX8_seeks_41 hl (k := 1) rfl (by rw [ex1_6]; rfl) (by decide) rfl (fun ls hl => ?_)
      refine lv_goto (tgt := 2) hx hb dX8_seeks_44 (by decide) ?_
      exact hrec2 S_5 (x1_6) _ _ ls hf hw (lv_sub hl [1, 0] rfl)
    · replace hf := ite_f hf c_3
      refine lv_aload_n hx hb dX8_seeks_19 rfl (lv_at hl 0 rfl) ?_
      refine lv_iload_n hx hb dX8_seeks_20 rfl (lv_at hl 1 rfl) ?_
      obtain ⟨r_8, h_7, hf⟩ := ob_at hf
      refine qk8_left E hw (mk8_left E.hD h_7) wl864 dX8_seeks_21 ⟨Nat.le_of_ble_eq_true rfl, Nat.le_of_ble_eq_true rfl⟩ hl.1 (Nat.le_of_ble_eq_true rfl) ⟨Nat.le_refl 0, Nat.le_refl 0⟩ (fun H locs hw => ?_)
      refine lv_if_le (tgt := 31) hx hb dX8_seeks_24 (by decide) (fun c_10 => ?_) (fun c_10 => ?_)
      · replace hf := ite_t hf c_10
        refine lv_ldc hx hb E.hown (E.hts _ wl640) dX8_seeks_31 ?_
        obtain ⟨h_S_11, hf⟩ := ckA_at hf
        refine sM_22 E hw h_S_11 dX8_seeks_33 (fun S_11 eS_11 H locs hw => ?_)
        replace hf := bnd_at hf eS_11
        refine lv_aload_n hx hb dX8_seeks_34 rfl (lv_at hl 0 rfl) ?_
        refine gM_0_29 E hw (E.hts _ wl670) dX8_seeks_35 ?_
        refine lv_iload_n hx hb dX8_seeks_38 rfl (lv_at hl 1 rfl) ?_
        refine lv_iconst hx hb dX8_seeks_39 ic_m1 ?_
        obtain ⟨h_S_12, hf⟩ := ckA_at hf
        refine sM_23 E hw h_S_12 dX8_seeks_40 (fun S_12 eS_12 H locs hw => ?_)
        replace hf := bnd_at hf eS_12
        obtain ⟨x1_13, ex1_13⟩ : ∃ y : Int32, y = x1 + (1) := ⟨_, rfl⟩
        replace hf := bnd_at hf ex1_13
        refine lv_iinc (v := x1_13) (lv' := [(1, .int (x1_13)), (0, .ref (a 0))]) hx hb dX8_seeks_41 hl (k := 1) rfl (by rw [ex1_13]; rfl) (by decide) rfl (fun ls hl => ?_)
        refine lv_goto (tgt := 2) hx hb dX8_seeks_44 (by decide) ?_
        exact hrec2 S_12 (x1_13) _ _ ls hf hw (lv_sub hl [1, 0] rfl)
      · replace hf := ite_f hf c_10
        refine lv_iconst hx hb dX8_seeks_27 ic_0 ?_
        refine lv_goto (tgt := 33) hx hb dX8_seeks_28 (by decide) ?_
        obtain ⟨h_S_14, hf⟩ := ckA_at hf
        refine sM_22 E hw h_S_14 dX8_seeks_33 (fun S_14 eS_14 H locs hw => ?_)
        replace hf := bnd_at hf eS_14
        refine lv_aload_n hx hb dX8_seeks_34 rfl (lv_at hl 0 rfl) ?_
        refine gM_0_29 E hw (E.hts _ wl670) dX8_seeks_35 ?_
        refine lv_iload_n hx hb dX8_seeks_38 rfl (lv_at hl 1 rfl) ?_
        refine lv_iconst hx hb dX8_seeks_39 ic_m1 ?_
        obtain ⟨h_S_15, hf⟩ := ckA_at hf
        refine sM_23 E hw h_S_15 dX8_seeks_40 (fun S_15 eS_15 H locs hw => ?_)
        replace hf := bnd_at hf eS_15
        obtain ⟨x1_16, ex1_16⟩ : ∃ y : Int32, y = x1 + (1) := ⟨_, rfl⟩
        replace hf := bnd_at hf ex1_16
        refine lv_iinc (v := x1_16) (lv' := [(1, .int (x1_16)), (0, .ref (a 0))]) hx hb dX8_seeks_41 hl (k := 1) rfl (by rw [ex1_16]; rfl) (by decide) rfl (fun ls hl => ?_)
        refine lv_goto (tgt := 2) hx hb dX8_seeks_44 (by decide) ?_
        exact hrec2 S_15 (x1_16) _ _ ls hf hw (lv_sub hl [1, 0] rfl)
theorem k8_seeks_l2 {p : Program} {l : Launch} {e : Env} {s : State} {m : MethodId} {args : Array Value} {below : List Frame} {meth : Method} {c : Code} {D : va_G} {a : Nat → Nat} {g : Nat → ClassId} (E : EM p s m args meth c D a g cX8_seeks 6 RX8 (some .int)) {F : Nat}  {k47 : SM → Option (Int32 × SM)} {out : (Int32 × SM)} (hk47 : ∀ (S : SM) (H : Heap) (locs : List Loc) (ls : Array Slot), k47 S = some out → WM D a g S s H locs → lv_has ls 6 [(0, .ref (a 0))] → W p l e (RM 2) s m args below meth c H locs 0 0 (MQ below (QM D a g (some (.int out.1)) out.2) args s 0 0 (AM a)) (F0 m 47 ls [])) : ∀ (n : Nat) (S : SM) (x1 : Int32) (H : Heap) (locs : List Loc) (ls : Array Slot), lpN (fun _ _ => none) (fun rec2 => k8_seeks_B2 F rec2 k47) n S x1 = some out → WM D a g S s H locs → lv_has ls 6 [(0, .ref (a 0)), (1, .int (x1))] → W p l e (RM 2) s m args below meth c H locs 0 0 (MQ below (QM D a g (some (.int out.1)) out.2) args s 0 0 (AM a)) (F0 m 2 ls []) := by
  intro n
  induction n with
  | zero => intro S x1 H locs ls hf; cases (show (none : Option (Int32 × SM)) = some out from hf)
  | succ n ih => intro S x1 H locs ls hf hw hl; exact k8_seeks_b2 E (F := F) ih hk47 S x1 H locs ls hf hw hl
set_option maxRecDepth 100000 in
set_option maxHeartbeats 4000000 in
theorem k8_seeks_B65_J145_j {p : Program} {l : Launch} {e : Env} {s : State} {m : MethodId} {args : Array Value} {below : List Frame} {meth : Method} {c : Code} {D : va_G} {a : Nat → Nat} {g : Nat → ClassId} (E : EM p s m args meth c D a g cX8_seeks 6 RX8 (some .int)) {F : Nat}  (x2 : Int32) {rec65 : SM → Int32 → Int32 → Option (Int32 × SM)} {k222 : SM → Int32 → Option (Int32 × SM)} {out : (Int32 × SM)} (hrec65 : ∀ (S : SM) (x1 : Int32) (x3 : Int32) (H : Heap) (locs : List Loc) (ls : Array Slot), rec65 S x1 x3 = some out → WM D a g S s H locs → lv_has ls 6 [(0, .ref (a 0)), (1, .int (x1)), (2, .int (x2)), (3, .int (x3))] → W p l e (RM 2) s m args below meth c H locs 0 0 (MQ below (QM D a g (some (.int out.1)) out.2) args s 0 0 (AM a)) (F0 m 65 ls [])) (hk222 : ∀ (S : SM) (x1 : Int32) (H : Heap) (locs : List Loc) (ls : Array Slot), k222 S x1 = some out → WM D a g S s H locs → lv_has ls 6 [(0, .ref (a 0)), (1, .int (x1)), (2, .int (x2))] → W p l e (RM 2) s m args below meth c H locs 0 0 (MQ below (QM D a g (some (.int out.1)) out.2) args s 0 0 (AM a)) (F0 m 222 ls [])) (S : SM) (x1 : Int32) (x3 : Int32) (x4 : Int32) (x5 : Int32) (H : Heap) (locs : List Loc) (ls : Array Slot) (hf : k8_seeks_B65_J145 F x2 rec65 k222 S x1 x3 x4 x5 = some out) (hw : WM D a g S s H locs) (hl : lv_has ls 6 [(0, .ref (a 0)), (1, .int (x1)), (2, .int (x2)), (3, .int (x3)), (4, .int (x4)), (5, .int (x5))]) : W p l e (RM 2) s m args below meth c H locs 0 0 (MQ below (QM D a g (some (.int out.1)) out.2) args s 0 0 (AM a)) (F0 m 145 ls []) := by
  have hx := E.hx
  have hb := E.hb
  unfold k8_seeks_B65_J145 at hf
  refine lv_aload_n hx hb dX8_seeks_145 rfl (lv_at hl 0 rfl) ?_
  refine gM_0_27 E hw (E.hts _ wl668) dX8_seeks_146 ?_
  refine lv_bipush hx hb dX8_seeks_149 bp_12 ?_
  refine lv_iload_n hx hb dX8_seeks_151 rfl (lv_at hl 2 rfl) ?_
  refine lv_imul hx hb dX8_seeks_152 ?_
  refine lv_iload_n hx hb dX8_seeks_153 rfl (lv_at hl 3 rfl) ?_
  refine lv_iadd hx hb dX8_seeks_154 ?_
  obtain ⟨h_v_32, hf⟩ := rdA_at hf
  refine lM_21 E hw h_v_32 dX8_seeks_155 (fun v_32 ev_32 => ?_)
  replace hf := hf v_32 ev_32
  refine lv_if_le (tgt := 216) hx hb dX8_seeks_156 (by decide) (fun c_33 => ?_) (fun c_33 => ?_)
  · replace hf := ite_t hf c_33
    obtain ⟨x3_34, ex3_34⟩ : ∃ y : Int32, y = x3 + (1) := ⟨_, rfl⟩
    replace hf := bnd_at hf ex3_34
    refine lv_iinc (v := x3_34) (lv' := [(3, .int (x3_34)), (0, .ref (a 0)), (1, .int (x1)), (2, .int (x2)), (4, .int (x4)), (5, .int (x5))]) hx hb dX8_seeks_216 hl (k := 3) rfl (by rw [ex3_34]; rfl) (by decide) rfl (fun ls hl => ?_)
    refine lv_goto (tgt := 65) hx hb dX8_seeks_219 (by decide) ?_
    exact hrec65 S (x1) (x3_34) _ _ ls hf hw (lv_sub hl [1, 2, 3, 0] rfl)
  · replace hf := ite_f hf c_33
    refine lv_aload_n hx hb dX8_seeks_159 rfl (lv_at hl 0 rfl) ?_
    refine gM_0_28 E hw (E.hts _ wl669) dX8_seeks_160 ?_
    refine lv_iload hx hb dX8_seeks_163 (lv_at hl 5 rfl) ?_
    obtain ⟨h_v_35, hf⟩ := rdA_at hf
    refine lM_22 E hw h_v_35 dX8_seeks_165 (fun v_35 ev_35 => ?_)
    replace hf := hf v_35 ev_35
    refine lv_ldc hx hb E.hown (E.hts _ wl868) dX8_seeks_166 ?_
    refine lv_icmp_ge (tgt := 216) hx hb dX8_seeks_168 (by decide) (fun c_36 => ?_) (fun c_36 => ?_)
    · replace hf := ite_t hf c_36
      obtain ⟨x3_37, ex3_37⟩ : ∃ y : Int32, y = x3 + (1) := ⟨_, rfl⟩
      replace hf := bnd_at hf ex3_37
      refine lv_iinc (v := x3_37) (lv' := [(3, .int (x3_37)), (0, .ref (a 0)), (1, .int (x1)), (2, .int (x2)), (4, .int (x4)), (5, .int (x5))]) hx hb dX8_seeks_216 hl (k := 3) rfl (by rw [ex3_37]; rfl) (by decide) rfl (fun ls hl => ?_)
      refine lv_goto (tgt := 65) hx hb dX8_seeks_219 (by decide) ?_
      exact hrec65 S (x1) (x3_37) _ _ ls hf hw (lv_sub hl [1, 2, 3, 0] rfl)
    · replace hf := ite_f hf c_36
      refine lv_aload_n hx hb dX8_seeks_171 rfl (lv_at hl 0 rfl) ?_
      refine gM_0_28 E hw (E.hts _ wl669) dX8_seeks_172 ?_
      refine lv_iload hx hb dX8_seeks_175 (lv_at hl 5 rfl) ?_
      obtain ⟨h_v_38, hf⟩ := rdA_at hf
      refine lM_22 E hw h_v_38 dX8_seeks_177 (fun v_38 ev_38 => ?_)
      replace hf := hf v_38 ev_38
      refine lv_iload hx hb dX8_seeks_178 (lv_at hl 4 rfl) ?_
      refine lv_isub hx hb dX8_seeks_180 ?_
      refine lv_aload_n hx hb dX8_seeks_181 rfl (lv_at hl 0 rfl) ?_
      refine gM_0_28 E hw (E.hts _ wl669) dX8_seeks_182 ?_
      refine lv_iload_n hx hb dX8_seeks_185 rfl (lv_at hl 2 rfl) ?_
      obtain ⟨h_v_39, hf⟩ := rdA_at hf
      refine lM_22 E hw h_v_39 dX8_seeks_186 (fun v_39 ev_39 => ?_)
      replace hf := hf v_39 ev_39
      refine lv_icmp_ge (tgt := 216) hx hb dX8_seeks_187 (by decide) (fun c_40 => ?_) (fun c_40 => ?_)
      · replace hf := ite_t hf c_40
        obtain ⟨x3_41, ex3_41⟩ : ∃ y : Int32, y = x3 + (1) := ⟨_, rfl⟩
        replace hf := bnd_at hf ex3_41
        refine lv_iinc (v := x3_41) (lv' := [(3, .int (x3_41)), (0, .ref (a 0)), (1, .int (x1)), (2, .int (x2)), (4, .int (x4)), (5, .int (x5))]) hx hb dX8_seeks_216 hl (k := 3) rfl (by rw [ex3_41]; rfl) (by decide) rfl (fun ls hl => ?_)
        refine lv_goto (tgt := 65) hx hb dX8_seeks_219 (by decide) ?_
        exact hrec65 S (x1) (x3_41) _ _ ls hf hw (lv_sub hl [1, 2, 3, 0] rfl)
      · replace hf := ite_f hf c_40
        refine lv_aload_n hx hb dX8_seeks_190 rfl (lv_at hl 0 rfl) ?_
        refine gM_0_28 E hw (E.hts _ wl669) dX8_seeks_191 ?_
        refine lv_iload_n hx hb dX8_seeks_194 rfl (lv_at hl 2 rfl) ?_
        refine lv_aload_n hx hb dX8_seeks_195 rfl (lv_at hl 0 rfl) ?_
        refine gM_0_28 E hw (E.hts _ wl669) dX8_seeks_196 ?_
        refine lv_iload hx hb dX8_seeks_199 (lv_at hl 5 rfl) ?_
        obtain ⟨h_v_42, hf⟩ := rdA_at hf
        refine lM_22 E hw h_v_42 dX8_seeks_201 (fun v_42 ev_42 => ?_)
        replace hf := hf v_42 ev_42
        refine lv_iload hx hb dX8_seeks_202 (lv_at hl 4 rfl) ?_
        refine lv_isub hx hb dX8_seeks_204 ?_
        obtain ⟨h_S_43, hf⟩ := ckA_at hf
        refine sM_22 E hw h_S_43 dX8_seeks_205 (fun S_43 eS_43 H locs hw => ?_)
        replace hf := bnd_at hf eS_43
        refine lv_aload_n hx hb dX8_seeks_206 rfl (lv_at hl 0 rfl) ?_
        refine gM_0_29 E hw (E.hts _ wl670) dX8_seeks_207 ?_
        refine lv_iload_n hx hb dX8_seeks_210 rfl (lv_at hl 2 rfl) ?_
        refine lv_iload hx hb dX8_seeks_211 (lv_at hl 5 rfl) ?_
        obtain ⟨h_S_44, hf⟩ := ckA_at hf
        refine sM_23 E hw h_S_44 dX8_seeks_213 (fun S_44 eS_44 H locs hw => ?_)
        replace hf := bnd_at hf eS_44
        refine lv_iconst hx hb dX8_seeks_214 ic_1 ?_
        refine lv_topi (fun x1_45 ex1_45 => ?_)
        replace hf := bnd_at hf ex1_45
        refine lv_istore_n (lv' := [(1, .int (x1_45)), (0, .ref (a 0)), (2, .int (x2)), (3, .int (x3)), (4, .int (x4)), (5, .int (x5))]) hx hb dX8_seeks_215 rfl hl (by decide) rfl (fun ls hl => ?_)
        obtain ⟨x3_46, ex3_46⟩ : ∃ y : Int32, y = x3 + (1) := ⟨_, rfl⟩
        replace hf := bnd_at hf ex3_46
        refine lv_iinc (v := x3_46) (lv' := [(3, .int (x3_46)), (1, .int (x1_45)), (0, .ref (a 0)), (2, .int (x2)), (4, .int (x4)), (5, .int (x5))]) hx hb dX8_seeks_216 hl (k := 3) rfl (by rw [ex3_46]; rfl) (by decide) rfl (fun ls hl => ?_)
        refine lv_goto (tgt := 65) hx hb dX8_seeks_219 (by decide) ?_
        exact hrec65 S_44 (x1_45) (x3_46) _ _ ls hf hw (lv_sub hl [2, 1, 3, 0] rfl)
set_option maxRecDepth 100000 in
set_option maxHeartbeats 4000000 in
theorem k8_seeks_b65 {p : Program} {l : Launch} {e : Env} {s : State} {m : MethodId} {args : Array Value} {below : List Frame} {meth : Method} {c : Code} {D : va_G} {a : Nat → Nat} {g : Nat → ClassId} (E : EM p s m args meth c D a g cX8_seeks 6 RX8 (some .int)) {F : Nat}  (x2 : Int32) {rec65 : SM → Int32 → Int32 → Option (Int32 × SM)} {k222 : SM → Int32 → Option (Int32 × SM)} {out : (Int32 × SM)} (hrec65 : ∀ (S : SM) (x1 : Int32) (x3 : Int32) (H : Heap) (locs : List Loc) (ls : Array Slot), rec65 S x1 x3 = some out → WM D a g S s H locs → lv_has ls 6 [(0, .ref (a 0)), (1, .int (x1)), (2, .int (x2)), (3, .int (x3))] → W p l e (RM 2) s m args below meth c H locs 0 0 (MQ below (QM D a g (some (.int out.1)) out.2) args s 0 0 (AM a)) (F0 m 65 ls [])) (hk222 : ∀ (S : SM) (x1 : Int32) (H : Heap) (locs : List Loc) (ls : Array Slot), k222 S x1 = some out → WM D a g S s H locs → lv_has ls 6 [(0, .ref (a 0)), (1, .int (x1)), (2, .int (x2))] → W p l e (RM 2) s m args below meth c H locs 0 0 (MQ below (QM D a g (some (.int out.1)) out.2) args s 0 0 (AM a)) (F0 m 222 ls [])) (S : SM) (x1 : Int32) (x3 : Int32) (H : Heap) (locs : List Loc) (ls : Array Slot) (hf : k8_seeks_B65 F x2 rec65 k222 S x1 x3 = some out) (hw : WM D a g S s H locs) (hl : lv_has ls 6 [(0, .ref (a 0)), (1, .int (x1)), (2, .int (x2)), (3, .int (x3))]) : W p l e (RM 2) s m args below meth c H locs 0 0 (MQ below (QM D a g (some (.int out.1)) out.2) args s 0 0 (AM a)) (F0 m 65 ls []) := by
  have hx := E.hx
  have hb := E.hb
  unfold k8_seeks_B65 at hf
  refine lv_iload_n hx hb dX8_seeks_65 rfl (lv_at hl 3 rfl) ?_
  refine lv_bipush hx hb dX8_seeks_66 bp_12 ?_
  refine lv_icmp_ge (tgt := 222) hx hb dX8_seeks_68 (by decide) (fun c_24 => ?_) (fun c_24 => ?_)
  · replace hf := ite_t hf c_24
    exact hk222 S (x1) _ _ ls hf hw (lv_sub hl [0, 1, 2] rfl)
  · replace hf := ite_f hf c_24
    refine lv_aload_n hx hb dX8_seeks_71 rfl (lv_at hl 0 rfl) ?_
    refine gM_0_5 E hw (E.hts _ wl646) dX8_seeks_72 ?_
    refine lv_bipush hx hb dX8_seeks_75 bp_12 ?_
    refine lv_iload_n hx hb dX8_seeks_77 rfl (lv_at hl 2 rfl) ?_
    refine lv_imul hx hb dX8_seeks_78 ?_
    refine lv_iload_n hx hb dX8_seeks_79 rfl (lv_at hl 3 rfl) ?_
    refine lv_iadd hx hb dX8_seeks_80 ?_
    obtain ⟨h_v_25, hf⟩ := rdA_at hf
    refine lM_5 E hw h_v_25 dX8_seeks_81 (fun v_25 ev_25 => ?_)
    replace hf := hf v_25 ev_25
    refine lv_topi (fun x4_26 ex4_26 => ?_)
    replace hf := bnd_at hf ex4_26
    refine lv_istore (lv' := [(4, .int (x4_26)), (0, .ref (a 0)), (1, .int (x1)), (2, .int (x2)), (3, .int (x3))]) hx hb dX8_seeks_82 hl (by decide) rfl (fun ls hl => ?_)
    refine lv_bipush hx hb dX8_seeks_84 bp_12 ?_
    refine lv_iload_n hx hb dX8_seeks_86 rfl (lv_at hl 4 rfl) ?_
    refine lv_iadd hx hb dX8_seeks_87 ?_
    refine lv_topi (fun x5_27 ex5_27 => ?_)
    replace hf := bnd_at hf ex5_27
    refine lv_istore (lv' := [(5, .int (x5_27)), (4, .int (x4_26)), (0, .ref (a 0)), (1, .int (x1)), (2, .int (x2)), (3, .int (x3))]) hx hb dX8_seeks_88 hl (by decide) rfl (fun ls hl => ?_)
    refine lv_iload hx hb dX8_seeks_90 (lv_at hl 1 rfl) ?_
    refine lv_ldc hx hb E.hown (E.hts _ wl640) dX8_seeks_92 ?_
    refine lv_icmp_lt (tgt := 100) hx hb dX8_seeks_94 (by decide) (fun c_28 => ?_) (fun c_28 => ?_)
    · replace hf := ite_t hf c_28
      refine lv_aload_n hx hb dX8_seeks_100 rfl (lv_at hl 2 rfl) ?_
      refine gM_0_28 E hw (E.hts _ wl669) dX8_seeks_101 ?_
      refine lv_iload_n hx hb dX8_seeks_104 rfl (lv_at hl 4 rfl) ?_
      obtain ⟨h_v_29, hf⟩ := rdA_at hf
      refine lM_22 E hw h_v_29 dX8_seeks_105 (fun v_29 ev_29 => ?_)
      replace hf := hf v_29 ev_29
      refine lv_iload hx hb dX8_seeks_106 (lv_at hl 1 rfl) ?_
      refine lv_iadd hx hb dX8_seeks_108 ?_
      refine lv_aload_n hx hb dX8_seeks_109 rfl (lv_at hl 2 rfl) ?_
      refine gM_0_28 E hw (E.hts _ wl669) dX8_seeks_110 ?_
      refine lv_iload hx hb dX8_seeks_113 (lv_at hl 0 rfl) ?_
      obtain ⟨h_v_30, hf⟩ := rdA_at hf
      refine lM_22 E hw h_v_30 dX8_seeks_115 (fun v_30 ev_30 => ?_)
      replace hf := hf v_30 ev_30
      refine lv_icmp_ge (tgt := 145) hx hb dX8_seeks_116 (by decide) (fun c_31 => ?_) (fun c_31 => ?_)
      · replace hf := ite_t hf c_31
        exact k8_seeks_B65_J145_j E x2 hrec65 hk222 S (x1) (x3) (x4_26) (x5_27) _ _ ls hf hw (lv_sub hl [2, 3, 4, 5, 1, 0] rfl)
      · replace hf := ite_f hf c_31
        refine lv_aload_n hx hb dX8_seeks_119 rfl (lv_at hl 2 rfl) ?_
        refine gM_0_28 E hw (E.hts _ wl669) dX8_seeks_120 ?_
        refine lv_iload hx hb dX8_seeks_123 (lv_at hl 0 rfl) ?_
        refine lv_aload_n hx hb dX8_seeks_125 rfl (lv_at hl 2 rfl) ?_
        refine gM_0_28 E hw (E.hts _ wl669) dX8_seeks_126 ?_
        refine lv_iload_n hx hb dX8_seeks_129 rfl (lv_at hl 4 rfl) ?_
        obtain ⟨h_v_47, hf⟩ := rdA_at hf
        refine lM_22 E hw h_v_47 dX8_seeks_130 (fun v_47 ev_47 => ?_)
        replace hf := hf v_47 ev_47
        refine lv_iload hx hb dX8_seeks_131 (lv_at hl 1 rfl) ?_
        refine lv_iadd hx hb dX8_seeks_133 ?_
        obtain ⟨h_S_48, hf⟩ := ckA_at hf
        refine sM_22 E hw h_S_48 dX8_seeks_134 (fun S_48 eS_48 H locs hw => ?_)
        replace hf := bnd_at hf eS_48
        refine lv_aload_n hx hb dX8_seeks_135 rfl (lv_at hl 2 rfl) ?_
        refine gM_0_29 E hw (E.hts _ wl670) dX8_seeks_136 ?_
        refine lv_iload hx hb dX8_seeks_139 (lv_at hl 0 rfl) ?_
        refine lv_iload_n hx hb dX8_seeks_141 rfl (lv_at hl 4 rfl) ?_
        obtain ⟨h_S_49, hf⟩ := ckA_at hf
        refine sM_23 E hw h_S_49 dX8_seeks_142 (fun S_49 eS_49 H locs hw => ?_)
        replace hf := bnd_at hf eS_49
        refine lv_iconst hx hb dX8_seeks_143 ic_1 ?_
        refine lv_topi (fun x1_50 ex1_50 => ?_)
        replace hf := bnd_at hf ex1_50
        refine lv_istore_n (lv' := [(1, .int (x1_50)), (5, .int (x5_27)), (4, .int (x4_26)), (0, .ref (a 0)), (2, .int (x2)), (3, .int (x3))]) hx hb dX8_seeks_144 rfl hl (by decide) rfl (fun ls hl => ?_)
        exact k8_seeks_B65_J145_j E x2 hrec65 hk222 S_49 (x1_50) (x3) (x4_26) (x5_27) _ _ ls hf hw (lv_sub hl [3, 0, 4, 5, 2, 1] rfl)
    · replace hf := ite_f hf c_28
      refine lv_goto (tgt := 216) hx hb dX8_seeks_97 (by decide) ?_
      obtain ⟨x3_51, ex3_51⟩ : ∃ y : Int32, y = x3 + (1) := ⟨_, rfl⟩
      replace hf := bnd_at hf ex3_51
      refine lv_iinc (v := x3_51) (lv' := [(3, .int (x3_51)), (5, .int (x5_27)), (4, .int (x4_26)), (0, .ref (a 0)), (1, .int (x1)), (2, .int (x2))]) hx hb dX8_seeks_216 hl (k := 5) rfl (by rw [ex3_51]; rfl) (by decide) rfl (fun ls hl => ?_)
      refine lv_goto (tgt := 65) hx hb dX8_seeks_219 (by decide) ?_
      exact hrec65 S (x1) (x3_51) _ _ ls hf hw (lv_sub hl [3, 4, 5, 0] rfl)
theorem k8_seeks_l65 {p : Program} {l : Launch} {e : Env} {s : State} {m : MethodId} {args : Array Value} {below : List Frame} {meth : Method} {c : Code} {D : va_G} {a : Nat → Nat} {g : Nat → ClassId} (E : EM p s m args meth c D a g cX8_seeks 6 RX8 (some .int)) {F : Nat}  (x2 : Int32) {k222 : SM → Int32 → Option (Int32 × SM)} {out : (Int32 × SM)} (hk222 : ∀ (S : SM) (x1 : Int32) (H : Heap) (locs : List Loc) (ls : Array Slot), k222 S x1 = some out → WM D a g S s H locs → lv_has ls 6 [(0, .ref (a 0)), (1, .int (x1)), (2, .int (x2))] → W p l e (RM 2) s m args below meth c H locs 0 0 (MQ below (QM D a g (some (.int out.1)) out.2) args s 0 0 (AM a)) (F0 m 222 ls [])) : ∀ (n : Nat) (S : SM) (x1 : Int32) (x3 : Int32) (H : Heap) (locs : List Loc) (ls : Array Slot), lpN (fun _ _ _ => none) (fun rec65 => k8_seeks_B65 F x2 rec65 k222) n S x1 x3 = some out → WM D a g S s H locs → lv_has ls 6 [(0, .ref (a 0)), (1, .int (x1)), (2, .int (x2)), (3, .int (x3))] → W p l e (RM 2) s m args below meth c H locs 0 0 (MQ below (QM D a g (some (.int out.1)) out.2) args s 0 0 (AM a)) (F0 m 65 ls []) := by
  intro n
  induction n with
  | zero => intro S x1 x3 H locs ls hf; cases (show (none : Option (Int32 × SM)) = some out from hf)
  | succ n ih => intro S x1 x3 H locs ls hf hw hl; exact k8_seeks_b65 E (F := F) x2 ih hk222 S x1 x3 H locs ls hf hw hl
set_option maxRecDepth 100000 in
set_option maxHeartbeats 4000000 in
theorem k8_seeks_b57 {p : Program} {l : Launch} {e : Env} {s : State} {m : MethodId} {args : Array Value} {below : List Frame} {meth : Method} {c : Code} {D : va_G} {a : Nat → Nat} {g : Nat → ClassId} (E : EM p s m args meth c D a g cX8_seeks 6 RX8 (some .int)) {F : Nat}  {rec57 : SM → Int32 → Int32 → Option (Int32 × SM)} {k228 : SM → Int32 → Option (Int32 × SM)} {out : (Int32 × SM)} (hrec57 : ∀ (S : SM) (x1 : Int32) (x2 : Int32) (H : Heap) (locs : List Loc) (ls : Array Slot), rec57 S x1 x2 = some out → WM D a g S s H locs → lv_has ls 6 [(0, .ref (a 0)), (1, .int (x1)), (2, .int (x2))] → W p l e (RM 2) s m args below meth c H locs 0 0 (MQ below (QM D a g (some (.int out.1)) out.2) args s 0 0 (AM a)) (F0 m 57 ls [])) (hk228 : ∀ (S : SM) (x1 : Int32) (H : Heap) (locs : List Loc) (ls : Array Slot), k228 S x1 = some out → WM D a g S s H locs → lv_has ls 6 [(0, .ref (a 0)), (1, .int (x1))] → W p l e (RM 2) s m args below meth c H locs 0 0 (MQ below (QM D a g (some (.int out.1)) out.2) args s 0 0 (AM a)) (F0 m 228 ls [])) (S : SM) (x1 : Int32) (x2 : Int32) (H : Heap) (locs : List Loc) (ls : Array Slot) (hf : k8_seeks_B57 F rec57 k228 S x1 x2 = some out) (hw : WM D a g S s H locs) (hl : lv_has ls 6 [(0, .ref (a 0)), (1, .int (x1)), (2, .int (x2))]) : W p l e (RM 2) s m args below meth c H locs 0 0 (MQ below (QM D a g (some (.int out.1)) out.2) args s 0 0 (AM a)) (F0 m 57 ls []) := by
  have hx := E.hx
  have hb := E.hb
  unfold k8_seeks_B57 at hf
  refine lv_iload_n hx hb dX8_seeks_57 rfl (lv_at hl 2 rfl) ?_
  refine lv_bipush hx hb dX8_seeks_58 bp_12 ?_
  refine lv_icmp_ge (tgt := 228) hx hb dX8_seeks_60 (by decide) (fun c_22 => ?_) (fun c_22 => ?_)
  · replace hf := ite_t hf c_22
    exact hk228 S (x1) _ _ ls hf hw (lv_sub hl [0, 1] rfl)
  · replace hf := ite_f hf c_22
    refine lv_iconst hx hb dX8_seeks_63 ic_0 ?_
    refine lv_topi (fun x3_23 ex3_23 => ?_)
    replace hf := bnd_at hf ex3_23
    refine lv_istore_n (lv' := [(3, .int (x3_23)), (0, .ref (a 0)), (1, .int (x1)), (2, .int (x2))]) hx hb dX8_seeks_64 rfl hl (by decide) rfl (fun ls hl => ?_)
    refine k8_seeks_l65 E (x2) ?_ F S (x1) (x3_23) _ _ ls hf hw (lv_sub hl [1, 2, 3, 0] rfl)
    · intro S_52 x1_52 H locs ls hf hw hl
      obtain ⟨x2_53, ex2_53⟩ : ∃ y : Int32, y = x2 + (1) := ⟨_, rfl⟩
      replace hf := bnd_at hf ex2_53
      refine lv_iinc (v := x2_53) (lv' := [(2, .int (x2_53)), (0, .ref (a 0)), (1, .int (x1_52))]) hx hb dX8_seeks_222 hl (k := 2) rfl (by rw [ex2_53]; rfl) (by decide) rfl (fun ls hl => ?_)
      refine lv_goto (tgt := 57) hx hb dX8_seeks_225 (by decide) ?_
      exact hrec57 S_52 (x1_52) (x2_53) _ _ ls hf hw (lv_sub hl [1, 2, 0] rfl)
theorem k8_seeks_l57 {p : Program} {l : Launch} {e : Env} {s : State} {m : MethodId} {args : Array Value} {below : List Frame} {meth : Method} {c : Code} {D : va_G} {a : Nat → Nat} {g : Nat → ClassId} (E : EM p s m args meth c D a g cX8_seeks 6 RX8 (some .int)) {F : Nat}  {k228 : SM → Int32 → Option (Int32 × SM)} {out : (Int32 × SM)} (hk228 : ∀ (S : SM) (x1 : Int32) (H : Heap) (locs : List Loc) (ls : Array Slot), k228 S x1 = some out → WM D a g S s H locs → lv_has ls 6 [(0, .ref (a 0)), (1, .int (x1))] → W p l e (RM 2) s m args below meth c H locs 0 0 (MQ below (QM D a g (some (.int out.1)) out.2) args s 0 0 (AM a)) (F0 m 228 ls [])) : ∀ (n : Nat) (S : SM) (x1 : Int32) (x2 : Int32) (H : Heap) (locs : List Loc) (ls : Array Slot), lpN (fun _ _ _ => none) (fun rec57 => k8_seeks_B57 F rec57 k228) n S x1 x2 = some out → WM D a g S s H locs → lv_has ls 6 [(0, .ref (a 0)), (1, .int (x1)), (2, .int (x2))] → W p l e (RM 2) s m args below meth c H locs 0 0 (MQ below (QM D a g (some (.int out.1)) out.2) args s 0 0 (AM a)) (F0 m 57 ls []) := by
  intro n
  induction n with
  | zero => intro S x1 x2 H locs ls hf; cases (show (none : Option (Int32 × SM)) = some out from hf)
  | succ n ih => intro S x1 x2 H locs ls hf hw hl; exact k8_seeks_b57 E (F := F) ih hk228 S x1 x2 H locs ls hf hw hl
set_option maxRecDepth 100000 in
set_option maxHeartbeats 4000000 in
theorem k8_seeks_b49 {p : Program} {l : Launch} {e : Env} {s : State} {m : MethodId} {args : Array Value} {below : List Frame} {meth : Method} {c : Code} {D : va_G} {a : Nat → Nat} {g : Nat → ClassId} (E : EM p s m args meth c D a g cX8_seeks 6 RX8 (some .int)) {F : Nat}  {rec49 : SM → Int32 → Option (Int32 × SM)} {k231 : SM → Option (Int32 × SM)} {out : (Int32 × SM)} (hrec49 : ∀ (S : SM) (x1 : Int32) (H : Heap) (locs : List Loc) (ls : Array Slot), rec49 S x1 = some out → WM D a g S s H locs → lv_has ls 6 [(0, .ref (a 0)), (1, .int (x1))] → W p l e (RM 2) s m args below meth c H locs 0 0 (MQ below (QM D a g (some (.int out.1)) out.2) args s 0 0 (AM a)) (F0 m 49 ls [])) (hk231 : ∀ (S : SM) (H : Heap) (locs : List Loc) (ls : Array Slot), k231 S = some out → WM D a g S s H locs → lv_has ls 6 [(0, .ref (a 0))] → W p l e (RM 2) s m args below meth c H locs 0 0 (MQ below (QM D a g (some (.int out.1)) out.2) args s 0 0 (AM a)) (F0 m 231 ls [])) (S : SM) (x1 : Int32) (H : Heap) (locs : List Loc) (ls : Array Slot) (hf : k8_seeks_B49 F rec49 k231 S x1 = some out) (hw : WM D a g S s H locs) (hl : lv_has ls 6 [(0, .ref (a 0)), (1, .int (x1))]) : W p l e (RM 2) s m args below meth c H locs 0 0 (MQ below (QM D a g (some (.int out.1)) out.2) args s 0 0 (AM a)) (F0 m 49 ls []) := by
  have hx := E.hx
  have hb := E.hb
  unfold k8_seeks_B49 at hf
  refine lv_iload_n hx hb dX8_seeks_49 rfl (lv_at hl 1 rfl) ?_
  refine lv_if_eq (tgt := 231) hx hb dX8_seeks_50 (by decide) (fun c_19 => ?_) (fun c_19 => ?_)
  · replace hf := ite_t hf c_19
    exact hk231 S _ _ ls hf hw (lv_sub hl [0] rfl)
  · replace hf := ite_f hf c_19
    refine lv_iconst hx hb dX8_seeks_53 ic_0 ?_
    refine lv_topi (fun x1_20 ex1_20 => ?_)
    replace hf := bnd_at hf ex1_20
    refine lv_istore_n (lv' := [(1, .int (x1_20)), (0, .ref (a 0))]) hx hb dX8_seeks_54 rfl hl (by decide) rfl (fun ls hl => ?_)
    refine lv_iconst hx hb dX8_seeks_55 ic_0 ?_
    refine lv_topi (fun x2_21 ex2_21 => ?_)
    replace hf := bnd_at hf ex2_21
    refine lv_istore_n (lv' := [(2, .int (x2_21)), (1, .int (x1_20)), (0, .ref (a 0))]) hx hb dX8_seeks_56 rfl hl (by decide) rfl (fun ls hl => ?_)
    refine k8_seeks_l57 E ?_ F S (x1_20) (x2_21) _ _ ls hf hw (lv_sub hl [2, 1, 0] rfl)
    · intro S_54 x1_54 H locs ls hf hw hl
      refine lv_goto (tgt := 49) hx hb dX8_seeks_228 (by decide) ?_
      exact hrec49 S_54 (x1_54) _ _ ls hf hw (lv_sub hl [0, 1] rfl)
theorem k8_seeks_l49 {p : Program} {l : Launch} {e : Env} {s : State} {m : MethodId} {args : Array Value} {below : List Frame} {meth : Method} {c : Code} {D : va_G} {a : Nat → Nat} {g : Nat → ClassId} (E : EM p s m args meth c D a g cX8_seeks 6 RX8 (some .int)) {F : Nat}  {k231 : SM → Option (Int32 × SM)} {out : (Int32 × SM)} (hk231 : ∀ (S : SM) (H : Heap) (locs : List Loc) (ls : Array Slot), k231 S = some out → WM D a g S s H locs → lv_has ls 6 [(0, .ref (a 0))] → W p l e (RM 2) s m args below meth c H locs 0 0 (MQ below (QM D a g (some (.int out.1)) out.2) args s 0 0 (AM a)) (F0 m 231 ls [])) : ∀ (n : Nat) (S : SM) (x1 : Int32) (H : Heap) (locs : List Loc) (ls : Array Slot), lpN (fun _ _ => none) (fun rec49 => k8_seeks_B49 F rec49 k231) n S x1 = some out → WM D a g S s H locs → lv_has ls 6 [(0, .ref (a 0)), (1, .int (x1))] → W p l e (RM 2) s m args below meth c H locs 0 0 (MQ below (QM D a g (some (.int out.1)) out.2) args s 0 0 (AM a)) (F0 m 49 ls []) := by
  intro n
  induction n with
  | zero => intro S x1 H locs ls hf; cases (show (none : Option (Int32 × SM)) = some out from hf)
  | succ n ih => intro S x1 H locs ls hf hw hl; exact k8_seeks_b49 E (F := F) ih hk231 S x1 H locs ls hf hw hl
set_option maxRecDepth 100000 in
set_option maxHeartbeats 4000000 in
theorem k8_seeks_b235 {p : Program} {l : Launch} {e : Env} {s : State} {m : MethodId} {args : Array Value} {below : List Frame} {meth : Method} {c : Code} {D : va_G} {a : Nat → Nat} {g : Nat → ClassId} (E : EM p s m args meth c D a g cX8_seeks 6 RX8 (some .int)) {F : Nat}  (S : SM) {rec235 : Int32 → Int32 → Option (Int32 × SM)} {out : (Int32 × SM)} (hrec235 : ∀ (x2 : Int32) (x3 : Int32) (H : Heap) (locs : List Loc) (ls : Array Slot), rec235 x2 x3 = some out → WM D a g S s H locs → lv_has ls 6 [(0, .ref (a 0)), (2, .int (x2)), (3, .int (x3))] → W p l e (RM 2) s m args below meth c H locs 0 0 (MQ below (QM D a g (some (.int out.1)) out.2) args s 0 0 (AM a)) (F0 m 235 ls []))  (x2 : Int32) (x3 : Int32) (H : Heap) (locs : List Loc) (ls : Array Slot) (hf : k8_seeks_B235 F S rec235 x2 x3 = some out) (hw : WM D a g S s H locs) (hl : lv_has ls 6 [(0, .ref (a 0)), (2, .int (x2)), (3, .int (x3))]) : W p l e (RM 2) s m args below meth c H locs 0 0 (MQ below (QM D a g (some (.int out.1)) out.2) args s 0 0 (AM a)) (F0 m 235 ls []) := by
  have hx := E.hx
  have hb := E.hb
  unfold k8_seeks_B235 at hf
  refine lv_iload_n hx hb dX8_seeks_235 rfl (lv_at hl 2 rfl) ?_
  refine lv_bipush hx hb dX8_seeks_236 bp_12 ?_
  refine lv_icmp_ge (tgt := 297) hx hb dX8_seeks_238 (by decide) (fun c_58 => ?_) (fun c_58 => ?_)
  · replace hf := ite_t hf c_58
    refine lv_iload_n hx hb dX8_seeks_297 rfl (lv_at hl 1 rfl) ?_
    cases hf
    exact retM_i E hw dX8_seeks_298
  · replace hf := ite_f hf c_58
    refine lv_aload_n hx hb dX8_seeks_241 rfl (lv_at hl 0 rfl) ?_
    refine gM_0_28 E hw (E.hts _ wl669) dX8_seeks_242 ?_
    refine lv_bipush hx hb dX8_seeks_245 bp_12 ?_
    refine lv_iload_n hx hb dX8_seeks_247 rfl (lv_at hl 2 rfl) ?_
    refine lv_iadd hx hb dX8_seeks_248 ?_
    obtain ⟨h_v_59, hf⟩ := rdA_at hf
    refine lM_22 E hw h_v_59 dX8_seeks_249 (fun v_59 ev_59 => ?_)
    replace hf := hf v_59 ev_59
    refine lv_ldc hx hb E.hown (E.hts _ wl868) dX8_seeks_250 ?_
    refine lv_icmp_ge (tgt := 291) hx hb dX8_seeks_252 (by decide) (fun c_60 => ?_) (fun c_60 => ?_)
    · replace hf := ite_t hf c_60
      obtain ⟨x3_61, ex3_61⟩ : ∃ y : Int32, y = x3 + (1) := ⟨_, rfl⟩
      replace hf := bnd_at hf ex3_61
      refine lv_iinc (v := x3_61) (lv' := [(3, .int (x3_61)), (0, .ref (a 0)), (2, .int (x2))]) hx hb dX8_seeks_291 hl (k := 2) rfl (by rw [ex3_61]; rfl) (by decide) rfl (fun ls hl => ?_)
      refine lv_goto (tgt := 235) hx hb dX8_seeks_294 (by decide) ?_
      exact hrec235 (x2) (x3_61) _ _ ls hf hw (lv_sub hl [1, 2, 0] rfl)
    · replace hf := ite_f hf c_60
      refine lv_aload_n hx hb dX8_seeks_255 rfl (lv_at hl 0 rfl) ?_
      refine lv_iload_n hx hb dX8_seeks_256 rfl (lv_at hl 2 rfl) ?_
      obtain ⟨r_63, h_62, hf⟩ := ob_at hf
      refine qk8_lacks E hw (mk8_lacks E.hD h_62) wl869 dX8_seeks_257 ⟨Nat.le_of_ble_eq_true rfl, Nat.le_of_ble_eq_true rfl⟩ hl.1 (Nat.le_of_ble_eq_true rfl) ⟨Nat.le_refl 0, Nat.le_refl 0⟩ (fun H locs hw => ?_)
      refine lv_if_le (tgt := 291) hx hb dX8_seeks_260 (by decide) (fun c_65 => ?_) (fun c_65 => ?_)
      · replace hf := ite_t hf c_65
        obtain ⟨x3_66, ex3_66⟩ : ∃ y : Int32, y = x3 + (1) := ⟨_, rfl⟩
        replace hf := bnd_at hf ex3_66
        refine lv_iinc (v := x3_66) (lv' := [(3, .int (x3_66)), (0, .ref (a 0)), (2, .int (x2))]) hx hb dX8_seeks_291 hl (k := 2) rfl (by rw [ex3_66]; rfl) (by decide) rfl (fun ls hl => ?_)
        refine lv_goto (tgt := 235) hx hb dX8_seeks_294 (by decide) ?_
        exact hrec235 (x2) (x3_66) _ _ ls hf hw (lv_sub hl [1, 2, 0] rfl)
      · replace hf := ite_f hf c_65
        refine lv_iload_n hx hb dX8_seeks_263 rfl (lv_at hl 1 rfl) ?_
        refine lv_iconst hx hb dX8_seeks_264 ic_m1 ?_
        refine lv_icmp_eq (tgt := 286) hx hb dX8_seeks_265 (by decide) (fun c_67 => ?_) (fun c_67 => ?_)
        · replace hf := ite_t hf c_67
          refine lv_bipush hx hb dX8_seeks_286 bp_12 ?_
          refine lv_iload_n hx hb dX8_seeks_288 rfl (lv_at hl 2 rfl) ?_
          refine lv_iadd hx hb dX8_seeks_289 ?_
          refine lv_topi (fun x2_68 ex2_68 => ?_)
          replace hf := bnd_at hf ex2_68
          refine lv_istore_n (lv' := [(2, .int (x2_68)), (0, .ref (a 0)), (3, .int (x3))]) hx hb dX8_seeks_290 rfl hl (by decide) rfl (fun ls hl => ?_)
          obtain ⟨x3_69, ex3_69⟩ : ∃ y : Int32, y = x3 + (1) := ⟨_, rfl⟩
          replace hf := bnd_at hf ex3_69
          refine lv_iinc (v := x3_69) (lv' := [(3, .int (x3_69)), (2, .int (x2_68)), (0, .ref (a 0))]) hx hb dX8_seeks_291 hl (k := 2) rfl (by rw [ex3_69]; rfl) (by decide) rfl (fun ls hl => ?_)
          refine lv_goto (tgt := 235) hx hb dX8_seeks_294 (by decide) ?_
          exact hrec235 (x2_68) (x3_69) _ _ ls hf hw (lv_sub hl [2, 1, 0] rfl)
        · replace hf := ite_f hf c_67
          refine lv_aload_n hx hb dX8_seeks_268 rfl (lv_at hl 0 rfl) ?_
          refine gM_0_28 E hw (E.hts _ wl669) dX8_seeks_269 ?_
          refine lv_bipush hx hb dX8_seeks_272 bp_12 ?_
          refine lv_iload_n hx hb dX8_seeks_274 rfl (lv_at hl 2 rfl) ?_
          refine lv_iadd hx hb dX8_seeks_275 ?_
          obtain ⟨h_v_70, hf⟩ := rdA_at hf
          refine lM_22 E hw h_v_70 dX8_seeks_276 (fun v_70 ev_70 => ?_)
          replace hf := hf v_70 ev_70
          refine lv_aload_n hx hb dX8_seeks_277 rfl (lv_at hl 0 rfl) ?_
          refine gM_0_28 E hw (E.hts _ wl669) dX8_seeks_278 ?_
          refine lv_iload_n hx hb dX8_seeks_281 rfl (lv_at hl 1 rfl) ?_
          obtain ⟨h_v_71, hf⟩ := rdA_at hf
          refine lM_22 E hw h_v_71 dX8_seeks_282 (fun v_71 ev_71 => ?_)
          replace hf := hf v_71 ev_71
          refine lv_icmp_ge (tgt := 291) hx hb dX8_seeks_283 (by decide) (fun c_72 => ?_) (fun c_72 => ?_)
          · replace hf := ite_t hf c_72
            obtain ⟨x3_73, ex3_73⟩ : ∃ y : Int32, y = x3 + (1) := ⟨_, rfl⟩
            replace hf := bnd_at hf ex3_73
            refine lv_iinc (v := x3_73) (lv' := [(3, .int (x3_73)), (0, .ref (a 0)), (2, .int (x2))]) hx hb dX8_seeks_291 hl (k := 2) rfl (by rw [ex3_73]; rfl) (by decide) rfl (fun ls hl => ?_)
            refine lv_goto (tgt := 235) hx hb dX8_seeks_294 (by decide) ?_
            exact hrec235 (x2) (x3_73) _ _ ls hf hw (lv_sub hl [1, 2, 0] rfl)
          · replace hf := ite_f hf c_72
            refine lv_bipush hx hb dX8_seeks_286 bp_12 ?_
            refine lv_iload_n hx hb dX8_seeks_288 rfl (lv_at hl 2 rfl) ?_
            refine lv_iadd hx hb dX8_seeks_289 ?_
            refine lv_topi (fun x2_74 ex2_74 => ?_)
            replace hf := bnd_at hf ex2_74
            refine lv_istore_n (lv' := [(2, .int (x2_74)), (0, .ref (a 0)), (3, .int (x3))]) hx hb dX8_seeks_290 rfl hl (by decide) rfl (fun ls hl => ?_)
            obtain ⟨x3_75, ex3_75⟩ : ∃ y : Int32, y = x3 + (1) := ⟨_, rfl⟩
            replace hf := bnd_at hf ex3_75
            refine lv_iinc (v := x3_75) (lv' := [(3, .int (x3_75)), (2, .int (x2_74)), (0, .ref (a 0))]) hx hb dX8_seeks_291 hl (k := 2) rfl (by rw [ex3_75]; rfl) (by decide) rfl (fun ls hl => ?_)
            refine lv_goto (tgt := 235) hx hb dX8_seeks_294 (by decide) ?_
            exact hrec235 (x2_74) (x3_75) _ _ ls hf hw (lv_sub hl [2, 1, 0] rfl)
theorem k8_seeks_l235 {p : Program} {l : Launch} {e : Env} {s : State} {m : MethodId} {args : Array Value} {below : List Frame} {meth : Method} {c : Code} {D : va_G} {a : Nat → Nat} {g : Nat → ClassId} (E : EM p s m args meth c D a g cX8_seeks 6 RX8 (some .int)) {F : Nat}  (S : SM) {out : (Int32 × SM)}  : ∀ (n : Nat) (x2 : Int32) (x3 : Int32) (H : Heap) (locs : List Loc) (ls : Array Slot), lpN (fun _ _ => none) (fun rec235 => k8_seeks_B235 F S rec235) n x2 x3 = some out → WM D a g S s H locs → lv_has ls 6 [(0, .ref (a 0)), (2, .int (x2)), (3, .int (x3))] → W p l e (RM 2) s m args below meth c H locs 0 0 (MQ below (QM D a g (some (.int out.1)) out.2) args s 0 0 (AM a)) (F0 m 235 ls []) := by
  intro n
  induction n with
  | zero => intro x2 x3 H locs ls hf; cases (show (none : Option (Int32 × SM)) = some out from hf)
  | succ n ih => intro x2 x3 H locs ls hf hw hl; exact k8_seeks_b235 E (F := F) S ih x2 x3 H locs ls hf hw hl
set_option maxRecDepth 100000 in
set_option maxHeartbeats 4000000 in
theorem mk8_seeks {l : Launch} {D : va_G} {a : Nat → Nat} {g : Nat → ClassId} (hD : ∀ S, va_D (AM a) (wM a g S)) {F : Nat} {S : SM} {out : (Int32 × SM)} (hf : k8_seeks F S  = some out) : Met l yX8_seeks (wsm yX8_seeks cX8_seeks 6 (some .int)) (RM 2) (PM D a g S [.ref (a 0)]) (QM D a g (some (.int out.1)) out.2) 0 0 (AM a) := by
  refine Met.ofW (cc := cX8_seeks) (maxL := 6) (ret := (some .int)) (by decide) rfl ?_
  intro p e s m args below meth c s₁ B hml hv
  obtain ⟨rfl, hP, hK, hN⟩ := hv
  have hts := atoms_spec (ws := wsm yX8_seeks cX8_seeks 6 (some .int)) B.pre
  have E : EM p s m _ meth c D a g cX8_seeks 6 RX8 (some .int) := ⟨B.exec, B.bytes, B.returns, hml, findClass_of_methodNamed B.named, fun w h => hts w (List.mem_cons_of_mem _ h), hK, hN, hD, B.notSynchronized⟩
  have hx := E.hx
  have hb := E.hb
  have hw : WM D a g S s s.heap [] := ⟨hP, va_S.rf⟩
  have hl := lv_entry ([.ref (a 0)]) (n := 6) (Nat.le_of_ble_eq_true rfl)
  rw [lg_entry_eq]
  generalize (lg_sl ([.ref (a 0)]) ++ List.replicate (6 - (lg_sl ([.ref (a 0)])).length) Slot.unset).toArray = ls at hl ⊢
  have hl : lv_has ls 6 [(0, .ref (a 0))] := hl
  show W p l e (RM 2) s m _ below meth c s.heap [] 0 0 (MQ below (QM D a g (some (.int out.1)) out.2) _ s 0 0 (AM a)) (F0 m 0 ls [])
  unfold k8_seeks at hf
  refine lv_iconst hx hb dX8_seeks_0 ic_0 ?_
  refine lv_topi (fun x1_1 ex1_1 => ?_)
  replace hf := bnd_at hf ex1_1
  refine lv_istore_n (lv' := [(1, .int (x1_1)), (0, .ref (a 0))]) hx hb dX8_seeks_1 rfl hl (by decide) rfl (fun ls hl => ?_)
  refine k8_seeks_l2 E ?_ F S (x1_1) _ _ ls hf hw (lv_sub hl [1, 0] rfl)
  · intro S_17 H locs ls hf hw hl
    refine lv_iconst hx hb dX8_seeks_47 ic_1 ?_
    refine lv_topi (fun x1_18 ex1_18 => ?_)
    replace hf := bnd_at hf ex1_18
    refine lv_istore_n (lv' := [(1, .int (x1_18)), (0, .ref (a 0))]) hx hb dX8_seeks_48 rfl hl (by decide) rfl (fun ls hl => ?_)
    refine k8_seeks_l49 E ?_ F S_17 (x1_18) _ _ ls hf hw (lv_sub hl [1, 0] rfl)
    · intro S_55 H locs ls hf hw hl
      refine lv_iconst hx hb dX8_seeks_231 ic_m1 ?_
      refine lv_topi (fun x2_56 ex2_56 => ?_)
      replace hf := bnd_at hf ex2_56
      refine lv_istore_n (lv' := [(2, .int (x2_56)), (0, .ref (a 0))]) hx hb dX8_seeks_232 rfl hl (by decide) rfl (fun ls hl => ?_)
      refine lv_iconst hx hb dX8_seeks_233 ic_0 ?_
      refine lv_topi (fun x3_57 ex3_57 => ?_)
      replace hf := bnd_at hf ex3_57
      refine lv_istore_n (lv' := [(3, .int (x3_57)), (2, .int (x2_56)), (0, .ref (a 0))]) hx hb dX8_seeks_234 rfl hl (by decide) rfl (fun ls hl => ?_)
      refine k8_seeks_l235 E S_55  F (x2_56) (x3_57) _ _ ls hf hw (lv_sub hl [2, 1, 0] rfl)
theorem qk8_seeks {p : Program} {l : Launch} {e : Env} {R : Room} {s : State} {m : MethodId} {args : Array Value} {below : List Frame} {meth : Method} {c : Code} {H : Heap} {locs : List Loc} {cells slots : Nat} {Q : State → Prop} {cc : ByteArray} {pc : Nat} {ls : Array Slot} {rest : List Value} {D : va_G} {a : Nat → Nat} {g : Nat → ClassId} {nL : Nat} {own : String} {ret : Option FieldType} {S S1 : SM} {k : Nat} {r : Int32} (E : EM p s m args meth c D a g cc nL own ret) (hw : WM D a g S s H locs) (hM : Met l yX8_seeks (wsm yX8_seeks cX8_seeks 6 (some .int)) (RM k) (PM D a g S [.ref (a 0)]) (QM D a g (some (.int r)) S1) 0 0 (AM a)) {idx : Nat} (hlk : Cond.methodLink own idx yX8_seeks ∈ wd) (hdg : decode cc pc = .ok (.invokevirtual idx, 3)) (hR : k + 1 ≤ R.frames ∧ 8 + (6 + 11) + 64 * k ≤ R.locals) (hls : ls.size = nL) (hrest : (rest.map fun v => v.category).sum ≤ 8) (hcs : cells ≤ R.cells ∧ slots ≤ R.slots) (kk : ∀ (H1 : Heap) (locs1 : List Loc), WM D a g S1 s H1 locs1 → W p l e R s m args below meth c H1 locs1 cells slots Q (F0 m (pc + 3) ls (.int r :: rest))) : W p l e R s m args below meth c H locs cells slots Q (F0 m pc ls (.ref (a 0) :: rest)) :=
  callM_i hw (va_runV (As := []) (rest := rest) ⟨E.hx, E.hb, E.hml, E.hown, E.hts⟩ hM ⟨cb_of 0 E.hts wl863 wl44 hlk (by decide +kernel) hR, E.hts _ wl862, E.hts _ wl31⟩ ⟨PM_blind, va_recv E.hK hw.1 (ci := 8) (q0 := 0) rfl rfl, PM_pre E.hK E.hN hw.1⟩ rfl rfl hls rfl (lv_room hrest) hdg hcs) kk
/-! X8_leads -/
def k8_leads_B2 (F : Nat) (rec2 : SM → Int32 → Option (Int32 × SM)) (k22 : SM → Option (Int32 × SM)) (S : SM) (x1 : Int32) : Option (Int32 × SM) :=
  if ((144 : Int32)) ≤ x1 then (k22 S) else ((ckA 144 x1).bind fun _ => bnd (stM S 21 (Int32.toNatClampNeg x1) ((0 : Int32))) fun S_3 => bnd (x1 + (1)) fun x1_4 => rec2 S_3 (x1_4))
def k8_leads_B59 (F : Nat) (x1 : Int32) (rec59 : SM → Int32 → Option (Int32 × SM)) (k131 : SM → Option (Int32 × SM)) (S : SM) (x3 : Int32) : Option (Int32 × SM) :=
  if x3 = ((-1 : Int32)) then (k131 S) else ((rdA 24 (S.1 23) x3).bind fun v_18 => bnd (v_18) fun x4_19 => if x4_19 = ((-1 : Int32)) then (bnd (x4_19) fun x3_21 => rec59 S (x3_21)) else (if x3 < ((12 : Int32)) then ((rdA 144 (S.1 21) (((((12 : Int32)) * x3) + x4_19) - ((12 : Int32)))).bind fun v_23 => (ckA 144 (((((12 : Int32)) * x3) + x4_19) - ((12 : Int32)))).bind fun _ => bnd (stM S 21 (Int32.toNatClampNeg (((((12 : Int32)) * x3) + x4_19) - ((12 : Int32)))) (v_23 - ((1 : Int32)))) fun S_24 => bnd (x4_19) fun x3_25 => rec59 S_24 (x3_25)) else ((rdA 144 (S.1 21) (((((12 : Int32)) * x4_19) + x3) - ((12 : Int32)))).bind fun v_26 => (ckA 144 (((((12 : Int32)) * x4_19) + x3) - ((12 : Int32)))).bind fun _ => bnd (stM S 21 (Int32.toNatClampNeg (((((12 : Int32)) * x4_19) + x3) - ((12 : Int32)))) (v_26 + ((1 : Int32)))) fun S_27 => bnd (x4_19) fun x3_28 => rec59 S_27 (x3_28))))
def k8_leads_B34 (F : Nat) (rec34 : SM → Int32 → Int32 → Option (Int32 × SM)) (S : SM) (x1 : Int32) (x2 : Int32) : Option (Int32 × SM) :=
  if x2 = ((-1 : Int32)) then (some (x1, S)) else ((rdA 24 (S.1 22) x2).bind fun v_13 => bnd (stM S 0 30 ((S.1 0 30) + v_13)) fun S_14 => bnd (x1 + (1)) fun x1_15 => bnd (x2) fun x3_16 => lpN (fun _ _ => none) (fun rec59 => k8_leads_B59 F (x1_15) rec59 (fun S_29 => ob2 (k8_seeks F S_29 ) fun r_31 S_32 => bnd (r_31) fun x2_33 => rec34 S_32 (x1_15) (x2_33))) F S_14 (x3_16))
def k8_leads (F : Nat) (S : SM) : Option (Int32 × SM) :=
  bnd ((0 : Int32)) fun x1_1 => lpN (fun _ _ => none) (fun rec2 => k8_leads_B2 F rec2 (fun S_5 => bnd (stM S_5 0 30 ((0 : Int32))) fun S_6 => bnd ((0 : Int32)) fun x1_7 => ob2 (k8_seeks F S_6 ) fun r_9 S_10 => bnd (r_9) fun x2_11 => lpN (fun _ _ _ => none) (fun rec34 => k8_leads_B34 F rec34 ) F S_10 (x1_7) (x2_11))) F S (x1_1)
set_option maxRecDepth 100000 in
set_option maxHeartbeats 4000000 in
theorem k8_leads_b2 {p : Program} {l : Launch} {e : Env} {s : State} {m : MethodId} {args : Array Value} {below : List Frame} {meth : Method} {c : Code} {D : va_G} {a : Nat → Nat} {g : Nat → ClassId} (E : EM p s m args meth c D a g cX8_leads 5 RX8 (some .int)) {F : Nat}  {rec2 : SM → Int32 → Option (Int32 × SM)} {k22 : SM → Option (Int32 × SM)} {out : (Int32 × SM)} (hrec2 : ∀ (S : SM) (x1 : Int32) (H : Heap) (locs : List Loc) (ls : Array Slot), rec2 S x1 = some out → WM D a g S s H locs → lv_has ls 5 [(0, .ref (a 0)), (1, .int (x1))] → W p l e (RM 3) s m args below meth c H locs 0 0 (MQ below (QM D a g (some (.int out.1)) out.2) args s 0 0 (AM a)) (F0 m 2 ls [])) (hk22 : ∀ (S : SM) (H : Heap) (locs : List Loc) (ls : Array Slot), k22 S = some out → WM D a g S s H locs → lv_has ls 5 [(0, .ref (a 0))] → W p l e (RM 3) s m args below meth c H locs 0 0 (MQ below (QM D a g (some (.int out.1)) out.2) args s 0 0 (AM a)) (F0 m 22 ls [])) (S : SM) (x1 : Int32) (H : Heap) (locs : List Loc) (ls : Array Slot) (hf : k8_leads_B2 F rec2 k22 S x1 = some out) (hw : WM D a g S s H locs) (hl : lv_has ls 5 [(0, .ref (a 0)), (1, .int (x1))]) : W p l e (RM 3) s m args below meth c H locs 0 0 (MQ below (QM D a g (some (.int out.1)) out.2) args s 0 0 (AM a)) (F0 m 2 ls []) := by
  have hx := E.hx
  have hb := E.hb
  unfold k8_leads_B2 at hf
  refine lv_iload_n hx hb dX8_leads_2 rfl (lv_at hl 1 rfl) ?_
  refine lv_sipush hx hb dX8_leads_3 sp_144 ?_
  refine lv_icmp_ge (tgt := 22) hx hb dX8_leads_6 (by decide) (fun c_2 => ?_) (fun c_2 => ?_)
  · replace hf := ite_t hf c_2
    exact hk22 S _ _ ls hf hw (lv_sub hl [0] rfl)
  · replace hf := ite_f hf c_2
    refine lv_aload_n hx hb dX8_leads_9 rfl (lv_at hl 0 rfl) ?_
    refine gM_0_27 E hw (E.hts _ wl668) dX8_leads_10 ?_
    refine lv_iload_n hx hb dX8_leads_13 rfl (lv_at hl 1 rfl) ?_
    refine lv_iconst hx hb dX8_leads_14 ic_0 ?_
    obtain ⟨h_S_3, hf⟩ := ckA_at hf
    refine sM_21 E hw h_S_3 dX8_leads_15 (fun S_3 eS_3 H locs hw => ?_)
    replace hf := bnd_at hf eS_3
    obtain ⟨x1_4, ex1_4⟩ : ∃ y : Int32, y = x1 + (1) := ⟨_, rfl⟩
    replace hf := bnd_at hf ex1_4
    refine lv_iinc (v := x1_4) (lv' := [(1, .int (x1_4)), (0, .ref (a 0))]) hx hb dX8_leads_16 hl (k := 1) rfl (by rw [ex1_4]; rfl) (by decide) rfl (fun ls hl => ?_)
    refine lv_goto (tgt := 2) hx hb dX8_leads_19 (by decide) ?_
    exact hrec2 S_3 (x1_4) _ _ ls hf hw (lv_sub hl [1, 0] rfl)
theorem k8_leads_l2 {p : Program} {l : Launch} {e : Env} {s : State} {m : MethodId} {args : Array Value} {below : List Frame} {meth : Method} {c : Code} {D : va_G} {a : Nat → Nat} {g : Nat → ClassId} (E : EM p s m args meth c D a g cX8_leads 5 RX8 (some .int)) {F : Nat}  {k22 : SM → Option (Int32 × SM)} {out : (Int32 × SM)} (hk22 : ∀ (S : SM) (H : Heap) (locs : List Loc) (ls : Array Slot), k22 S = some out → WM D a g S s H locs → lv_has ls 5 [(0, .ref (a 0))] → W p l e (RM 3) s m args below meth c H locs 0 0 (MQ below (QM D a g (some (.int out.1)) out.2) args s 0 0 (AM a)) (F0 m 22 ls [])) : ∀ (n : Nat) (S : SM) (x1 : Int32) (H : Heap) (locs : List Loc) (ls : Array Slot), lpN (fun _ _ => none) (fun rec2 => k8_leads_B2 F rec2 k22) n S x1 = some out → WM D a g S s H locs → lv_has ls 5 [(0, .ref (a 0)), (1, .int (x1))] → W p l e (RM 3) s m args below meth c H locs 0 0 (MQ below (QM D a g (some (.int out.1)) out.2) args s 0 0 (AM a)) (F0 m 2 ls []) := by
  intro n
  induction n with
  | zero => intro S x1 H locs ls hf; cases (show (none : Option (Int32 × SM)) = some out from hf)
  | succ n ih => intro S x1 H locs ls hf hw hl; exact k8_leads_b2 E (F := F) ih hk22 S x1 H locs ls hf hw hl
set_option maxRecDepth 100000 in
set_option maxHeartbeats 4000000 in
theorem k8_leads_b59 {p : Program} {l : Launch} {e : Env} {s : State} {m : MethodId} {args : Array Value} {below : List Frame} {meth : Method} {c : Code} {D : va_G} {a : Nat → Nat} {g : Nat → ClassId} (E : EM p s m args meth c D a g cX8_leads 5 RX8 (some .int)) {F : Nat}  (x1 : Int32) {rec59 : SM → Int32 → Option (Int32 × SM)} {k131 : SM → Option (Int32 × SM)} {out : (Int32 × SM)} (hrec59 : ∀ (S : SM) (x3 : Int32) (H : Heap) (locs : List Loc) (ls : Array Slot), rec59 S x3 = some out → WM D a g S s H locs → lv_has ls 5 [(0, .ref (a 0)), (1, .int (x1)), (3, .int (x3))] → W p l e (RM 3) s m args below meth c H locs 0 0 (MQ below (QM D a g (some (.int out.1)) out.2) args s 0 0 (AM a)) (F0 m 59 ls [])) (hk131 : ∀ (S : SM) (H : Heap) (locs : List Loc) (ls : Array Slot), k131 S = some out → WM D a g S s H locs → lv_has ls 5 [(0, .ref (a 0)), (1, .int (x1))] → W p l e (RM 3) s m args below meth c H locs 0 0 (MQ below (QM D a g (some (.int out.1)) out.2) args s 0 0 (AM a)) (F0 m 131 ls [])) (S : SM) (x3 : Int32) (H : Heap) (locs : List Loc) (ls : Array Slot) (hf : k8_leads_B59 F x1 rec59 k131 S x3 = some out) (hw : WM D a g S s H locs) (hl : lv_has ls 5 [(0, .ref (a 0)), (1, .int (x1)), (3, .int (x3))]) : W p l e (RM 3) s m args below meth c H locs 0 0 (MQ below (QM D a g (some (.int out.1)) out.2) args s 0 0 (AM a)) (F0 m 59 ls []) := by
  have hx := E.hx
  have hb := E.hb
  unfold k8_leads_B59 at hf
  refine lv_iload_n hx hb dX8_leads_59 rfl (lv_at hl 2 rfl) ?_
  refine lv_iconst hx hb dX8_leads_60 ic_m1 ?_
  refine lv_icmp_eq (tgt := 131) hx hb dX8_leads_61 (by decide) (fun c_17 => ?_) (fun c_17 => ?_)
  · replace hf := ite_t hf c_17
    exact hk131 S _ _ ls hf hw (lv_sub hl [0, 1] rfl)
  · replace hf := ite_f hf c_17
    refine lv_aload_n hx hb dX8_leads_64 rfl (lv_at hl 0 rfl) ?_
    refine gM_0_29 E hw (E.hts _ wl670) dX8_leads_65 ?_
    refine lv_iload_n hx hb dX8_leads_68 rfl (lv_at hl 2 rfl) ?_
    obtain ⟨h_v_18, hf⟩ := rdA_at hf
    refine lM_23 E hw h_v_18 dX8_leads_69 (fun v_18 ev_18 => ?_)
    replace hf := hf v_18 ev_18
    refine lv_topi (fun x4_19 ex4_19 => ?_)
    replace hf := bnd_at hf ex4_19
    refine lv_istore (lv' := [(4, .int (x4_19)), (0, .ref (a 0)), (1, .int (x1)), (3, .int (x3))]) hx hb dX8_leads_70 hl (by decide) rfl (fun ls hl => ?_)
    refine lv_iload hx hb dX8_leads_72 (lv_at hl 0 rfl) ?_
    refine lv_iconst hx hb dX8_leads_74 ic_m1 ?_
    refine lv_icmp_eq (tgt := 125) hx hb dX8_leads_75 (by decide) (fun c_20 => ?_) (fun c_20 => ?_)
    · replace hf := ite_t hf c_20
      refine lv_iload hx hb dX8_leads_125 (lv_at hl 0 rfl) ?_
      refine lv_topi (fun x3_21 ex3_21 => ?_)
      replace hf := bnd_at hf ex3_21
      refine lv_istore_n (lv' := [(3, .int (x3_21)), (4, .int (x4_19)), (0, .ref (a 0)), (1, .int (x1))]) hx hb dX8_leads_127 rfl hl (by decide) rfl (fun ls hl => ?_)
      refine lv_goto (tgt := 59) hx hb dX8_leads_128 (by decide) ?_
      exact hrec59 S (x3_21) _ _ ls hf hw (lv_sub hl [2, 3, 0] rfl)
    · replace hf := ite_f hf c_20
      refine lv_iload_n hx hb dX8_leads_78 rfl (lv_at hl 3 rfl) ?_
      refine lv_bipush hx hb dX8_leads_79 bp_12 ?_
      refine lv_icmp_lt (tgt := 106) hx hb dX8_leads_81 (by decide) (fun c_22 => ?_) (fun c_22 => ?_)
      · replace hf := ite_t hf c_22
        refine lv_aload_n hx hb dX8_leads_106 rfl (lv_at hl 1 rfl) ?_
        refine gM_0_27 E hw (E.hts _ wl668) dX8_leads_107 ?_
        refine lv_bipush hx hb dX8_leads_110 bp_12 ?_
        refine lv_iload_n hx hb dX8_leads_112 rfl (lv_at hl 3 rfl) ?_
        refine lv_imul hx hb dX8_leads_113 ?_
        refine lv_iload hx hb dX8_leads_114 (lv_at hl 0 rfl) ?_
        refine lv_iadd hx hb dX8_leads_116 ?_
        refine lv_bipush hx hb dX8_leads_117 bp_12 ?_
        refine lv_isub hx hb dX8_leads_119 ?_
        refine lv_dup2_11 hx hb dX8_leads_120 rfl rfl ?_
        obtain ⟨h_v_23, hf⟩ := rdA_at hf
        refine lM_21 E hw h_v_23 dX8_leads_121 (fun v_23 ev_23 => ?_)
        replace hf := hf v_23 ev_23
        refine lv_iconst hx hb dX8_leads_122 ic_1 ?_
        refine lv_isub hx hb dX8_leads_123 ?_
        obtain ⟨h_S_24, hf⟩ := ckA_at hf
        refine sM_21 E hw h_S_24 dX8_leads_124 (fun S_24 eS_24 H locs hw => ?_)
        replace hf := bnd_at hf eS_24
        refine lv_iload hx hb dX8_leads_125 (lv_at hl 0 rfl) ?_
        refine lv_topi (fun x3_25 ex3_25 => ?_)
        replace hf := bnd_at hf ex3_25
        refine lv_istore_n (lv' := [(3, .int (x3_25)), (4, .int (x4_19)), (0, .ref (a 0)), (1, .int (x1))]) hx hb dX8_leads_127 rfl hl (by decide) rfl (fun ls hl => ?_)
        refine lv_goto (tgt := 59) hx hb dX8_leads_128 (by decide) ?_
        exact hrec59 S_24 (x3_25) _ _ ls hf hw (lv_sub hl [2, 3, 0] rfl)
      · replace hf := ite_f hf c_22
        refine lv_aload_n hx hb dX8_leads_84 rfl (lv_at hl 1 rfl) ?_
        refine gM_0_27 E hw (E.hts _ wl668) dX8_leads_85 ?_
        refine lv_bipush hx hb dX8_leads_88 bp_12 ?_
        refine lv_iload hx hb dX8_leads_90 (lv_at hl 0 rfl) ?_
        refine lv_imul hx hb dX8_leads_92 ?_
        refine lv_iload_n hx hb dX8_leads_93 rfl (lv_at hl 3 rfl) ?_
        refine lv_iadd hx hb dX8_leads_94 ?_
        refine lv_bipush hx hb dX8_leads_95 bp_12 ?_
        refine lv_isub hx hb dX8_leads_97 ?_
        refine lv_dup2_11 hx hb dX8_leads_98 rfl rfl ?_
        obtain ⟨h_v_26, hf⟩ := rdA_at hf
        refine lM_21 E hw h_v_26 dX8_leads_99 (fun v_26 ev_26 => ?_)
        replace hf := hf v_26 ev_26
        refine lv_iconst hx hb dX8_leads_100 ic_1 ?_
        refine lv_iadd hx hb dX8_leads_101 ?_
        obtain ⟨h_S_27, hf⟩ := ckA_at hf
        refine sM_21 E hw h_S_27 dX8_leads_102 (fun S_27 eS_27 H locs hw => ?_)
        replace hf := bnd_at hf eS_27
        refine lv_goto (tgt := 125) hx hb dX8_leads_103 (by decide) ?_
        refine lv_iload hx hb dX8_leads_125 (lv_at hl 0 rfl) ?_
        refine lv_topi (fun x3_28 ex3_28 => ?_)
        replace hf := bnd_at hf ex3_28
        refine lv_istore_n (lv' := [(3, .int (x3_28)), (4, .int (x4_19)), (0, .ref (a 0)), (1, .int (x1))]) hx hb dX8_leads_127 rfl hl (by decide) rfl (fun ls hl => ?_)
        refine lv_goto (tgt := 59) hx hb dX8_leads_128 (by decide) ?_
        exact hrec59 S_27 (x3_28) _ _ ls hf hw (lv_sub hl [2, 3, 0] rfl)
theorem k8_leads_l59 {p : Program} {l : Launch} {e : Env} {s : State} {m : MethodId} {args : Array Value} {below : List Frame} {meth : Method} {c : Code} {D : va_G} {a : Nat → Nat} {g : Nat → ClassId} (E : EM p s m args meth c D a g cX8_leads 5 RX8 (some .int)) {F : Nat}  (x1 : Int32) {k131 : SM → Option (Int32 × SM)} {out : (Int32 × SM)} (hk131 : ∀ (S : SM) (H : Heap) (locs : List Loc) (ls : Array Slot), k131 S = some out → WM D a g S s H locs → lv_has ls 5 [(0, .ref (a 0)), (1, .int (x1))] → W p l e (RM 3) s m args below meth c H locs 0 0 (MQ below (QM D a g (some (.int out.1)) out.2) args s 0 0 (AM a)) (F0 m 131 ls [])) : ∀ (n : Nat) (S : SM) (x3 : Int32) (H : Heap) (locs : List Loc) (ls : Array Slot), lpN (fun _ _ => none) (fun rec59 => k8_leads_B59 F x1 rec59 k131) n S x3 = some out → WM D a g S s H locs → lv_has ls 5 [(0, .ref (a 0)), (1, .int (x1)), (3, .int (x3))] → W p l e (RM 3) s m args below meth c H locs 0 0 (MQ below (QM D a g (some (.int out.1)) out.2) args s 0 0 (AM a)) (F0 m 59 ls []) := by
  intro n
  induction n with
  | zero => intro S x3 H locs ls hf; cases (show (none : Option (Int32 × SM)) = some out from hf)
  | succ n ih => intro S x3 H locs ls hf hw hl; exact k8_leads_b59 E (F := F) x1 ih hk131 S x3 H locs ls hf hw hl
set_option maxRecDepth 100000 in
set_option maxHeartbeats 4000000 in
theorem k8_leads_b34 {p : Program} {l : Launch} {e : Env} {s : State} {m : MethodId} {args : Array Value} {below : List Frame} {meth : Method} {c : Code} {D : va_G} {a : Nat → Nat} {g : Nat → ClassId} (E : EM p s m args meth c D a g cX8_leads 5 RX8 (some .int)) {F : Nat}  {rec34 : SM → Int32 → Int32 → Option (Int32 × SM)} {out : (Int32 × SM)} (hrec34 : ∀ (S : SM) (x1 : Int32) (x2 : Int32) (H : Heap) (locs : List Loc) (ls : Array Slot), rec34 S x1 x2 = some out → WM D a g S s H locs → lv_has ls 5 [(0, .ref (a 0)), (1, .int (x1)), (2, .int (x2))] → W p l e (RM 3) s m args below meth c H locs 0 0 (MQ below (QM D a g (some (.int out.1)) out.2) args s 0 0 (AM a)) (F0 m 34 ls []))  (S : SM) (x1 : Int32) (x2 : Int32) (H : Heap) (locs : List Loc) (ls : Array Slot) (hf : k8_leads_B34 F rec34 S x1 x2 = some out) (hw : WM D a g S s H locs) (hl : lv_has ls 5 [(0, .ref (a 0)), (1, .int (x1)), (2, .int (x2))]) : W p l e (RM 3) s m args below meth c H locs 0 0 (MQ below (QM D a g (some (.int out.1)) out.2) args s 0 0 (AM a)) (F0 m 34 ls []) := by
  have hx := E.hx
  have hb := E.hb
  unfold k8_leads_B34 at hf
  refine lv_iload_n hx hb dX8_leads_34 rfl (lv_at hl 2 rfl) ?_
  refine lv_iconst hx hb dX8_leads_35 ic_m1 ?_
  refine lv_icmp_eq (tgt := 139) hx hb dX8_leads_36 (by decide) (fun c_12 => ?_) (fun c_12 => ?_)
  · replace hf := ite_t hf c_12
    refine lv_iload_n hx hb dX8_leads_139 rfl (lv_at hl 1 rfl) ?_
    cases hf
    exact retM_i E hw dX8_leads_140
  · replace hf := ite_f hf c_12
    refine lv_aload_n hx hb dX8_leads_39 rfl (lv_at hl 0 rfl) ?_
    refine lv_dup hx hb dX8_leads_40 rfl ?_
    refine gM_0_30 E hw (E.hts _ wl671) dX8_leads_41 ?_
    refine lv_aload_n hx hb dX8_leads_44 rfl (lv_at hl 0 rfl) ?_
    refine gM_0_28 E hw (E.hts _ wl669) dX8_leads_45 ?_
    refine lv_iload_n hx hb dX8_leads_48 rfl (lv_at hl 2 rfl) ?_
    obtain ⟨h_v_13, hf⟩ := rdA_at hf
    refine lM_22 E hw h_v_13 dX8_leads_49 (fun v_13 ev_13 => ?_)
    replace hf := hf v_13 ev_13
    refine lv_iadd hx hb dX8_leads_50 ?_
    refine pM_0_30 E hw (E.hts _ wl671) dX8_leads_51 (fun S_14 eS_14 H locs hw => ?_)
    replace hf := bnd_at hf eS_14
    obtain ⟨x1_15, ex1_15⟩ : ∃ y : Int32, y = x1 + (1) := ⟨_, rfl⟩
    replace hf := bnd_at hf ex1_15
    refine lv_iinc (v := x1_15) (lv' := [(1, .int (x1_15)), (0, .ref (a 0)), (2, .int (x2))]) hx hb dX8_leads_54 hl (k := 1) rfl (by rw [ex1_15]; rfl) (by decide) rfl (fun ls hl => ?_)
    refine lv_iload_n hx hb dX8_leads_57 rfl (lv_at hl 2 rfl) ?_
    refine lv_topi (fun x3_16 ex3_16 => ?_)
    replace hf := bnd_at hf ex3_16
    refine lv_istore_n (lv' := [(3, .int (x3_16)), (1, .int (x1_15)), (0, .ref (a 0)), (2, .int (x2))]) hx hb dX8_leads_58 rfl hl (by decide) rfl (fun ls hl => ?_)
    refine k8_leads_l59 E (x1_15) ?_ F S_14 (x3_16) _ _ ls hf hw (lv_sub hl [2, 1, 0] rfl)
    · intro S_29 H locs ls hf hw hl
      refine lv_aload_n hx hb dX8_leads_131 rfl (lv_at hl 0 rfl) ?_
      obtain ⟨r_31, S_32, h_30, hf⟩ := ob2_at hf
      refine qk8_seeks E hw (mk8_seeks E.hD h_30) wl860 dX8_leads_132 ⟨Nat.le_of_ble_eq_true rfl, Nat.le_of_ble_eq_true rfl⟩ hl.1 (Nat.le_of_ble_eq_true rfl) ⟨Nat.le_refl 0, Nat.le_refl 0⟩ (fun H locs hw => ?_)
      refine lv_topi (fun x2_33 ex2_33 => ?_)
      replace hf := bnd_at hf ex2_33
      refine lv_istore_n (lv' := [(2, .int (x2_33)), (0, .ref (a 0)), (1, .int (x1_15))]) hx hb dX8_leads_135 rfl hl (by decide) rfl (fun ls hl => ?_)
      refine lv_goto (tgt := 34) hx hb dX8_leads_136 (by decide) ?_
      exact hrec34 S_32 (x1_15) (x2_33) _ _ ls hf hw (lv_sub hl [1, 2, 0] rfl)
theorem k8_leads_l34 {p : Program} {l : Launch} {e : Env} {s : State} {m : MethodId} {args : Array Value} {below : List Frame} {meth : Method} {c : Code} {D : va_G} {a : Nat → Nat} {g : Nat → ClassId} (E : EM p s m args meth c D a g cX8_leads 5 RX8 (some .int)) {F : Nat}  {out : (Int32 × SM)}  : ∀ (n : Nat) (S : SM) (x1 : Int32) (x2 : Int32) (H : Heap) (locs : List Loc) (ls : Array Slot), lpN (fun _ _ _ => none) (fun rec34 => k8_leads_B34 F rec34) n S x1 x2 = some out → WM D a g S s H locs → lv_has ls 5 [(0, .ref (a 0)), (1, .int (x1)), (2, .int (x2))] → W p l e (RM 3) s m args below meth c H locs 0 0 (MQ below (QM D a g (some (.int out.1)) out.2) args s 0 0 (AM a)) (F0 m 34 ls []) := by
  intro n
  induction n with
  | zero => intro S x1 x2 H locs ls hf; cases (show (none : Option (Int32 × SM)) = some out from hf)
  | succ n ih => intro S x1 x2 H locs ls hf hw hl; exact k8_leads_b34 E (F := F) ih S x1 x2 H locs ls hf hw hl
set_option maxRecDepth 100000 in
set_option maxHeartbeats 4000000 in
theorem mk8_leads {l : Launch} {D : va_G} {a : Nat → Nat} {g : Nat → ClassId} (hD : ∀ S, va_D (AM a) (wM a g S)) {F : Nat} {S : SM} {out : (Int32 × SM)} (hf : k8_leads F S  = some out) : Met l yX8_leads (wsm yX8_leads cX8_leads 5 (some .int)) (RM 3) (PM D a g S [.ref (a 0)]) (QM D a g (some (.int out.1)) out.2) 0 0 (AM a) := by
  refine Met.ofW (cc := cX8_leads) (maxL := 5) (ret := (some .int)) (by decide) rfl ?_
  intro p e s m args below meth c s₁ B hml hv
  obtain ⟨rfl, hP, hK, hN⟩ := hv
  have hts := atoms_spec (ws := wsm yX8_leads cX8_leads 5 (some .int)) B.pre
  have E : EM p s m _ meth c D a g cX8_leads 5 RX8 (some .int) := ⟨B.exec, B.bytes, B.returns, hml, findClass_of_methodNamed B.named, fun w h => hts w (List.mem_cons_of_mem _ h), hK, hN, hD, B.notSynchronized⟩
  have hx := E.hx
  have hb := E.hb
  have hw : WM D a g S s s.heap [] := ⟨hP, va_S.rf⟩
  have hl := lv_entry ([.ref (a 0)]) (n := 5) (Nat.le_of_ble_eq_true rfl)
  rw [lg_entry_eq]
  generalize (lg_sl ([.ref (a 0)]) ++ List.replicate (5 - (lg_sl ([.ref (a 0)])).length) Slot.unset).toArray = ls at hl ⊢
  have hl : lv_has ls 5 [(0, .ref (a 0))] := hl
  show W p l e (RM 3) s m _ below meth c s.heap [] 0 0 (MQ below (QM D a g (some (.int out.1)) out.2) _ s 0 0 (AM a)) (F0 m 0 ls [])
  unfold k8_leads at hf
  refine lv_iconst hx hb dX8_leads_0 ic_0 ?_
  refine lv_topi (fun x1_1 ex1_1 => ?_)
  replace hf := bnd_at hf ex1_1
  refine lv_istore_n (lv' := [(1, .int (x1_1)), (0, .ref (a 0))]) hx hb dX8_leads_1 rfl hl (by decide) rfl (fun ls hl => ?_)
  refine k8_leads_l2 E ?_ F S (x1_1) _ _ ls hf hw (lv_sub hl [1, 0] rfl)
  · intro S_5 H locs ls hf hw hl
    refine lv_aload_n hx hb dX8_leads_22 rfl (lv_at hl 0 rfl) ?_
    refine lv_iconst hx hb dX8_leads_23 ic_0 ?_
    refine pM_0_30 E hw (E.hts _ wl671) dX8_leads_24 (fun S_6 eS_6 H locs hw => ?_)
    replace hf := bnd_at hf eS_6
    refine lv_iconst hx hb dX8_leads_27 ic_0 ?_
    refine lv_topi (fun x1_7 ex1_7 => ?_)
    replace hf := bnd_at hf ex1_7
    refine lv_istore_n (lv' := [(1, .int (x1_7)), (0, .ref (a 0))]) hx hb dX8_leads_28 rfl hl (by decide) rfl (fun ls hl => ?_)
    refine lv_aload_n hx hb dX8_leads_29 rfl (lv_at hl 1 rfl) ?_
    obtain ⟨r_9, S_10, h_8, hf⟩ := ob2_at hf
    refine qk8_seeks E hw (mk8_seeks E.hD h_8) wl860 dX8_leads_30 ⟨Nat.le_of_ble_eq_true rfl, Nat.le_of_ble_eq_true rfl⟩ hl.1 (Nat.le_of_ble_eq_true rfl) ⟨Nat.le_refl 0, Nat.le_refl 0⟩ (fun H locs hw => ?_)
    refine lv_topi (fun x2_11 ex2_11 => ?_)
    replace hf := bnd_at hf ex2_11
    refine lv_istore_n (lv' := [(2, .int (x2_11)), (1, .int (x1_7)), (0, .ref (a 0))]) hx hb dX8_leads_33 rfl hl (by decide) rfl (fun ls hl => ?_)
    refine k8_leads_l34 E  F S_10 (x1_7) (x2_11) _ _ ls hf hw (lv_sub hl [2, 1, 0] rfl)
theorem qk8_leads {p : Program} {l : Launch} {e : Env} {R : Room} {s : State} {m : MethodId} {args : Array Value} {below : List Frame} {meth : Method} {c : Code} {H : Heap} {locs : List Loc} {cells slots : Nat} {Q : State → Prop} {cc : ByteArray} {pc : Nat} {ls : Array Slot} {rest : List Value} {D : va_G} {a : Nat → Nat} {g : Nat → ClassId} {nL : Nat} {own : String} {ret : Option FieldType} {S S1 : SM} {k : Nat} {r : Int32} (E : EM p s m args meth c D a g cc nL own ret) (hw : WM D a g S s H locs) (hM : Met l yX8_leads (wsm yX8_leads cX8_leads 5 (some .int)) (RM k) (PM D a g S [.ref (a 0)]) (QM D a g (some (.int r)) S1) 0 0 (AM a)) {idx : Nat} (hlk : Cond.methodLink own idx yX8_leads ∈ wd) (hdg : decode cc pc = .ok (.invokevirtual idx, 3)) (hR : k + 1 ≤ R.frames ∧ 8 + (5 + 11) + 64 * k ≤ R.locals) (hls : ls.size = nL) (hrest : (rest.map fun v => v.category).sum ≤ 8) (hcs : cells ≤ R.cells ∧ slots ≤ R.slots) (kk : ∀ (H1 : Heap) (locs1 : List Loc), WM D a g S1 s H1 locs1 → W p l e R s m args below meth c H1 locs1 cells slots Q (F0 m (pc + 3) ls (.int r :: rest))) : W p l e R s m args below meth c H locs cells slots Q (F0 m pc ls (.ref (a 0) :: rest)) :=
  callM_i hw (va_runV (As := []) (rest := rest) ⟨E.hx, E.hb, E.hml, E.hown, E.hts⟩ hM ⟨cb_of 0 E.hts wl859 wl44 hlk (by decide +kernel) hR, E.hts _ wl858, E.hts _ wl30⟩ ⟨PM_blind, va_recv E.hK hw.1 (ci := 8) (q0 := 0) rfl rfl, PM_pre E.hK E.hN hw.1⟩ rfl rfl hls rfl (lv_room hrest) hdg hcs) kk
/-! X8_met -/
def k8_met (F : Nat) (S : SM) : Option (Int32 × SM) :=
  ob2 (k8_leads F S ) fun r_2 S_3 => some (r_2, S_3)
set_option maxRecDepth 100000 in
set_option maxHeartbeats 4000000 in
theorem mk8_met {l : Launch} {D : va_G} {a : Nat → Nat} {g : Nat → ClassId} (hD : ∀ S, va_D (AM a) (wM a g S)) {F : Nat} {S : SM} {out : (Int32 × SM)} (hf : k8_met F S  = some out) : Met l yX8_met (wsm yX8_met cX8_met 1 (some .int)) (RM 4) (PM D a g S [.ref (a 0)]) (QM D a g (some (.int out.1)) out.2) 0 0 (AM a) := by
  refine Met.ofW (cc := cX8_met) (maxL := 1) (ret := (some .int)) (by decide) rfl ?_
  intro p e s m args below meth c s₁ B hml hv
  obtain ⟨rfl, hP, hK, hN⟩ := hv
  have hts := atoms_spec (ws := wsm yX8_met cX8_met 1 (some .int)) B.pre
  have E : EM p s m _ meth c D a g cX8_met 1 RX8 (some .int) := ⟨B.exec, B.bytes, B.returns, hml, findClass_of_methodNamed B.named, fun w h => hts w (List.mem_cons_of_mem _ h), hK, hN, hD, B.notSynchronized⟩
  have hx := E.hx
  have hb := E.hb
  have hw : WM D a g S s s.heap [] := ⟨hP, va_S.rf⟩
  have hl := lv_entry ([.ref (a 0)]) (n := 1) (Nat.le_of_ble_eq_true rfl)
  rw [lg_entry_eq]
  generalize (lg_sl ([.ref (a 0)]) ++ List.replicate (1 - (lg_sl ([.ref (a 0)])).length) Slot.unset).toArray = ls at hl ⊢
  have hl : lv_has ls 1 [(0, .ref (a 0))] := hl
  show W p l e (RM 4) s m _ below meth c s.heap [] 0 0 (MQ below (QM D a g (some (.int out.1)) out.2) _ s 0 0 (AM a)) (F0 m 0 ls [])
  unfold k8_met at hf
  refine lv_aload_n hx hb dX8_met_0 rfl (lv_at hl 0 rfl) ?_
  obtain ⟨r_2, S_3, h_1, hf⟩ := ob2_at hf
  refine qk8_leads E hw (mk8_leads E.hD h_1) wl856 dX8_met_1 ⟨Nat.le_of_ble_eq_true rfl, Nat.le_of_ble_eq_true rfl⟩ hl.1 (Nat.le_of_ble_eq_true rfl) ⟨Nat.le_refl 0, Nat.le_refl 0⟩ (fun H locs hw => ?_)
  cases hf
  exact retM_i E hw dX8_met_4
theorem qk8_met {p : Program} {l : Launch} {e : Env} {R : Room} {s : State} {m : MethodId} {args : Array Value} {below : List Frame} {meth : Method} {c : Code} {H : Heap} {locs : List Loc} {cells slots : Nat} {Q : State → Prop} {cc : ByteArray} {pc : Nat} {ls : Array Slot} {rest : List Value} {D : va_G} {a : Nat → Nat} {g : Nat → ClassId} {nL : Nat} {own : String} {ret : Option FieldType} {S S1 : SM} {k : Nat} {r : Int32} (E : EM p s m args meth c D a g cc nL own ret) (hw : WM D a g S s H locs) (hM : Met l yX8_met (wsm yX8_met cX8_met 1 (some .int)) (RM k) (PM D a g S [.ref (a 0)]) (QM D a g (some (.int r)) S1) 0 0 (AM a)) {idx : Nat} (hlk : Cond.methodLink own idx yX8_met ∈ wd) (hdg : decode cc pc = .ok (.invokevirtual idx, 3)) (hR : k + 1 ≤ R.frames ∧ 8 + (1 + 11) + 64 * k ≤ R.locals) (hls : ls.size = nL) (hrest : (rest.map fun v => v.category).sum ≤ 8) (hcs : cells ≤ R.cells ∧ slots ≤ R.slots) (kk : ∀ (H1 : Heap) (locs1 : List Loc), WM D a g S1 s H1 locs1 → W p l e R s m args below meth c H1 locs1 cells slots Q (F0 m (pc + 3) ls (.int r :: rest))) : W p l e R s m args below meth c H locs cells slots Q (F0 m pc ls (.ref (a 0) :: rest)) :=
  callM_i hw (va_runV (As := []) (rest := rest) ⟨E.hx, E.hb, E.hml, E.hown, E.hts⟩ hM ⟨cb_of 0 E.hts wl855 wl44 hlk (by decide +kernel) hR, E.hts _ wl853, E.hts _ wl854⟩ ⟨PM_blind, va_recv E.hK hw.1 (ci := 8) (q0 := 0) rfl rfl, PM_pre E.hK E.hN hw.1⟩ rfl rfl hls rfl (lv_room hrest) hdg hcs) kk
/-! X8_led -/
def k8_led (F : Nat) (S : SM) : Option (Int32 × SM) :=
  ob2 (k8_leads F S ) fun r_2 S_3 => some (S_3.1 0 30, S_3)
set_option maxRecDepth 100000 in
set_option maxHeartbeats 4000000 in
theorem mk8_led {l : Launch} {D : va_G} {a : Nat → Nat} {g : Nat → ClassId} (hD : ∀ S, va_D (AM a) (wM a g S)) {F : Nat} {S : SM} {out : (Int32 × SM)} (hf : k8_led F S  = some out) : Met l yX8_led (wsm yX8_led cX8_led 1 (some .int)) (RM 4) (PM D a g S [.ref (a 0)]) (QM D a g (some (.int out.1)) out.2) 0 0 (AM a) := by
  refine Met.ofW (cc := cX8_led) (maxL := 1) (ret := (some .int)) (by decide) rfl ?_
  intro p e s m args below meth c s₁ B hml hv
  obtain ⟨rfl, hP, hK, hN⟩ := hv
  have hts := atoms_spec (ws := wsm yX8_led cX8_led 1 (some .int)) B.pre
  have E : EM p s m _ meth c D a g cX8_led 1 RX8 (some .int) := ⟨B.exec, B.bytes, B.returns, hml, findClass_of_methodNamed B.named, fun w h => hts w (List.mem_cons_of_mem _ h), hK, hN, hD, B.notSynchronized⟩
  have hx := E.hx
  have hb := E.hb
  have hw : WM D a g S s s.heap [] := ⟨hP, va_S.rf⟩
  have hl := lv_entry ([.ref (a 0)]) (n := 1) (Nat.le_of_ble_eq_true rfl)
  rw [lg_entry_eq]
  generalize (lg_sl ([.ref (a 0)]) ++ List.replicate (1 - (lg_sl ([.ref (a 0)])).length) Slot.unset).toArray = ls at hl ⊢
  have hl : lv_has ls 1 [(0, .ref (a 0))] := hl
  show W p l e (RM 4) s m _ below meth c s.heap [] 0 0 (MQ below (QM D a g (some (.int out.1)) out.2) _ s 0 0 (AM a)) (F0 m 0 ls [])
  unfold k8_led at hf
  refine lv_aload_n hx hb dX8_led_0 rfl (lv_at hl 0 rfl) ?_
  obtain ⟨r_2, S_3, h_1, hf⟩ := ob2_at hf
  refine qk8_leads E hw (mk8_leads E.hD h_1) wl856 dX8_led_1 ⟨Nat.le_of_ble_eq_true rfl, Nat.le_of_ble_eq_true rfl⟩ hl.1 (Nat.le_of_ble_eq_true rfl) ⟨Nat.le_refl 0, Nat.le_refl 0⟩ (fun H locs hw => ?_)
  refine lv_pop hx hb dX8_led_4 rfl ?_
  refine lv_aload_n hx hb dX8_led_5 rfl (lv_at hl 0 rfl) ?_
  refine gM_0_30 E hw (E.hts _ wl671) dX8_led_6 ?_
  cases hf
  exact retM_i E hw dX8_led_9
theorem qk8_led {p : Program} {l : Launch} {e : Env} {R : Room} {s : State} {m : MethodId} {args : Array Value} {below : List Frame} {meth : Method} {c : Code} {H : Heap} {locs : List Loc} {cells slots : Nat} {Q : State → Prop} {cc : ByteArray} {pc : Nat} {ls : Array Slot} {rest : List Value} {D : va_G} {a : Nat → Nat} {g : Nat → ClassId} {nL : Nat} {own : String} {ret : Option FieldType} {S S1 : SM} {k : Nat} {r : Int32} (E : EM p s m args meth c D a g cc nL own ret) (hw : WM D a g S s H locs) (hM : Met l yX8_led (wsm yX8_led cX8_led 1 (some .int)) (RM k) (PM D a g S [.ref (a 0)]) (QM D a g (some (.int r)) S1) 0 0 (AM a)) {idx : Nat} (hlk : Cond.methodLink own idx yX8_led ∈ wd) (hdg : decode cc pc = .ok (.invokevirtual idx, 3)) (hR : k + 1 ≤ R.frames ∧ 8 + (1 + 11) + 64 * k ≤ R.locals) (hls : ls.size = nL) (hrest : (rest.map fun v => v.category).sum ≤ 8) (hcs : cells ≤ R.cells ∧ slots ≤ R.slots) (kk : ∀ (H1 : Heap) (locs1 : List Loc), WM D a g S1 s H1 locs1 → W p l e R s m args below meth c H1 locs1 cells slots Q (F0 m (pc + 3) ls (.int r :: rest))) : W p l e R s m args below meth c H locs cells slots Q (F0 m pc ls (.ref (a 0) :: rest)) :=
  callM_i hw (va_runV (As := []) (rest := rest) ⟨E.hx, E.hb, E.hml, E.hown, E.hts⟩ hM ⟨cb_of 0 E.hts wl876 wl44 hlk (by decide +kernel) hR, E.hts _ wl874, E.hts _ wl875⟩ ⟨PM_blind, va_recv E.hK hw.1 (ci := 8) (q0 := 0) rfl rfl, PM_pre E.hK E.hN hw.1⟩ rfl rfl hls rfl (lv_room hrest) hdg hcs) kk
/-! X8_count -/
def k8_count_B62 (F : Nat) (S : SM) (rec62 : Int32 → Int32 → Option Int32) (x2 : Int32) (x3 : Int32) : Option Int32 :=
  if ((12 : Int32)) ≤ x3 then (some (x2)) else ((rdA 12 (S.1 13) x3).bind fun v_8 => bnd (x2 + v_8) fun x2_9 => bnd (x3 + (1)) fun x3_10 => rec62 (x2_9) (x3_10))
def k8_count_B87 (F : Nat) (S : SM) (rec87 : Int32 → Int32 → Option Int32) (x2 : Int32) (x3 : Int32) : Option Int32 :=
  if ((12 : Int32)) ≤ x3 then (some (x2)) else ((rdA 12 (S.1 14) x3).bind fun v_14 => bnd (x2 + v_14) fun x2_15 => bnd (x3 + (1)) fun x3_16 => rec87 (x2_15) (x3_16))
def k8_count (F : Nat) (S : SM) (x1 : Int32) : Option Int32 :=
  bnd ((0 : Int32)) fun x2_1 => if x1 = 0 then (some (S.1 0 0)) else (if x1 = 1 then (some (S.1 0 6)) else (if x1 = 2 then (some (S.1 0 9)) else (if x1 = 3 then (some (S.1 0 16)) else (if x1 = 4 then (bnd ((0 : Int32)) fun x3_6 => lpN (fun _ _ => none) (fun rec62 => k8_count_B62 F S rec62 ) F (x2_1) (x3_6)) else (if x1 = 5 then (bnd ((0 : Int32)) fun x3_12 => lpN (fun _ _ => none) (fun rec87 => k8_count_B87 F S rec87 ) F (x2_1) (x3_12)) else (some ((-1 : Int32))))))))
set_option maxRecDepth 100000 in
set_option maxHeartbeats 4000000 in
theorem k8_count_b62 {p : Program} {l : Launch} {e : Env} {s : State} {m : MethodId} {args : Array Value} {below : List Frame} {meth : Method} {c : Code} {D : va_G} {a : Nat → Nat} {g : Nat → ClassId} (E : EM p s m args meth c D a g cX8_count 4 RX8 (some .int)) {F : Nat}  (S : SM) {rec62 : Int32 → Int32 → Option Int32} {out : Int32} (hrec62 : ∀ (x2 : Int32) (x3 : Int32) (H : Heap) (locs : List Loc) (ls : Array Slot), rec62 x2 x3 = some out → WM D a g S s H locs → lv_has ls 4 [(0, .ref (a 0)), (2, .int (x2)), (3, .int (x3))] → W p l e (RM 1) s m args below meth c H locs 0 0 (MQ below (QM D a g (some (.int out)) S) args s 0 0 (AM a)) (F0 m 62 ls []))  (x2 : Int32) (x3 : Int32) (H : Heap) (locs : List Loc) (ls : Array Slot) (hf : k8_count_B62 F S rec62 x2 x3 = some out) (hw : WM D a g S s H locs) (hl : lv_has ls 4 [(0, .ref (a 0)), (2, .int (x2)), (3, .int (x3))]) : W p l e (RM 1) s m args below meth c H locs 0 0 (MQ below (QM D a g (some (.int out)) S) args s 0 0 (AM a)) (F0 m 62 ls []) := by
  have hx := E.hx
  have hb := E.hb
  unfold k8_count_B62 at hf
  refine lv_iload_n hx hb dX8_count_62 rfl (lv_at hl 2 rfl) ?_
  refine lv_bipush hx hb dX8_count_63 bp_12 ?_
  refine lv_icmp_ge (tgt := 83) hx hb dX8_count_65 (by decide) (fun c_7 => ?_) (fun c_7 => ?_)
  · replace hf := ite_t hf c_7
    refine lv_iload_n hx hb dX8_count_83 rfl (lv_at hl 1 rfl) ?_
    cases hf
    exact retM_i E hw dX8_count_84
  · replace hf := ite_f hf c_7
    refine lv_iload_n hx hb dX8_count_68 rfl (lv_at hl 1 rfl) ?_
    refine lv_aload_n hx hb dX8_count_69 rfl (lv_at hl 0 rfl) ?_
    refine gM_0_18 E hw (E.hts _ wl659) dX8_count_70 ?_
    refine lv_iload_n hx hb dX8_count_73 rfl (lv_at hl 2 rfl) ?_
    obtain ⟨h_v_8, hf⟩ := rdA_at hf
    refine lM_13 E hw h_v_8 dX8_count_74 (fun v_8 ev_8 => ?_)
    replace hf := hf v_8 ev_8
    refine lv_iadd hx hb dX8_count_75 ?_
    refine lv_topi (fun x2_9 ex2_9 => ?_)
    replace hf := bnd_at hf ex2_9
    refine lv_istore_n (lv' := [(2, .int (x2_9)), (0, .ref (a 0)), (3, .int (x3))]) hx hb dX8_count_76 rfl hl (by decide) rfl (fun ls hl => ?_)
    obtain ⟨x3_10, ex3_10⟩ : ∃ y : Int32, y = x3 + (1) := ⟨_, rfl⟩
    replace hf := bnd_at hf ex3_10
    refine lv_iinc (v := x3_10) (lv' := [(3, .int (x3_10)), (2, .int (x2_9)), (0, .ref (a 0))]) hx hb dX8_count_77 hl (k := 2) rfl (by rw [ex3_10]; rfl) (by decide) rfl (fun ls hl => ?_)
    refine lv_goto (tgt := 62) hx hb dX8_count_80 (by decide) ?_
    exact hrec62 (x2_9) (x3_10) _ _ ls hf hw (lv_sub hl [2, 1, 0] rfl)
theorem k8_count_l62 {p : Program} {l : Launch} {e : Env} {s : State} {m : MethodId} {args : Array Value} {below : List Frame} {meth : Method} {c : Code} {D : va_G} {a : Nat → Nat} {g : Nat → ClassId} (E : EM p s m args meth c D a g cX8_count 4 RX8 (some .int)) {F : Nat}  (S : SM) {out : Int32}  : ∀ (n : Nat) (x2 : Int32) (x3 : Int32) (H : Heap) (locs : List Loc) (ls : Array Slot), lpN (fun _ _ => none) (fun rec62 => k8_count_B62 F S rec62) n x2 x3 = some out → WM D a g S s H locs → lv_has ls 4 [(0, .ref (a 0)), (2, .int (x2)), (3, .int (x3))] → W p l e (RM 1) s m args below meth c H locs 0 0 (MQ below (QM D a g (some (.int out)) S) args s 0 0 (AM a)) (F0 m 62 ls []) := by
  intro n
  induction n with
  | zero => intro x2 x3 H locs ls hf; cases (show (none : Option Int32) = some out from hf)
  | succ n ih => intro x2 x3 H locs ls hf hw hl; exact k8_count_b62 E (F := F) S ih x2 x3 H locs ls hf hw hl
set_option maxRecDepth 100000 in
set_option maxHeartbeats 4000000 in
theorem k8_count_b87 {p : Program} {l : Launch} {e : Env} {s : State} {m : MethodId} {args : Array Value} {below : List Frame} {meth : Method} {c : Code} {D : va_G} {a : Nat → Nat} {g : Nat → ClassId} (E : EM p s m args meth c D a g cX8_count 4 RX8 (some .int)) {F : Nat}  (S : SM) {rec87 : Int32 → Int32 → Option Int32} {out : Int32} (hrec87 : ∀ (x2 : Int32) (x3 : Int32) (H : Heap) (locs : List Loc) (ls : Array Slot), rec87 x2 x3 = some out → WM D a g S s H locs → lv_has ls 4 [(0, .ref (a 0)), (2, .int (x2)), (3, .int (x3))] → W p l e (RM 1) s m args below meth c H locs 0 0 (MQ below (QM D a g (some (.int out)) S) args s 0 0 (AM a)) (F0 m 87 ls []))  (x2 : Int32) (x3 : Int32) (H : Heap) (locs : List Loc) (ls : Array Slot) (hf : k8_count_B87 F S rec87 x2 x3 = some out) (hw : WM D a g S s H locs) (hl : lv_has ls 4 [(0, .ref (a 0)), (2, .int (x2)), (3, .int (x3))]) : W p l e (RM 1) s m args below meth c H locs 0 0 (MQ below (QM D a g (some (.int out)) S) args s 0 0 (AM a)) (F0 m 87 ls []) := by
  have hx := E.hx
  have hb := E.hb
  unfold k8_count_B87 at hf
  refine lv_iload_n hx hb dX8_count_87 rfl (lv_at hl 2 rfl) ?_
  refine lv_bipush hx hb dX8_count_88 bp_12 ?_
  refine lv_icmp_ge (tgt := 108) hx hb dX8_count_90 (by decide) (fun c_13 => ?_) (fun c_13 => ?_)
  · replace hf := ite_t hf c_13
    refine lv_iload_n hx hb dX8_count_108 rfl (lv_at hl 1 rfl) ?_
    cases hf
    exact retM_i E hw dX8_count_109
  · replace hf := ite_f hf c_13
    refine lv_iload_n hx hb dX8_count_93 rfl (lv_at hl 1 rfl) ?_
    refine lv_aload_n hx hb dX8_count_94 rfl (lv_at hl 0 rfl) ?_
    refine gM_0_19 E hw (E.hts _ wl660) dX8_count_95 ?_
    refine lv_iload_n hx hb dX8_count_98 rfl (lv_at hl 2 rfl) ?_
    obtain ⟨h_v_14, hf⟩ := rdA_at hf
    refine lM_14 E hw h_v_14 dX8_count_99 (fun v_14 ev_14 => ?_)
    replace hf := hf v_14 ev_14
    refine lv_iadd hx hb dX8_count_100 ?_
    refine lv_topi (fun x2_15 ex2_15 => ?_)
    replace hf := bnd_at hf ex2_15
    refine lv_istore_n (lv' := [(2, .int (x2_15)), (0, .ref (a 0)), (3, .int (x3))]) hx hb dX8_count_101 rfl hl (by decide) rfl (fun ls hl => ?_)
    obtain ⟨x3_16, ex3_16⟩ : ∃ y : Int32, y = x3 + (1) := ⟨_, rfl⟩
    replace hf := bnd_at hf ex3_16
    refine lv_iinc (v := x3_16) (lv' := [(3, .int (x3_16)), (2, .int (x2_15)), (0, .ref (a 0))]) hx hb dX8_count_102 hl (k := 2) rfl (by rw [ex3_16]; rfl) (by decide) rfl (fun ls hl => ?_)
    refine lv_goto (tgt := 87) hx hb dX8_count_105 (by decide) ?_
    exact hrec87 (x2_15) (x3_16) _ _ ls hf hw (lv_sub hl [2, 1, 0] rfl)
theorem k8_count_l87 {p : Program} {l : Launch} {e : Env} {s : State} {m : MethodId} {args : Array Value} {below : List Frame} {meth : Method} {c : Code} {D : va_G} {a : Nat → Nat} {g : Nat → ClassId} (E : EM p s m args meth c D a g cX8_count 4 RX8 (some .int)) {F : Nat}  (S : SM) {out : Int32}  : ∀ (n : Nat) (x2 : Int32) (x3 : Int32) (H : Heap) (locs : List Loc) (ls : Array Slot), lpN (fun _ _ => none) (fun rec87 => k8_count_B87 F S rec87) n x2 x3 = some out → WM D a g S s H locs → lv_has ls 4 [(0, .ref (a 0)), (2, .int (x2)), (3, .int (x3))] → W p l e (RM 1) s m args below meth c H locs 0 0 (MQ below (QM D a g (some (.int out)) S) args s 0 0 (AM a)) (F0 m 87 ls []) := by
  intro n
  induction n with
  | zero => intro x2 x3 H locs ls hf; cases (show (none : Option Int32) = some out from hf)
  | succ n ih => intro x2 x3 H locs ls hf hw hl; exact k8_count_b87 E (F := F) S ih x2 x3 H locs ls hf hw hl
set_option maxRecDepth 100000 in
set_option maxHeartbeats 4000000 in
theorem mk8_count {l : Launch} {D : va_G} {a : Nat → Nat} {g : Nat → ClassId} (hD : ∀ S, va_D (AM a) (wM a g S)) {F : Nat} {S : SM} {x1 : Int32} {out : Int32} (hf : k8_count F S x1 = some out) : Met l yX8_count (wsm yX8_count cX8_count 4 (some .int)) (RM 1) (PM D a g S [.ref (a 0), .int x1]) (QM D a g (some (.int out)) S) 0 0 (AM a) := by
  refine Met.ofW (cc := cX8_count) (maxL := 4) (ret := (some .int)) (by decide) rfl ?_
  intro p e s m args below meth c s₁ B hml hv
  obtain ⟨rfl, hP, hK, hN⟩ := hv
  have hts := atoms_spec (ws := wsm yX8_count cX8_count 4 (some .int)) B.pre
  have E : EM p s m _ meth c D a g cX8_count 4 RX8 (some .int) := ⟨B.exec, B.bytes, B.returns, hml, findClass_of_methodNamed B.named, fun w h => hts w (List.mem_cons_of_mem _ h), hK, hN, hD, B.notSynchronized⟩
  have hx := E.hx
  have hb := E.hb
  have hw : WM D a g S s s.heap [] := ⟨hP, va_S.rf⟩
  have hl := lv_entry ([.ref (a 0), .int x1]) (n := 4) (Nat.le_of_ble_eq_true rfl)
  rw [lg_entry_eq]
  generalize (lg_sl ([.ref (a 0), .int x1]) ++ List.replicate (4 - (lg_sl ([.ref (a 0), .int x1])).length) Slot.unset).toArray = ls at hl ⊢
  have hl : lv_has ls 4 [(0, .ref (a 0)), (1, .int (x1))] := hl
  show W p l e (RM 1) s m _ below meth c s.heap [] 0 0 (MQ below (QM D a g (some (.int out)) S) _ s 0 0 (AM a)) (F0 m 0 ls [])
  unfold k8_count at hf
  refine lv_iconst hx hb dX8_count_0 ic_0 ?_
  refine lv_topi (fun x2_1 ex2_1 => ?_)
  replace hf := bnd_at hf ex2_1
  refine lv_istore_n (lv' := [(2, .int (x2_1)), (0, .ref (a 0)), (1, .int (x1))]) hx hb dX8_count_1 rfl hl (by decide) rfl (fun ls hl => ?_)
  refine lv_iload_n hx hb dX8_count_2 rfl (lv_at hl 2 rfl) ?_
  by_cases c_2 : x1 = 0
  · replace hf := ite_t hf c_2
    refine lv_tableIn (tgt := 40) hx hb dX8_count_3 (by rw [c_2]; decide) (by rw [c_2]; decide) (by rw [c_2]; rfl) (by decide) ?_
    refine lv_aload_n hx hb dX8_count_40 rfl (lv_at hl 1 rfl) ?_
    refine gM_0_0 E hw (E.hts _ wl641) dX8_count_41 ?_
    cases hf
    exact retM_i E hw dX8_count_44
  · replace hf := ite_f hf c_2
    by_cases c_3 : x1 = 1
    · replace hf := ite_t hf c_3
      refine lv_tableIn (tgt := 45) hx hb dX8_count_3 (by rw [c_3]; decide) (by rw [c_3]; decide) (by rw [c_3]; rfl) (by decide) ?_
      refine lv_aload_n hx hb dX8_count_45 rfl (lv_at hl 1 rfl) ?_
      refine gM_0_6 E hw (E.hts _ wl647) dX8_count_46 ?_
      cases hf
      exact retM_i E hw dX8_count_49
    · replace hf := ite_f hf c_3
      by_cases c_4 : x1 = 2
      · replace hf := ite_t hf c_4
        refine lv_tableIn (tgt := 50) hx hb dX8_count_3 (by rw [c_4]; decide) (by rw [c_4]; decide) (by rw [c_4]; rfl) (by decide) ?_
        refine lv_aload_n hx hb dX8_count_50 rfl (lv_at hl 1 rfl) ?_
        refine gM_0_9 E hw (E.hts _ wl650) dX8_count_51 ?_
        cases hf
        exact retM_i E hw dX8_count_54
      · replace hf := ite_f hf c_4
        by_cases c_5 : x1 = 3
        · replace hf := ite_t hf c_5
          refine lv_tableIn (tgt := 55) hx hb dX8_count_3 (by rw [c_5]; decide) (by rw [c_5]; decide) (by rw [c_5]; rfl) (by decide) ?_
          refine lv_aload_n hx hb dX8_count_55 rfl (lv_at hl 1 rfl) ?_
          refine gM_0_16 E hw (E.hts _ wl657) dX8_count_56 ?_
          cases hf
          exact retM_i E hw dX8_count_59
        · replace hf := ite_f hf c_5
          by_cases c_11 : x1 = 4
          · replace hf := ite_t hf c_11
            refine lv_tableIn (tgt := 60) hx hb dX8_count_3 (by rw [c_11]; decide) (by rw [c_11]; decide) (by rw [c_11]; rfl) (by decide) ?_
            refine lv_iconst hx hb dX8_count_60 ic_0 ?_
            refine lv_topi (fun x3_6 ex3_6 => ?_)
            replace hf := bnd_at hf ex3_6
            refine lv_istore_n (lv' := [(3, .int (x3_6)), (2, .int (x2_1)), (0, .ref (a 0)), (1, .int (x1))]) hx hb dX8_count_61 rfl hl (by decide) rfl (fun ls hl => ?_)
            refine k8_count_l62 E S  F (x2_1) (x3_6) _ _ ls hf hw (lv_sub hl [2, 1, 0] rfl)
          · replace hf := ite_f hf c_11
            by_cases c_17 : x1 = 5
            · replace hf := ite_t hf c_17
              refine lv_tableIn (tgt := 85) hx hb dX8_count_3 (by rw [c_17]; decide) (by rw [c_17]; decide) (by rw [c_17]; rfl) (by decide) ?_
              refine lv_iconst hx hb dX8_count_85 ic_0 ?_
              refine lv_topi (fun x3_12 ex3_12 => ?_)
              replace hf := bnd_at hf ex3_12
              refine lv_istore_n (lv' := [(3, .int (x3_12)), (2, .int (x2_1)), (0, .ref (a 0)), (1, .int (x1))]) hx hb dX8_count_86 rfl hl (by decide) rfl (fun ls hl => ?_)
              refine k8_count_l87 E S  F (x2_1) (x3_12) _ _ ls hf hw (lv_sub hl [2, 1, 0] rfl)
            · replace hf := ite_f hf c_17
              refine lv_tableOut (tgt := 110) hx hb dX8_count_3 (sw_out5 c_2 c_3 c_4 c_5 c_11 c_17) (by decide) ?_
              refine lv_iconst hx hb dX8_count_110 ic_m1 ?_
              cases hf
              exact retM_i E hw dX8_count_111
theorem qk8_count {p : Program} {l : Launch} {e : Env} {R : Room} {s : State} {m : MethodId} {args : Array Value} {below : List Frame} {meth : Method} {c : Code} {H : Heap} {locs : List Loc} {cells slots : Nat} {Q : State → Prop} {cc : ByteArray} {pc : Nat} {ls : Array Slot} {rest : List Value} {D : va_G} {a : Nat → Nat} {g : Nat → ClassId} {nL : Nat} {own : String} {ret : Option FieldType} {S S1 : SM} {k : Nat} {x1 : Int32} {r : Int32} (E : EM p s m args meth c D a g cc nL own ret) (hw : WM D a g S s H locs) (hM : Met l yX8_count (wsm yX8_count cX8_count 4 (some .int)) (RM k) (PM D a g S [.ref (a 0), .int x1]) (QM D a g (some (.int r)) S1) 0 0 (AM a)) {idx : Nat} (hlk : Cond.methodLink own idx yX8_count ∈ wd) (hdg : decode cc pc = .ok (.invokevirtual idx, 3)) (hR : k + 1 ≤ R.frames ∧ 8 + (4 + 11) + 64 * k ≤ R.locals) (hls : ls.size = nL) (hrest : (rest.map fun v => v.category).sum ≤ 8) (hcs : cells ≤ R.cells ∧ slots ≤ R.slots) (kk : ∀ (H1 : Heap) (locs1 : List Loc), WM D a g S1 s H1 locs1 → W p l e R s m args below meth c H1 locs1 cells slots Q (F0 m (pc + 3) ls (.int r :: rest))) : W p l e R s m args below meth c H locs cells slots Q (F0 m pc ls (.int x1 :: .ref (a 0) :: rest)) :=
  callM_i hw (va_runV (As := [.int x1]) (rest := rest) ⟨E.hx, E.hb, E.hml, E.hown, E.hts⟩ hM ⟨cb_of 1 E.hts wl880 wl44 hlk (by decide +kernel) hR, E.hts _ wl878, E.hts _ wl879⟩ ⟨PM_blind, va_recv E.hK hw.1 (ci := 8) (q0 := 0) rfl rfl, PM_pre E.hK E.hN hw.1⟩ rfl rfl hls rfl (lv_room hrest) hdg hcs) kk

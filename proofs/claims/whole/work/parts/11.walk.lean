/-! X5_divide -/
def k5_divide (F : Nat) (S : SS) (x1 : Int32) (x2 : Int32) (x3 : Int32) : Option (Int32 × SS) :=
  (k7_isWithin F S (x3) ((0 : Int32)) ((1000000 : Int32))).bind fun r_2 => if r_2 = 0 then (some ((0 : Int32), S)) else (ob2 (k5_travel F S (x1) (x2)) fun r_6 S_7 => if r_6 = 0 then (some ((0 : Int32), S_7)) else (bnd (x3 / ((10 : Int32))) fun x4_9 => ob2 (k5_divideByMiles F S_7 (x3 - (((2 : Int32)) * x4_9))) fun r_11 S_12 => if r_11 = 0 then (some ((0 : Int32), S_12)) else ((rdA 8 (S_12 13) (S_12 2 4)).bind fun v_14 => (ckA 8 (S_12 2 4)).bind fun _ => bnd (st S_12 13 (Int32.toNatClampNeg (S_12 2 4)) (v_14 + x4_9)) fun S_15 => (rdA 8 (S_15 13) (S_15 2 5)).bind fun v_16 => (ckA 8 (S_15 2 5)).bind fun _ => bnd (st S_15 13 (Int32.toNatClampNeg (S_15 2 5)) (v_16 + x4_9)) fun S_17 => some ((1 : Int32), S_17))))
set_option maxRecDepth 100000 in
set_option maxHeartbeats 4000000 in
theorem mk5_divide {l : Launch} {D : va_G} {a : Nat → Nat} {g : Nat → ClassId} (hD : ∀ S, va_D (AK a) (wK a g S)) {F : Nat} {S : SS} {x1 x2 x3 : Int32} {out : (Int32 × SS)} (hf : k5_divide F S x1 x2 x3 = some out) : Met l yX5_divide (wsm yX5_divide cX5_divide 5 (some .boolean)) (RM 5) (PK D a g S [.ref (a 2), .int x1, .int x2, .int x3]) (QK D a g (some (.int out.1)) out.2) 0 0 (AK a) := by
  refine Met.ofW (cc := cX5_divide) (maxL := 5) (ret := (some .boolean)) (by decide) rfl ?_
  intro p e s m args below meth c s₁ B hml hv
  obtain ⟨rfl, hP, hK, hN⟩ := hv
  have hts := atoms_spec (ws := wsm yX5_divide cX5_divide 5 (some .boolean)) B.pre
  have E : EK p s m _ meth c D a g cX5_divide 5 RX5 (some .boolean) := ⟨B.exec, B.bytes, B.returns, hml, findClass_of_methodNamed B.named, fun w h => hts w (List.mem_cons_of_mem _ h), hK, hN, hD, B.notSynchronized⟩
  have hx := E.hx
  have hb := E.hb
  have hw : WK D a g S s s.heap [] := ⟨hP, va_S.rf⟩
  have hl := lv_entry ([.ref (a 2), .int x1, .int x2, .int x3]) (n := 5) (Nat.le_of_ble_eq_true rfl)
  rw [lg_entry_eq]
  generalize (lg_sl ([.ref (a 2), .int x1, .int x2, .int x3]) ++ List.replicate (5 - (lg_sl ([.ref (a 2), .int x1, .int x2, .int x3])).length) Slot.unset).toArray = ls at hl ⊢
  have hl : lv_has ls 5 [(0, .ref (a 2)), (1, .int (x1)), (2, .int (x2)), (3, .int (x3))] := hl
  show W p l e (RM 5) s m _ below meth c s.heap [] 0 0 (MQ below (QK D a g (some (.int out.1)) out.2) _ s 0 0 (AK a)) (F0 m 0 ls [])
  unfold k5_divide at hf
  refine lv_iload_n hx hb dX5_divide_0 rfl (lv_at hl 3 rfl) ?_
  refine lv_iconst hx hb dX5_divide_1 ic_0 ?_
  refine lv_ldc hx hb E.hown (E.hts _ wl365) dX5_divide_2 ?_
  obtain ⟨r_2, h_1, hf⟩ := ob_at hf
  refine qnk7_isWithin E hw (mk7_isWithin E.hD h_1) nw5 dX5_divide_4 ⟨Nat.le_of_ble_eq_true rfl, Nat.le_of_ble_eq_true rfl⟩ hl.1 (Nat.le_of_ble_eq_true rfl) ⟨Nat.le_refl 0, Nat.le_refl 0⟩ (fun H locs hw => ?_)
  refine lv_if_eq (tgt := 19) hx hb dX5_divide_7 (by decide) (fun c_4 => ?_) (fun c_4 => ?_)
  · replace hf := ite_t hf c_4
    refine lv_iconst hx hb dX5_divide_19 ic_0 ?_
    cases hf
    exact retK_z E hw nb0 dX5_divide_20
  · replace hf := ite_f hf c_4
    refine lv_aload_n hx hb dX5_divide_10 rfl (lv_at hl 0 rfl) ?_
    refine lv_iload_n hx hb dX5_divide_11 rfl (lv_at hl 1 rfl) ?_
    refine lv_iload_n hx hb dX5_divide_12 rfl (lv_at hl 2 rfl) ?_
    obtain ⟨r_6, S_7, h_5, hf⟩ := ob2_at hf
    refine qk5_travel E hw (mk5_travel E.hD h_5) wl367 dX5_divide_13 ⟨Nat.le_of_ble_eq_true rfl, Nat.le_of_ble_eq_true rfl⟩ hl.1 (Nat.le_of_ble_eq_true rfl) ⟨Nat.le_refl 0, Nat.le_refl 0⟩ (fun H locs hw => ?_)
    refine lv_if_ne (tgt := 21) hx hb dX5_divide_16 (by decide) (fun c_8 => ?_) (fun c_8 => ?_)
    · replace hf := ite_f hf c_8
      refine lv_iload_n hx hb dX5_divide_21 rfl (lv_at hl 3 rfl) ?_
      refine lv_bipush hx hb dX5_divide_22 bp_10 ?_
      refine lv_idiv hx hb dX5_divide_24 (by decide) ?_
      refine lv_topi (fun x4_9 ex4_9 => ?_)
      replace hf := bnd_at hf ex4_9
      refine lv_istore (lv' := [(4, .int (x4_9)), (0, .ref (a 2)), (1, .int (x1)), (2, .int (x2)), (3, .int (x3))]) hx hb dX5_divide_25 hl (by decide) rfl (fun ls hl => ?_)
      refine lv_aload_n hx hb dX5_divide_27 rfl (lv_at hl 1 rfl) ?_
      refine lv_iload_n hx hb dX5_divide_28 rfl (lv_at hl 4 rfl) ?_
      refine lv_iconst hx hb dX5_divide_29 ic_2 ?_
      refine lv_iload hx hb dX5_divide_30 (lv_at hl 0 rfl) ?_
      refine lv_imul hx hb dX5_divide_32 ?_
      refine lv_isub hx hb dX5_divide_33 ?_
      obtain ⟨r_11, S_12, h_10, hf⟩ := ob2_at hf
      refine qk5_divideByMiles E hw (mk5_divideByMiles E.hD h_10) wl375 dX5_divide_34 ⟨Nat.le_of_ble_eq_true rfl, Nat.le_of_ble_eq_true rfl⟩ hl.1 (Nat.le_of_ble_eq_true rfl) ⟨Nat.le_refl 0, Nat.le_refl 0⟩ (fun H locs hw => ?_)
      refine lv_if_ne (tgt := 42) hx hb dX5_divide_37 (by decide) (fun c_13 => ?_) (fun c_13 => ?_)
      · replace hf := ite_f hf c_13
        refine lv_aload_n hx hb dX5_divide_42 rfl (lv_at hl 1 rfl) ?_
        refine gK_2_0 E hw (E.hts _ wl97) dX5_divide_43 ?_
        refine lv_aload_n hx hb dX5_divide_46 rfl (lv_at hl 1 rfl) ?_
        refine gK_2_4 E hw (E.hts _ wl102) dX5_divide_47 ?_
        refine lv_dup2_11 hx hb dX5_divide_50 rfl rfl ?_
        obtain ⟨h_v_14, hf⟩ := rdA_at hf
        refine lK_13 E hw h_v_14 dX5_divide_51 (fun v_14 ev_14 => ?_)
        replace hf := hf v_14 ev_14
        refine lv_iload hx hb dX5_divide_52 (lv_at hl 0 rfl) ?_
        refine lv_iadd hx hb dX5_divide_54 ?_
        obtain ⟨h_S_15, hf⟩ := ckA_at hf
        refine sK_13 E hw h_S_15 dX5_divide_55 (fun S_15 eS_15 H locs hw => ?_)
        replace hf := bnd_at hf eS_15
        refine lv_aload_n hx hb dX5_divide_56 rfl (lv_at hl 1 rfl) ?_
        refine gK_2_0 E hw (E.hts _ wl97) dX5_divide_57 ?_
        refine lv_aload_n hx hb dX5_divide_60 rfl (lv_at hl 1 rfl) ?_
        refine gK_2_5 E hw (E.hts _ wl103) dX5_divide_61 ?_
        refine lv_dup2_11 hx hb dX5_divide_64 rfl rfl ?_
        obtain ⟨h_v_16, hf⟩ := rdA_at hf
        refine lK_13 E hw h_v_16 dX5_divide_65 (fun v_16 ev_16 => ?_)
        replace hf := hf v_16 ev_16
        refine lv_iload hx hb dX5_divide_66 (lv_at hl 0 rfl) ?_
        refine lv_iadd hx hb dX5_divide_68 ?_
        obtain ⟨h_S_17, hf⟩ := ckA_at hf
        refine sK_13 E hw h_S_17 dX5_divide_69 (fun S_17 eS_17 H locs hw => ?_)
        replace hf := bnd_at hf eS_17
        refine lv_iconst hx hb dX5_divide_70 ic_1 ?_
        cases hf
        exact retK_z E hw nb1 dX5_divide_71
      · replace hf := ite_t hf c_13
        refine lv_iconst hx hb dX5_divide_40 ic_0 ?_
        cases hf
        exact retK_z E hw nb0 dX5_divide_41
    · replace hf := ite_t hf c_8
      refine lv_iconst hx hb dX5_divide_19 ic_0 ?_
      cases hf
      exact retK_z E hw nb0 dX5_divide_20
theorem qk5_divide {p : Program} {l : Launch} {e : Env} {R : Room} {s : State} {m : MethodId} {args : Array Value} {below : List Frame} {meth : Method} {c : Code} {H : Heap} {locs : List Loc} {cells slots : Nat} {Q : State → Prop} {cc : ByteArray} {pc : Nat} {ls : Array Slot} {rest : List Value} {D : va_G} {a : Nat → Nat} {g : Nat → ClassId} {nL : Nat} {own : String} {ret : Option FieldType} {S S1 : SS} {k : Nat} {x1 x2 x3 : Int32} {r : Int32} (E : EK p s m args meth c D a g cc nL own ret) (hw : WK D a g S s H locs) (hM : Met l yX5_divide (wsm yX5_divide cX5_divide 5 (some .boolean)) (RM k) (PK D a g S [.ref (a 2), .int x1, .int x2, .int x3]) (QK D a g (some (.int r)) S1) 0 0 (AK a)) {idx : Nat} (hlk : Cond.methodLink own idx yX5_divide ∈ wd) (hdg : decode cc pc = .ok (.invokevirtual idx, 3)) (hR : k + 1 ≤ R.frames ∧ 8 + (5 + 11) + 64 * k ≤ R.locals) (hls : ls.size = nL) (hrest : (rest.map fun v => v.category).sum ≤ 8) (hcs : cells ≤ R.cells ∧ slots ≤ R.slots) (kk : ∀ (H1 : Heap) (locs1 : List Loc), WK D a g S1 s H1 locs1 → W p l e R s m args below meth c H1 locs1 cells slots Q (F0 m (pc + 3) ls (.int r :: rest))) : W p l e R s m args below meth c H locs cells slots Q (F0 m pc ls (.int x3 :: .int x2 :: .int x1 :: .ref (a 2) :: rest)) :=
  callK_i hw (va_runV (As := [.int x1, .int x2, .int x3]) (rest := rest) ⟨E.hx, E.hb, E.hml, E.hown, E.hts⟩ hM ⟨cb_of 3 E.hts wl364 wl38 hlk (by decide +kernel) hR, E.hts _ wl362, E.hts _ wl363⟩ ⟨PK_blind, va_recv E.hK hw.1 (ci := 5) (q0 := 2) rfl rfl, PK_pre E.hK E.hN hw.1⟩ rfl rfl hls rfl (lv_room hrest) hdg hcs) kk
/-! X7_part -/
def k7_part (F : Nat) (S : SS) (x1 : Int32) (x2 : Int32) (x3 : Int32) (x4 : Int32) : Option (Int32 × SS) :=
  (k7_isCompany F S (x4)).bind fun r_2 => if r_2 = 0 then (some ((-1 : Int32), S)) else (ob2 (k5_divide F S (x1) (x2) (x3)) fun r_6 S_7 => if r_6 = 0 then (some ((-1 : Int32), S_7)) else ((rdA 8 (S_7 13) x4).bind fun v_9 => some (v_9, S_7)))
set_option maxRecDepth 100000 in
set_option maxHeartbeats 4000000 in
theorem mk7_part {l : Launch} {D : va_G} {a : Nat → Nat} {g : Nat → ClassId} (hD : ∀ S, va_D (AK a) (wK a g S)) {F : Nat} {S : SS} {x1 x2 x3 x4 : Int32} {out : (Int32 × SS)} (hf : k7_part F S x1 x2 x3 x4 = some out) : Met l yX7_part (wsm yX7_part cX7_part 5 (some .int)) (RM 6) (PK D a g S [.ref (a 0), .int x1, .int x2, .int x3, .int x4]) (QK D a g (some (.int out.1)) out.2) 0 0 (AK a) := by
  refine Met.ofW (cc := cX7_part) (maxL := 5) (ret := (some .int)) (by decide) rfl ?_
  intro p e s m args below meth c s₁ B hml hv
  obtain ⟨rfl, hP, hK, hN⟩ := hv
  have hts := atoms_spec (ws := wsm yX7_part cX7_part 5 (some .int)) B.pre
  have E : EK p s m _ meth c D a g cX7_part 5 RX7 (some .int) := ⟨B.exec, B.bytes, B.returns, hml, findClass_of_methodNamed B.named, fun w h => hts w (List.mem_cons_of_mem _ h), hK, hN, hD, B.notSynchronized⟩
  have hx := E.hx
  have hb := E.hb
  have hw : WK D a g S s s.heap [] := ⟨hP, va_S.rf⟩
  have hl := lv_entry ([.ref (a 0), .int x1, .int x2, .int x3, .int x4]) (n := 5) (Nat.le_of_ble_eq_true rfl)
  rw [lg_entry_eq]
  generalize (lg_sl ([.ref (a 0), .int x1, .int x2, .int x3, .int x4]) ++ List.replicate (5 - (lg_sl ([.ref (a 0), .int x1, .int x2, .int x3, .int x4])).length) Slot.unset).toArray = ls at hl ⊢
  have hl : lv_has ls 5 [(0, .ref (a 0)), (1, .int (x1)), (2, .int (x2)), (3, .int (x3)), (4, .int (x4))] := hl
  show W p l e (RM 6) s m _ below meth c s.heap [] 0 0 (MQ below (QK D a g (some (.int out.1)) out.2) _ s 0 0 (AK a)) (F0 m 0 ls [])
  unfold k7_part at hf
  refine lv_iload hx hb dX7_part_0 (lv_at hl 4 rfl) ?_
  obtain ⟨r_2, h_1, hf⟩ := ob_at hf
  refine qk7_isCompany E hw (mk7_isCompany E.hD h_1) wl360 dX7_part_2 ⟨Nat.le_of_ble_eq_true rfl, Nat.le_of_ble_eq_true rfl⟩ hl.1 (Nat.le_of_ble_eq_true rfl) ⟨Nat.le_refl 0, Nat.le_refl 0⟩ (fun H locs hw => ?_)
  refine lv_if_eq (tgt := 21) hx hb dX7_part_5 (by decide) (fun c_4 => ?_) (fun c_4 => ?_)
  · replace hf := ite_t hf c_4
    refine lv_iconst hx hb dX7_part_21 ic_m1 ?_
    cases hf
    exact retK_i E hw dX7_part_22
  · replace hf := ite_f hf c_4
    refine lv_aload_n hx hb dX7_part_8 rfl (lv_at hl 0 rfl) ?_
    refine gK_0_1 E hw (E.hts _ wl273) dX7_part_9 ?_
    refine lv_iload_n hx hb dX7_part_12 rfl (lv_at hl 1 rfl) ?_
    refine lv_iload_n hx hb dX7_part_13 rfl (lv_at hl 2 rfl) ?_
    refine lv_iload_n hx hb dX7_part_14 rfl (lv_at hl 3 rfl) ?_
    obtain ⟨r_6, S_7, h_5, hf⟩ := ob2_at hf
    refine qk5_divide E hw (mk5_divide E.hD h_5) wl361 dX7_part_15 ⟨Nat.le_of_ble_eq_true rfl, Nat.le_of_ble_eq_true rfl⟩ hl.1 (Nat.le_of_ble_eq_true rfl) ⟨Nat.le_refl 0, Nat.le_refl 0⟩ (fun H locs hw => ?_)
    refine lv_if_ne (tgt := 23) hx hb dX7_part_18 (by decide) (fun c_8 => ?_) (fun c_8 => ?_)
    · replace hf := ite_f hf c_8
      refine lv_aload_n hx hb dX7_part_23 rfl (lv_at hl 0 rfl) ?_
      refine gK_0_1 E hw (E.hts _ wl273) dX7_part_24 ?_
      refine gK_2_0 E hw (E.hts _ wl98) dX7_part_27 ?_
      refine lv_iload hx hb dX7_part_30 (lv_at hl 4 rfl) ?_
      obtain ⟨h_v_9, hf⟩ := rdA_at hf
      refine lK_13 E hw h_v_9 dX7_part_32 (fun v_9 ev_9 => ?_)
      replace hf := hf v_9 ev_9
      cases hf
      exact retK_i E hw dX7_part_33
    · replace hf := ite_t hf c_8
      refine lv_iconst hx hb dX7_part_21 ic_m1 ?_
      cases hf
      exact retK_i E hw dX7_part_22
theorem qk7_part {p : Program} {l : Launch} {e : Env} {R : Room} {s : State} {m : MethodId} {args : Array Value} {below : List Frame} {meth : Method} {c : Code} {H : Heap} {locs : List Loc} {cells slots : Nat} {Q : State → Prop} {cc : ByteArray} {pc : Nat} {ls : Array Slot} {rest : List Value} {D : va_G} {a : Nat → Nat} {g : Nat → ClassId} {nL : Nat} {own : String} {ret : Option FieldType} {S S1 : SS} {k : Nat} {x1 x2 x3 x4 : Int32} {r : Int32} (E : EK p s m args meth c D a g cc nL own ret) (hw : WK D a g S s H locs) (hM : Met l yX7_part (wsm yX7_part cX7_part 5 (some .int)) (RM k) (PK D a g S [.ref (a 0), .int x1, .int x2, .int x3, .int x4]) (QK D a g (some (.int r)) S1) 0 0 (AK a)) {idx : Nat} (hlk : Cond.methodLink own idx yX7_part ∈ wd) (hdg : decode cc pc = .ok (.invokevirtual idx, 3)) (hR : k + 1 ≤ R.frames ∧ 8 + (5 + 11) + 64 * k ≤ R.locals) (hls : ls.size = nL) (hrest : (rest.map fun v => v.category).sum ≤ 8) (hcs : cells ≤ R.cells ∧ slots ≤ R.slots) (kk : ∀ (H1 : Heap) (locs1 : List Loc), WK D a g S1 s H1 locs1 → W p l e R s m args below meth c H1 locs1 cells slots Q (F0 m (pc + 3) ls (.int r :: rest))) : W p l e R s m args below meth c H locs cells slots Q (F0 m pc ls (.int x4 :: .int x3 :: .int x2 :: .int x1 :: .ref (a 0) :: rest)) :=
  callK_i hw (va_runV (As := [.int x1, .int x2, .int x3, .int x4]) (rest := rest) ⟨E.hx, E.hb, E.hml, E.hown, E.hts⟩ hM ⟨cb_of 4 E.hts wl359 wl35 hlk (by decide +kernel) hR, E.hts _ wl357, E.hts _ wl358⟩ ⟨PK_blind, va_recv E.hK hw.1 (ci := 7) (q0 := 0) rfl rfl, PK_pre E.hK E.hN hw.1⟩ rfl rfl hls rfl (lv_room hrest) hdg hcs) kk
/-! X7_book -/
def k7_book_B36 (F : Nat) (x4 : Int32) (rec36 : SS → Int32 → Option (Int32 × SS)) (k89 : SS → Option (Int32 × SS)) (S : SS) (x5 : Int32) : Option (Int32 × SS) :=
  if ((8 : Int32)) ≤ x5 then (k89 S) else ((rdA 8 (S 35) x5).bind fun v_12 => (rdA 8 (S 13) x5).bind fun v_13 => (ckA 8 x5).bind fun _ => bnd (st S 35 (Int32.toNatClampNeg x5) (v_12 + v_13)) fun S_14 => (rdA 8 (S_14 35) x4).bind fun v_15 => (rdA 8 (S_14 13) x5).bind fun v_16 => (ckA 8 x4).bind fun _ => bnd (st S_14 35 (Int32.toNatClampNeg x4) (v_15 - v_16)) fun S_17 => bnd (x5 + (1)) fun x5_18 => rec36 S_17 (x5_18))
def k7_book (F : Nat) (S : SS) (x1 : Int32) (x2 : Int32) (x3 : Int32) (x4 : Int32) : Option (Int32 × SS) :=
  (k7_isCompany F S (x4)).bind fun r_2 => if r_2 = 0 then (some ((0 : Int32), S)) else (if ((1000 : Int32)) ≤ (S 0 9) then (some ((0 : Int32), S)) else (ob2 (k5_divide F S (x1) (x2) (x3)) fun r_7 S_8 => if r_7 = 0 then (some ((0 : Int32), S_8)) else (bnd ((0 : Int32)) fun x5_10 => lpN (fun _ _ => none) (fun rec36 => k7_book_B36 F (x4) rec36 (fun S_19 => bnd (st S_19 0 9 ((S_19 0 9) + ((1 : Int32)))) fun S_20 => some ((1 : Int32), S_20))) F S_8 (x5_10))))
set_option maxRecDepth 100000 in
set_option maxHeartbeats 4000000 in
theorem k7_book_b36 {p : Program} {l : Launch} {e : Env} {s : State} {m : MethodId} {args : Array Value} {below : List Frame} {meth : Method} {c : Code} {D : va_G} {a : Nat → Nat} {g : Nat → ClassId} (E : EK p s m args meth c D a g cX7_book 6 RX7 (some .boolean)) {F : Nat}  (x4 : Int32) {rec36 : SS → Int32 → Option (Int32 × SS)} {k89 : SS → Option (Int32 × SS)} {out : (Int32 × SS)} (hrec36 : ∀ (S : SS) (x5 : Int32) (H : Heap) (locs : List Loc) (ls : Array Slot), rec36 S x5 = some out → WK D a g S s H locs → lv_has ls 6 [(0, .ref (a 0)), (4, .int (x4)), (5, .int (x5))] → W p l e (RM 6) s m args below meth c H locs 0 0 (MQ below (QK D a g (some (.int out.1)) out.2) args s 0 0 (AK a)) (F0 m 36 ls [])) (hk89 : ∀ (S : SS) (H : Heap) (locs : List Loc) (ls : Array Slot), k89 S = some out → WK D a g S s H locs → lv_has ls 6 [(0, .ref (a 0))] → W p l e (RM 6) s m args below meth c H locs 0 0 (MQ below (QK D a g (some (.int out.1)) out.2) args s 0 0 (AK a)) (F0 m 89 ls [])) (S : SS) (x5 : Int32) (H : Heap) (locs : List Loc) (ls : Array Slot) (hf : k7_book_B36 F x4 rec36 k89 S x5 = some out) (hw : WK D a g S s H locs) (hl : lv_has ls 6 [(0, .ref (a 0)), (4, .int (x4)), (5, .int (x5))]) : W p l e (RM 6) s m args below meth c H locs 0 0 (MQ below (QK D a g (some (.int out.1)) out.2) args s 0 0 (AK a)) (F0 m 36 ls []) := by
  have hx := E.hx
  have hb := E.hb
  unfold k7_book_B36 at hf
  refine lv_iload hx hb dX7_book_36 (lv_at hl 2 rfl) ?_
  refine lv_bipush hx hb dX7_book_38 bp_8 ?_
  refine lv_icmp_ge (tgt := 89) hx hb dX7_book_40 (by decide) (fun c_11 => ?_) (fun c_11 => ?_)
  · replace hf := ite_t hf c_11
    exact hk89 S _ _ ls hf hw (lv_sub hl [0] rfl)
  · replace hf := ite_f hf c_11
    refine lv_aload_n hx hb dX7_book_43 rfl (lv_at hl 0 rfl) ?_
    refine gK_0_7 E hw (E.hts _ wl279) dX7_book_44 ?_
    refine lv_iload hx hb dX7_book_47 (lv_at hl 2 rfl) ?_
    refine lv_dup2_11 hx hb dX7_book_49 rfl rfl ?_
    obtain ⟨h_v_12, hf⟩ := rdA_at hf
    refine lK_35 E hw h_v_12 dX7_book_50 (fun v_12 ev_12 => ?_)
    replace hf := hf v_12 ev_12
    refine lv_aload_n hx hb dX7_book_51 rfl (lv_at hl 0 rfl) ?_
    refine gK_0_1 E hw (E.hts _ wl273) dX7_book_52 ?_
    refine gK_2_0 E hw (E.hts _ wl98) dX7_book_55 ?_
    refine lv_iload hx hb dX7_book_58 (lv_at hl 2 rfl) ?_
    obtain ⟨h_v_13, hf⟩ := rdA_at hf
    refine lK_13 E hw h_v_13 dX7_book_60 (fun v_13 ev_13 => ?_)
    replace hf := hf v_13 ev_13
    refine lv_iadd hx hb dX7_book_61 ?_
    obtain ⟨h_S_14, hf⟩ := ckA_at hf
    refine sK_35 E hw h_S_14 dX7_book_62 (fun S_14 eS_14 H locs hw => ?_)
    replace hf := bnd_at hf eS_14
    refine lv_aload_n hx hb dX7_book_63 rfl (lv_at hl 0 rfl) ?_
    refine gK_0_7 E hw (E.hts _ wl279) dX7_book_64 ?_
    refine lv_iload hx hb dX7_book_67 (lv_at hl 1 rfl) ?_
    refine lv_dup2_11 hx hb dX7_book_69 rfl rfl ?_
    obtain ⟨h_v_15, hf⟩ := rdA_at hf
    refine lK_35 E hw h_v_15 dX7_book_70 (fun v_15 ev_15 => ?_)
    replace hf := hf v_15 ev_15
    refine lv_aload_n hx hb dX7_book_71 rfl (lv_at hl 0 rfl) ?_
    refine gK_0_1 E hw (E.hts _ wl273) dX7_book_72 ?_
    refine gK_2_0 E hw (E.hts _ wl98) dX7_book_75 ?_
    refine lv_iload hx hb dX7_book_78 (lv_at hl 2 rfl) ?_
    obtain ⟨h_v_16, hf⟩ := rdA_at hf
    refine lK_13 E hw h_v_16 dX7_book_80 (fun v_16 ev_16 => ?_)
    replace hf := hf v_16 ev_16
    refine lv_isub hx hb dX7_book_81 ?_
    obtain ⟨h_S_17, hf⟩ := ckA_at hf
    refine sK_35 E hw h_S_17 dX7_book_82 (fun S_17 eS_17 H locs hw => ?_)
    replace hf := bnd_at hf eS_17
    obtain ⟨x5_18, ex5_18⟩ : ∃ y : Int32, y = x5 + (1) := ⟨_, rfl⟩
    replace hf := bnd_at hf ex5_18
    refine lv_iinc (v := x5_18) (lv' := [(5, .int (x5_18)), (0, .ref (a 0)), (4, .int (x4))]) hx hb dX7_book_83 hl (k := 2) rfl (by rw [ex5_18]; rfl) (by decide) rfl (fun ls hl => ?_)
    refine lv_goto (tgt := 36) hx hb dX7_book_86 (by decide) ?_
    exact hrec36 S_17 (x5_18) _ _ ls hf hw (lv_sub hl [1, 2, 0] rfl)
theorem k7_book_l36 {p : Program} {l : Launch} {e : Env} {s : State} {m : MethodId} {args : Array Value} {below : List Frame} {meth : Method} {c : Code} {D : va_G} {a : Nat → Nat} {g : Nat → ClassId} (E : EK p s m args meth c D a g cX7_book 6 RX7 (some .boolean)) {F : Nat}  (x4 : Int32) {k89 : SS → Option (Int32 × SS)} {out : (Int32 × SS)} (hk89 : ∀ (S : SS) (H : Heap) (locs : List Loc) (ls : Array Slot), k89 S = some out → WK D a g S s H locs → lv_has ls 6 [(0, .ref (a 0))] → W p l e (RM 6) s m args below meth c H locs 0 0 (MQ below (QK D a g (some (.int out.1)) out.2) args s 0 0 (AK a)) (F0 m 89 ls [])) : ∀ (n : Nat) (S : SS) (x5 : Int32) (H : Heap) (locs : List Loc) (ls : Array Slot), lpN (fun _ _ => none) (fun rec36 => k7_book_B36 F x4 rec36 k89) n S x5 = some out → WK D a g S s H locs → lv_has ls 6 [(0, .ref (a 0)), (4, .int (x4)), (5, .int (x5))] → W p l e (RM 6) s m args below meth c H locs 0 0 (MQ below (QK D a g (some (.int out.1)) out.2) args s 0 0 (AK a)) (F0 m 36 ls []) := by
  intro n
  induction n with
  | zero => intro S x5 H locs ls hf; cases (show (none : Option (Int32 × SS)) = some out from hf)
  | succ n ih => intro S x5 H locs ls hf hw hl; exact k7_book_b36 E (F := F) x4 ih hk89 S x5 H locs ls hf hw hl
set_option maxRecDepth 100000 in
set_option maxHeartbeats 4000000 in
theorem mk7_book {l : Launch} {D : va_G} {a : Nat → Nat} {g : Nat → ClassId} (hD : ∀ S, va_D (AK a) (wK a g S)) {F : Nat} {S : SS} {x1 x2 x3 x4 : Int32} {out : (Int32 × SS)} (hf : k7_book F S x1 x2 x3 x4 = some out) : Met l yX7_book (wsm yX7_book cX7_book 6 (some .boolean)) (RM 6) (PK D a g S [.ref (a 0), .int x1, .int x2, .int x3, .int x4]) (QK D a g (some (.int out.1)) out.2) 0 0 (AK a) := by
  refine Met.ofW (cc := cX7_book) (maxL := 6) (ret := (some .boolean)) (by decide) rfl ?_
  intro p e s m args below meth c s₁ B hml hv
  obtain ⟨rfl, hP, hK, hN⟩ := hv
  have hts := atoms_spec (ws := wsm yX7_book cX7_book 6 (some .boolean)) B.pre
  have E : EK p s m _ meth c D a g cX7_book 6 RX7 (some .boolean) := ⟨B.exec, B.bytes, B.returns, hml, findClass_of_methodNamed B.named, fun w h => hts w (List.mem_cons_of_mem _ h), hK, hN, hD, B.notSynchronized⟩
  have hx := E.hx
  have hb := E.hb
  have hw : WK D a g S s s.heap [] := ⟨hP, va_S.rf⟩
  have hl := lv_entry ([.ref (a 0), .int x1, .int x2, .int x3, .int x4]) (n := 6) (Nat.le_of_ble_eq_true rfl)
  rw [lg_entry_eq]
  generalize (lg_sl ([.ref (a 0), .int x1, .int x2, .int x3, .int x4]) ++ List.replicate (6 - (lg_sl ([.ref (a 0), .int x1, .int x2, .int x3, .int x4])).length) Slot.unset).toArray = ls at hl ⊢
  have hl : lv_has ls 6 [(0, .ref (a 0)), (1, .int (x1)), (2, .int (x2)), (3, .int (x3)), (4, .int (x4))] := hl
  show W p l e (RM 6) s m _ below meth c s.heap [] 0 0 (MQ below (QK D a g (some (.int out.1)) out.2) _ s 0 0 (AK a)) (F0 m 0 ls [])
  unfold k7_book at hf
  refine lv_iload hx hb dX7_book_0 (lv_at hl 4 rfl) ?_
  obtain ⟨r_2, h_1, hf⟩ := ob_at hf
  refine qk7_isCompany E hw (mk7_isCompany E.hD h_1) wl360 dX7_book_2 ⟨Nat.le_of_ble_eq_true rfl, Nat.le_of_ble_eq_true rfl⟩ hl.1 (Nat.le_of_ble_eq_true rfl) ⟨Nat.le_refl 0, Nat.le_refl 0⟩ (fun H locs hw => ?_)
  refine lv_if_eq (tgt := 31) hx hb dX7_book_5 (by decide) (fun c_4 => ?_) (fun c_4 => ?_)
  · replace hf := ite_t hf c_4
    refine lv_iconst hx hb dX7_book_31 ic_0 ?_
    cases hf
    exact retK_z E hw nb0 dX7_book_32
  · replace hf := ite_f hf c_4
    refine lv_aload_n hx hb dX7_book_8 rfl (lv_at hl 0 rfl) ?_
    refine gK_0_9 E hw (E.hts _ wl281) dX7_book_9 ?_
    refine lv_sipush hx hb dX7_book_12 sp_1000 ?_
    refine lv_icmp_ge (tgt := 31) hx hb dX7_book_15 (by decide) (fun c_5 => ?_) (fun c_5 => ?_)
    · replace hf := ite_t hf c_5
      refine lv_iconst hx hb dX7_book_31 ic_0 ?_
      cases hf
      exact retK_z E hw nb0 dX7_book_32
    · replace hf := ite_f hf c_5
      refine lv_aload_n hx hb dX7_book_18 rfl (lv_at hl 0 rfl) ?_
      refine gK_0_1 E hw (E.hts _ wl273) dX7_book_19 ?_
      refine lv_iload_n hx hb dX7_book_22 rfl (lv_at hl 1 rfl) ?_
      refine lv_iload_n hx hb dX7_book_23 rfl (lv_at hl 2 rfl) ?_
      refine lv_iload_n hx hb dX7_book_24 rfl (lv_at hl 3 rfl) ?_
      obtain ⟨r_7, S_8, h_6, hf⟩ := ob2_at hf
      refine qk5_divide E hw (mk5_divide E.hD h_6) wl361 dX7_book_25 ⟨Nat.le_of_ble_eq_true rfl, Nat.le_of_ble_eq_true rfl⟩ hl.1 (Nat.le_of_ble_eq_true rfl) ⟨Nat.le_refl 0, Nat.le_refl 0⟩ (fun H locs hw => ?_)
      refine lv_if_ne (tgt := 33) hx hb dX7_book_28 (by decide) (fun c_9 => ?_) (fun c_9 => ?_)
      · replace hf := ite_f hf c_9
        refine lv_iconst hx hb dX7_book_33 ic_0 ?_
        refine lv_topi (fun x5_10 ex5_10 => ?_)
        replace hf := bnd_at hf ex5_10
        refine lv_istore (lv' := [(5, .int (x5_10)), (0, .ref (a 0)), (1, .int (x1)), (2, .int (x2)), (3, .int (x3)), (4, .int (x4))]) hx hb dX7_book_34 hl (by decide) rfl (fun ls hl => ?_)
        refine k7_book_l36 E (x4) ?_ F S_8 (x5_10) _ _ ls hf hw (lv_sub hl [1, 5, 0] rfl)
        · intro S_19 H locs ls hf hw hl
          refine lv_aload_n hx hb dX7_book_89 rfl (lv_at hl 0 rfl) ?_
          refine lv_dup hx hb dX7_book_90 rfl ?_
          refine gK_0_9 E hw (E.hts _ wl281) dX7_book_91 ?_
          refine lv_iconst hx hb dX7_book_94 ic_1 ?_
          refine lv_iadd hx hb dX7_book_95 ?_
          refine pK_0_9 E hw (E.hts _ wl281) dX7_book_96 (fun S_20 eS_20 H locs hw => ?_)
          replace hf := bnd_at hf eS_20
          refine lv_iconst hx hb dX7_book_99 ic_1 ?_
          cases hf
          exact retK_z E hw nb1 dX7_book_100
      · replace hf := ite_t hf c_9
        refine lv_iconst hx hb dX7_book_31 ic_0 ?_
        cases hf
        exact retK_z E hw nb0 dX7_book_32
theorem qk7_book {p : Program} {l : Launch} {e : Env} {R : Room} {s : State} {m : MethodId} {args : Array Value} {below : List Frame} {meth : Method} {c : Code} {H : Heap} {locs : List Loc} {cells slots : Nat} {Q : State → Prop} {cc : ByteArray} {pc : Nat} {ls : Array Slot} {rest : List Value} {D : va_G} {a : Nat → Nat} {g : Nat → ClassId} {nL : Nat} {own : String} {ret : Option FieldType} {S S1 : SS} {k : Nat} {x1 x2 x3 x4 : Int32} {r : Int32} (E : EK p s m args meth c D a g cc nL own ret) (hw : WK D a g S s H locs) (hM : Met l yX7_book (wsm yX7_book cX7_book 6 (some .boolean)) (RM k) (PK D a g S [.ref (a 0), .int x1, .int x2, .int x3, .int x4]) (QK D a g (some (.int r)) S1) 0 0 (AK a)) {idx : Nat} (hlk : Cond.methodLink own idx yX7_book ∈ wd) (hdg : decode cc pc = .ok (.invokevirtual idx, 3)) (hR : k + 1 ≤ R.frames ∧ 8 + (6 + 11) + 64 * k ≤ R.locals) (hls : ls.size = nL) (hrest : (rest.map fun v => v.category).sum ≤ 8) (hcs : cells ≤ R.cells ∧ slots ≤ R.slots) (kk : ∀ (H1 : Heap) (locs1 : List Loc), WK D a g S1 s H1 locs1 → W p l e R s m args below meth c H1 locs1 cells slots Q (F0 m (pc + 3) ls (.int r :: rest))) : W p l e R s m args below meth c H locs cells slots Q (F0 m pc ls (.int x4 :: .int x3 :: .int x2 :: .int x1 :: .ref (a 0) :: rest)) :=
  callK_i hw (va_runV (As := [.int x1, .int x2, .int x3, .int x4]) (rest := rest) ⟨E.hx, E.hb, E.hml, E.hown, E.hts⟩ hM ⟨cb_of 4 E.hts wl389 wl35 hlk (by decide +kernel) hR, E.hts _ wl387, E.hts _ wl388⟩ ⟨PK_blind, va_recv E.hK hw.1 (ci := 7) (q0 := 0) rfl rfl, PK_pre E.hK E.hN hw.1⟩ rfl rfl hls rfl (lv_room hrest) hdg hcs) kk
/-! X7_isMark -/
def k7_isMark (F : Nat) (S : SS) (x0 : Int32) : Option Int32 :=
  (k7_isWithin F S (x0) ((10000 : Int32)) ((99999 : Int32))).bind fun r_2 => (ckB r_2).bind fun _ => some (r_2)
set_option maxRecDepth 100000 in
set_option maxHeartbeats 4000000 in
theorem mk7_isMark {l : Launch} {D : va_G} {a : Nat → Nat} {g : Nat → ClassId} (hD : ∀ S, va_D (AK a) (wK a g S)) {F : Nat} {S : SS} {x0 : Int32} {out : Int32} (hf : k7_isMark F S x0 = some out) : Met l yX7_isMark (wsm yX7_isMark cX7_isMark 1 (some .boolean)) (RM 2) (PK D a g S [.int x0]) (QK D a g (some (.int out)) S) 0 0 (AK a) := by
  refine Met.ofW (cc := cX7_isMark) (maxL := 1) (ret := (some .boolean)) (by decide) rfl ?_
  intro p e s m args below meth c s₁ B hml hv
  obtain ⟨rfl, hP, hK, hN⟩ := hv
  have hts := atoms_spec (ws := wsm yX7_isMark cX7_isMark 1 (some .boolean)) B.pre
  have E : EK p s m _ meth c D a g cX7_isMark 1 RX7 (some .boolean) := ⟨B.exec, B.bytes, B.returns, hml, findClass_of_methodNamed B.named, fun w h => hts w (List.mem_cons_of_mem _ h), hK, hN, hD, B.notSynchronized⟩
  have hx := E.hx
  have hb := E.hb
  have hw : WK D a g S s s.heap [] := ⟨hP, va_S.rf⟩
  have hl := lv_entry ([.int x0]) (n := 1) (Nat.le_of_ble_eq_true rfl)
  rw [lg_entry_eq]
  generalize (lg_sl ([.int x0]) ++ List.replicate (1 - (lg_sl ([.int x0])).length) Slot.unset).toArray = ls at hl ⊢
  have hl : lv_has ls 1 [(0, .int (x0))] := hl
  show W p l e (RM 2) s m _ below meth c s.heap [] 0 0 (MQ below (QK D a g (some (.int out)) S) _ s 0 0 (AK a)) (F0 m 0 ls [])
  unfold k7_isMark at hf
  refine lv_iload_n hx hb dX7_isMark_0 rfl (lv_at hl 0 rfl) ?_
  refine lv_sipush hx hb dX7_isMark_1 sp_10000 ?_
  refine lv_ldc hx hb E.hown (E.hts _ wl401) dX7_isMark_4 ?_
  obtain ⟨r_2, h_1, hf⟩ := ob_at hf
  refine qk7_isWithin E hw (mk7_isWithin E.hD h_1) wl402 dX7_isMark_6 ⟨Nat.le_of_ble_eq_true rfl, Nat.le_of_ble_eq_true rfl⟩ hl.1 (Nat.le_of_ble_eq_true rfl) ⟨Nat.le_refl 0, Nat.le_refl 0⟩ (fun H locs hw => ?_)
  obtain ⟨h_4, hf⟩ := ckB_at hf
  cases hf
  exact retK_z E hw h_4 dX7_isMark_9
theorem qnk7_isMark {p : Program} {l : Launch} {e : Env} {R : Room} {s : State} {m : MethodId} {args : Array Value} {below : List Frame} {meth : Method} {c : Code} {H : Heap} {locs : List Loc} {cells slots : Nat} {Q : State → Prop} {cc : ByteArray} {pc : Nat} {ls : Array Slot} {rest : List Value} {D : va_G} {a : Nat → Nat} {g : Nat → ClassId} {nL : Nat} {own : String} {ret : Option FieldType} {S S1 : SS} {k : Nat} {x0 : Int32} {r : Int32} (E : EK p s m args meth c D a g cc nL own ret) (hw : WK D a g S s H locs) (hM : Met l yX7_isMark (wsm yX7_isMark cX7_isMark 1 (some .boolean)) (RM k) (PK D a g S [.int x0]) (QK D a g (some (.int r)) S1) 0 0 (AK a)) {idx : Nat} {host : String} (hlk : Cond.methodLinkNest own idx yX7_isMark host ∈ nestW) (hdg : decode cc pc = .ok (.invokestatic idx, 3)) (hR : k + 1 ≤ R.frames ∧ 8 + (1 + 11) + 64 * k ≤ R.locals) (hls : ls.size = nL) (hrest : (rest.map fun v => v.category).sum ≤ 8) (hcs : cells ≤ R.cells ∧ slots ≤ R.slots) (kk : ∀ (H1 : Heap) (locs1 : List Loc), WK D a g S1 s H1 locs1 → W p l e R s m args below meth c H1 locs1 cells slots Q (F0 m (pc + 3) ls (.int r :: rest))) : W p l e R s m args below meth c H locs cells slots Q (F0 m pc ls (.int x0 :: rest)) :=
  callK_i hw (va_runSN (As := [.int x0]) (rest := rest) ⟨E.hx, E.hb, E.hml, E.hown, E.hts⟩ hM ⟨cn_of 1 E.hts wl400 wl35 (E.hN.at hlk) (by decide +kernel) hR, E.hts _ wl399, trivial⟩ ⟨PK_blind, PK_pre E.hK E.hN hw.1⟩ rfl rfl hls rfl (lv_room hrest) hdg hcs) kk
/-! X6_addWagon -/
def k6_addWagon_B26 (F : Nat) (S : SS) (x1 : Int32) (x2 : Int32) (rec26 : Int32 → Option (Int32 × SS)) (k52 : Option (Int32 × SS)) (x3 : Int32) : Option (Int32 × SS) :=
  if (S 3 2) ≤ x3 then (k52) else ((rdA 4 (S 16) x3).bind fun v_12 => if v_12 = x1 then (some ((-1 : Int32), S)) else (bnd (x3 + (1)) fun x3_14 => rec26 (x3_14)))
def k6_addWagon (F : Nat) (S : SS) (x1 : Int32) (x2 : Int32) : Option (Int32 × SS) :=
  (k7_isMark F S (x1)).bind fun r_2 => if r_2 = 0 then (some ((-1 : Int32), S)) else ((k7_isCompany F S (x2)).bind fun r_6 => if r_6 = 0 then (some ((-1 : Int32), S)) else (if (S 3 2) < ((4 : Int32)) then (bnd ((0 : Int32)) fun x3_10 => lpN (fun _ => none) (fun rec26 => k6_addWagon_B26 F S (x1) (x2) rec26 ((ckA 4 (S 3 2)).bind fun _ => bnd (st S 16 (Int32.toNatClampNeg (S 3 2)) x1) fun S_16 => (ckA 4 (S_16 3 2)).bind fun _ => bnd (st S_16 17 (Int32.toNatClampNeg (S_16 3 2)) x2) fun S_17 => bnd (st S_17 3 2 ((S_17 3 2) + ((1 : Int32)))) fun S_18 => some ((S_18 3 2) - ((1 : Int32)), S_18))) F (x3_10)) else (some ((-1 : Int32), S))))
set_option maxRecDepth 100000 in
set_option maxHeartbeats 4000000 in
theorem k6_addWagon_b26 {p : Program} {l : Launch} {e : Env} {s : State} {m : MethodId} {args : Array Value} {below : List Frame} {meth : Method} {c : Code} {D : va_G} {a : Nat → Nat} {g : Nat → ClassId} (E : EK p s m args meth c D a g cX6_addWagon 4 RX6 (some .int)) {F : Nat}  (S : SS) (x1 : Int32) (x2 : Int32) {rec26 : Int32 → Option (Int32 × SS)} {k52 : Option (Int32 × SS)} {out : (Int32 × SS)} (hrec26 : ∀ (x3 : Int32) (H : Heap) (locs : List Loc) (ls : Array Slot), rec26 x3 = some out → WK D a g S s H locs → lv_has ls 4 [(0, .ref (a 3)), (1, .int (x1)), (2, .int (x2)), (3, .int (x3))] → W p l e (RM 3) s m args below meth c H locs 0 0 (MQ below (QK D a g (some (.int out.1)) out.2) args s 0 0 (AK a)) (F0 m 26 ls [])) (hk52 : ∀ (H : Heap) (locs : List Loc) (ls : Array Slot), k52 = some out → WK D a g S s H locs → lv_has ls 4 [(0, .ref (a 3)), (1, .int (x1)), (2, .int (x2))] → W p l e (RM 3) s m args below meth c H locs 0 0 (MQ below (QK D a g (some (.int out.1)) out.2) args s 0 0 (AK a)) (F0 m 52 ls [])) (x3 : Int32) (H : Heap) (locs : List Loc) (ls : Array Slot) (hf : k6_addWagon_B26 F S x1 x2 rec26 k52 x3 = some out) (hw : WK D a g S s H locs) (hl : lv_has ls 4 [(0, .ref (a 3)), (1, .int (x1)), (2, .int (x2)), (3, .int (x3))]) : W p l e (RM 3) s m args below meth c H locs 0 0 (MQ below (QK D a g (some (.int out.1)) out.2) args s 0 0 (AK a)) (F0 m 26 ls []) := by
  have hx := E.hx
  have hb := E.hb
  unfold k6_addWagon_B26 at hf
  refine lv_iload_n hx hb dX6_addWagon_26 rfl (lv_at hl 3 rfl) ?_
  refine lv_aload_n hx hb dX6_addWagon_27 rfl (lv_at hl 0 rfl) ?_
  refine gK_3_2 E hw (E.hts _ wl127) dX6_addWagon_28 ?_
  refine lv_icmp_ge (tgt := 52) hx hb dX6_addWagon_31 (by decide) (fun c_11 => ?_) (fun c_11 => ?_)
  · replace hf := ite_t hf c_11
    exact hk52  _ _ ls hf hw (lv_sub hl [0, 1, 2] rfl)
  · replace hf := ite_f hf c_11
    refine lv_aload_n hx hb dX6_addWagon_34 rfl (lv_at hl 0 rfl) ?_
    refine gK_3_0 E hw (E.hts _ wl123) dX6_addWagon_35 ?_
    refine lv_iload_n hx hb dX6_addWagon_38 rfl (lv_at hl 3 rfl) ?_
    obtain ⟨h_v_12, hf⟩ := rdA_at hf
    refine lK_16 E hw h_v_12 dX6_addWagon_39 (fun v_12 ev_12 => ?_)
    replace hf := hf v_12 ev_12
    refine lv_iload_n hx hb dX6_addWagon_40 rfl (lv_at hl 1 rfl) ?_
    refine lv_icmp_ne (tgt := 46) hx hb dX6_addWagon_41 (by decide) (fun c_13 => ?_) (fun c_13 => ?_)
    · replace hf := ite_f hf c_13
      obtain ⟨x3_14, ex3_14⟩ : ∃ y : Int32, y = x3 + (1) := ⟨_, rfl⟩
      replace hf := bnd_at hf ex3_14
      refine lv_iinc (v := x3_14) (lv' := [(3, .int (x3_14)), (0, .ref (a 3)), (1, .int (x1)), (2, .int (x2))]) hx hb dX6_addWagon_46 hl (k := 3) rfl (by rw [ex3_14]; rfl) (by decide) rfl (fun ls hl => ?_)
      refine lv_goto (tgt := 26) hx hb dX6_addWagon_49 (by decide) ?_
      exact hrec26 (x3_14) _ _ ls hf hw (lv_sub hl [1, 2, 3, 0] rfl)
    · replace hf := ite_t hf c_13
      refine lv_iconst hx hb dX6_addWagon_44 ic_m1 ?_
      cases hf
      exact retK_i E hw dX6_addWagon_45
theorem k6_addWagon_l26 {p : Program} {l : Launch} {e : Env} {s : State} {m : MethodId} {args : Array Value} {below : List Frame} {meth : Method} {c : Code} {D : va_G} {a : Nat → Nat} {g : Nat → ClassId} (E : EK p s m args meth c D a g cX6_addWagon 4 RX6 (some .int)) {F : Nat}  (S : SS) (x1 : Int32) (x2 : Int32) {k52 : Option (Int32 × SS)} {out : (Int32 × SS)} (hk52 : ∀ (H : Heap) (locs : List Loc) (ls : Array Slot), k52 = some out → WK D a g S s H locs → lv_has ls 4 [(0, .ref (a 3)), (1, .int (x1)), (2, .int (x2))] → W p l e (RM 3) s m args below meth c H locs 0 0 (MQ below (QK D a g (some (.int out.1)) out.2) args s 0 0 (AK a)) (F0 m 52 ls [])) : ∀ (n : Nat) (x3 : Int32) (H : Heap) (locs : List Loc) (ls : Array Slot), lpN (fun _ => none) (fun rec26 => k6_addWagon_B26 F S x1 x2 rec26 k52) n x3 = some out → WK D a g S s H locs → lv_has ls 4 [(0, .ref (a 3)), (1, .int (x1)), (2, .int (x2)), (3, .int (x3))] → W p l e (RM 3) s m args below meth c H locs 0 0 (MQ below (QK D a g (some (.int out.1)) out.2) args s 0 0 (AK a)) (F0 m 26 ls []) := by
  intro n
  induction n with
  | zero => intro x3 H locs ls hf; cases (show (none : Option (Int32 × SS)) = some out from hf)
  | succ n ih => intro x3 H locs ls hf hw hl; exact k6_addWagon_b26 E (F := F) S x1 x2 ih hk52 x3 H locs ls hf hw hl
set_option maxRecDepth 100000 in
set_option maxHeartbeats 4000000 in
theorem mk6_addWagon {l : Launch} {D : va_G} {a : Nat → Nat} {g : Nat → ClassId} (hD : ∀ S, va_D (AK a) (wK a g S)) {F : Nat} {S : SS} {x1 x2 : Int32} {out : (Int32 × SS)} (hf : k6_addWagon F S x1 x2 = some out) : Met l yX6_addWagon (wsm yX6_addWagon cX6_addWagon 4 (some .int)) (RM 3) (PK D a g S [.ref (a 3), .int x1, .int x2]) (QK D a g (some (.int out.1)) out.2) 0 0 (AK a) := by
  refine Met.ofW (cc := cX6_addWagon) (maxL := 4) (ret := (some .int)) (by decide) rfl ?_
  intro p e s m args below meth c s₁ B hml hv
  obtain ⟨rfl, hP, hK, hN⟩ := hv
  have hts := atoms_spec (ws := wsm yX6_addWagon cX6_addWagon 4 (some .int)) B.pre
  have E : EK p s m _ meth c D a g cX6_addWagon 4 RX6 (some .int) := ⟨B.exec, B.bytes, B.returns, hml, findClass_of_methodNamed B.named, fun w h => hts w (List.mem_cons_of_mem _ h), hK, hN, hD, B.notSynchronized⟩
  have hx := E.hx
  have hb := E.hb
  have hw : WK D a g S s s.heap [] := ⟨hP, va_S.rf⟩
  have hl := lv_entry ([.ref (a 3), .int x1, .int x2]) (n := 4) (Nat.le_of_ble_eq_true rfl)
  rw [lg_entry_eq]
  generalize (lg_sl ([.ref (a 3), .int x1, .int x2]) ++ List.replicate (4 - (lg_sl ([.ref (a 3), .int x1, .int x2])).length) Slot.unset).toArray = ls at hl ⊢
  have hl : lv_has ls 4 [(0, .ref (a 3)), (1, .int (x1)), (2, .int (x2))] := hl
  show W p l e (RM 3) s m _ below meth c s.heap [] 0 0 (MQ below (QK D a g (some (.int out.1)) out.2) _ s 0 0 (AK a)) (F0 m 0 ls [])
  unfold k6_addWagon at hf
  refine lv_iload_n hx hb dX6_addWagon_0 rfl (lv_at hl 1 rfl) ?_
  obtain ⟨r_2, h_1, hf⟩ := ob_at hf
  refine qnk7_isMark E hw (mk7_isMark E.hD h_1) nw8 dX6_addWagon_1 ⟨Nat.le_of_ble_eq_true rfl, Nat.le_of_ble_eq_true rfl⟩ hl.1 (Nat.le_of_ble_eq_true rfl) ⟨Nat.le_refl 0, Nat.le_refl 0⟩ (fun H locs hw => ?_)
  refine lv_if_eq (tgt := 22) hx hb dX6_addWagon_4 (by decide) (fun c_4 => ?_) (fun c_4 => ?_)
  · replace hf := ite_t hf c_4
    refine lv_iconst hx hb dX6_addWagon_22 ic_m1 ?_
    cases hf
    exact retK_i E hw dX6_addWagon_23
  · replace hf := ite_f hf c_4
    refine lv_iload_n hx hb dX6_addWagon_7 rfl (lv_at hl 2 rfl) ?_
    obtain ⟨r_6, h_5, hf⟩ := ob_at hf
    refine qnk7_isCompany E hw (mk7_isCompany E.hD h_5) nw9 dX6_addWagon_8 ⟨Nat.le_of_ble_eq_true rfl, Nat.le_of_ble_eq_true rfl⟩ hl.1 (Nat.le_of_ble_eq_true rfl) ⟨Nat.le_refl 0, Nat.le_refl 0⟩ (fun H locs hw => ?_)
    refine lv_if_eq (tgt := 22) hx hb dX6_addWagon_11 (by decide) (fun c_8 => ?_) (fun c_8 => ?_)
    · replace hf := ite_t hf c_8
      refine lv_iconst hx hb dX6_addWagon_22 ic_m1 ?_
      cases hf
      exact retK_i E hw dX6_addWagon_23
    · replace hf := ite_f hf c_8
      refine lv_aload_n hx hb dX6_addWagon_14 rfl (lv_at hl 0 rfl) ?_
      refine gK_3_2 E hw (E.hts _ wl127) dX6_addWagon_15 ?_
      refine lv_iconst hx hb dX6_addWagon_18 ic_4 ?_
      refine lv_icmp_lt (tgt := 24) hx hb dX6_addWagon_19 (by decide) (fun c_9 => ?_) (fun c_9 => ?_)
      · replace hf := ite_t hf c_9
        refine lv_iconst hx hb dX6_addWagon_24 ic_0 ?_
        refine lv_topi (fun x3_10 ex3_10 => ?_)
        replace hf := bnd_at hf ex3_10
        refine lv_istore_n (lv' := [(3, .int (x3_10)), (0, .ref (a 3)), (1, .int (x1)), (2, .int (x2))]) hx hb dX6_addWagon_25 rfl hl (by decide) rfl (fun ls hl => ?_)
        refine k6_addWagon_l26 E S (x1) (x2) ?_ F (x3_10) _ _ ls hf hw (lv_sub hl [1, 2, 3, 0] rfl)
        · intro  H locs ls hf hw hl
          refine lv_aload_n hx hb dX6_addWagon_52 rfl (lv_at hl 0 rfl) ?_
          refine gK_3_0 E hw (E.hts _ wl123) dX6_addWagon_53 ?_
          refine lv_aload_n hx hb dX6_addWagon_56 rfl (lv_at hl 0 rfl) ?_
          refine gK_3_2 E hw (E.hts _ wl127) dX6_addWagon_57 ?_
          refine lv_iload_n hx hb dX6_addWagon_60 rfl (lv_at hl 1 rfl) ?_
          obtain ⟨h_S_16, hf⟩ := ckA_at hf
          refine sK_16 E hw h_S_16 dX6_addWagon_61 (fun S_16 eS_16 H locs hw => ?_)
          replace hf := bnd_at hf eS_16
          refine lv_aload_n hx hb dX6_addWagon_62 rfl (lv_at hl 0 rfl) ?_
          refine gK_3_1 E hw (E.hts _ wl125) dX6_addWagon_63 ?_
          refine lv_aload_n hx hb dX6_addWagon_66 rfl (lv_at hl 0 rfl) ?_
          refine gK_3_2 E hw (E.hts _ wl127) dX6_addWagon_67 ?_
          refine lv_iload_n hx hb dX6_addWagon_70 rfl (lv_at hl 2 rfl) ?_
          obtain ⟨h_S_17, hf⟩ := ckA_at hf
          refine sK_17 E hw h_S_17 dX6_addWagon_71 (fun S_17 eS_17 H locs hw => ?_)
          replace hf := bnd_at hf eS_17
          refine lv_aload_n hx hb dX6_addWagon_72 rfl (lv_at hl 0 rfl) ?_
          refine lv_dup hx hb dX6_addWagon_73 rfl ?_
          refine gK_3_2 E hw (E.hts _ wl127) dX6_addWagon_74 ?_
          refine lv_iconst hx hb dX6_addWagon_77 ic_1 ?_
          refine lv_iadd hx hb dX6_addWagon_78 ?_
          refine pK_3_2 E hw (E.hts _ wl127) dX6_addWagon_79 (fun S_18 eS_18 H locs hw => ?_)
          replace hf := bnd_at hf eS_18
          refine lv_aload_n hx hb dX6_addWagon_82 rfl (lv_at hl 0 rfl) ?_
          refine gK_3_2 E hw (E.hts _ wl127) dX6_addWagon_83 ?_
          refine lv_iconst hx hb dX6_addWagon_86 ic_1 ?_
          refine lv_isub hx hb dX6_addWagon_87 ?_
          cases hf
          exact retK_i E hw dX6_addWagon_88
      · replace hf := ite_f hf c_9
        refine lv_iconst hx hb dX6_addWagon_22 ic_m1 ?_
        cases hf
        exact retK_i E hw dX6_addWagon_23
theorem qk6_addWagon {p : Program} {l : Launch} {e : Env} {R : Room} {s : State} {m : MethodId} {args : Array Value} {below : List Frame} {meth : Method} {c : Code} {H : Heap} {locs : List Loc} {cells slots : Nat} {Q : State → Prop} {cc : ByteArray} {pc : Nat} {ls : Array Slot} {rest : List Value} {D : va_G} {a : Nat → Nat} {g : Nat → ClassId} {nL : Nat} {own : String} {ret : Option FieldType} {S S1 : SS} {k : Nat} {x1 x2 : Int32} {r : Int32} (E : EK p s m args meth c D a g cc nL own ret) (hw : WK D a g S s H locs) (hM : Met l yX6_addWagon (wsm yX6_addWagon cX6_addWagon 4 (some .int)) (RM k) (PK D a g S [.ref (a 3), .int x1, .int x2]) (QK D a g (some (.int r)) S1) 0 0 (AK a)) {idx : Nat} (hlk : Cond.methodLink own idx yX6_addWagon ∈ wd) (hdg : decode cc pc = .ok (.invokevirtual idx, 3)) (hR : k + 1 ≤ R.frames ∧ 8 + (4 + 11) + 64 * k ≤ R.locals) (hls : ls.size = nL) (hrest : (rest.map fun v => v.category).sum ≤ 8) (hcs : cells ≤ R.cells ∧ slots ≤ R.slots) (kk : ∀ (H1 : Heap) (locs1 : List Loc), WK D a g S1 s H1 locs1 → W p l e R s m args below meth c H1 locs1 cells slots Q (F0 m (pc + 3) ls (.int r :: rest))) : W p l e R s m args below meth c H locs cells slots Q (F0 m pc ls (.int x2 :: .int x1 :: .ref (a 3) :: rest)) :=
  callK_i hw (va_runV (As := [.int x1, .int x2]) (rest := rest) ⟨E.hx, E.hb, E.hml, E.hown, E.hts⟩ hM ⟨cb_of 2 E.hts wl397 wl39 hlk (by decide +kernel) hR, E.hts _ wl395, E.hts _ wl396⟩ ⟨PK_blind, va_recv E.hK hw.1 (ci := 6) (q0 := 3) rfl rfl, PK_pre E.hK E.hN hw.1⟩ rfl rfl hls rfl (lv_room hrest) hdg hcs) kk
/-! X7_wagon -/
def k7_wagon (F : Nat) (S : SS) (x1 : Int32) (x2 : Int32) : Option (Int32 × SS) :=
  ob2 (k6_addWagon F S (x1) (x2)) fun r_2 S_3 => bnd (r_2) fun x3_4 => if x3_4 = ((-1 : Int32)) then (some (x3_4, S_3)) else ((k2_forget F S_3 ).bind fun S_8 => some (x3_4, S_8))
set_option maxRecDepth 100000 in
set_option maxHeartbeats 4000000 in
theorem mk7_wagon {l : Launch} {D : va_G} {a : Nat → Nat} {g : Nat → ClassId} (hD : ∀ S, va_D (AK a) (wK a g S)) {F : Nat} {S : SS} {x1 x2 : Int32} {out : (Int32 × SS)} (hf : k7_wagon F S x1 x2 = some out) : Met l yX7_wagon (wsm yX7_wagon cX7_wagon 4 (some .int)) (RM 4) (PK D a g S [.ref (a 0), .int x1, .int x2]) (QK D a g (some (.int out.1)) out.2) 0 0 (AK a) := by
  refine Met.ofW (cc := cX7_wagon) (maxL := 4) (ret := (some .int)) (by decide) rfl ?_
  intro p e s m args below meth c s₁ B hml hv
  obtain ⟨rfl, hP, hK, hN⟩ := hv
  have hts := atoms_spec (ws := wsm yX7_wagon cX7_wagon 4 (some .int)) B.pre
  have E : EK p s m _ meth c D a g cX7_wagon 4 RX7 (some .int) := ⟨B.exec, B.bytes, B.returns, hml, findClass_of_methodNamed B.named, fun w h => hts w (List.mem_cons_of_mem _ h), hK, hN, hD, B.notSynchronized⟩
  have hx := E.hx
  have hb := E.hb
  have hw : WK D a g S s s.heap [] := ⟨hP, va_S.rf⟩
  have hl := lv_entry ([.ref (a 0), .int x1, .int x2]) (n := 4) (Nat.le_of_ble_eq_true rfl)
  rw [lg_entry_eq]
  generalize (lg_sl ([.ref (a 0), .int x1, .int x2]) ++ List.replicate (4 - (lg_sl ([.ref (a 0), .int x1, .int x2])).length) Slot.unset).toArray = ls at hl ⊢
  have hl : lv_has ls 4 [(0, .ref (a 0)), (1, .int (x1)), (2, .int (x2))] := hl
  show W p l e (RM 4) s m _ below meth c s.heap [] 0 0 (MQ below (QK D a g (some (.int out.1)) out.2) _ s 0 0 (AK a)) (F0 m 0 ls [])
  unfold k7_wagon at hf
  refine lv_aload_n hx hb dX7_wagon_0 rfl (lv_at hl 0 rfl) ?_
  refine gK_0_2 E hw (E.hts _ wl274) dX7_wagon_1 ?_
  refine lv_iload_n hx hb dX7_wagon_4 rfl (lv_at hl 1 rfl) ?_
  refine lv_iload_n hx hb dX7_wagon_5 rfl (lv_at hl 2 rfl) ?_
  obtain ⟨r_2, S_3, h_1, hf⟩ := ob2_at hf
  refine qk6_addWagon E hw (mk6_addWagon E.hD h_1) wl394 dX7_wagon_6 ⟨Nat.le_of_ble_eq_true rfl, Nat.le_of_ble_eq_true rfl⟩ hl.1 (Nat.le_of_ble_eq_true rfl) ⟨Nat.le_refl 0, Nat.le_refl 0⟩ (fun H locs hw => ?_)
  refine lv_topi (fun x3_4 ex3_4 => ?_)
  replace hf := bnd_at hf ex3_4
  refine lv_istore_n (lv' := [(3, .int (x3_4)), (0, .ref (a 0)), (1, .int (x1)), (2, .int (x2))]) hx hb dX7_wagon_9 rfl hl (by decide) rfl (fun ls hl => ?_)
  refine lv_iload_n hx hb dX7_wagon_10 rfl (lv_at hl 0 rfl) ?_
  refine lv_iconst hx hb dX7_wagon_11 ic_m1 ?_
  refine lv_icmp_eq (tgt := 22) hx hb dX7_wagon_12 (by decide) (fun c_5 => ?_) (fun c_5 => ?_)
  · replace hf := ite_t hf c_5
    refine lv_iload_n hx hb dX7_wagon_22 rfl (lv_at hl 0 rfl) ?_
    cases hf
    exact retK_i E hw dX7_wagon_23
  · replace hf := ite_f hf c_5
    refine lv_aload_n hx hb dX7_wagon_15 rfl (lv_at hl 1 rfl) ?_
    refine gK_0_3 E hw (E.hts _ wl275) dX7_wagon_16 ?_
    obtain ⟨S_8, h_6, hf⟩ := ob_at hf
    refine qk2_forget E hw (mk2_forget E.hD h_6) wl327 dX7_wagon_19 ⟨Nat.le_of_ble_eq_true rfl, Nat.le_of_ble_eq_true rfl⟩ hl.1 (Nat.le_of_ble_eq_true rfl) ⟨Nat.le_refl 0, Nat.le_refl 0⟩ (fun H locs hw => ?_)
    refine lv_iload_n hx hb dX7_wagon_22 rfl (lv_at hl 0 rfl) ?_
    cases hf
    exact retK_i E hw dX7_wagon_23
theorem qk7_wagon {p : Program} {l : Launch} {e : Env} {R : Room} {s : State} {m : MethodId} {args : Array Value} {below : List Frame} {meth : Method} {c : Code} {H : Heap} {locs : List Loc} {cells slots : Nat} {Q : State → Prop} {cc : ByteArray} {pc : Nat} {ls : Array Slot} {rest : List Value} {D : va_G} {a : Nat → Nat} {g : Nat → ClassId} {nL : Nat} {own : String} {ret : Option FieldType} {S S1 : SS} {k : Nat} {x1 x2 : Int32} {r : Int32} (E : EK p s m args meth c D a g cc nL own ret) (hw : WK D a g S s H locs) (hM : Met l yX7_wagon (wsm yX7_wagon cX7_wagon 4 (some .int)) (RM k) (PK D a g S [.ref (a 0), .int x1, .int x2]) (QK D a g (some (.int r)) S1) 0 0 (AK a)) {idx : Nat} (hlk : Cond.methodLink own idx yX7_wagon ∈ wd) (hdg : decode cc pc = .ok (.invokevirtual idx, 3)) (hR : k + 1 ≤ R.frames ∧ 8 + (4 + 11) + 64 * k ≤ R.locals) (hls : ls.size = nL) (hrest : (rest.map fun v => v.category).sum ≤ 8) (hcs : cells ≤ R.cells ∧ slots ≤ R.slots) (kk : ∀ (H1 : Heap) (locs1 : List Loc), WK D a g S1 s H1 locs1 → W p l e R s m args below meth c H1 locs1 cells slots Q (F0 m (pc + 3) ls (.int r :: rest))) : W p l e R s m args below meth c H locs cells slots Q (F0 m pc ls (.int x2 :: .int x1 :: .ref (a 0) :: rest)) :=
  callK_i hw (va_runV (As := [.int x1, .int x2]) (rest := rest) ⟨E.hx, E.hb, E.hml, E.hown, E.hts⟩ hM ⟨cb_of 2 E.hts wl393 wl35 hlk (by decide +kernel) hR, E.hts _ wl391, E.hts _ wl392⟩ ⟨PK_blind, va_recv E.hK hw.1 (ci := 7) (q0 := 0) rfl rfl, PK_pre E.hK E.hN hw.1⟩ rfl rfl hls rfl (lv_room hrest) hdg hcs) kk
/-! X6_addSight -/
def k6_addSight_J70 (F : Nat) (S : SS) (x1 : Int32) (x2 : Int32) (x3 : Int32) (x4 : Int32) : Option (Int32 × SS) :=
  (ckA 7 (S 3 7)).bind fun _ => bnd (st S 18 (Int32.toNatClampNeg (S 3 7)) x1) fun S_19 => (ckA 7 (S_19 3 7)).bind fun _ => bnd (st S_19 19 (Int32.toNatClampNeg (S_19 3 7)) x2) fun S_20 => (ckA 7 (S_20 3 7)).bind fun _ => bnd (st S_20 20 (Int32.toNatClampNeg (S_20 3 7)) x3) fun S_21 => (ckA 7 (S_21 3 7)).bind fun _ => bnd (st S_21 21 (Int32.toNatClampNeg (S_21 3 7)) x4) fun S_22 => bnd (st S_22 3 7 ((S_22 3 7) + ((1 : Int32)))) fun S_23 => some ((S_23 3 7) - ((1 : Int32)), S_23)
def k6_addSight (F : Nat) (S : SS) (x1 : Int32) (x2 : Int32) (x3 : Int32) (x4 : Int32) : Option (Int32 × SS) :=
  (k7_isMark F S (x1)).bind fun r_2 => if r_2 = 0 then (some ((-1 : Int32), S)) else ((k7_isJunction F S (x2)).bind fun r_6 => if r_6 = 0 then (some ((-1 : Int32), S)) else ((k7_isCompany F S (x4)).bind fun r_10 => if r_10 = 0 then (some ((-1 : Int32), S)) else ((k7_isWithin F S (x3) ((0 : Int32)) ((999 : Int32))).bind fun r_14 => if r_14 = 0 then (some ((-1 : Int32), S)) else (if (S 3 7) < ((7 : Int32)) then (if (S 3 7) ≤ 0 then (k6_addSight_J70 F S (x1) (x2) (x3) (x4)) else ((rdA 7 (S 20) ((S 3 7) - ((1 : Int32)))).bind fun v_24 => if v_24 ≤ x3 then (k6_addSight_J70 F S (x1) (x2) (x3) (x4)) else (some ((-1 : Int32), S)))) else (some ((-1 : Int32), S))))))
set_option maxRecDepth 100000 in
set_option maxHeartbeats 4000000 in
theorem k6_addSight_J70_j {p : Program} {l : Launch} {e : Env} {s : State} {m : MethodId} {args : Array Value} {below : List Frame} {meth : Method} {c : Code} {D : va_G} {a : Nat → Nat} {g : Nat → ClassId} (E : EK p s m args meth c D a g cX6_addSight 5 RX6 (some .int)) {F : Nat}  {out : (Int32 × SS)} (S : SS) (x1 : Int32) (x2 : Int32) (x3 : Int32) (x4 : Int32) (H : Heap) (locs : List Loc) (ls : Array Slot) (hf : k6_addSight_J70 F S x1 x2 x3 x4 = some out) (hw : WK D a g S s H locs) (hl : lv_has ls 5 [(0, .ref (a 3)), (1, .int (x1)), (2, .int (x2)), (3, .int (x3)), (4, .int (x4))]) : W p l e (RM 3) s m args below meth c H locs 0 0 (MQ below (QK D a g (some (.int out.1)) out.2) args s 0 0 (AK a)) (F0 m 70 ls []) := by
  have hx := E.hx
  have hb := E.hb
  unfold k6_addSight_J70 at hf
  refine lv_aload_n hx hb dX6_addSight_70 rfl (lv_at hl 0 rfl) ?_
  refine gK_3_3 E hw (E.hts _ wl131) dX6_addSight_71 ?_
  refine lv_aload_n hx hb dX6_addSight_74 rfl (lv_at hl 0 rfl) ?_
  refine gK_3_7 E hw (E.hts _ wl140) dX6_addSight_75 ?_
  refine lv_iload_n hx hb dX6_addSight_78 rfl (lv_at hl 1 rfl) ?_
  obtain ⟨h_S_19, hf⟩ := ckA_at hf
  refine sK_18 E hw h_S_19 dX6_addSight_79 (fun S_19 eS_19 H locs hw => ?_)
  replace hf := bnd_at hf eS_19
  refine lv_aload_n hx hb dX6_addSight_80 rfl (lv_at hl 0 rfl) ?_
  refine gK_3_4 E hw (E.hts _ wl133) dX6_addSight_81 ?_
  refine lv_aload_n hx hb dX6_addSight_84 rfl (lv_at hl 0 rfl) ?_
  refine gK_3_7 E hw (E.hts _ wl140) dX6_addSight_85 ?_
  refine lv_iload_n hx hb dX6_addSight_88 rfl (lv_at hl 2 rfl) ?_
  obtain ⟨h_S_20, hf⟩ := ckA_at hf
  refine sK_19 E hw h_S_20 dX6_addSight_89 (fun S_20 eS_20 H locs hw => ?_)
  replace hf := bnd_at hf eS_20
  refine lv_aload_n hx hb dX6_addSight_90 rfl (lv_at hl 0 rfl) ?_
  refine gK_3_5 E hw (E.hts _ wl135) dX6_addSight_91 ?_
  refine lv_aload_n hx hb dX6_addSight_94 rfl (lv_at hl 0 rfl) ?_
  refine gK_3_7 E hw (E.hts _ wl140) dX6_addSight_95 ?_
  refine lv_iload_n hx hb dX6_addSight_98 rfl (lv_at hl 3 rfl) ?_
  obtain ⟨h_S_21, hf⟩ := ckA_at hf
  refine sK_20 E hw h_S_21 dX6_addSight_99 (fun S_21 eS_21 H locs hw => ?_)
  replace hf := bnd_at hf eS_21
  refine lv_aload_n hx hb dX6_addSight_100 rfl (lv_at hl 0 rfl) ?_
  refine gK_3_6 E hw (E.hts _ wl138) dX6_addSight_101 ?_
  refine lv_aload_n hx hb dX6_addSight_104 rfl (lv_at hl 0 rfl) ?_
  refine gK_3_7 E hw (E.hts _ wl140) dX6_addSight_105 ?_
  refine lv_iload hx hb dX6_addSight_108 (lv_at hl 4 rfl) ?_
  obtain ⟨h_S_22, hf⟩ := ckA_at hf
  refine sK_21 E hw h_S_22 dX6_addSight_110 (fun S_22 eS_22 H locs hw => ?_)
  replace hf := bnd_at hf eS_22
  refine lv_aload_n hx hb dX6_addSight_111 rfl (lv_at hl 0 rfl) ?_
  refine lv_dup hx hb dX6_addSight_112 rfl ?_
  refine gK_3_7 E hw (E.hts _ wl140) dX6_addSight_113 ?_
  refine lv_iconst hx hb dX6_addSight_116 ic_1 ?_
  refine lv_iadd hx hb dX6_addSight_117 ?_
  refine pK_3_7 E hw (E.hts _ wl140) dX6_addSight_118 (fun S_23 eS_23 H locs hw => ?_)
  replace hf := bnd_at hf eS_23
  refine lv_aload_n hx hb dX6_addSight_121 rfl (lv_at hl 0 rfl) ?_
  refine gK_3_7 E hw (E.hts _ wl140) dX6_addSight_122 ?_
  refine lv_iconst hx hb dX6_addSight_125 ic_1 ?_
  refine lv_isub hx hb dX6_addSight_126 ?_
  cases hf
  exact retK_i E hw dX6_addSight_127
set_option maxRecDepth 100000 in
set_option maxHeartbeats 4000000 in
theorem mk6_addSight {l : Launch} {D : va_G} {a : Nat → Nat} {g : Nat → ClassId} (hD : ∀ S, va_D (AK a) (wK a g S)) {F : Nat} {S : SS} {x1 x2 x3 x4 : Int32} {out : (Int32 × SS)} (hf : k6_addSight F S x1 x2 x3 x4 = some out) : Met l yX6_addSight (wsm yX6_addSight cX6_addSight 5 (some .int)) (RM 3) (PK D a g S [.ref (a 3), .int x1, .int x2, .int x3, .int x4]) (QK D a g (some (.int out.1)) out.2) 0 0 (AK a) := by
  refine Met.ofW (cc := cX6_addSight) (maxL := 5) (ret := (some .int)) (by decide) rfl ?_
  intro p e s m args below meth c s₁ B hml hv
  obtain ⟨rfl, hP, hK, hN⟩ := hv
  have hts := atoms_spec (ws := wsm yX6_addSight cX6_addSight 5 (some .int)) B.pre
  have E : EK p s m _ meth c D a g cX6_addSight 5 RX6 (some .int) := ⟨B.exec, B.bytes, B.returns, hml, findClass_of_methodNamed B.named, fun w h => hts w (List.mem_cons_of_mem _ h), hK, hN, hD, B.notSynchronized⟩
  have hx := E.hx
  have hb := E.hb
  have hw : WK D a g S s s.heap [] := ⟨hP, va_S.rf⟩
  have hl := lv_entry ([.ref (a 3), .int x1, .int x2, .int x3, .int x4]) (n := 5) (Nat.le_of_ble_eq_true rfl)
  rw [lg_entry_eq]
  generalize (lg_sl ([.ref (a 3), .int x1, .int x2, .int x3, .int x4]) ++ List.replicate (5 - (lg_sl ([.ref (a 3), .int x1, .int x2, .int x3, .int x4])).length) Slot.unset).toArray = ls at hl ⊢
  have hl : lv_has ls 5 [(0, .ref (a 3)), (1, .int (x1)), (2, .int (x2)), (3, .int (x3)), (4, .int (x4))] := hl
  show W p l e (RM 3) s m _ below meth c s.heap [] 0 0 (MQ below (QK D a g (some (.int out.1)) out.2) _ s 0 0 (AK a)) (F0 m 0 ls [])
  unfold k6_addSight at hf
  refine lv_iload_n hx hb dX6_addSight_0 rfl (lv_at hl 1 rfl) ?_
  obtain ⟨r_2, h_1, hf⟩ := ob_at hf
  refine qnk7_isMark E hw (mk7_isMark E.hD h_1) nw8 dX6_addSight_1 ⟨Nat.le_of_ble_eq_true rfl, Nat.le_of_ble_eq_true rfl⟩ hl.1 (Nat.le_of_ble_eq_true rfl) ⟨Nat.le_refl 0, Nat.le_refl 0⟩ (fun H locs hw => ?_)
  refine lv_if_eq (tgt := 22) hx hb dX6_addSight_4 (by decide) (fun c_4 => ?_) (fun c_4 => ?_)
  · replace hf := ite_t hf c_4
    refine lv_iconst hx hb dX6_addSight_22 ic_m1 ?_
    cases hf
    exact retK_i E hw dX6_addSight_23
  · replace hf := ite_f hf c_4
    refine lv_iload_n hx hb dX6_addSight_7 rfl (lv_at hl 2 rfl) ?_
    obtain ⟨r_6, h_5, hf⟩ := ob_at hf
    refine qnk7_isJunction E hw (mk7_isJunction E.hD h_5) nw10 dX6_addSight_8 ⟨Nat.le_of_ble_eq_true rfl, Nat.le_of_ble_eq_true rfl⟩ hl.1 (Nat.le_of_ble_eq_true rfl) ⟨Nat.le_refl 0, Nat.le_refl 0⟩ (fun H locs hw => ?_)
    refine lv_if_eq (tgt := 22) hx hb dX6_addSight_11 (by decide) (fun c_8 => ?_) (fun c_8 => ?_)
    · replace hf := ite_t hf c_8
      refine lv_iconst hx hb dX6_addSight_22 ic_m1 ?_
      cases hf
      exact retK_i E hw dX6_addSight_23
    · replace hf := ite_f hf c_8
      refine lv_iload hx hb dX6_addSight_14 (lv_at hl 4 rfl) ?_
      obtain ⟨r_10, h_9, hf⟩ := ob_at hf
      refine qnk7_isCompany E hw (mk7_isCompany E.hD h_9) nw9 dX6_addSight_16 ⟨Nat.le_of_ble_eq_true rfl, Nat.le_of_ble_eq_true rfl⟩ hl.1 (Nat.le_of_ble_eq_true rfl) ⟨Nat.le_refl 0, Nat.le_refl 0⟩ (fun H locs hw => ?_)
      refine lv_if_ne (tgt := 24) hx hb dX6_addSight_19 (by decide) (fun c_12 => ?_) (fun c_12 => ?_)
      · replace hf := ite_f hf c_12
        refine lv_iload_n hx hb dX6_addSight_24 rfl (lv_at hl 3 rfl) ?_
        refine lv_iconst hx hb dX6_addSight_25 ic_0 ?_
        refine lv_sipush hx hb dX6_addSight_26 sp_999 ?_
        obtain ⟨r_14, h_13, hf⟩ := ob_at hf
        refine qnk7_isWithin E hw (mk7_isWithin E.hD h_13) nw11 dX6_addSight_29 ⟨Nat.le_of_ble_eq_true rfl, Nat.le_of_ble_eq_true rfl⟩ hl.1 (Nat.le_of_ble_eq_true rfl) ⟨Nat.le_refl 0, Nat.le_refl 0⟩ (fun H locs hw => ?_)
        refine lv_if_eq (tgt := 44) hx hb dX6_addSight_32 (by decide) (fun c_16 => ?_) (fun c_16 => ?_)
        · replace hf := ite_t hf c_16
          refine lv_iconst hx hb dX6_addSight_44 ic_m1 ?_
          cases hf
          exact retK_i E hw dX6_addSight_45
        · replace hf := ite_f hf c_16
          refine lv_aload_n hx hb dX6_addSight_35 rfl (lv_at hl 0 rfl) ?_
          refine gK_3_7 E hw (E.hts _ wl140) dX6_addSight_36 ?_
          refine lv_bipush hx hb dX6_addSight_39 bp_7 ?_
          refine lv_icmp_lt (tgt := 46) hx hb dX6_addSight_41 (by decide) (fun c_17 => ?_) (fun c_17 => ?_)
          · replace hf := ite_t hf c_17
            refine lv_aload_n hx hb dX6_addSight_46 rfl (lv_at hl 0 rfl) ?_
            refine gK_3_7 E hw (E.hts _ wl140) dX6_addSight_47 ?_
            refine lv_if_le (tgt := 70) hx hb dX6_addSight_50 (by decide) (fun c_18 => ?_) (fun c_18 => ?_)
            · replace hf := ite_t hf c_18
              exact k6_addSight_J70_j E S (x1) (x2) (x3) (x4) _ _ ls hf hw (lv_sub hl [0, 1, 2, 3, 4] rfl)
            · replace hf := ite_f hf c_18
              refine lv_iload_n hx hb dX6_addSight_53 rfl (lv_at hl 3 rfl) ?_
              refine lv_aload_n hx hb dX6_addSight_54 rfl (lv_at hl 0 rfl) ?_
              refine gK_3_5 E hw (E.hts _ wl135) dX6_addSight_55 ?_
              refine lv_aload_n hx hb dX6_addSight_58 rfl (lv_at hl 0 rfl) ?_
              refine gK_3_7 E hw (E.hts _ wl140) dX6_addSight_59 ?_
              refine lv_iconst hx hb dX6_addSight_62 ic_1 ?_
              refine lv_isub hx hb dX6_addSight_63 ?_
              obtain ⟨h_v_24, hf⟩ := rdA_at hf
              refine lK_20 E hw h_v_24 dX6_addSight_64 (fun v_24 ev_24 => ?_)
              replace hf := hf v_24 ev_24
              refine lv_icmp_ge (tgt := 70) hx hb dX6_addSight_65 (by decide) (fun c_25 => ?_) (fun c_25 => ?_)
              · replace hf := ite_t hf c_25
                exact k6_addSight_J70_j E S (x1) (x2) (x3) (x4) _ _ ls hf hw (lv_sub hl [0, 1, 2, 3, 4] rfl)
              · replace hf := ite_f hf c_25
                refine lv_iconst hx hb dX6_addSight_68 ic_m1 ?_
                cases hf
                exact retK_i E hw dX6_addSight_69
          · replace hf := ite_f hf c_17
            refine lv_iconst hx hb dX6_addSight_44 ic_m1 ?_
            cases hf
            exact retK_i E hw dX6_addSight_45
      · replace hf := ite_t hf c_12
        refine lv_iconst hx hb dX6_addSight_22 ic_m1 ?_
        cases hf
        exact retK_i E hw dX6_addSight_23
theorem qk6_addSight {p : Program} {l : Launch} {e : Env} {R : Room} {s : State} {m : MethodId} {args : Array Value} {below : List Frame} {meth : Method} {c : Code} {H : Heap} {locs : List Loc} {cells slots : Nat} {Q : State → Prop} {cc : ByteArray} {pc : Nat} {ls : Array Slot} {rest : List Value} {D : va_G} {a : Nat → Nat} {g : Nat → ClassId} {nL : Nat} {own : String} {ret : Option FieldType} {S S1 : SS} {k : Nat} {x1 x2 x3 x4 : Int32} {r : Int32} (E : EK p s m args meth c D a g cc nL own ret) (hw : WK D a g S s H locs) (hM : Met l yX6_addSight (wsm yX6_addSight cX6_addSight 5 (some .int)) (RM k) (PK D a g S [.ref (a 3), .int x1, .int x2, .int x3, .int x4]) (QK D a g (some (.int r)) S1) 0 0 (AK a)) {idx : Nat} (hlk : Cond.methodLink own idx yX6_addSight ∈ wd) (hdg : decode cc pc = .ok (.invokevirtual idx, 3)) (hR : k + 1 ≤ R.frames ∧ 8 + (5 + 11) + 64 * k ≤ R.locals) (hls : ls.size = nL) (hrest : (rest.map fun v => v.category).sum ≤ 8) (hcs : cells ≤ R.cells ∧ slots ≤ R.slots) (kk : ∀ (H1 : Heap) (locs1 : List Loc), WK D a g S1 s H1 locs1 → W p l e R s m args below meth c H1 locs1 cells slots Q (F0 m (pc + 3) ls (.int r :: rest))) : W p l e R s m args below meth c H locs cells slots Q (F0 m pc ls (.int x4 :: .int x3 :: .int x2 :: .int x1 :: .ref (a 3) :: rest)) :=
  callK_i hw (va_runV (As := [.int x1, .int x2, .int x3, .int x4]) (rest := rest) ⟨E.hx, E.hb, E.hml, E.hown, E.hts⟩ hM ⟨cb_of 4 E.hts wl411 wl39 hlk (by decide +kernel) hR, E.hts _ wl409, E.hts _ wl410⟩ ⟨PK_blind, va_recv E.hK hw.1 (ci := 6) (q0 := 3) rfl rfl, PK_pre E.hK E.hN hw.1⟩ rfl rfl hls rfl (lv_room hrest) hdg hcs) kk
/-! X7_see -/
def k7_see (F : Nat) (S : SS) (x1 : Int32) (x2 : Int32) (x3 : Int32) (x4 : Int32) : Option (Int32 × SS) :=
  ob2 (k6_addSight F S (x1) (x2) (x3) (x4)) fun r_2 S_3 => bnd (r_2) fun x5_4 => if x5_4 = ((-1 : Int32)) then (some (x5_4, S_3)) else ((k2_forget F S_3 ).bind fun S_8 => some (x5_4, S_8))
set_option maxRecDepth 100000 in
set_option maxHeartbeats 4000000 in
theorem mk7_see {l : Launch} {D : va_G} {a : Nat → Nat} {g : Nat → ClassId} (hD : ∀ S, va_D (AK a) (wK a g S)) {F : Nat} {S : SS} {x1 x2 x3 x4 : Int32} {out : (Int32 × SS)} (hf : k7_see F S x1 x2 x3 x4 = some out) : Met l yX7_see (wsm yX7_see cX7_see 6 (some .int)) (RM 4) (PK D a g S [.ref (a 0), .int x1, .int x2, .int x3, .int x4]) (QK D a g (some (.int out.1)) out.2) 0 0 (AK a) := by
  refine Met.ofW (cc := cX7_see) (maxL := 6) (ret := (some .int)) (by decide) rfl ?_
  intro p e s m args below meth c s₁ B hml hv
  obtain ⟨rfl, hP, hK, hN⟩ := hv
  have hts := atoms_spec (ws := wsm yX7_see cX7_see 6 (some .int)) B.pre
  have E : EK p s m _ meth c D a g cX7_see 6 RX7 (some .int) := ⟨B.exec, B.bytes, B.returns, hml, findClass_of_methodNamed B.named, fun w h => hts w (List.mem_cons_of_mem _ h), hK, hN, hD, B.notSynchronized⟩
  have hx := E.hx
  have hb := E.hb
  have hw : WK D a g S s s.heap [] := ⟨hP, va_S.rf⟩
  have hl := lv_entry ([.ref (a 0), .int x1, .int x2, .int x3, .int x4]) (n := 6) (Nat.le_of_ble_eq_true rfl)
  rw [lg_entry_eq]
  generalize (lg_sl ([.ref (a 0), .int x1, .int x2, .int x3, .int x4]) ++ List.replicate (6 - (lg_sl ([.ref (a 0), .int x1, .int x2, .int x3, .int x4])).length) Slot.unset).toArray = ls at hl ⊢
  have hl : lv_has ls 6 [(0, .ref (a 0)), (1, .int (x1)), (2, .int (x2)), (3, .int (x3)), (4, .int (x4))] := hl
  show W p l e (RM 4) s m _ below meth c s.heap [] 0 0 (MQ below (QK D a g (some (.int out.1)) out.2) _ s 0 0 (AK a)) (F0 m 0 ls [])
  unfold k7_see at hf
  refine lv_aload_n hx hb dX7_see_0 rfl (lv_at hl 0 rfl) ?_
  refine gK_0_2 E hw (E.hts _ wl274) dX7_see_1 ?_
  refine lv_iload_n hx hb dX7_see_4 rfl (lv_at hl 1 rfl) ?_
  refine lv_iload_n hx hb dX7_see_5 rfl (lv_at hl 2 rfl) ?_
  refine lv_iload_n hx hb dX7_see_6 rfl (lv_at hl 3 rfl) ?_
  refine lv_iload hx hb dX7_see_7 (lv_at hl 4 rfl) ?_
  obtain ⟨r_2, S_3, h_1, hf⟩ := ob2_at hf
  refine qk6_addSight E hw (mk6_addSight E.hD h_1) wl408 dX7_see_9 ⟨Nat.le_of_ble_eq_true rfl, Nat.le_of_ble_eq_true rfl⟩ hl.1 (Nat.le_of_ble_eq_true rfl) ⟨Nat.le_refl 0, Nat.le_refl 0⟩ (fun H locs hw => ?_)
  refine lv_topi (fun x5_4 ex5_4 => ?_)
  replace hf := bnd_at hf ex5_4
  refine lv_istore (lv' := [(5, .int (x5_4)), (0, .ref (a 0)), (1, .int (x1)), (2, .int (x2)), (3, .int (x3)), (4, .int (x4))]) hx hb dX7_see_12 hl (by decide) rfl (fun ls hl => ?_)
  refine lv_iload hx hb dX7_see_14 (lv_at hl 0 rfl) ?_
  refine lv_iconst hx hb dX7_see_16 ic_m1 ?_
  refine lv_icmp_eq (tgt := 27) hx hb dX7_see_17 (by decide) (fun c_5 => ?_) (fun c_5 => ?_)
  · replace hf := ite_t hf c_5
    refine lv_iload hx hb dX7_see_27 (lv_at hl 0 rfl) ?_
    cases hf
    exact retK_i E hw dX7_see_29
  · replace hf := ite_f hf c_5
    refine lv_aload_n hx hb dX7_see_20 rfl (lv_at hl 1 rfl) ?_
    refine gK_0_3 E hw (E.hts _ wl275) dX7_see_21 ?_
    obtain ⟨S_8, h_6, hf⟩ := ob_at hf
    refine qk2_forget E hw (mk2_forget E.hD h_6) wl327 dX7_see_24 ⟨Nat.le_of_ble_eq_true rfl, Nat.le_of_ble_eq_true rfl⟩ hl.1 (Nat.le_of_ble_eq_true rfl) ⟨Nat.le_refl 0, Nat.le_refl 0⟩ (fun H locs hw => ?_)
    refine lv_iload hx hb dX7_see_27 (lv_at hl 0 rfl) ?_
    cases hf
    exact retK_i E hw dX7_see_29
theorem qk7_see {p : Program} {l : Launch} {e : Env} {R : Room} {s : State} {m : MethodId} {args : Array Value} {below : List Frame} {meth : Method} {c : Code} {H : Heap} {locs : List Loc} {cells slots : Nat} {Q : State → Prop} {cc : ByteArray} {pc : Nat} {ls : Array Slot} {rest : List Value} {D : va_G} {a : Nat → Nat} {g : Nat → ClassId} {nL : Nat} {own : String} {ret : Option FieldType} {S S1 : SS} {k : Nat} {x1 x2 x3 x4 : Int32} {r : Int32} (E : EK p s m args meth c D a g cc nL own ret) (hw : WK D a g S s H locs) (hM : Met l yX7_see (wsm yX7_see cX7_see 6 (some .int)) (RM k) (PK D a g S [.ref (a 0), .int x1, .int x2, .int x3, .int x4]) (QK D a g (some (.int r)) S1) 0 0 (AK a)) {idx : Nat} (hlk : Cond.methodLink own idx yX7_see ∈ wd) (hdg : decode cc pc = .ok (.invokevirtual idx, 3)) (hR : k + 1 ≤ R.frames ∧ 8 + (6 + 11) + 64 * k ≤ R.locals) (hls : ls.size = nL) (hrest : (rest.map fun v => v.category).sum ≤ 8) (hcs : cells ≤ R.cells ∧ slots ≤ R.slots) (kk : ∀ (H1 : Heap) (locs1 : List Loc), WK D a g S1 s H1 locs1 → W p l e R s m args below meth c H1 locs1 cells slots Q (F0 m (pc + 3) ls (.int r :: rest))) : W p l e R s m args below meth c H locs cells slots Q (F0 m pc ls (.int x4 :: .int x3 :: .int x2 :: .int x1 :: .ref (a 0) :: rest)) :=
  callK_i hw (va_runV (As := [.int x1, .int x2, .int x3, .int x4]) (rest := rest) ⟨E.hx, E.hb, E.hml, E.hown, E.hts⟩ hM ⟨cb_of 4 E.hts wl407 wl35 hlk (by decide +kernel) hR, E.hts _ wl405, E.hts _ wl406⟩ ⟨PK_blind, va_recv E.hK hw.1 (ci := 7) (q0 := 0) rfl rfl, PK_pre E.hK E.hN hw.1⟩ rfl rfl hls rfl (lv_room hrest) hdg hcs) kk
/-! X6_difference -/
def k6_difference_B19_J73 (F : Nat) (S : SS) (rec19 : Int32 → Int32 → Int32 → Int32 → Int32 → Int32 → Int32 → Option Int32) (k101 : Int32 → Int32 → Option Int32) (x2 : Int32) (x3 : Int32) (x6 : Int32) (x7 : Int32) (x8 : Int32) (x9 : Int32) (x10 : Int32) : Option Int32 :=
  bnd (x9) fun x4_12 => bnd (x10) fun x5_13 => bnd (x6 / ((10 : Int32))) fun x6_14 => bnd (x7 / ((10 : Int32))) fun x7_15 => bnd (x8 + (1)) fun x8_16 => rec19 (x2) (x3) (x4_12) (x5_13) (x6_14) (x7_15) (x8_16)
def k6_difference_B19_J72 (F : Nat) (S : SS) (rec19 : Int32 → Int32 → Int32 → Int32 → Int32 → Int32 → Int32 → Option Int32) (k101 : Int32 → Int32 → Option Int32) (x2 : Int32) (x6 : Int32) (x7 : Int32) (x8 : Int32) (x9 : Int32) (x10 : Int32) (s0 : Int32) : Option Int32 :=
  bnd (s0) fun x3_19 => k6_difference_B19_J73 F S rec19 k101 (x2) (x3_19) (x6) (x7) (x8) (x9) (x10)
def k6_difference_B19_J67 (F : Nat) (S : SS) (rec19 : Int32 → Int32 → Int32 → Int32 → Int32 → Int32 → Int32 → Option Int32) (k101 : Int32 → Int32 → Option Int32) (x2 : Int32) (x6 : Int32) (x7 : Int32) (x8 : Int32) (x9 : Int32) (x10 : Int32) : Option Int32 :=
  k6_difference_B19_J72 F S rec19 k101 (x2) (x6) (x7) (x8) (x9) (x10) ((1 : Int32))
def k6_difference_B19_J71 (F : Nat) (S : SS) (rec19 : Int32 → Int32 → Int32 → Int32 → Int32 → Int32 → Int32 → Option Int32) (k101 : Int32 → Int32 → Option Int32) (x2 : Int32) (x6 : Int32) (x7 : Int32) (x8 : Int32) (x9 : Int32) (x10 : Int32) : Option Int32 :=
  k6_difference_B19_J72 F S rec19 k101 (x2) (x6) (x7) (x8) (x9) (x10) ((0 : Int32))
def k6_difference_B19 (F : Nat) (S : SS) (rec19 : Int32 → Int32 → Int32 → Int32 → Int32 → Int32 → Int32 → Option Int32) (k101 : Int32 → Int32 → Option Int32) (x2 : Int32) (x3 : Int32) (x4 : Int32) (x5 : Int32) (x6 : Int32) (x7 : Int32) (x8 : Int32) : Option Int32 :=
  if ((5 : Int32)) ≤ x8 then (k101 (x2) (x3)) else (bnd (x6 - x6 / ((10 : Int32)) * ((10 : Int32))) fun x9_9 => bnd (x7 - x7 / ((10 : Int32)) * ((10 : Int32))) fun x10_10 => if x9_9 = x10_10 then (k6_difference_B19_J73 F S rec19 k101 (x2) (x3) (x6) (x7) (x8) (x9_9) (x10_10)) else (bnd (x2 + (1)) fun x2_17 => if x3 = 0 then (if x9_9 = x5 then (if x10_10 = x4 then (k6_difference_B19_J67 F S rec19 k101 (x2_17) (x6) (x7) (x8) (x9_9) (x10_10)) else (k6_difference_B19_J71 F S rec19 k101 (x2_17) (x6) (x7) (x8) (x9_9) (x10_10))) else (k6_difference_B19_J71 F S rec19 k101 (x2_17) (x6) (x7) (x8) (x9_9) (x10_10))) else (k6_difference_B19_J67 F S rec19 k101 (x2_17) (x6) (x7) (x8) (x9_9) (x10_10))))
def k6_difference_J112 (F : Nat) (S : SS) (x2 : Int32) : Option Int32 :=
  if x2 ≤ ((2 : Int32)) then (some (x2)) else (some ((9 : Int32)))
def k6_difference (F : Nat) (S : SS) (x0 : Int32) (x1 : Int32) : Option Int32 :=
  bnd ((0 : Int32)) fun x2_1 => bnd ((0 : Int32)) fun x3_2 => bnd ((-1 : Int32)) fun x4_3 => bnd ((-1 : Int32)) fun x5_4 => bnd (x0) fun x6_5 => bnd (x1) fun x7_6 => bnd ((0 : Int32)) fun x8_7 => lpN (fun _ _ _ _ _ _ _ => none) (fun rec19 => k6_difference_B19 F S rec19 (fun x2_22 x3_22 => if x2_22 = ((2 : Int32)) then (if x3_22 = 0 then (k6_difference_J112 F S (x2_22)) else (some ((1 : Int32)))) else (k6_difference_J112 F S (x2_22)))) F (x2_1) (x3_2) (x4_3) (x5_4) (x6_5) (x7_6) (x8_7)
set_option maxRecDepth 100000 in
set_option maxHeartbeats 4000000 in
theorem k6_difference_B19_J73_j {p : Program} {l : Launch} {e : Env} {s : State} {m : MethodId} {args : Array Value} {below : List Frame} {meth : Method} {c : Code} {D : va_G} {a : Nat → Nat} {g : Nat → ClassId} (E : EK p s m args meth c D a g cX6_difference 11 RX6 (some .int)) {F : Nat}  (S : SS) {rec19 : Int32 → Int32 → Int32 → Int32 → Int32 → Int32 → Int32 → Option Int32} {k101 : Int32 → Int32 → Option Int32} {out : Int32} (hrec19 : ∀ (x2 : Int32) (x3 : Int32) (x4 : Int32) (x5 : Int32) (x6 : Int32) (x7 : Int32) (x8 : Int32) (H : Heap) (locs : List Loc) (ls : Array Slot), rec19 x2 x3 x4 x5 x6 x7 x8 = some out → WK D a g S s H locs → lv_has ls 11 [(2, .int (x2)), (3, .int (x3)), (4, .int (x4)), (5, .int (x5)), (6, .int (x6)), (7, .int (x7)), (8, .int (x8))] → W p l e (RM 1) s m args below meth c H locs 0 0 (MQ below (QK D a g (some (.int out)) S) args s 0 0 (AK a)) (F0 m 19 ls [])) (hk101 : ∀ (x2 : Int32) (x3 : Int32) (H : Heap) (locs : List Loc) (ls : Array Slot), k101 x2 x3 = some out → WK D a g S s H locs → lv_has ls 11 [(2, .int (x2)), (3, .int (x3))] → W p l e (RM 1) s m args below meth c H locs 0 0 (MQ below (QK D a g (some (.int out)) S) args s 0 0 (AK a)) (F0 m 101 ls [])) (x2 : Int32) (x3 : Int32) (x6 : Int32) (x7 : Int32) (x8 : Int32) (x9 : Int32) (x10 : Int32) (H : Heap) (locs : List Loc) (ls : Array Slot) (hf : k6_difference_B19_J73 F S rec19 k101 x2 x3 x6 x7 x8 x9 x10 = some out) (hw : WK D a g S s H locs) (hl : lv_has ls 11 [(2, .int (x2)), (3, .int (x3)), (6, .int (x6)), (7, .int (x7)), (8, .int (x8)), (9, .int (x9)), (10, .int (x10))]) : W p l e (RM 1) s m args below meth c H locs 0 0 (MQ below (QK D a g (some (.int out)) S) args s 0 0 (AK a)) (F0 m 73 ls []) := by
  have hx := E.hx
  have hb := E.hb
  unfold k6_difference_B19_J73 at hf
  refine lv_iload hx hb dX6_difference_73 (lv_at hl 5 rfl) ?_
  refine lv_topi (fun x4_12 ex4_12 => ?_)
  replace hf := bnd_at hf ex4_12
  refine lv_istore (lv' := [(4, .int (x4_12)), (2, .int (x2)), (3, .int (x3)), (6, .int (x6)), (7, .int (x7)), (8, .int (x8)), (9, .int (x9)), (10, .int (x10))]) hx hb dX6_difference_75 hl (by decide) rfl (fun ls hl => ?_)
  refine lv_iload hx hb dX6_difference_77 (lv_at hl 7 rfl) ?_
  refine lv_topi (fun x5_13 ex5_13 => ?_)
  replace hf := bnd_at hf ex5_13
  refine lv_istore (lv' := [(5, .int (x5_13)), (4, .int (x4_12)), (2, .int (x2)), (3, .int (x3)), (6, .int (x6)), (7, .int (x7)), (8, .int (x8)), (9, .int (x9)), (10, .int (x10))]) hx hb dX6_difference_79 hl (by decide) rfl (fun ls hl => ?_)
  refine lv_iload hx hb dX6_difference_81 (lv_at hl 4 rfl) ?_
  refine lv_bipush hx hb dX6_difference_83 bp_10 ?_
  refine lv_idiv hx hb dX6_difference_85 (by decide) ?_
  refine lv_topi (fun x6_14 ex6_14 => ?_)
  replace hf := bnd_at hf ex6_14
  refine lv_istore (lv' := [(6, .int (x6_14)), (5, .int (x5_13)), (4, .int (x4_12)), (2, .int (x2)), (3, .int (x3)), (7, .int (x7)), (8, .int (x8)), (9, .int (x9)), (10, .int (x10))]) hx hb dX6_difference_86 hl (by decide) rfl (fun ls hl => ?_)
  refine lv_iload hx hb dX6_difference_88 (lv_at hl 5 rfl) ?_
  refine lv_bipush hx hb dX6_difference_90 bp_10 ?_
  refine lv_idiv hx hb dX6_difference_92 (by decide) ?_
  refine lv_topi (fun x7_15 ex7_15 => ?_)
  replace hf := bnd_at hf ex7_15
  refine lv_istore (lv' := [(7, .int (x7_15)), (6, .int (x6_14)), (5, .int (x5_13)), (4, .int (x4_12)), (2, .int (x2)), (3, .int (x3)), (8, .int (x8)), (9, .int (x9)), (10, .int (x10))]) hx hb dX6_difference_93 hl (by decide) rfl (fun ls hl => ?_)
  obtain ⟨x8_16, ex8_16⟩ : ∃ y : Int32, y = x8 + (1) := ⟨_, rfl⟩
  replace hf := bnd_at hf ex8_16
  refine lv_iinc (v := x8_16) (lv' := [(8, .int (x8_16)), (7, .int (x7_15)), (6, .int (x6_14)), (5, .int (x5_13)), (4, .int (x4_12)), (2, .int (x2)), (3, .int (x3)), (9, .int (x9)), (10, .int (x10))]) hx hb dX6_difference_95 hl (k := 6) rfl (by rw [ex8_16]; rfl) (by decide) rfl (fun ls hl => ?_)
  refine lv_goto (tgt := 19) hx hb dX6_difference_98 (by decide) ?_
  exact hrec19 (x2) (x3) (x4_12) (x5_13) (x6_14) (x7_15) (x8_16) _ _ ls hf hw (lv_sub hl [5, 6, 4, 3, 2, 1, 0] rfl)
set_option maxRecDepth 100000 in
set_option maxHeartbeats 4000000 in
theorem k6_difference_B19_J72_j {p : Program} {l : Launch} {e : Env} {s : State} {m : MethodId} {args : Array Value} {below : List Frame} {meth : Method} {c : Code} {D : va_G} {a : Nat → Nat} {g : Nat → ClassId} (E : EK p s m args meth c D a g cX6_difference 11 RX6 (some .int)) {F : Nat}  (S : SS) {rec19 : Int32 → Int32 → Int32 → Int32 → Int32 → Int32 → Int32 → Option Int32} {k101 : Int32 → Int32 → Option Int32} {out : Int32} (hrec19 : ∀ (x2 : Int32) (x3 : Int32) (x4 : Int32) (x5 : Int32) (x6 : Int32) (x7 : Int32) (x8 : Int32) (H : Heap) (locs : List Loc) (ls : Array Slot), rec19 x2 x3 x4 x5 x6 x7 x8 = some out → WK D a g S s H locs → lv_has ls 11 [(2, .int (x2)), (3, .int (x3)), (4, .int (x4)), (5, .int (x5)), (6, .int (x6)), (7, .int (x7)), (8, .int (x8))] → W p l e (RM 1) s m args below meth c H locs 0 0 (MQ below (QK D a g (some (.int out)) S) args s 0 0 (AK a)) (F0 m 19 ls [])) (hk101 : ∀ (x2 : Int32) (x3 : Int32) (H : Heap) (locs : List Loc) (ls : Array Slot), k101 x2 x3 = some out → WK D a g S s H locs → lv_has ls 11 [(2, .int (x2)), (3, .int (x3))] → W p l e (RM 1) s m args below meth c H locs 0 0 (MQ below (QK D a g (some (.int out)) S) args s 0 0 (AK a)) (F0 m 101 ls [])) (x2 : Int32) (x6 : Int32) (x7 : Int32) (x8 : Int32) (x9 : Int32) (x10 : Int32) (s0 : Int32) (H : Heap) (locs : List Loc) (ls : Array Slot) (hf : k6_difference_B19_J72 F S rec19 k101 x2 x6 x7 x8 x9 x10 s0 = some out) (hw : WK D a g S s H locs) (hl : lv_has ls 11 [(2, .int (x2)), (6, .int (x6)), (7, .int (x7)), (8, .int (x8)), (9, .int (x9)), (10, .int (x10))]) : W p l e (RM 1) s m args below meth c H locs 0 0 (MQ below (QK D a g (some (.int out)) S) args s 0 0 (AK a)) (F0 m 72 ls [.int (s0)]) := by
  have hx := E.hx
  have hb := E.hb
  unfold k6_difference_B19_J72 at hf
  refine lv_topi (fun x3_19 ex3_19 => ?_)
  replace hf := bnd_at hf ex3_19
  refine lv_istore_n (lv' := [(3, .int (x3_19)), (2, .int (x2)), (6, .int (x6)), (7, .int (x7)), (8, .int (x8)), (9, .int (x9)), (10, .int (x10))]) hx hb dX6_difference_72 rfl hl (by decide) rfl (fun ls hl => ?_)
  exact k6_difference_B19_J73_j E S hrec19 hk101 (x2) (x3_19) (x6) (x7) (x8) (x9) (x10) _ _ ls hf hw (lv_sub hl [1, 0, 2, 3, 4, 5, 6] rfl)
set_option maxRecDepth 100000 in
set_option maxHeartbeats 4000000 in
theorem k6_difference_B19_J67_j {p : Program} {l : Launch} {e : Env} {s : State} {m : MethodId} {args : Array Value} {below : List Frame} {meth : Method} {c : Code} {D : va_G} {a : Nat → Nat} {g : Nat → ClassId} (E : EK p s m args meth c D a g cX6_difference 11 RX6 (some .int)) {F : Nat}  (S : SS) {rec19 : Int32 → Int32 → Int32 → Int32 → Int32 → Int32 → Int32 → Option Int32} {k101 : Int32 → Int32 → Option Int32} {out : Int32} (hrec19 : ∀ (x2 : Int32) (x3 : Int32) (x4 : Int32) (x5 : Int32) (x6 : Int32) (x7 : Int32) (x8 : Int32) (H : Heap) (locs : List Loc) (ls : Array Slot), rec19 x2 x3 x4 x5 x6 x7 x8 = some out → WK D a g S s H locs → lv_has ls 11 [(2, .int (x2)), (3, .int (x3)), (4, .int (x4)), (5, .int (x5)), (6, .int (x6)), (7, .int (x7)), (8, .int (x8))] → W p l e (RM 1) s m args below meth c H locs 0 0 (MQ below (QK D a g (some (.int out)) S) args s 0 0 (AK a)) (F0 m 19 ls [])) (hk101 : ∀ (x2 : Int32) (x3 : Int32) (H : Heap) (locs : List Loc) (ls : Array Slot), k101 x2 x3 = some out → WK D a g S s H locs → lv_has ls 11 [(2, .int (x2)), (3, .int (x3))] → W p l e (RM 1) s m args below meth c H locs 0 0 (MQ below (QK D a g (some (.int out)) S) args s 0 0 (AK a)) (F0 m 101 ls [])) (x2 : Int32) (x6 : Int32) (x7 : Int32) (x8 : Int32) (x9 : Int32) (x10 : Int32) (H : Heap) (locs : List Loc) (ls : Array Slot) (hf : k6_difference_B19_J67 F S rec19 k101 x2 x6 x7 x8 x9 x10 = some out) (hw : WK D a g S s H locs) (hl : lv_has ls 11 [(2, .int (x2)), (6, .int (x6)), (7, .int (x7)), (8, .int (x8)), (9, .int (x9)), (10, .int (x10))]) : W p l e (RM 1) s m args below meth c H locs 0 0 (MQ below (QK D a g (some (.int out)) S) args s 0 0 (AK a)) (F0 m 67 ls []) := by
  have hx := E.hx
  have hb := E.hb
  unfold k6_difference_B19_J67 at hf
  refine lv_iconst hx hb dX6_difference_67 ic_1 ?_
  refine lv_goto (tgt := 72) hx hb dX6_difference_68 (by decide) ?_
  exact k6_difference_B19_J72_j E S hrec19 hk101 (x2) (x6) (x7) (x8) (x9) (x10) ((1 : Int32)) _ _ ls hf hw (lv_sub hl [0, 1, 2, 3, 4, 5] rfl)
set_option maxRecDepth 100000 in
set_option maxHeartbeats 4000000 in
theorem k6_difference_B19_J71_j {p : Program} {l : Launch} {e : Env} {s : State} {m : MethodId} {args : Array Value} {below : List Frame} {meth : Method} {c : Code} {D : va_G} {a : Nat → Nat} {g : Nat → ClassId} (E : EK p s m args meth c D a g cX6_difference 11 RX6 (some .int)) {F : Nat}  (S : SS) {rec19 : Int32 → Int32 → Int32 → Int32 → Int32 → Int32 → Int32 → Option Int32} {k101 : Int32 → Int32 → Option Int32} {out : Int32} (hrec19 : ∀ (x2 : Int32) (x3 : Int32) (x4 : Int32) (x5 : Int32) (x6 : Int32) (x7 : Int32) (x8 : Int32) (H : Heap) (locs : List Loc) (ls : Array Slot), rec19 x2 x3 x4 x5 x6 x7 x8 = some out → WK D a g S s H locs → lv_has ls 11 [(2, .int (x2)), (3, .int (x3)), (4, .int (x4)), (5, .int (x5)), (6, .int (x6)), (7, .int (x7)), (8, .int (x8))] → W p l e (RM 1) s m args below meth c H locs 0 0 (MQ below (QK D a g (some (.int out)) S) args s 0 0 (AK a)) (F0 m 19 ls [])) (hk101 : ∀ (x2 : Int32) (x3 : Int32) (H : Heap) (locs : List Loc) (ls : Array Slot), k101 x2 x3 = some out → WK D a g S s H locs → lv_has ls 11 [(2, .int (x2)), (3, .int (x3))] → W p l e (RM 1) s m args below meth c H locs 0 0 (MQ below (QK D a g (some (.int out)) S) args s 0 0 (AK a)) (F0 m 101 ls [])) (x2 : Int32) (x6 : Int32) (x7 : Int32) (x8 : Int32) (x9 : Int32) (x10 : Int32) (H : Heap) (locs : List Loc) (ls : Array Slot) (hf : k6_difference_B19_J71 F S rec19 k101 x2 x6 x7 x8 x9 x10 = some out) (hw : WK D a g S s H locs) (hl : lv_has ls 11 [(2, .int (x2)), (6, .int (x6)), (7, .int (x7)), (8, .int (x8)), (9, .int (x9)), (10, .int (x10))]) : W p l e (RM 1) s m args below meth c H locs 0 0 (MQ below (QK D a g (some (.int out)) S) args s 0 0 (AK a)) (F0 m 71 ls []) := by
  have hx := E.hx
  have hb := E.hb
  unfold k6_difference_B19_J71 at hf
  refine lv_iconst hx hb dX6_difference_71 ic_0 ?_
  exact k6_difference_B19_J72_j E S hrec19 hk101 (x2) (x6) (x7) (x8) (x9) (x10) ((0 : Int32)) _ _ ls hf hw (lv_sub hl [0, 1, 2, 3, 4, 5] rfl)
set_option maxRecDepth 100000 in
set_option maxHeartbeats 4000000 in
theorem k6_difference_b19 {p : Program} {l : Launch} {e : Env} {s : State} {m : MethodId} {args : Array Value} {below : List Frame} {meth : Method} {c : Code} {D : va_G} {a : Nat → Nat} {g : Nat → ClassId} (E : EK p s m args meth c D a g cX6_difference 11 RX6 (some .int)) {F : Nat}  (S : SS) {rec19 : Int32 → Int32 → Int32 → Int32 → Int32 → Int32 → Int32 → Option Int32} {k101 : Int32 → Int32 → Option Int32} {out : Int32} (hrec19 : ∀ (x2 : Int32) (x3 : Int32) (x4 : Int32) (x5 : Int32) (x6 : Int32) (x7 : Int32) (x8 : Int32) (H : Heap) (locs : List Loc) (ls : Array Slot), rec19 x2 x3 x4 x5 x6 x7 x8 = some out → WK D a g S s H locs → lv_has ls 11 [(2, .int (x2)), (3, .int (x3)), (4, .int (x4)), (5, .int (x5)), (6, .int (x6)), (7, .int (x7)), (8, .int (x8))] → W p l e (RM 1) s m args below meth c H locs 0 0 (MQ below (QK D a g (some (.int out)) S) args s 0 0 (AK a)) (F0 m 19 ls [])) (hk101 : ∀ (x2 : Int32) (x3 : Int32) (H : Heap) (locs : List Loc) (ls : Array Slot), k101 x2 x3 = some out → WK D a g S s H locs → lv_has ls 11 [(2, .int (x2)), (3, .int (x3))] → W p l e (RM 1) s m args below meth c H locs 0 0 (MQ below (QK D a g (some (.int out)) S) args s 0 0 (AK a)) (F0 m 101 ls [])) (x2 : Int32) (x3 : Int32) (x4 : Int32) (x5 : Int32) (x6 : Int32) (x7 : Int32) (x8 : Int32) (H : Heap) (locs : List Loc) (ls : Array Slot) (hf : k6_difference_B19 F S rec19 k101 x2 x3 x4 x5 x6 x7 x8 = some out) (hw : WK D a g S s H locs) (hl : lv_has ls 11 [(2, .int (x2)), (3, .int (x3)), (4, .int (x4)), (5, .int (x5)), (6, .int (x6)), (7, .int (x7)), (8, .int (x8))]) : W p l e (RM 1) s m args below meth c H locs 0 0 (MQ below (QK D a g (some (.int out)) S) args s 0 0 (AK a)) (F0 m 19 ls []) := by
  have hx := E.hx
  have hb := E.hb
  unfold k6_difference_B19 at hf
  refine lv_iload hx hb dX6_difference_19 (lv_at hl 6 rfl) ?_
  refine lv_iconst hx hb dX6_difference_21 ic_5 ?_
  refine lv_icmp_ge (tgt := 101) hx hb dX6_difference_22 (by decide) (fun c_8 => ?_) (fun c_8 => ?_)
  · replace hf := ite_t hf c_8
    exact hk101 (x2) (x3) _ _ ls hf hw (lv_sub hl [0, 1] rfl)
  · replace hf := ite_f hf c_8
    refine lv_iload hx hb dX6_difference_25 (lv_at hl 4 rfl) ?_
    refine lv_bipush hx hb dX6_difference_27 bp_10 ?_
    refine lv_irem hx hb dX6_difference_29 (by decide) ?_
    refine lv_topi (fun x9_9 ex9_9 => ?_)
    replace hf := bnd_at hf ex9_9
    refine lv_istore (lv' := [(9, .int (x9_9)), (2, .int (x2)), (3, .int (x3)), (4, .int (x4)), (5, .int (x5)), (6, .int (x6)), (7, .int (x7)), (8, .int (x8))]) hx hb dX6_difference_30 hl (by decide) rfl (fun ls hl => ?_)
    refine lv_iload hx hb dX6_difference_32 (lv_at hl 6 rfl) ?_
    refine lv_bipush hx hb dX6_difference_34 bp_10 ?_
    refine lv_irem hx hb dX6_difference_36 (by decide) ?_
    refine lv_topi (fun x10_10 ex10_10 => ?_)
    replace hf := bnd_at hf ex10_10
    refine lv_istore (lv' := [(10, .int (x10_10)), (9, .int (x9_9)), (2, .int (x2)), (3, .int (x3)), (4, .int (x4)), (5, .int (x5)), (6, .int (x6)), (7, .int (x7)), (8, .int (x8))]) hx hb dX6_difference_37 hl (by decide) rfl (fun ls hl => ?_)
    refine lv_iload hx hb dX6_difference_39 (lv_at hl 1 rfl) ?_
    refine lv_iload hx hb dX6_difference_41 (lv_at hl 0 rfl) ?_
    refine lv_icmp_eq (tgt := 73) hx hb dX6_difference_43 (by decide) (fun c_11 => ?_) (fun c_11 => ?_)
    · replace hf := ite_t hf c_11
      exact k6_difference_B19_J73_j E S hrec19 hk101 (x2) (x3) (x6) (x7) (x8) (x9_9) (x10_10) _ _ ls hf hw (lv_sub hl [2, 3, 6, 7, 8, 1, 0] rfl)
    · replace hf := ite_f hf c_11
      obtain ⟨x2_17, ex2_17⟩ : ∃ y : Int32, y = x2 + (1) := ⟨_, rfl⟩
      replace hf := bnd_at hf ex2_17
      refine lv_iinc (v := x2_17) (lv' := [(2, .int (x2_17)), (10, .int (x10_10)), (9, .int (x9_9)), (3, .int (x3)), (4, .int (x4)), (5, .int (x5)), (6, .int (x6)), (7, .int (x7)), (8, .int (x8))]) hx hb dX6_difference_46 hl (k := 2) rfl (by rw [ex2_17]; rfl) (by decide) rfl (fun ls hl => ?_)
      refine lv_iload_n hx hb dX6_difference_49 rfl (lv_at hl 3 rfl) ?_
      refine lv_if_ne (tgt := 67) hx hb dX6_difference_50 (by decide) (fun c_18 => ?_) (fun c_18 => ?_)
      · replace hf := ite_f hf c_18
        exact k6_difference_B19_J67_j E S hrec19 hk101 (x2_17) (x6) (x7) (x8) (x9_9) (x10_10) _ _ ls hf hw (lv_sub hl [0, 6, 7, 8, 2, 1] rfl)
      · replace hf := ite_t hf c_18
        refine lv_iload hx hb dX6_difference_53 (lv_at hl 2 rfl) ?_
        refine lv_iload hx hb dX6_difference_55 (lv_at hl 5 rfl) ?_
        refine lv_icmp_ne (tgt := 71) hx hb dX6_difference_57 (by decide) (fun c_20 => ?_) (fun c_20 => ?_)
        · replace hf := ite_f hf c_20
          exact k6_difference_B19_J71_j E S hrec19 hk101 (x2_17) (x6) (x7) (x8) (x9_9) (x10_10) _ _ ls hf hw (lv_sub hl [0, 6, 7, 8, 2, 1] rfl)
        · replace hf := ite_t hf c_20
          refine lv_iload hx hb dX6_difference_60 (lv_at hl 1 rfl) ?_
          refine lv_iload hx hb dX6_difference_62 (lv_at hl 4 rfl) ?_
          refine lv_icmp_ne (tgt := 71) hx hb dX6_difference_64 (by decide) (fun c_21 => ?_) (fun c_21 => ?_)
          · replace hf := ite_f hf c_21
            exact k6_difference_B19_J71_j E S hrec19 hk101 (x2_17) (x6) (x7) (x8) (x9_9) (x10_10) _ _ ls hf hw (lv_sub hl [0, 6, 7, 8, 2, 1] rfl)
          · replace hf := ite_t hf c_21
            exact k6_difference_B19_J67_j E S hrec19 hk101 (x2_17) (x6) (x7) (x8) (x9_9) (x10_10) _ _ ls hf hw (lv_sub hl [0, 6, 7, 8, 2, 1] rfl)
theorem k6_difference_l19 {p : Program} {l : Launch} {e : Env} {s : State} {m : MethodId} {args : Array Value} {below : List Frame} {meth : Method} {c : Code} {D : va_G} {a : Nat → Nat} {g : Nat → ClassId} (E : EK p s m args meth c D a g cX6_difference 11 RX6 (some .int)) {F : Nat}  (S : SS) {k101 : Int32 → Int32 → Option Int32} {out : Int32} (hk101 : ∀ (x2 : Int32) (x3 : Int32) (H : Heap) (locs : List Loc) (ls : Array Slot), k101 x2 x3 = some out → WK D a g S s H locs → lv_has ls 11 [(2, .int (x2)), (3, .int (x3))] → W p l e (RM 1) s m args below meth c H locs 0 0 (MQ below (QK D a g (some (.int out)) S) args s 0 0 (AK a)) (F0 m 101 ls [])) : ∀ (n : Nat) (x2 : Int32) (x3 : Int32) (x4 : Int32) (x5 : Int32) (x6 : Int32) (x7 : Int32) (x8 : Int32) (H : Heap) (locs : List Loc) (ls : Array Slot), lpN (fun _ _ _ _ _ _ _ => none) (fun rec19 => k6_difference_B19 F S rec19 k101) n x2 x3 x4 x5 x6 x7 x8 = some out → WK D a g S s H locs → lv_has ls 11 [(2, .int (x2)), (3, .int (x3)), (4, .int (x4)), (5, .int (x5)), (6, .int (x6)), (7, .int (x7)), (8, .int (x8))] → W p l e (RM 1) s m args below meth c H locs 0 0 (MQ below (QK D a g (some (.int out)) S) args s 0 0 (AK a)) (F0 m 19 ls []) := by
  intro n
  induction n with
  | zero => intro x2 x3 x4 x5 x6 x7 x8 H locs ls hf; cases (show (none : Option Int32) = some out from hf)
  | succ n ih => intro x2 x3 x4 x5 x6 x7 x8 H locs ls hf hw hl; exact k6_difference_b19 E (F := F) S ih hk101 x2 x3 x4 x5 x6 x7 x8 H locs ls hf hw hl
set_option maxRecDepth 100000 in
set_option maxHeartbeats 4000000 in
theorem k6_difference_J112_j {p : Program} {l : Launch} {e : Env} {s : State} {m : MethodId} {args : Array Value} {below : List Frame} {meth : Method} {c : Code} {D : va_G} {a : Nat → Nat} {g : Nat → ClassId} (E : EK p s m args meth c D a g cX6_difference 11 RX6 (some .int)) {F : Nat}  {out : Int32} (S : SS) (x2 : Int32) (H : Heap) (locs : List Loc) (ls : Array Slot) (hf : k6_difference_J112 F S x2 = some out) (hw : WK D a g S s H locs) (hl : lv_has ls 11 [(2, .int (x2))]) : W p l e (RM 1) s m args below meth c H locs 0 0 (MQ below (QK D a g (some (.int out)) S) args s 0 0 (AK a)) (F0 m 112 ls []) := by
  have hx := E.hx
  have hb := E.hb
  unfold k6_difference_J112 at hf
  refine lv_iload_n hx hb dX6_difference_112 rfl (lv_at hl 0 rfl) ?_
  refine lv_iconst hx hb dX6_difference_113 ic_2 ?_
  refine lv_icmp_le (tgt := 122) hx hb dX6_difference_114 (by decide) (fun c_24 => ?_) (fun c_24 => ?_)
  · replace hf := ite_t hf c_24
    refine lv_iload_n hx hb dX6_difference_122 rfl (lv_at hl 0 rfl) ?_
    cases hf
    exact retK_i E hw dX6_difference_123
  · replace hf := ite_f hf c_24
    refine lv_bipush hx hb dX6_difference_117 bp_9 ?_
    refine lv_goto (tgt := 123) hx hb dX6_difference_119 (by decide) ?_
    cases hf
    exact retK_i E hw dX6_difference_123
set_option maxRecDepth 100000 in
set_option maxHeartbeats 4000000 in
theorem mk6_difference {l : Launch} {D : va_G} {a : Nat → Nat} {g : Nat → ClassId} (hD : ∀ S, va_D (AK a) (wK a g S)) {F : Nat} {S : SS} {x0 x1 : Int32} {out : Int32} (hf : k6_difference F S x0 x1 = some out) : Met l yX6_difference (wsm yX6_difference cX6_difference 11 (some .int)) (RM 1) (PK D a g S [.int x0, .int x1]) (QK D a g (some (.int out)) S) 0 0 (AK a) := by
  refine Met.ofW (cc := cX6_difference) (maxL := 11) (ret := (some .int)) (by decide) rfl ?_
  intro p e s m args below meth c s₁ B hml hv
  obtain ⟨rfl, hP, hK, hN⟩ := hv
  have hts := atoms_spec (ws := wsm yX6_difference cX6_difference 11 (some .int)) B.pre
  have E : EK p s m _ meth c D a g cX6_difference 11 RX6 (some .int) := ⟨B.exec, B.bytes, B.returns, hml, findClass_of_methodNamed B.named, fun w h => hts w (List.mem_cons_of_mem _ h), hK, hN, hD, B.notSynchronized⟩
  have hx := E.hx
  have hb := E.hb
  have hw : WK D a g S s s.heap [] := ⟨hP, va_S.rf⟩
  have hl := lv_entry ([.int x0, .int x1]) (n := 11) (Nat.le_of_ble_eq_true rfl)
  rw [lg_entry_eq]
  generalize (lg_sl ([.int x0, .int x1]) ++ List.replicate (11 - (lg_sl ([.int x0, .int x1])).length) Slot.unset).toArray = ls at hl ⊢
  have hl : lv_has ls 11 [(0, .int (x0)), (1, .int (x1))] := hl
  show W p l e (RM 1) s m _ below meth c s.heap [] 0 0 (MQ below (QK D a g (some (.int out)) S) _ s 0 0 (AK a)) (F0 m 0 ls [])
  unfold k6_difference at hf
  refine lv_iconst hx hb dX6_difference_0 ic_0 ?_
  refine lv_topi (fun x2_1 ex2_1 => ?_)
  replace hf := bnd_at hf ex2_1
  refine lv_istore_n (lv' := [(2, .int (x2_1)), (0, .int (x0)), (1, .int (x1))]) hx hb dX6_difference_1 rfl hl (by decide) rfl (fun ls hl => ?_)
  refine lv_iconst hx hb dX6_difference_2 ic_0 ?_
  refine lv_topi (fun x3_2 ex3_2 => ?_)
  replace hf := bnd_at hf ex3_2
  refine lv_istore_n (lv' := [(3, .int (x3_2)), (2, .int (x2_1)), (0, .int (x0)), (1, .int (x1))]) hx hb dX6_difference_3 rfl hl (by decide) rfl (fun ls hl => ?_)
  refine lv_iconst hx hb dX6_difference_4 ic_m1 ?_
  refine lv_topi (fun x4_3 ex4_3 => ?_)
  replace hf := bnd_at hf ex4_3
  refine lv_istore (lv' := [(4, .int (x4_3)), (3, .int (x3_2)), (2, .int (x2_1)), (0, .int (x0)), (1, .int (x1))]) hx hb dX6_difference_5 hl (by decide) rfl (fun ls hl => ?_)
  refine lv_iconst hx hb dX6_difference_7 ic_m1 ?_
  refine lv_topi (fun x5_4 ex5_4 => ?_)
  replace hf := bnd_at hf ex5_4
  refine lv_istore (lv' := [(5, .int (x5_4)), (4, .int (x4_3)), (3, .int (x3_2)), (2, .int (x2_1)), (0, .int (x0)), (1, .int (x1))]) hx hb dX6_difference_8 hl (by decide) rfl (fun ls hl => ?_)
  refine lv_iload_n hx hb dX6_difference_10 rfl (lv_at hl 4 rfl) ?_
  refine lv_topi (fun x6_5 ex6_5 => ?_)
  replace hf := bnd_at hf ex6_5
  refine lv_istore (lv' := [(6, .int (x6_5)), (5, .int (x5_4)), (4, .int (x4_3)), (3, .int (x3_2)), (2, .int (x2_1)), (0, .int (x0)), (1, .int (x1))]) hx hb dX6_difference_11 hl (by decide) rfl (fun ls hl => ?_)
  refine lv_iload_n hx hb dX6_difference_13 rfl (lv_at hl 6 rfl) ?_
  refine lv_topi (fun x7_6 ex7_6 => ?_)
  replace hf := bnd_at hf ex7_6
  refine lv_istore (lv' := [(7, .int (x7_6)), (6, .int (x6_5)), (5, .int (x5_4)), (4, .int (x4_3)), (3, .int (x3_2)), (2, .int (x2_1)), (0, .int (x0)), (1, .int (x1))]) hx hb dX6_difference_14 hl (by decide) rfl (fun ls hl => ?_)
  refine lv_iconst hx hb dX6_difference_16 ic_0 ?_
  refine lv_topi (fun x8_7 ex8_7 => ?_)
  replace hf := bnd_at hf ex8_7
  refine lv_istore (lv' := [(8, .int (x8_7)), (7, .int (x7_6)), (6, .int (x6_5)), (5, .int (x5_4)), (4, .int (x4_3)), (3, .int (x3_2)), (2, .int (x2_1)), (0, .int (x0)), (1, .int (x1))]) hx hb dX6_difference_17 hl (by decide) rfl (fun ls hl => ?_)
  refine k6_difference_l19 E S ?_ F (x2_1) (x3_2) (x4_3) (x5_4) (x6_5) (x7_6) (x8_7) _ _ ls hf hw (lv_sub hl [6, 5, 4, 3, 2, 1, 0] rfl)
  · intro x2_22 x3_22 H locs ls hf hw hl
    refine lv_iload_n hx hb dX6_difference_101 rfl (lv_at hl 0 rfl) ?_
    refine lv_iconst hx hb dX6_difference_102 ic_2 ?_
    refine lv_icmp_ne (tgt := 112) hx hb dX6_difference_103 (by decide) (fun c_23 => ?_) (fun c_23 => ?_)
    · replace hf := ite_f hf c_23
      exact k6_difference_J112_j E S (x2_22) _ _ ls hf hw (lv_sub hl [0] rfl)
    · replace hf := ite_t hf c_23
      refine lv_iload_n hx hb dX6_difference_106 rfl (lv_at hl 1 rfl) ?_
      refine lv_if_eq (tgt := 112) hx hb dX6_difference_107 (by decide) (fun c_25 => ?_) (fun c_25 => ?_)
      · replace hf := ite_t hf c_25
        exact k6_difference_J112_j E S (x2_22) _ _ ls hf hw (lv_sub hl [0] rfl)
      · replace hf := ite_f hf c_25
        refine lv_iconst hx hb dX6_difference_110 ic_1 ?_
        cases hf
        exact retK_i E hw dX6_difference_111
theorem qk6_difference {p : Program} {l : Launch} {e : Env} {R : Room} {s : State} {m : MethodId} {args : Array Value} {below : List Frame} {meth : Method} {c : Code} {H : Heap} {locs : List Loc} {cells slots : Nat} {Q : State → Prop} {cc : ByteArray} {pc : Nat} {ls : Array Slot} {rest : List Value} {D : va_G} {a : Nat → Nat} {g : Nat → ClassId} {nL : Nat} {own : String} {ret : Option FieldType} {S S1 : SS} {k : Nat} {x0 x1 : Int32} {r : Int32} (E : EK p s m args meth c D a g cc nL own ret) (hw : WK D a g S s H locs) (hM : Met l yX6_difference (wsm yX6_difference cX6_difference 11 (some .int)) (RM k) (PK D a g S [.int x0, .int x1]) (QK D a g (some (.int r)) S1) 0 0 (AK a)) {idx : Nat} (hlk : Cond.methodLink own idx yX6_difference ∈ wd) (hdg : decode cc pc = .ok (.invokestatic idx, 3)) (hR : k + 1 ≤ R.frames ∧ 8 + (11 + 11) + 64 * k ≤ R.locals) (hls : ls.size = nL) (hrest : (rest.map fun v => v.category).sum ≤ 8) (hcs : cells ≤ R.cells ∧ slots ≤ R.slots) (kk : ∀ (H1 : Heap) (locs1 : List Loc), WK D a g S1 s H1 locs1 → W p l e R s m args below meth c H1 locs1 cells slots Q (F0 m (pc + 3) ls (.int r :: rest))) : W p l e R s m args below meth c H locs cells slots Q (F0 m pc ls (.int x1 :: .int x0 :: rest)) :=
  callK_i hw (va_runS (As := [.int x0, .int x1]) (rest := rest) ⟨E.hx, E.hb, E.hml, E.hown, E.hts⟩ hM ⟨cb_of 2 E.hts wl432 wl39 hlk (by decide +kernel) hR, E.hts _ wl431⟩ ⟨PK_blind, PK_pre E.hK E.hN hw.1⟩ rfl rfl hls rfl (lv_room hrest) hdg hcs) kk
/-! X2_measureErrors -/
def k2_measureErrors_B31 (F : Nat) (x1 : Int32) (rec31 : SS → Int32 → Int32 → Option SS) (k90 : SS → Int32 → Option SS) (S : SS) (x2 : Int32) (x3 : Int32) : Option SS :=
  if (S 3 2) ≤ x3 then (k90 S (x2)) else ((rdA 7 (S 18) x1).bind fun v_7 => (rdA 4 (S 16) x3).bind fun v_8 => (k6_difference F S (v_7) (v_8)).bind fun r_10 => bnd (r_10) fun x4_12 => (ckA 28 ((x1 * ((4 : Int32))) + x3)).bind fun _ => bnd (st S 22 (Int32.toNatClampNeg ((x1 * ((4 : Int32))) + x3)) x4_12) fun S_13 => bnd (if x4_12 < x2 then x4_12 else x2) fun x2_14 => bnd (x3 + (1)) fun x3_15 => rec31 S_13 (x2_14) (x3_15))
def k2_measureErrors_B23 (F : Nat) (rec23 : SS → Int32 → Option SS) (S : SS) (x1 : Int32) : Option SS :=
  if x1 < 0 then (some S) else (bnd ((3 : Int32)) fun x2_4 => bnd ((0 : Int32)) fun x3_5 => lpN (fun _ _ _ => none) (fun rec31 => k2_measureErrors_B31 F (x1) rec31 (fun S_16 x2_16 => (rdA 8 (S_16 23) (x1 + ((1 : Int32)))).bind fun v_17 => (ckA 8 x1).bind fun _ => bnd (st S_16 23 (Int32.toNatClampNeg x1) (v_17 + x2_16)) fun S_18 => bnd (x1 + (-1)) fun x1_19 => rec23 S_18 (x1_19))) F S (x2_4) (x3_5))
def k2_measureErrors (F : Nat) (S : SS) : Option SS :=
  (ckA 8 (S 3 7)).bind fun _ => bnd (st S 23 (Int32.toNatClampNeg (S 3 7)) ((0 : Int32))) fun S_1 => bnd ((S_1 3 7) - ((1 : Int32))) fun x1_2 => lpN (fun _ _ => none) (fun rec23 => k2_measureErrors_B23 F rec23 ) F S_1 (x1_2)
set_option maxRecDepth 100000 in
set_option maxHeartbeats 4000000 in
theorem k2_measureErrors_b31 {p : Program} {l : Launch} {e : Env} {s : State} {m : MethodId} {args : Array Value} {below : List Frame} {meth : Method} {c : Code} {D : va_G} {a : Nat → Nat} {g : Nat → ClassId} (E : EK p s m args meth c D a g cX2_measureErrors 5 RX2 none) {F : Nat}  (x1 : Int32) {rec31 : SS → Int32 → Int32 → Option SS} {k90 : SS → Int32 → Option SS} {out : SS} (hrec31 : ∀ (S : SS) (x2 : Int32) (x3 : Int32) (H : Heap) (locs : List Loc) (ls : Array Slot), rec31 S x2 x3 = some out → WK D a g S s H locs → lv_has ls 5 [(0, .ref (a 4)), (1, .int (x1)), (2, .int (x2)), (3, .int (x3))] → W p l e (RM 2) s m args below meth c H locs 0 0 (MQ below (QK D a g none out) args s 0 0 (AK a)) (F0 m 31 ls [])) (hk90 : ∀ (S : SS) (x2 : Int32) (H : Heap) (locs : List Loc) (ls : Array Slot), k90 S x2 = some out → WK D a g S s H locs → lv_has ls 5 [(0, .ref (a 4)), (1, .int (x1)), (2, .int (x2))] → W p l e (RM 2) s m args below meth c H locs 0 0 (MQ below (QK D a g none out) args s 0 0 (AK a)) (F0 m 90 ls [])) (S : SS) (x2 : Int32) (x3 : Int32) (H : Heap) (locs : List Loc) (ls : Array Slot) (hf : k2_measureErrors_B31 F x1 rec31 k90 S x2 x3 = some out) (hw : WK D a g S s H locs) (hl : lv_has ls 5 [(0, .ref (a 4)), (1, .int (x1)), (2, .int (x2)), (3, .int (x3))]) : W p l e (RM 2) s m args below meth c H locs 0 0 (MQ below (QK D a g none out) args s 0 0 (AK a)) (F0 m 31 ls []) := by
  have hx := E.hx
  have hb := E.hb
  unfold k2_measureErrors_B31 at hf
  refine lv_iload_n hx hb dX2_measureErrors_31 rfl (lv_at hl 3 rfl) ?_
  refine lv_aload_n hx hb dX2_measureErrors_32 rfl (lv_at hl 0 rfl) ?_
  refine gK_4_1 E hw (E.hts _ wl168) dX2_measureErrors_33 ?_
  refine gK_3_2 E hw (E.hts _ wl129) dX2_measureErrors_36 ?_
  refine lv_icmp_ge (tgt := 90) hx hb dX2_measureErrors_39 (by decide) (fun c_6 => ?_) (fun c_6 => ?_)
  · replace hf := ite_t hf c_6
    exact hk90 S (x2) _ _ ls hf hw (lv_sub hl [0, 1, 2] rfl)
  · replace hf := ite_f hf c_6
    refine lv_aload_n hx hb dX2_measureErrors_42 rfl (lv_at hl 0 rfl) ?_
    refine gK_4_1 E hw (E.hts _ wl168) dX2_measureErrors_43 ?_
    refine gK_3_3 E hw (E.hts _ wl132) dX2_measureErrors_46 ?_
    refine lv_iload_n hx hb dX2_measureErrors_49 rfl (lv_at hl 1 rfl) ?_
    obtain ⟨h_v_7, hf⟩ := rdA_at hf
    refine lK_18 E hw h_v_7 dX2_measureErrors_50 (fun v_7 ev_7 => ?_)
    replace hf := hf v_7 ev_7
    refine lv_aload_n hx hb dX2_measureErrors_51 rfl (lv_at hl 0 rfl) ?_
    refine gK_4_1 E hw (E.hts _ wl168) dX2_measureErrors_52 ?_
    refine gK_3_0 E hw (E.hts _ wl124) dX2_measureErrors_55 ?_
    refine lv_iload_n hx hb dX2_measureErrors_58 rfl (lv_at hl 3 rfl) ?_
    obtain ⟨h_v_8, hf⟩ := rdA_at hf
    refine lK_16 E hw h_v_8 dX2_measureErrors_59 (fun v_8 ev_8 => ?_)
    replace hf := hf v_8 ev_8
    obtain ⟨r_10, h_9, hf⟩ := ob_at hf
    refine qk6_difference E hw (mk6_difference E.hD h_9) wl430 dX2_measureErrors_60 ⟨Nat.le_of_ble_eq_true rfl, Nat.le_of_ble_eq_true rfl⟩ hl.1 (Nat.le_of_ble_eq_true rfl) ⟨Nat.le_refl 0, Nat.le_refl 0⟩ (fun H locs hw => ?_)
    refine lv_topi (fun x4_12 ex4_12 => ?_)
    replace hf := bnd_at hf ex4_12
    refine lv_istore (lv' := [(4, .int (x4_12)), (0, .ref (a 4)), (1, .int (x1)), (2, .int (x2)), (3, .int (x3))]) hx hb dX2_measureErrors_63 hl (by decide) rfl (fun ls hl => ?_)
    refine lv_aload_n hx hb dX2_measureErrors_65 rfl (lv_at hl 1 rfl) ?_
    refine gK_4_2 E hw (E.hts _ wl169) dX2_measureErrors_66 ?_
    refine lv_iload_n hx hb dX2_measureErrors_69 rfl (lv_at hl 2 rfl) ?_
    refine lv_iconst hx hb dX2_measureErrors_70 ic_4 ?_
    refine lv_imul hx hb dX2_measureErrors_71 ?_
    refine lv_iload_n hx hb dX2_measureErrors_72 rfl (lv_at hl 4 rfl) ?_
    refine lv_iadd hx hb dX2_measureErrors_73 ?_
    refine lv_iload hx hb dX2_measureErrors_74 (lv_at hl 0 rfl) ?_
    obtain ⟨h_S_13, hf⟩ := ckA_at hf
    refine sK_22 E hw h_S_13 dX2_measureErrors_76 (fun S_13 eS_13 H locs hw => ?_)
    replace hf := bnd_at hf eS_13
    refine lv_iload_n hx hb dX2_measureErrors_77 rfl (lv_at hl 3 rfl) ?_
    refine lv_iload hx hb dX2_measureErrors_78 (lv_at hl 0 rfl) ?_
    refine va_mmin hx hb (by rw [E.hml]; exact hl.1.symm) E.hown (E.hts _ wl433) (E.hts _ wl325) (E.hts _ wl45) (E.hts _ wl326) (Nat.le_of_ble_eq_true rfl) (Nat.le_of_ble_eq_true rfl) (Nat.le_refl 0) (Nat.le_refl 0) dX2_measureErrors_80 ?_
    refine lv_topi (fun x2_14 ex2_14 => ?_)
    replace hf := bnd_at hf ex2_14
    refine lv_istore_n (lv' := [(2, .int (x2_14)), (4, .int (x4_12)), (0, .ref (a 4)), (1, .int (x1)), (3, .int (x3))]) hx hb dX2_measureErrors_83 rfl hl (by decide) rfl (fun ls hl => ?_)
    obtain ⟨x3_15, ex3_15⟩ : ∃ y : Int32, y = x3 + (1) := ⟨_, rfl⟩
    replace hf := bnd_at hf ex3_15
    refine lv_iinc (v := x3_15) (lv' := [(3, .int (x3_15)), (2, .int (x2_14)), (4, .int (x4_12)), (0, .ref (a 4)), (1, .int (x1))]) hx hb dX2_measureErrors_84 hl (k := 4) rfl (by rw [ex3_15]; rfl) (by decide) rfl (fun ls hl => ?_)
    refine lv_goto (tgt := 31) hx hb dX2_measureErrors_87 (by decide) ?_
    exact hrec31 S_13 (x2_14) (x3_15) _ _ ls hf hw (lv_sub hl [3, 4, 1, 0] rfl)
theorem k2_measureErrors_l31 {p : Program} {l : Launch} {e : Env} {s : State} {m : MethodId} {args : Array Value} {below : List Frame} {meth : Method} {c : Code} {D : va_G} {a : Nat → Nat} {g : Nat → ClassId} (E : EK p s m args meth c D a g cX2_measureErrors 5 RX2 none) {F : Nat}  (x1 : Int32) {k90 : SS → Int32 → Option SS} {out : SS} (hk90 : ∀ (S : SS) (x2 : Int32) (H : Heap) (locs : List Loc) (ls : Array Slot), k90 S x2 = some out → WK D a g S s H locs → lv_has ls 5 [(0, .ref (a 4)), (1, .int (x1)), (2, .int (x2))] → W p l e (RM 2) s m args below meth c H locs 0 0 (MQ below (QK D a g none out) args s 0 0 (AK a)) (F0 m 90 ls [])) : ∀ (n : Nat) (S : SS) (x2 : Int32) (x3 : Int32) (H : Heap) (locs : List Loc) (ls : Array Slot), lpN (fun _ _ _ => none) (fun rec31 => k2_measureErrors_B31 F x1 rec31 k90) n S x2 x3 = some out → WK D a g S s H locs → lv_has ls 5 [(0, .ref (a 4)), (1, .int (x1)), (2, .int (x2)), (3, .int (x3))] → W p l e (RM 2) s m args below meth c H locs 0 0 (MQ below (QK D a g none out) args s 0 0 (AK a)) (F0 m 31 ls []) := by
  intro n
  induction n with
  | zero => intro S x2 x3 H locs ls hf; cases (show (none : Option SS) = some out from hf)
  | succ n ih => intro S x2 x3 H locs ls hf hw hl; exact k2_measureErrors_b31 E (F := F) x1 ih hk90 S x2 x3 H locs ls hf hw hl
set_option maxRecDepth 100000 in
set_option maxHeartbeats 4000000 in
theorem k2_measureErrors_b23 {p : Program} {l : Launch} {e : Env} {s : State} {m : MethodId} {args : Array Value} {below : List Frame} {meth : Method} {c : Code} {D : va_G} {a : Nat → Nat} {g : Nat → ClassId} (E : EK p s m args meth c D a g cX2_measureErrors 5 RX2 none) {F : Nat}  {rec23 : SS → Int32 → Option SS} {out : SS} (hrec23 : ∀ (S : SS) (x1 : Int32) (H : Heap) (locs : List Loc) (ls : Array Slot), rec23 S x1 = some out → WK D a g S s H locs → lv_has ls 5 [(0, .ref (a 4)), (1, .int (x1))] → W p l e (RM 2) s m args below meth c H locs 0 0 (MQ below (QK D a g none out) args s 0 0 (AK a)) (F0 m 23 ls []))  (S : SS) (x1 : Int32) (H : Heap) (locs : List Loc) (ls : Array Slot) (hf : k2_measureErrors_B23 F rec23 S x1 = some out) (hw : WK D a g S s H locs) (hl : lv_has ls 5 [(0, .ref (a 4)), (1, .int (x1))]) : W p l e (RM 2) s m args below meth c H locs 0 0 (MQ below (QK D a g none out) args s 0 0 (AK a)) (F0 m 23 ls []) := by
  have hx := E.hx
  have hb := E.hb
  unfold k2_measureErrors_B23 at hf
  refine lv_iload_n hx hb dX2_measureErrors_23 rfl (lv_at hl 1 rfl) ?_
  refine lv_if_lt (tgt := 112) hx hb dX2_measureErrors_24 (by decide) (fun c_3 => ?_) (fun c_3 => ?_)
  · replace hf := ite_t hf c_3
    cases hf
    exact retK_v E hw dX2_measureErrors_112
  · replace hf := ite_f hf c_3
    refine lv_iconst hx hb dX2_measureErrors_27 ic_3 ?_
    refine lv_topi (fun x2_4 ex2_4 => ?_)
    replace hf := bnd_at hf ex2_4
    refine lv_istore_n (lv' := [(2, .int (x2_4)), (0, .ref (a 4)), (1, .int (x1))]) hx hb dX2_measureErrors_28 rfl hl (by decide) rfl (fun ls hl => ?_)
    refine lv_iconst hx hb dX2_measureErrors_29 ic_0 ?_
    refine lv_topi (fun x3_5 ex3_5 => ?_)
    replace hf := bnd_at hf ex3_5
    refine lv_istore_n (lv' := [(3, .int (x3_5)), (2, .int (x2_4)), (0, .ref (a 4)), (1, .int (x1))]) hx hb dX2_measureErrors_30 rfl hl (by decide) rfl (fun ls hl => ?_)
    refine k2_measureErrors_l31 E (x1) ?_ F S (x2_4) (x3_5) _ _ ls hf hw (lv_sub hl [2, 3, 1, 0] rfl)
    · intro S_16 x2_16 H locs ls hf hw hl
      refine lv_aload_n hx hb dX2_measureErrors_90 rfl (lv_at hl 0 rfl) ?_
      refine gK_4_3 E hw (E.hts _ wl170) dX2_measureErrors_91 ?_
      refine lv_iload_n hx hb dX2_measureErrors_94 rfl (lv_at hl 1 rfl) ?_
      refine lv_aload_n hx hb dX2_measureErrors_95 rfl (lv_at hl 0 rfl) ?_
      refine gK_4_3 E hw (E.hts _ wl170) dX2_measureErrors_96 ?_
      refine lv_iload_n hx hb dX2_measureErrors_99 rfl (lv_at hl 1 rfl) ?_
      refine lv_iconst hx hb dX2_measureErrors_100 ic_1 ?_
      refine lv_iadd hx hb dX2_measureErrors_101 ?_
      obtain ⟨h_v_17, hf⟩ := rdA_at hf
      refine lK_23 E hw h_v_17 dX2_measureErrors_102 (fun v_17 ev_17 => ?_)
      replace hf := hf v_17 ev_17
      refine lv_iload_n hx hb dX2_measureErrors_103 rfl (lv_at hl 2 rfl) ?_
      refine lv_iadd hx hb dX2_measureErrors_104 ?_
      obtain ⟨h_S_18, hf⟩ := ckA_at hf
      refine sK_23 E hw h_S_18 dX2_measureErrors_105 (fun S_18 eS_18 H locs hw => ?_)
      replace hf := bnd_at hf eS_18
      obtain ⟨x1_19, ex1_19⟩ : ∃ y : Int32, y = x1 + (-1) := ⟨_, rfl⟩
      replace hf := bnd_at hf ex1_19
      refine lv_iinc (v := x1_19) (lv' := [(1, .int (x1_19)), (0, .ref (a 4)), (2, .int (x2_16))]) hx hb dX2_measureErrors_106 hl (k := 1) rfl (by rw [ex1_19]; rfl) (by decide) rfl (fun ls hl => ?_)
      refine lv_goto (tgt := 23) hx hb dX2_measureErrors_109 (by decide) ?_
      exact hrec23 S_18 (x1_19) _ _ ls hf hw (lv_sub hl [1, 0] rfl)
theorem k2_measureErrors_l23 {p : Program} {l : Launch} {e : Env} {s : State} {m : MethodId} {args : Array Value} {below : List Frame} {meth : Method} {c : Code} {D : va_G} {a : Nat → Nat} {g : Nat → ClassId} (E : EK p s m args meth c D a g cX2_measureErrors 5 RX2 none) {F : Nat}  {out : SS}  : ∀ (n : Nat) (S : SS) (x1 : Int32) (H : Heap) (locs : List Loc) (ls : Array Slot), lpN (fun _ _ => none) (fun rec23 => k2_measureErrors_B23 F rec23) n S x1 = some out → WK D a g S s H locs → lv_has ls 5 [(0, .ref (a 4)), (1, .int (x1))] → W p l e (RM 2) s m args below meth c H locs 0 0 (MQ below (QK D a g none out) args s 0 0 (AK a)) (F0 m 23 ls []) := by
  intro n
  induction n with
  | zero => intro S x1 H locs ls hf; cases (show (none : Option SS) = some out from hf)
  | succ n ih => intro S x1 H locs ls hf hw hl; exact k2_measureErrors_b23 E (F := F) ih S x1 H locs ls hf hw hl
set_option maxRecDepth 100000 in
set_option maxHeartbeats 4000000 in
theorem mk2_measureErrors {l : Launch} {D : va_G} {a : Nat → Nat} {g : Nat → ClassId} (hD : ∀ S, va_D (AK a) (wK a g S)) {F : Nat} {S : SS} {out : SS} (hf : k2_measureErrors F S  = some out) : Met l yX2_measureErrors (wsm yX2_measureErrors cX2_measureErrors 5 none) (RM 2) (PK D a g S [.ref (a 4)]) (QK D a g none out) 0 0 (AK a) := by
  refine Met.ofW (cc := cX2_measureErrors) (maxL := 5) (ret := none) (by decide) rfl ?_
  intro p e s m args below meth c s₁ B hml hv
  obtain ⟨rfl, hP, hK, hN⟩ := hv
  have hts := atoms_spec (ws := wsm yX2_measureErrors cX2_measureErrors 5 none) B.pre
  have E : EK p s m _ meth c D a g cX2_measureErrors 5 RX2 none := ⟨B.exec, B.bytes, B.returns, hml, findClass_of_methodNamed B.named, fun w h => hts w (List.mem_cons_of_mem _ h), hK, hN, hD, B.notSynchronized⟩
  have hx := E.hx
  have hb := E.hb
  have hw : WK D a g S s s.heap [] := ⟨hP, va_S.rf⟩
  have hl := lv_entry ([.ref (a 4)]) (n := 5) (Nat.le_of_ble_eq_true rfl)
  rw [lg_entry_eq]
  generalize (lg_sl ([.ref (a 4)]) ++ List.replicate (5 - (lg_sl ([.ref (a 4)])).length) Slot.unset).toArray = ls at hl ⊢
  have hl : lv_has ls 5 [(0, .ref (a 4))] := hl
  show W p l e (RM 2) s m _ below meth c s.heap [] 0 0 (MQ below (QK D a g none out) _ s 0 0 (AK a)) (F0 m 0 ls [])
  unfold k2_measureErrors at hf
  refine lv_aload_n hx hb dX2_measureErrors_0 rfl (lv_at hl 0 rfl) ?_
  refine gK_4_3 E hw (E.hts _ wl170) dX2_measureErrors_1 ?_
  refine lv_aload_n hx hb dX2_measureErrors_4 rfl (lv_at hl 0 rfl) ?_
  refine gK_4_1 E hw (E.hts _ wl168) dX2_measureErrors_5 ?_
  refine gK_3_7 E hw (E.hts _ wl142) dX2_measureErrors_8 ?_
  refine lv_iconst hx hb dX2_measureErrors_11 ic_0 ?_
  obtain ⟨h_S_1, hf⟩ := ckA_at hf
  refine sK_23 E hw h_S_1 dX2_measureErrors_12 (fun S_1 eS_1 H locs hw => ?_)
  replace hf := bnd_at hf eS_1
  refine lv_aload_n hx hb dX2_measureErrors_13 rfl (lv_at hl 0 rfl) ?_
  refine gK_4_1 E hw (E.hts _ wl168) dX2_measureErrors_14 ?_
  refine gK_3_7 E hw (E.hts _ wl142) dX2_measureErrors_17 ?_
  refine lv_iconst hx hb dX2_measureErrors_20 ic_1 ?_
  refine lv_isub hx hb dX2_measureErrors_21 ?_
  refine lv_topi (fun x1_2 ex1_2 => ?_)
  replace hf := bnd_at hf ex1_2
  refine lv_istore_n (lv' := [(1, .int (x1_2)), (0, .ref (a 4))]) hx hb dX2_measureErrors_22 rfl hl (by decide) rfl (fun ls hl => ?_)
  refine k2_measureErrors_l23 E  F S_1 (x1_2) _ _ ls hf hw (lv_sub hl [1, 0] rfl)
theorem qk2_measureErrors {p : Program} {l : Launch} {e : Env} {R : Room} {s : State} {m : MethodId} {args : Array Value} {below : List Frame} {meth : Method} {c : Code} {H : Heap} {locs : List Loc} {cells slots : Nat} {Q : State → Prop} {cc : ByteArray} {pc : Nat} {ls : Array Slot} {rest : List Value} {D : va_G} {a : Nat → Nat} {g : Nat → ClassId} {nL : Nat} {own : String} {ret : Option FieldType} {S S1 : SS} {k : Nat} (E : EK p s m args meth c D a g cc nL own ret) (hw : WK D a g S s H locs) (hM : Met l yX2_measureErrors (wsm yX2_measureErrors cX2_measureErrors 5 none) (RM k) (PK D a g S [.ref (a 4)]) (QK D a g none S1) 0 0 (AK a)) {idx : Nat} (hlk : Cond.methodLink own idx yX2_measureErrors ∈ wd) (hdg : decode cc pc = .ok (.invokevirtual idx, 3)) (hR : k + 1 ≤ R.frames ∧ 8 + (5 + 11) + 64 * k ≤ R.locals) (hls : ls.size = nL) (hrest : (rest.map fun v => v.category).sum ≤ 8) (hcs : cells ≤ R.cells ∧ slots ≤ R.slots) (kk : ∀ (H1 : Heap) (locs1 : List Loc), WK D a g S1 s H1 locs1 → W p l e R s m args below meth c H1 locs1 cells slots Q (F0 m (pc + 3) ls (rest))) : W p l e R s m args below meth c H locs cells slots Q (F0 m pc ls (.ref (a 4) :: rest)) :=
  callK_v hw (va_runV (As := []) (rest := rest) ⟨E.hx, E.hb, E.hml, E.hown, E.hts⟩ hM ⟨cb_of 0 E.hts wl429 wl40 hlk (by decide +kernel) hR, E.hts _ wl428, E.hts _ wl4⟩ ⟨PK_blind, va_recv E.hK hw.1 (ci := 2) (q0 := 4) rfl rfl, PK_pre E.hK E.hN hw.1⟩ rfl rfl hls rfl (lv_room hrest) hdg hcs) kk
/-! J7_fill_53178[25] -/
def k7_fill_25_B5 (F : Nat) (x1 : Int32) (x3 : Int32) (rec5 : SS → Int32 → Option SS) (S : SS) (x2 : Int32) : Option SS :=
  if x3 ≤ x2 then (some S) else ((ckA 4 x2).bind fun _ => bnd (st S 25 (Int32.toNatClampNeg x2) x1) fun S_4 => bnd (x2 + (1)) fun x2_5 => rec5 S_4 (x2_5))
def k7_fill_25 (F : Nat) (S : SS) (x1 : Int32) : Option SS :=
  bnd ((0 : Int32)) fun x2_1 => bnd ((4 : Int32)) fun x3_2 => lpN (fun _ _ => none) (fun rec5 => k7_fill_25_B5 F (x1) (x3_2) rec5 ) F S (x2_1)
set_option maxRecDepth 100000 in
set_option maxHeartbeats 4000000 in
theorem k7_fill_25_b5 {p : Program} {l : Launch} {e : Env} {s : State} {m : MethodId} {args : Array Value} {below : List Frame} {meth : Method} {c : Code} {D : va_G} {a : Nat → Nat} {g : Nat → ClassId} (E : EK p s m args meth c D a g cJ7_fill_53178 4 RJ7 none) {F : Nat}  (x1 : Int32) (x3 : Int32) {rec5 : SS → Int32 → Option SS} {out : SS} (hrec5 : ∀ (S : SS) (x2 : Int32) (H : Heap) (locs : List Loc) (ls : Array Slot), rec5 S x2 = some out → WK D a g S s H locs → lv_has ls 4 [(0, .ref (a 25)), (1, .int (x1)), (2, .int (x2)), (3, .int (x3))] → W p l e (RM 1) s m args below meth c H locs 0 0 (MQ below (QK D a g none out) args s 0 0 (AK a)) (F0 m 5 ls []))  (S : SS) (x2 : Int32) (H : Heap) (locs : List Loc) (ls : Array Slot) (hf : k7_fill_25_B5 F x1 x3 rec5 S x2 = some out) (hw : WK D a g S s H locs) (hl : lv_has ls 4 [(0, .ref (a 25)), (1, .int (x1)), (2, .int (x2)), (3, .int (x3))]) : W p l e (RM 1) s m args below meth c H locs 0 0 (MQ below (QK D a g none out) args s 0 0 (AK a)) (F0 m 5 ls []) := by
  have hx := E.hx
  have hb := E.hb
  unfold k7_fill_25_B5 at hf
  refine lv_iload_n hx hb dJ7_fill_53178_5 rfl (lv_at hl 2 rfl) ?_
  refine lv_iload_n hx hb dJ7_fill_53178_6 rfl (lv_at hl 3 rfl) ?_
  refine lv_icmp_ge (tgt := 20) hx hb dJ7_fill_53178_7 (by decide) (fun c_3 => ?_) (fun c_3 => ?_)
  · replace hf := ite_t hf c_3
    cases hf
    exact retK_v E hw dJ7_fill_53178_20
  · replace hf := ite_f hf c_3
    refine lv_aload_n hx hb dJ7_fill_53178_10 rfl (lv_at hl 0 rfl) ?_
    refine lv_iload_n hx hb dJ7_fill_53178_11 rfl (lv_at hl 2 rfl) ?_
    refine lv_iload_n hx hb dJ7_fill_53178_12 rfl (lv_at hl 1 rfl) ?_
    obtain ⟨h_S_4, hf⟩ := ckA_at hf
    refine sK_25 E hw h_S_4 dJ7_fill_53178_13 (fun S_4 eS_4 H locs hw => ?_)
    replace hf := bnd_at hf eS_4
    obtain ⟨x2_5, ex2_5⟩ : ∃ y : Int32, y = x2 + (1) := ⟨_, rfl⟩
    replace hf := bnd_at hf ex2_5
    refine lv_iinc (v := x2_5) (lv' := [(2, .int (x2_5)), (0, .ref (a 25)), (1, .int (x1)), (3, .int (x3))]) hx hb dJ7_fill_53178_14 hl (k := 2) rfl (by rw [ex2_5]; rfl) (by decide) rfl (fun ls hl => ?_)
    refine lv_goto (tgt := 5) hx hb dJ7_fill_53178_17 (by decide) ?_
    exact hrec5 S_4 (x2_5) _ _ ls hf hw (lv_sub hl [1, 2, 0, 3] rfl)
theorem k7_fill_25_l5 {p : Program} {l : Launch} {e : Env} {s : State} {m : MethodId} {args : Array Value} {below : List Frame} {meth : Method} {c : Code} {D : va_G} {a : Nat → Nat} {g : Nat → ClassId} (E : EK p s m args meth c D a g cJ7_fill_53178 4 RJ7 none) {F : Nat}  (x1 : Int32) (x3 : Int32) {out : SS}  : ∀ (n : Nat) (S : SS) (x2 : Int32) (H : Heap) (locs : List Loc) (ls : Array Slot), lpN (fun _ _ => none) (fun rec5 => k7_fill_25_B5 F x1 x3 rec5) n S x2 = some out → WK D a g S s H locs → lv_has ls 4 [(0, .ref (a 25)), (1, .int (x1)), (2, .int (x2)), (3, .int (x3))] → W p l e (RM 1) s m args below meth c H locs 0 0 (MQ below (QK D a g none out) args s 0 0 (AK a)) (F0 m 5 ls []) := by
  intro n
  induction n with
  | zero => intro S x2 H locs ls hf; cases (show (none : Option SS) = some out from hf)
  | succ n ih => intro S x2 H locs ls hf hw hl; exact k7_fill_25_b5 E (F := F) x1 x3 ih S x2 H locs ls hf hw hl
set_option maxRecDepth 100000 in
set_option maxHeartbeats 4000000 in
theorem mk7_fill_25 {l : Launch} {D : va_G} {a : Nat → Nat} {g : Nat → ClassId} (hD : ∀ S, va_D (AK a) (wK a g S)) {F : Nat} {S : SS} {x1 : Int32} {out : SS} (hf : k7_fill_25 F S x1 = some out) : Met l yJ7_fill_53178 (wsm yJ7_fill_53178 cJ7_fill_53178 4 none) (RM 1) (PK D a g S [.ref (a 25), .int x1]) (QK D a g none out) 0 0 (AK a) := by
  refine Met.ofW (cc := cJ7_fill_53178) (maxL := 4) (ret := none) (by decide) rfl ?_
  intro p e s m args below meth c s₁ B hml hv
  obtain ⟨rfl, hP, hK, hN⟩ := hv
  have hts := atoms_spec (ws := wsm yJ7_fill_53178 cJ7_fill_53178 4 none) B.pre
  have E : EK p s m _ meth c D a g cJ7_fill_53178 4 RJ7 none := ⟨B.exec, B.bytes, B.returns, hml, findClass_of_methodNamed B.named, fun w h => hts w (List.mem_cons_of_mem _ h), hK, hN, hD, B.notSynchronized⟩
  have hx := E.hx
  have hb := E.hb
  have hw : WK D a g S s s.heap [] := ⟨hP, va_S.rf⟩
  have hl := lv_entry ([.ref (a 25), .int x1]) (n := 4) (Nat.le_of_ble_eq_true rfl)
  rw [lg_entry_eq]
  generalize (lg_sl ([.ref (a 25), .int x1]) ++ List.replicate (4 - (lg_sl ([.ref (a 25), .int x1])).length) Slot.unset).toArray = ls at hl ⊢
  have hl : lv_has ls 4 [(0, .ref (a 25)), (1, .int (x1))] := hl
  show W p l e (RM 1) s m _ below meth c s.heap [] 0 0 (MQ below (QK D a g none out) _ s 0 0 (AK a)) (F0 m 0 ls [])
  unfold k7_fill_25 at hf
  refine lv_iconst hx hb dJ7_fill_53178_0 ic_0 ?_
  refine lv_topi (fun x2_1 ex2_1 => ?_)
  replace hf := bnd_at hf ex2_1
  refine lv_istore_n (lv' := [(2, .int (x2_1)), (0, .ref (a 25)), (1, .int (x1))]) hx hb dJ7_fill_53178_1 rfl hl (by decide) rfl (fun ls hl => ?_)
  refine lv_aload_n hx hb dJ7_fill_53178_2 rfl (lv_at hl 1 rfl) ?_
  refine va_alen hx hb E.hK hw.1 25 17 rfl rfl (v := 4) rfl dJ7_fill_53178_3 ?_
  refine lv_topi (fun x3_2 ex3_2 => ?_)
  replace hf := bnd_at hf ex3_2
  refine lv_istore_n (lv' := [(3, .int (x3_2)), (2, .int (x2_1)), (0, .ref (a 25)), (1, .int (x1))]) hx hb dJ7_fill_53178_4 rfl hl (by decide) rfl (fun ls hl => ?_)
  refine k7_fill_25_l5 E (x1) (x3_2)  F S (x2_1) _ _ ls hf hw (lv_sub hl [2, 3, 1, 0] rfl)
theorem qk7_fill_25 {p : Program} {l : Launch} {e : Env} {R : Room} {s : State} {m : MethodId} {args : Array Value} {below : List Frame} {meth : Method} {c : Code} {H : Heap} {locs : List Loc} {cells slots : Nat} {Q : State → Prop} {cc : ByteArray} {pc : Nat} {ls : Array Slot} {rest : List Value} {D : va_G} {a : Nat → Nat} {g : Nat → ClassId} {nL : Nat} {own : String} {ret : Option FieldType} {S S1 : SS} {k : Nat} {x1 : Int32} (E : EK p s m args meth c D a g cc nL own ret) (hw : WK D a g S s H locs) (hM : Met l yJ7_fill_53178 (wsm yJ7_fill_53178 cJ7_fill_53178 4 none) (RM k) (PK D a g S [.ref (a 25), .int x1]) (QK D a g none S1) 0 0 (AK a)) {idx : Nat} (hlk : Cond.methodLink own idx yJ7_fill_53178 ∈ wd) (hdg : decode cc pc = .ok (.invokestatic idx, 3)) (hR : k + 1 ≤ R.frames ∧ 8 + (4 + 11) + 64 * k ≤ R.locals) (hls : ls.size = nL) (hrest : (rest.map fun v => v.category).sum ≤ 8) (hcs : cells ≤ R.cells ∧ slots ≤ R.slots) (kk : ∀ (H1 : Heap) (locs1 : List Loc), WK D a g S1 s H1 locs1 → W p l e R s m args below meth c H1 locs1 cells slots Q (F0 m (pc + 3) ls (rest))) : W p l e R s m args below meth c H locs cells slots Q (F0 m pc ls (.int x1 :: .ref (a 25) :: rest)) :=
  callK_v hw (va_runS (As := [.ref (a 25), .int x1]) (rest := rest) ⟨E.hx, E.hb, E.hml, E.hown, E.hts⟩ hM ⟨cb_of 2 E.hts wl65 wl37 hlk (by decide +kernel) hR, E.hts _ wl64⟩ ⟨PK_blind, PK_pre E.hK E.hN hw.1⟩ rfl rfl hls rfl (lv_room hrest) hdg hcs) kk
/-! X2_keep -/
def k2_keep (F : Nat) (S : SS) (x1 : Int32) : Option SS :=
  bnd (stW S 26 (va_cpy (S 24) (S 26) 0 0 7)) fun S_1 => bnd (st S_1 4 7 x1) fun S_2 => some S_2
set_option maxRecDepth 100000 in
set_option maxHeartbeats 4000000 in
theorem mk2_keep {l : Launch} {D : va_G} {a : Nat → Nat} {g : Nat → ClassId} (hD : ∀ S, va_D (AK a) (wK a g S)) {F : Nat} {S : SS} {x1 : Int32} {out : SS} (hf : k2_keep F S x1 = some out) : Met l yX2_keep (wsm yX2_keep cX2_keep 2 none) (RM 1) (PK D a g S [.ref (a 4), .int x1]) (QK D a g none out) 0 0 (AK a) := by
  refine Met.ofW (cc := cX2_keep) (maxL := 2) (ret := none) (by decide) rfl ?_
  intro p e s m args below meth c s₁ B hml hv
  obtain ⟨rfl, hP, hK, hN⟩ := hv
  have hts := atoms_spec (ws := wsm yX2_keep cX2_keep 2 none) B.pre
  have E : EK p s m _ meth c D a g cX2_keep 2 RX2 none := ⟨B.exec, B.bytes, B.returns, hml, findClass_of_methodNamed B.named, fun w h => hts w (List.mem_cons_of_mem _ h), hK, hN, hD, B.notSynchronized⟩
  have hx := E.hx
  have hb := E.hb
  have hw : WK D a g S s s.heap [] := ⟨hP, va_S.rf⟩
  have hl := lv_entry ([.ref (a 4), .int x1]) (n := 2) (Nat.le_of_ble_eq_true rfl)
  rw [lg_entry_eq]
  generalize (lg_sl ([.ref (a 4), .int x1]) ++ List.replicate (2 - (lg_sl ([.ref (a 4), .int x1])).length) Slot.unset).toArray = ls at hl ⊢
  have hl : lv_has ls 2 [(0, .ref (a 4)), (1, .int (x1))] := hl
  show W p l e (RM 1) s m _ below meth c s.heap [] 0 0 (MQ below (QK D a g none out) _ s 0 0 (AK a)) (F0 m 0 ls [])
  unfold k2_keep at hf
  refine lv_aload_n hx hb dX2_keep_0 rfl (lv_at hl 0 rfl) ?_
  refine gK_4_4 E hw (E.hts _ wl171) dX2_keep_1 ?_
  refine lv_iconst hx hb dX2_keep_4 ic_0 ?_
  refine lv_aload_n hx hb dX2_keep_5 rfl (lv_at hl 0 rfl) ?_
  refine gK_4_6 E hw (E.hts _ wl173) dX2_keep_6 ?_
  refine lv_iconst hx hb dX2_keep_9 ic_0 ?_
  refine lv_bipush hx hb dX2_keep_10 bp_7 ?_
  obtain ⟨S_1, eS_1⟩ : ∃ z : SS, z = stW S 26 (va_cpy (S 24) (S 26) 0 0 7) := ⟨_, rfl⟩
  replace hf := bnd_at hf eS_1
  refine va_copyi hx hb (by rw [E.hml]; exact hl.1.symm) E.hown (E.hts _ wl442) (E.hts _ wl444) (E.hts _ wl443) (E.hts _ wl46) E.hK hw.1 (E.hD S) hw.2 24 26 16 18 rfl rfl rfl rfl rfl (by decide) (by decide) (by decide) (by decide) (by decide) (fun _ _ => rfl) (Nat.le_of_ble_eq_true rfl) (Nat.le_of_ble_eq_true rfl) dX2_keep_12 (fun H locs h1 _ h3 => ?_)
  have hw : WK D a g S_1 s H locs := by rw [eS_1]; exact ⟨h1, h3⟩
  refine lv_aload_n hx hb dX2_keep_15 rfl (lv_at hl 0 rfl) ?_
  refine lv_iload_n hx hb dX2_keep_16 rfl (lv_at hl 1 rfl) ?_
  refine pK_4_7 E hw (E.hts _ wl175) dX2_keep_17 (fun S_2 eS_2 H locs hw => ?_)
  replace hf := bnd_at hf eS_2
  cases hf
  exact retK_v E hw dX2_keep_20
theorem qk2_keep {p : Program} {l : Launch} {e : Env} {R : Room} {s : State} {m : MethodId} {args : Array Value} {below : List Frame} {meth : Method} {c : Code} {H : Heap} {locs : List Loc} {cells slots : Nat} {Q : State → Prop} {cc : ByteArray} {pc : Nat} {ls : Array Slot} {rest : List Value} {D : va_G} {a : Nat → Nat} {g : Nat → ClassId} {nL : Nat} {own : String} {ret : Option FieldType} {S S1 : SS} {k : Nat} {x1 : Int32} (E : EK p s m args meth c D a g cc nL own ret) (hw : WK D a g S s H locs) (hM : Met l yX2_keep (wsm yX2_keep cX2_keep 2 none) (RM k) (PK D a g S [.ref (a 4), .int x1]) (QK D a g none S1) 0 0 (AK a)) {idx : Nat} (hlk : Cond.methodLink own idx yX2_keep ∈ wd) (hdg : decode cc pc = .ok (.invokevirtual idx, 3)) (hR : k + 1 ≤ R.frames ∧ 8 + (2 + 11) + 64 * k ≤ R.locals) (hls : ls.size = nL) (hrest : (rest.map fun v => v.category).sum ≤ 8) (hcs : cells ≤ R.cells ∧ slots ≤ R.slots) (kk : ∀ (H1 : Heap) (locs1 : List Loc), WK D a g S1 s H1 locs1 → W p l e R s m args below meth c H1 locs1 cells slots Q (F0 m (pc + 3) ls (rest))) : W p l e R s m args below meth c H locs cells slots Q (F0 m pc ls (.int x1 :: .ref (a 4) :: rest)) :=
  callK_v hw (va_runV (As := [.int x1]) (rest := rest) ⟨E.hx, E.hb, E.hml, E.hown, E.hts⟩ hM ⟨cb_of 1 E.hts wl441 wl40 hlk (by decide +kernel) hR, E.hts _ wl440, E.hts _ wl5⟩ ⟨PK_blind, va_recv E.hK hw.1 (ci := 2) (q0 := 4) rfl rfl, PK_pre E.hK E.hN hw.1⟩ rfl rfl hls rfl (lv_room hrest) hdg hcs) kk
/-! X2_isInTime -/
def k2_isInTime (F : Nat) (S : SS) (x1 : Int32) (x2 : Int32) : Option Int32 :=
  if x1 = ((-1 : Int32)) then (some ((1 : Int32))) else ((rdA 7 (S 19) x1).bind fun v_2 => bnd (v_2) fun x3_3 => (rdA 7 (S 19) x2).bind fun v_4 => (rdA 144 (S 12) ((x3_3 * ((12 : Int32))) + v_4)).bind fun v_5 => bnd (v_5) fun x4_6 => if x4_6 < ((1000000 : Int32)) then (bnd (((x4_6 + ((100 : Int32))) - ((1 : Int32))) / ((100 : Int32))) fun x5_8 => (rdA 7 (S 20) x2).bind fun v_9 => (rdA 7 (S 20) x1).bind fun v_10 => if (v_9 - v_10) < x5_8 then (some ((0 : Int32))) else (some ((1 : Int32)))) else (some ((0 : Int32))))
set_option maxRecDepth 100000 in
set_option maxHeartbeats 4000000 in
theorem mk2_isInTime {l : Launch} {D : va_G} {a : Nat → Nat} {g : Nat → ClassId} (hD : ∀ S, va_D (AK a) (wK a g S)) {F : Nat} {S : SS} {x1 x2 : Int32} {out : Int32} (hf : k2_isInTime F S x1 x2 = some out) : Met l yX2_isInTime (wsm yX2_isInTime cX2_isInTime 6 (some .boolean)) (RM 1) (PK D a g S [.ref (a 4), .int x1, .int x2]) (QK D a g (some (.int out)) S) 0 0 (AK a) := by
  refine Met.ofW (cc := cX2_isInTime) (maxL := 6) (ret := (some .boolean)) (by decide) rfl ?_
  intro p e s m args below meth c s₁ B hml hv
  obtain ⟨rfl, hP, hK, hN⟩ := hv
  have hts := atoms_spec (ws := wsm yX2_isInTime cX2_isInTime 6 (some .boolean)) B.pre
  have E : EK p s m _ meth c D a g cX2_isInTime 6 RX2 (some .boolean) := ⟨B.exec, B.bytes, B.returns, hml, findClass_of_methodNamed B.named, fun w h => hts w (List.mem_cons_of_mem _ h), hK, hN, hD, B.notSynchronized⟩
  have hx := E.hx
  have hb := E.hb
  have hw : WK D a g S s s.heap [] := ⟨hP, va_S.rf⟩
  have hl := lv_entry ([.ref (a 4), .int x1, .int x2]) (n := 6) (Nat.le_of_ble_eq_true rfl)
  rw [lg_entry_eq]
  generalize (lg_sl ([.ref (a 4), .int x1, .int x2]) ++ List.replicate (6 - (lg_sl ([.ref (a 4), .int x1, .int x2])).length) Slot.unset).toArray = ls at hl ⊢
  have hl : lv_has ls 6 [(0, .ref (a 4)), (1, .int (x1)), (2, .int (x2))] := hl
  show W p l e (RM 1) s m _ below meth c s.heap [] 0 0 (MQ below (QK D a g (some (.int out)) S) _ s 0 0 (AK a)) (F0 m 0 ls [])
  unfold k2_isInTime at hf
  refine lv_iload_n hx hb dX2_isInTime_0 rfl (lv_at hl 1 rfl) ?_
  refine lv_iconst hx hb dX2_isInTime_1 ic_m1 ?_
  refine lv_icmp_ne (tgt := 7) hx hb dX2_isInTime_2 (by decide) (fun c_1 => ?_) (fun c_1 => ?_)
  · replace hf := ite_f hf c_1
    refine lv_aload_n hx hb dX2_isInTime_7 rfl (lv_at hl 0 rfl) ?_
    refine gK_4_1 E hw (E.hts _ wl168) dX2_isInTime_8 ?_
    refine gK_3_4 E hw (E.hts _ wl134) dX2_isInTime_11 ?_
    refine lv_iload_n hx hb dX2_isInTime_14 rfl (lv_at hl 1 rfl) ?_
    obtain ⟨h_v_2, hf⟩ := rdA_at hf
    refine lK_19 E hw h_v_2 dX2_isInTime_15 (fun v_2 ev_2 => ?_)
    replace hf := hf v_2 ev_2
    refine lv_topi (fun x3_3 ex3_3 => ?_)
    replace hf := bnd_at hf ex3_3
    refine lv_istore_n (lv' := [(3, .int (x3_3)), (0, .ref (a 4)), (1, .int (x1)), (2, .int (x2))]) hx hb dX2_isInTime_16 rfl hl (by decide) rfl (fun ls hl => ?_)
    refine lv_aload_n hx hb dX2_isInTime_17 rfl (lv_at hl 1 rfl) ?_
    refine gK_4_0 E hw (E.hts _ wl167) dX2_isInTime_18 ?_
    refine gK_1_4 E hw (E.hts _ wl73) dX2_isInTime_21 ?_
    refine lv_iload_n hx hb dX2_isInTime_24 rfl (lv_at hl 0 rfl) ?_
    refine lv_bipush hx hb dX2_isInTime_25 bp_12 ?_
    refine lv_imul hx hb dX2_isInTime_27 ?_
    refine lv_aload_n hx hb dX2_isInTime_28 rfl (lv_at hl 1 rfl) ?_
    refine gK_4_1 E hw (E.hts _ wl168) dX2_isInTime_29 ?_
    refine gK_3_4 E hw (E.hts _ wl134) dX2_isInTime_32 ?_
    refine lv_iload_n hx hb dX2_isInTime_35 rfl (lv_at hl 3 rfl) ?_
    obtain ⟨h_v_4, hf⟩ := rdA_at hf
    refine lK_19 E hw h_v_4 dX2_isInTime_36 (fun v_4 ev_4 => ?_)
    replace hf := hf v_4 ev_4
    refine lv_iadd hx hb dX2_isInTime_37 ?_
    obtain ⟨h_v_5, hf⟩ := rdA_at hf
    refine lK_12 E hw h_v_5 dX2_isInTime_38 (fun v_5 ev_5 => ?_)
    replace hf := hf v_5 ev_5
    refine lv_topi (fun x4_6 ex4_6 => ?_)
    replace hf := bnd_at hf ex4_6
    refine lv_istore (lv' := [(4, .int (x4_6)), (3, .int (x3_3)), (0, .ref (a 4)), (1, .int (x1)), (2, .int (x2))]) hx hb dX2_isInTime_39 hl (by decide) rfl (fun ls hl => ?_)
    refine lv_iload hx hb dX2_isInTime_41 (lv_at hl 0 rfl) ?_
    refine lv_ldc hx hb E.hown (E.hts _ wl449) dX2_isInTime_43 ?_
    refine lv_icmp_lt (tgt := 50) hx hb dX2_isInTime_45 (by decide) (fun c_7 => ?_) (fun c_7 => ?_)
    · replace hf := ite_t hf c_7
      refine lv_iload hx hb dX2_isInTime_50 (lv_at hl 0 rfl) ?_
      refine lv_bipush hx hb dX2_isInTime_52 bp_100 ?_
      refine lv_iadd hx hb dX2_isInTime_54 ?_
      refine lv_iconst hx hb dX2_isInTime_55 ic_1 ?_
      refine lv_isub hx hb dX2_isInTime_56 ?_
      refine lv_bipush hx hb dX2_isInTime_57 bp_100 ?_
      refine lv_idiv hx hb dX2_isInTime_59 (by decide) ?_
      refine lv_topi (fun x5_8 ex5_8 => ?_)
      replace hf := bnd_at hf ex5_8
      refine lv_istore (lv' := [(5, .int (x5_8)), (4, .int (x4_6)), (3, .int (x3_3)), (0, .ref (a 4)), (1, .int (x1)), (2, .int (x2))]) hx hb dX2_isInTime_60 hl (by decide) rfl (fun ls hl => ?_)
      refine lv_aload_n hx hb dX2_isInTime_62 rfl (lv_at hl 3 rfl) ?_
      refine gK_4_1 E hw (E.hts _ wl168) dX2_isInTime_63 ?_
      refine gK_3_5 E hw (E.hts _ wl137) dX2_isInTime_66 ?_
      refine lv_iload_n hx hb dX2_isInTime_69 rfl (lv_at hl 5 rfl) ?_
      obtain ⟨h_v_9, hf⟩ := rdA_at hf
      refine lK_20 E hw h_v_9 dX2_isInTime_70 (fun v_9 ev_9 => ?_)
      replace hf := hf v_9 ev_9
      refine lv_aload_n hx hb dX2_isInTime_71 rfl (lv_at hl 3 rfl) ?_
      refine gK_4_1 E hw (E.hts _ wl168) dX2_isInTime_72 ?_
      refine gK_3_5 E hw (E.hts _ wl137) dX2_isInTime_75 ?_
      refine lv_iload_n hx hb dX2_isInTime_78 rfl (lv_at hl 4 rfl) ?_
      obtain ⟨h_v_10, hf⟩ := rdA_at hf
      refine lK_20 E hw h_v_10 dX2_isInTime_79 (fun v_10 ev_10 => ?_)
      replace hf := hf v_10 ev_10
      refine lv_isub hx hb dX2_isInTime_80 ?_
      refine lv_iload hx hb dX2_isInTime_81 (lv_at hl 0 rfl) ?_
      refine lv_icmp_lt (tgt := 90) hx hb dX2_isInTime_83 (by decide) (fun c_11 => ?_) (fun c_11 => ?_)
      · replace hf := ite_t hf c_11
        refine lv_iconst hx hb dX2_isInTime_90 ic_0 ?_
        cases hf
        exact retK_z E hw nb0 dX2_isInTime_91
      · replace hf := ite_f hf c_11
        refine lv_iconst hx hb dX2_isInTime_86 ic_1 ?_
        refine lv_goto (tgt := 91) hx hb dX2_isInTime_87 (by decide) ?_
        cases hf
        exact retK_z E hw nb1 dX2_isInTime_91
    · replace hf := ite_f hf c_7
      refine lv_iconst hx hb dX2_isInTime_48 ic_0 ?_
      cases hf
      exact retK_z E hw nb0 dX2_isInTime_49
  · replace hf := ite_t hf c_1
    refine lv_iconst hx hb dX2_isInTime_5 ic_1 ?_
    cases hf
    exact retK_z E hw nb1 dX2_isInTime_6
theorem qk2_isInTime {p : Program} {l : Launch} {e : Env} {R : Room} {s : State} {m : MethodId} {args : Array Value} {below : List Frame} {meth : Method} {c : Code} {H : Heap} {locs : List Loc} {cells slots : Nat} {Q : State → Prop} {cc : ByteArray} {pc : Nat} {ls : Array Slot} {rest : List Value} {D : va_G} {a : Nat → Nat} {g : Nat → ClassId} {nL : Nat} {own : String} {ret : Option FieldType} {S S1 : SS} {k : Nat} {x1 x2 : Int32} {r : Int32} (E : EK p s m args meth c D a g cc nL own ret) (hw : WK D a g S s H locs) (hM : Met l yX2_isInTime (wsm yX2_isInTime cX2_isInTime 6 (some .boolean)) (RM k) (PK D a g S [.ref (a 4), .int x1, .int x2]) (QK D a g (some (.int r)) S1) 0 0 (AK a)) {idx : Nat} (hlk : Cond.methodLink own idx yX2_isInTime ∈ wd) (hdg : decode cc pc = .ok (.invokevirtual idx, 3)) (hR : k + 1 ≤ R.frames ∧ 8 + (6 + 11) + 64 * k ≤ R.locals) (hls : ls.size = nL) (hrest : (rest.map fun v => v.category).sum ≤ 8) (hcs : cells ≤ R.cells ∧ slots ≤ R.slots) (kk : ∀ (H1 : Heap) (locs1 : List Loc), WK D a g S1 s H1 locs1 → W p l e R s m args below meth c H1 locs1 cells slots Q (F0 m (pc + 3) ls (.int r :: rest))) : W p l e R s m args below meth c H locs cells slots Q (F0 m pc ls (.int x2 :: .int x1 :: .ref (a 4) :: rest)) :=
  callK_i hw (va_runV (As := [.int x1, .int x2]) (rest := rest) ⟨E.hx, E.hb, E.hml, E.hown, E.hts⟩ hM ⟨cb_of 2 E.hts wl448 wl40 hlk (by decide +kernel) hR, E.hts _ wl447, E.hts _ wl6⟩ ⟨PK_blind, va_recv E.hK hw.1 (ci := 2) (q0 := 4) rfl rfl, PK_pre E.hK E.hN hw.1⟩ rfl rfl hls rfl (lv_room hrest) hdg hcs) kk

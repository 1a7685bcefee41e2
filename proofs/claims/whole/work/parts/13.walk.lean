/-! X1_weighSet[36] -/
def k1_weighSet_36_B8 (F : Nat) (S : SS) (x1 : Int32) (rec8 : Int32 → Int32 → Int32 → Option SS) (k57 : Int32 → Int32 → Option SS) (x3 : Int32) (x4 : Int32) (x5 : Int32) : Option SS :=
  if ((8 : Int32)) ≤ x5 then (k57 (x3) (x4)) else (bnd (((1 : Int32)) <<< (x5 &&& 31)) fun x6_5 => if (x1 &&& x6_5) = 0 then (bnd (x5 + (1)) fun x5_7 => rec8 (x3) (x4) (x5_7)) else ((rdA 8 (S 36) x5).bind fun v_8 => bnd (x3 + v_8) fun x3_9 => (rdA 256 (S 28) (x1 ^^^ x6_5)).bind fun v_10 => bnd (if x4 < v_10 then v_10 else x4) fun x4_11 => bnd (x5 + (1)) fun x5_12 => rec8 (x3_9) (x4_11) (x5_12)))
def k1_weighSet_36 (F : Nat) (S : SS) (x1 : Int32) : Option SS :=
  bnd ((0 : Int32)) fun x3_1 => bnd ((0 : Int32)) fun x4_2 => bnd ((0 : Int32)) fun x5_3 => lpN (fun _ _ _ => none) (fun rec8 => k1_weighSet_36_B8 F S (x1) rec8 (fun x3_13 x4_13 => (ckA 256 x1).bind fun _ => bnd (st S 27 (Int32.toNatClampNeg x1) x3_13) fun S_14 => if x3_13 = 0 then ((ckA 256 x1).bind fun _ => bnd (st S_14 28 (Int32.toNatClampNeg x1) (x4_13 + ((1 : Int32)))) fun S_17 => some S_17) else ((ckA 256 x1).bind fun _ => bnd (st S_14 28 (Int32.toNatClampNeg x1) x4_13) fun S_16 => some S_16))) F (x3_1) (x4_2) (x5_3)
set_option maxRecDepth 100000 in
set_option maxHeartbeats 4000000 in
theorem k1_weighSet_36_b8 {p : Program} {l : Launch} {e : Env} {s : State} {m : MethodId} {args : Array Value} {below : List Frame} {meth : Method} {c : Code} {D : va_G} {a : Nat → Nat} {g : Nat → ClassId} (E : EK p s m args meth c D a g cX1_weighSet 7 RX1 none) {F : Nat}  (S : SS) (x1 : Int32) {rec8 : Int32 → Int32 → Int32 → Option SS} {k57 : Int32 → Int32 → Option SS} {out : SS} (hrec8 : ∀ (x3 : Int32) (x4 : Int32) (x5 : Int32) (H : Heap) (locs : List Loc) (ls : Array Slot), rec8 x3 x4 x5 = some out → WK D a g S s H locs → lv_has ls 7 [(0, .ref (a 6)), (1, .int (x1)), (2, .ref (a 36)), (3, .int (x3)), (4, .int (x4)), (5, .int (x5))] → W p l e (RM 1) s m args below meth c H locs 0 0 (MQ below (QK D a g none out) args s 0 0 (AK a)) (F0 m 8 ls [])) (hk57 : ∀ (x3 : Int32) (x4 : Int32) (H : Heap) (locs : List Loc) (ls : Array Slot), k57 x3 x4 = some out → WK D a g S s H locs → lv_has ls 7 [(0, .ref (a 6)), (1, .int (x1)), (3, .int (x3)), (4, .int (x4))] → W p l e (RM 1) s m args below meth c H locs 0 0 (MQ below (QK D a g none out) args s 0 0 (AK a)) (F0 m 57 ls [])) (x3 : Int32) (x4 : Int32) (x5 : Int32) (H : Heap) (locs : List Loc) (ls : Array Slot) (hf : k1_weighSet_36_B8 F S x1 rec8 k57 x3 x4 x5 = some out) (hw : WK D a g S s H locs) (hl : lv_has ls 7 [(0, .ref (a 6)), (1, .int (x1)), (2, .ref (a 36)), (3, .int (x3)), (4, .int (x4)), (5, .int (x5))]) : W p l e (RM 1) s m args below meth c H locs 0 0 (MQ below (QK D a g none out) args s 0 0 (AK a)) (F0 m 8 ls []) := by
  have hx := E.hx
  have hb := E.hb
  unfold k1_weighSet_36_B8 at hf
  refine lv_iload hx hb dX1_weighSet_8 (lv_at hl 5 rfl) ?_
  refine lv_bipush hx hb dX1_weighSet_10 bp_8 ?_
  refine lv_icmp_ge (tgt := 57) hx hb dX1_weighSet_12 (by decide) (fun c_4 => ?_) (fun c_4 => ?_)
  · replace hf := ite_t hf c_4
    exact hk57 (x3) (x4) _ _ ls hf hw (lv_sub hl [0, 1, 3, 4] rfl)
  · replace hf := ite_f hf c_4
    refine lv_iconst hx hb dX1_weighSet_15 ic_1 ?_
    refine lv_iload hx hb dX1_weighSet_16 (lv_at hl 5 rfl) ?_
    refine lv_ishl hx hb dX1_weighSet_18 ?_
    refine lv_topi (fun x6_5 ex6_5 => ?_)
    replace hf := bnd_at hf ex6_5
    refine lv_istore (lv' := [(6, .int (x6_5)), (0, .ref (a 6)), (1, .int (x1)), (2, .ref (a 36)), (3, .int (x3)), (4, .int (x4)), (5, .int (x5))]) hx hb dX1_weighSet_19 hl (by decide) rfl (fun ls hl => ?_)
    refine lv_iload_n hx hb dX1_weighSet_21 rfl (lv_at hl 2 rfl) ?_
    refine lv_iload hx hb dX1_weighSet_22 (lv_at hl 0 rfl) ?_
    refine lv_iand hx hb dX1_weighSet_24 ?_
    refine lv_if_eq (tgt := 51) hx hb dX1_weighSet_25 (by decide) (fun c_6 => ?_) (fun c_6 => ?_)
    · replace hf := ite_t hf c_6
      obtain ⟨x5_7, ex5_7⟩ : ∃ y : Int32, y = x5 + (1) := ⟨_, rfl⟩
      replace hf := bnd_at hf ex5_7
      refine lv_iinc (v := x5_7) (lv' := [(5, .int (x5_7)), (6, .int (x6_5)), (0, .ref (a 6)), (1, .int (x1)), (2, .ref (a 36)), (3, .int (x3)), (4, .int (x4))]) hx hb dX1_weighSet_51 hl (k := 6) rfl (by rw [ex5_7]; rfl) (by decide) rfl (fun ls hl => ?_)
      refine lv_goto (tgt := 8) hx hb dX1_weighSet_54 (by decide) ?_
      exact hrec8 (x3) (x4) (x5_7) _ _ ls hf hw (lv_sub hl [2, 3, 4, 5, 6, 0] rfl)
    · replace hf := ite_f hf c_6
      refine lv_iload_n hx hb dX1_weighSet_28 rfl (lv_at hl 4 rfl) ?_
      refine lv_aload_n hx hb dX1_weighSet_29 rfl (lv_at hl 3 rfl) ?_
      refine lv_iload hx hb dX1_weighSet_30 (lv_at hl 6 rfl) ?_
      obtain ⟨h_v_8, hf⟩ := rdA_at hf
      refine lK_36 E hw h_v_8 dX1_weighSet_32 (fun v_8 ev_8 => ?_)
      replace hf := hf v_8 ev_8
      refine lv_iadd hx hb dX1_weighSet_33 ?_
      refine lv_topi (fun x3_9 ex3_9 => ?_)
      replace hf := bnd_at hf ex3_9
      refine lv_istore_n (lv' := [(3, .int (x3_9)), (6, .int (x6_5)), (0, .ref (a 6)), (1, .int (x1)), (2, .ref (a 36)), (4, .int (x4)), (5, .int (x5))]) hx hb dX1_weighSet_34 rfl hl (by decide) rfl (fun ls hl => ?_)
      refine lv_iload hx hb dX1_weighSet_35 (lv_at hl 5 rfl) ?_
      refine lv_aload_n hx hb dX1_weighSet_37 rfl (lv_at hl 2 rfl) ?_
      refine gK_6_1 E hw (E.hts _ wl222) dX1_weighSet_38 ?_
      refine lv_iload_n hx hb dX1_weighSet_41 rfl (lv_at hl 3 rfl) ?_
      refine lv_iload hx hb dX1_weighSet_42 (lv_at hl 1 rfl) ?_
      refine lv_ixor hx hb dX1_weighSet_44 ?_
      obtain ⟨h_v_10, hf⟩ := rdA_at hf
      refine lK_28 E hw h_v_10 dX1_weighSet_45 (fun v_10 ev_10 => ?_)
      replace hf := hf v_10 ev_10
      refine va_mmax hx hb (by rw [E.hml]; exact hl.1.symm) E.hown (E.hts _ wl536) (E.hts _ wl459) (E.hts _ wl45) (E.hts _ wl460) (Nat.le_of_ble_eq_true rfl) (Nat.le_of_ble_eq_true rfl) (Nat.le_refl 0) (Nat.le_refl 0) dX1_weighSet_46 ?_
      refine lv_topi (fun x4_11 ex4_11 => ?_)
      replace hf := bnd_at hf ex4_11
      refine lv_istore (lv' := [(4, .int (x4_11)), (3, .int (x3_9)), (6, .int (x6_5)), (0, .ref (a 6)), (1, .int (x1)), (2, .ref (a 36)), (5, .int (x5))]) hx hb dX1_weighSet_49 hl (by decide) rfl (fun ls hl => ?_)
      obtain ⟨x5_12, ex5_12⟩ : ∃ y : Int32, y = x5 + (1) := ⟨_, rfl⟩
      replace hf := bnd_at hf ex5_12
      refine lv_iinc (v := x5_12) (lv' := [(5, .int (x5_12)), (4, .int (x4_11)), (3, .int (x3_9)), (6, .int (x6_5)), (0, .ref (a 6)), (1, .int (x1)), (2, .ref (a 36))]) hx hb dX1_weighSet_51 hl (k := 6) rfl (by rw [ex5_12]; rfl) (by decide) rfl (fun ls hl => ?_)
      refine lv_goto (tgt := 8) hx hb dX1_weighSet_54 (by decide) ?_
      exact hrec8 (x3_9) (x4_11) (x5_12) _ _ ls hf hw (lv_sub hl [4, 5, 6, 2, 1, 0] rfl)
theorem k1_weighSet_36_l8 {p : Program} {l : Launch} {e : Env} {s : State} {m : MethodId} {args : Array Value} {below : List Frame} {meth : Method} {c : Code} {D : va_G} {a : Nat → Nat} {g : Nat → ClassId} (E : EK p s m args meth c D a g cX1_weighSet 7 RX1 none) {F : Nat}  (S : SS) (x1 : Int32) {k57 : Int32 → Int32 → Option SS} {out : SS} (hk57 : ∀ (x3 : Int32) (x4 : Int32) (H : Heap) (locs : List Loc) (ls : Array Slot), k57 x3 x4 = some out → WK D a g S s H locs → lv_has ls 7 [(0, .ref (a 6)), (1, .int (x1)), (3, .int (x3)), (4, .int (x4))] → W p l e (RM 1) s m args below meth c H locs 0 0 (MQ below (QK D a g none out) args s 0 0 (AK a)) (F0 m 57 ls [])) : ∀ (n : Nat) (x3 : Int32) (x4 : Int32) (x5 : Int32) (H : Heap) (locs : List Loc) (ls : Array Slot), lpN (fun _ _ _ => none) (fun rec8 => k1_weighSet_36_B8 F S x1 rec8 k57) n x3 x4 x5 = some out → WK D a g S s H locs → lv_has ls 7 [(0, .ref (a 6)), (1, .int (x1)), (2, .ref (a 36)), (3, .int (x3)), (4, .int (x4)), (5, .int (x5))] → W p l e (RM 1) s m args below meth c H locs 0 0 (MQ below (QK D a g none out) args s 0 0 (AK a)) (F0 m 8 ls []) := by
  intro n
  induction n with
  | zero => intro x3 x4 x5 H locs ls hf; cases (show (none : Option SS) = some out from hf)
  | succ n ih => intro x3 x4 x5 H locs ls hf hw hl; exact k1_weighSet_36_b8 E (F := F) S x1 ih hk57 x3 x4 x5 H locs ls hf hw hl
set_option maxRecDepth 100000 in
set_option maxHeartbeats 4000000 in
theorem mk1_weighSet_36 {l : Launch} {D : va_G} {a : Nat → Nat} {g : Nat → ClassId} (hD : ∀ S, va_D (AK a) (wK a g S)) {F : Nat} {S : SS} {x1 : Int32} {out : SS} (hf : k1_weighSet_36 F S x1 = some out) : Met l yX1_weighSet (wsm yX1_weighSet cX1_weighSet 7 none) (RM 1) (PK D a g S [.ref (a 6), .int x1, .ref (a 36)]) (QK D a g none out) 0 0 (AK a) := by
  refine Met.ofW (cc := cX1_weighSet) (maxL := 7) (ret := none) (by decide) rfl ?_
  intro p e s m args below meth c s₁ B hml hv
  obtain ⟨rfl, hP, hK, hN⟩ := hv
  have hts := atoms_spec (ws := wsm yX1_weighSet cX1_weighSet 7 none) B.pre
  have E : EK p s m _ meth c D a g cX1_weighSet 7 RX1 none := ⟨B.exec, B.bytes, B.returns, hml, findClass_of_methodNamed B.named, fun w h => hts w (List.mem_cons_of_mem _ h), hK, hN, hD, B.notSynchronized⟩
  have hx := E.hx
  have hb := E.hb
  have hw : WK D a g S s s.heap [] := ⟨hP, va_S.rf⟩
  have hl := lv_entry ([.ref (a 6), .int x1, .ref (a 36)]) (n := 7) (Nat.le_of_ble_eq_true rfl)
  rw [lg_entry_eq]
  generalize (lg_sl ([.ref (a 6), .int x1, .ref (a 36)]) ++ List.replicate (7 - (lg_sl ([.ref (a 6), .int x1, .ref (a 36)])).length) Slot.unset).toArray = ls at hl ⊢
  have hl : lv_has ls 7 [(0, .ref (a 6)), (1, .int (x1)), (2, .ref (a 36))] := hl
  show W p l e (RM 1) s m _ below meth c s.heap [] 0 0 (MQ below (QK D a g none out) _ s 0 0 (AK a)) (F0 m 0 ls [])
  unfold k1_weighSet_36 at hf
  refine lv_iconst hx hb dX1_weighSet_0 ic_0 ?_
  refine lv_topi (fun x3_1 ex3_1 => ?_)
  replace hf := bnd_at hf ex3_1
  refine lv_istore_n (lv' := [(3, .int (x3_1)), (0, .ref (a 6)), (1, .int (x1)), (2, .ref (a 36))]) hx hb dX1_weighSet_1 rfl hl (by decide) rfl (fun ls hl => ?_)
  refine lv_iconst hx hb dX1_weighSet_2 ic_0 ?_
  refine lv_topi (fun x4_2 ex4_2 => ?_)
  replace hf := bnd_at hf ex4_2
  refine lv_istore (lv' := [(4, .int (x4_2)), (3, .int (x3_1)), (0, .ref (a 6)), (1, .int (x1)), (2, .ref (a 36))]) hx hb dX1_weighSet_3 hl (by decide) rfl (fun ls hl => ?_)
  refine lv_iconst hx hb dX1_weighSet_5 ic_0 ?_
  refine lv_topi (fun x5_3 ex5_3 => ?_)
  replace hf := bnd_at hf ex5_3
  refine lv_istore (lv' := [(5, .int (x5_3)), (4, .int (x4_2)), (3, .int (x3_1)), (0, .ref (a 6)), (1, .int (x1)), (2, .ref (a 36))]) hx hb dX1_weighSet_6 hl (by decide) rfl (fun ls hl => ?_)
  refine k1_weighSet_36_l8 E S (x1) ?_ F (x3_1) (x4_2) (x5_3) _ _ ls hf hw (lv_sub hl [3, 4, 5, 2, 1, 0] rfl)
  · intro x3_13 x4_13 H locs ls hf hw hl
    refine lv_aload_n hx hb dX1_weighSet_57 rfl (lv_at hl 0 rfl) ?_
    refine gK_6_0 E hw (E.hts _ wl221) dX1_weighSet_58 ?_
    refine lv_iload_n hx hb dX1_weighSet_61 rfl (lv_at hl 1 rfl) ?_
    refine lv_iload_n hx hb dX1_weighSet_62 rfl (lv_at hl 2 rfl) ?_
    obtain ⟨h_S_14, hf⟩ := ckA_at hf
    refine sK_27 E hw h_S_14 dX1_weighSet_63 (fun S_14 eS_14 H locs hw => ?_)
    replace hf := bnd_at hf eS_14
    refine lv_aload_n hx hb dX1_weighSet_64 rfl (lv_at hl 0 rfl) ?_
    refine gK_6_1 E hw (E.hts _ wl222) dX1_weighSet_65 ?_
    refine lv_iload_n hx hb dX1_weighSet_68 rfl (lv_at hl 1 rfl) ?_
    refine lv_iload_n hx hb dX1_weighSet_69 rfl (lv_at hl 2 rfl) ?_
    refine lv_if_ne (tgt := 80) hx hb dX1_weighSet_70 (by decide) (fun c_15 => ?_) (fun c_15 => ?_)
    · replace hf := ite_f hf c_15
      refine lv_iload hx hb dX1_weighSet_80 (lv_at hl 3 rfl) ?_
      obtain ⟨h_S_16, hf⟩ := ckA_at hf
      refine sK_28 E hw h_S_16 dX1_weighSet_82 (fun S_16 eS_16 H locs hw => ?_)
      replace hf := bnd_at hf eS_16
      cases hf
      exact retK_v E hw dX1_weighSet_83
    · replace hf := ite_t hf c_15
      refine lv_iload hx hb dX1_weighSet_73 (lv_at hl 3 rfl) ?_
      refine lv_iconst hx hb dX1_weighSet_75 ic_1 ?_
      refine lv_iadd hx hb dX1_weighSet_76 ?_
      refine lv_goto (tgt := 82) hx hb dX1_weighSet_77 (by decide) ?_
      obtain ⟨h_S_17, hf⟩ := ckA_at hf
      refine sK_28 E hw h_S_17 dX1_weighSet_82 (fun S_17 eS_17 H locs hw => ?_)
      replace hf := bnd_at hf eS_17
      cases hf
      exact retK_v E hw dX1_weighSet_83
theorem qk1_weighSet_36 {p : Program} {l : Launch} {e : Env} {R : Room} {s : State} {m : MethodId} {args : Array Value} {below : List Frame} {meth : Method} {c : Code} {H : Heap} {locs : List Loc} {cells slots : Nat} {Q : State → Prop} {cc : ByteArray} {pc : Nat} {ls : Array Slot} {rest : List Value} {D : va_G} {a : Nat → Nat} {g : Nat → ClassId} {nL : Nat} {own : String} {ret : Option FieldType} {S S1 : SS} {k : Nat} {x1 : Int32} (E : EK p s m args meth c D a g cc nL own ret) (hw : WK D a g S s H locs) (hM : Met l yX1_weighSet (wsm yX1_weighSet cX1_weighSet 7 none) (RM k) (PK D a g S [.ref (a 6), .int x1, .ref (a 36)]) (QK D a g none S1) 0 0 (AK a)) {idx : Nat} (hlk : Cond.methodLink own idx yX1_weighSet ∈ wd) (hdg : decode cc pc = .ok (.invokevirtual idx, 3)) (hR : k + 1 ≤ R.frames ∧ 8 + (7 + 11) + 64 * k ≤ R.locals) (hls : ls.size = nL) (hrest : (rest.map fun v => v.category).sum ≤ 8) (hcs : cells ≤ R.cells ∧ slots ≤ R.slots) (kk : ∀ (H1 : Heap) (locs1 : List Loc), WK D a g S1 s H1 locs1 → W p l e R s m args below meth c H1 locs1 cells slots Q (F0 m (pc + 3) ls (rest))) : W p l e R s m args below meth c H locs cells slots Q (F0 m pc ls (.ref (a 36) :: .int x1 :: .ref (a 6) :: rest)) :=
  callK_v hw (va_runV (As := [.int x1, .ref (a 36)]) (rest := rest) ⟨E.hx, E.hb, E.hml, E.hown, E.hts⟩ hM ⟨cb_of 2 E.hts wl535 wl42 hlk (by decide +kernel) hR, E.hts _ wl534, E.hts _ wl10⟩ ⟨PK_blind, va_recv E.hK hw.1 (ci := 1) (q0 := 6) rfl rfl, PK_pre E.hK E.hN hw.1⟩ rfl rfl hls rfl (lv_room hrest) hdg hcs) kk
/-! X1_weigh[36] -/
def k1_weigh_36_B15 (F : Nat) (rec15 : SS → Int32 → Option SS) (k45 : SS → Option SS) (S : SS) (x2 : Int32) : Option SS :=
  if ((8 : Int32)) ≤ x2 then (k45 S) else ((rdA 8 (S 36) x2).bind fun v_5 => if v_5 = 0 then (bnd (x2 + (1)) fun x2_7 => rec15 S (x2_7)) else (bnd (st S 6 2 ((S 6 2) ||| (((1 : Int32)) <<< (x2 &&& 31)))) fun S_8 => bnd (x2 + (1)) fun x2_9 => rec15 S_8 (x2_9)))
def k1_weigh_36_B47 (F : Nat) (rec47 : SS → Int32 → Option SS) (S : SS) (x2 : Int32) : Option SS :=
  if ((256 : Int32)) ≤ x2 then (some S) else (if (x2 &&& ((S 6 2) ^^^ ((-1 : Int32)))) = 0 then ((k1_weighSet_36 F S (x2)).bind fun S_17 => bnd (x2 + (1)) fun x2_18 => rec47 S_17 (x2_18)) else (bnd (x2 + (1)) fun x2_14 => rec47 S (x2_14)))
def k1_weigh_36 (F : Nat) (S : SS) : Option SS :=
  if ((8 : Int32)) ≤ ((8 : Int32)) then (bnd (st S 6 2 ((0 : Int32))) fun S_2 => bnd ((0 : Int32)) fun x2_3 => lpN (fun _ _ => none) (fun rec15 => k1_weigh_36_B15 F rec15 (fun S_10 => bnd ((1 : Int32)) fun x2_11 => lpN (fun _ _ => none) (fun rec47 => k1_weigh_36_B47 F rec47 ) F S_10 (x2_11))) F S_2 (x2_3)) else (some S)
set_option maxRecDepth 100000 in
set_option maxHeartbeats 4000000 in
theorem k1_weigh_36_b15 {p : Program} {l : Launch} {e : Env} {s : State} {m : MethodId} {args : Array Value} {below : List Frame} {meth : Method} {c : Code} {D : va_G} {a : Nat → Nat} {g : Nat → ClassId} (E : EK p s m args meth c D a g cX1_weigh 3 RX1 none) {F : Nat}  {rec15 : SS → Int32 → Option SS} {k45 : SS → Option SS} {out : SS} (hrec15 : ∀ (S : SS) (x2 : Int32) (H : Heap) (locs : List Loc) (ls : Array Slot), rec15 S x2 = some out → WK D a g S s H locs → lv_has ls 3 [(0, .ref (a 6)), (1, .ref (a 36)), (2, .int (x2))] → W p l e (RM 2) s m args below meth c H locs 0 0 (MQ below (QK D a g none out) args s 0 0 (AK a)) (F0 m 15 ls [])) (hk45 : ∀ (S : SS) (H : Heap) (locs : List Loc) (ls : Array Slot), k45 S = some out → WK D a g S s H locs → lv_has ls 3 [(0, .ref (a 6)), (1, .ref (a 36))] → W p l e (RM 2) s m args below meth c H locs 0 0 (MQ below (QK D a g none out) args s 0 0 (AK a)) (F0 m 45 ls [])) (S : SS) (x2 : Int32) (H : Heap) (locs : List Loc) (ls : Array Slot) (hf : k1_weigh_36_B15 F rec15 k45 S x2 = some out) (hw : WK D a g S s H locs) (hl : lv_has ls 3 [(0, .ref (a 6)), (1, .ref (a 36)), (2, .int (x2))]) : W p l e (RM 2) s m args below meth c H locs 0 0 (MQ below (QK D a g none out) args s 0 0 (AK a)) (F0 m 15 ls []) := by
  have hx := E.hx
  have hb := E.hb
  unfold k1_weigh_36_B15 at hf
  refine lv_iload_n hx hb dX1_weigh_15 rfl (lv_at hl 2 rfl) ?_
  refine lv_bipush hx hb dX1_weigh_16 bp_8 ?_
  refine lv_icmp_ge (tgt := 45) hx hb dX1_weigh_18 (by decide) (fun c_4 => ?_) (fun c_4 => ?_)
  · replace hf := ite_t hf c_4
    exact hk45 S _ _ ls hf hw (lv_sub hl [0, 1] rfl)
  · replace hf := ite_f hf c_4
    refine lv_aload_n hx hb dX1_weigh_21 rfl (lv_at hl 1 rfl) ?_
    refine lv_iload_n hx hb dX1_weigh_22 rfl (lv_at hl 2 rfl) ?_
    obtain ⟨h_v_5, hf⟩ := rdA_at hf
    refine lK_36 E hw h_v_5 dX1_weigh_23 (fun v_5 ev_5 => ?_)
    replace hf := hf v_5 ev_5
    refine lv_if_eq (tgt := 39) hx hb dX1_weigh_24 (by decide) (fun c_6 => ?_) (fun c_6 => ?_)
    · replace hf := ite_t hf c_6
      obtain ⟨x2_7, ex2_7⟩ : ∃ y : Int32, y = x2 + (1) := ⟨_, rfl⟩
      replace hf := bnd_at hf ex2_7
      refine lv_iinc (v := x2_7) (lv' := [(2, .int (x2_7)), (0, .ref (a 6)), (1, .ref (a 36))]) hx hb dX1_weigh_39 hl (k := 2) rfl (by rw [ex2_7]; rfl) (by decide) rfl (fun ls hl => ?_)
      refine lv_goto (tgt := 15) hx hb dX1_weigh_42 (by decide) ?_
      exact hrec15 S (x2_7) _ _ ls hf hw (lv_sub hl [1, 2, 0] rfl)
    · replace hf := ite_f hf c_6
      refine lv_aload_n hx hb dX1_weigh_27 rfl (lv_at hl 0 rfl) ?_
      refine lv_dup hx hb dX1_weigh_28 rfl ?_
      refine gK_6_2 E hw (E.hts _ wl223) dX1_weigh_29 ?_
      refine lv_iconst hx hb dX1_weigh_32 ic_1 ?_
      refine lv_iload_n hx hb dX1_weigh_33 rfl (lv_at hl 2 rfl) ?_
      refine lv_ishl hx hb dX1_weigh_34 ?_
      refine lv_ior hx hb dX1_weigh_35 ?_
      refine pK_6_2 E hw (E.hts _ wl223) dX1_weigh_36 (fun S_8 eS_8 H locs hw => ?_)
      replace hf := bnd_at hf eS_8
      obtain ⟨x2_9, ex2_9⟩ : ∃ y : Int32, y = x2 + (1) := ⟨_, rfl⟩
      replace hf := bnd_at hf ex2_9
      refine lv_iinc (v := x2_9) (lv' := [(2, .int (x2_9)), (0, .ref (a 6)), (1, .ref (a 36))]) hx hb dX1_weigh_39 hl (k := 2) rfl (by rw [ex2_9]; rfl) (by decide) rfl (fun ls hl => ?_)
      refine lv_goto (tgt := 15) hx hb dX1_weigh_42 (by decide) ?_
      exact hrec15 S_8 (x2_9) _ _ ls hf hw (lv_sub hl [1, 2, 0] rfl)
theorem k1_weigh_36_l15 {p : Program} {l : Launch} {e : Env} {s : State} {m : MethodId} {args : Array Value} {below : List Frame} {meth : Method} {c : Code} {D : va_G} {a : Nat → Nat} {g : Nat → ClassId} (E : EK p s m args meth c D a g cX1_weigh 3 RX1 none) {F : Nat}  {k45 : SS → Option SS} {out : SS} (hk45 : ∀ (S : SS) (H : Heap) (locs : List Loc) (ls : Array Slot), k45 S = some out → WK D a g S s H locs → lv_has ls 3 [(0, .ref (a 6)), (1, .ref (a 36))] → W p l e (RM 2) s m args below meth c H locs 0 0 (MQ below (QK D a g none out) args s 0 0 (AK a)) (F0 m 45 ls [])) : ∀ (n : Nat) (S : SS) (x2 : Int32) (H : Heap) (locs : List Loc) (ls : Array Slot), lpN (fun _ _ => none) (fun rec15 => k1_weigh_36_B15 F rec15 k45) n S x2 = some out → WK D a g S s H locs → lv_has ls 3 [(0, .ref (a 6)), (1, .ref (a 36)), (2, .int (x2))] → W p l e (RM 2) s m args below meth c H locs 0 0 (MQ below (QK D a g none out) args s 0 0 (AK a)) (F0 m 15 ls []) := by
  intro n
  induction n with
  | zero => intro S x2 H locs ls hf; cases (show (none : Option SS) = some out from hf)
  | succ n ih => intro S x2 H locs ls hf hw hl; exact k1_weigh_36_b15 E (F := F) ih hk45 S x2 H locs ls hf hw hl
set_option maxRecDepth 100000 in
set_option maxHeartbeats 4000000 in
theorem k1_weigh_36_b47 {p : Program} {l : Launch} {e : Env} {s : State} {m : MethodId} {args : Array Value} {below : List Frame} {meth : Method} {c : Code} {D : va_G} {a : Nat → Nat} {g : Nat → ClassId} (E : EK p s m args meth c D a g cX1_weigh 3 RX1 none) {F : Nat}  {rec47 : SS → Int32 → Option SS} {out : SS} (hrec47 : ∀ (S : SS) (x2 : Int32) (H : Heap) (locs : List Loc) (ls : Array Slot), rec47 S x2 = some out → WK D a g S s H locs → lv_has ls 3 [(0, .ref (a 6)), (1, .ref (a 36)), (2, .int (x2))] → W p l e (RM 2) s m args below meth c H locs 0 0 (MQ below (QK D a g none out) args s 0 0 (AK a)) (F0 m 47 ls []))  (S : SS) (x2 : Int32) (H : Heap) (locs : List Loc) (ls : Array Slot) (hf : k1_weigh_36_B47 F rec47 S x2 = some out) (hw : WK D a g S s H locs) (hl : lv_has ls 3 [(0, .ref (a 6)), (1, .ref (a 36)), (2, .int (x2))]) : W p l e (RM 2) s m args below meth c H locs 0 0 (MQ below (QK D a g none out) args s 0 0 (AK a)) (F0 m 47 ls []) := by
  have hx := E.hx
  have hb := E.hb
  unfold k1_weigh_36_B47 at hf
  refine lv_iload_n hx hb dX1_weigh_47 rfl (lv_at hl 2 rfl) ?_
  refine lv_sipush hx hb dX1_weigh_48 sp_256 ?_
  refine lv_icmp_ge (tgt := 77) hx hb dX1_weigh_51 (by decide) (fun c_12 => ?_) (fun c_12 => ?_)
  · replace hf := ite_t hf c_12
    cases hf
    exact retK_v E hw dX1_weigh_77
  · replace hf := ite_f hf c_12
    refine lv_iload_n hx hb dX1_weigh_54 rfl (lv_at hl 2 rfl) ?_
    refine lv_aload_n hx hb dX1_weigh_55 rfl (lv_at hl 0 rfl) ?_
    refine gK_6_2 E hw (E.hts _ wl223) dX1_weigh_56 ?_
    refine lv_iconst hx hb dX1_weigh_59 ic_m1 ?_
    refine lv_ixor hx hb dX1_weigh_60 ?_
    refine lv_iand hx hb dX1_weigh_61 ?_
    refine lv_if_ne (tgt := 71) hx hb dX1_weigh_62 (by decide) (fun c_13 => ?_) (fun c_13 => ?_)
    · replace hf := ite_f hf c_13
      obtain ⟨x2_14, ex2_14⟩ : ∃ y : Int32, y = x2 + (1) := ⟨_, rfl⟩
      replace hf := bnd_at hf ex2_14
      refine lv_iinc (v := x2_14) (lv' := [(2, .int (x2_14)), (0, .ref (a 6)), (1, .ref (a 36))]) hx hb dX1_weigh_71 hl (k := 2) rfl (by rw [ex2_14]; rfl) (by decide) rfl (fun ls hl => ?_)
      refine lv_goto (tgt := 47) hx hb dX1_weigh_74 (by decide) ?_
      exact hrec47 S (x2_14) _ _ ls hf hw (lv_sub hl [1, 2, 0] rfl)
    · replace hf := ite_t hf c_13
      refine lv_aload_n hx hb dX1_weigh_65 rfl (lv_at hl 0 rfl) ?_
      refine lv_iload_n hx hb dX1_weigh_66 rfl (lv_at hl 2 rfl) ?_
      refine lv_aload_n hx hb dX1_weigh_67 rfl (lv_at hl 1 rfl) ?_
      obtain ⟨S_17, h_15, hf⟩ := ob_at hf
      refine qk1_weighSet_36 E hw (mk1_weighSet_36 E.hD h_15) wl532 dX1_weigh_68 ⟨Nat.le_of_ble_eq_true rfl, Nat.le_of_ble_eq_true rfl⟩ hl.1 (Nat.le_of_ble_eq_true rfl) ⟨Nat.le_refl 0, Nat.le_refl 0⟩ (fun H locs hw => ?_)
      obtain ⟨x2_18, ex2_18⟩ : ∃ y : Int32, y = x2 + (1) := ⟨_, rfl⟩
      replace hf := bnd_at hf ex2_18
      refine lv_iinc (v := x2_18) (lv' := [(2, .int (x2_18)), (0, .ref (a 6)), (1, .ref (a 36))]) hx hb dX1_weigh_71 hl (k := 2) rfl (by rw [ex2_18]; rfl) (by decide) rfl (fun ls hl => ?_)
      refine lv_goto (tgt := 47) hx hb dX1_weigh_74 (by decide) ?_
      exact hrec47 S_17 (x2_18) _ _ ls hf hw (lv_sub hl [1, 2, 0] rfl)
theorem k1_weigh_36_l47 {p : Program} {l : Launch} {e : Env} {s : State} {m : MethodId} {args : Array Value} {below : List Frame} {meth : Method} {c : Code} {D : va_G} {a : Nat → Nat} {g : Nat → ClassId} (E : EK p s m args meth c D a g cX1_weigh 3 RX1 none) {F : Nat}  {out : SS}  : ∀ (n : Nat) (S : SS) (x2 : Int32) (H : Heap) (locs : List Loc) (ls : Array Slot), lpN (fun _ _ => none) (fun rec47 => k1_weigh_36_B47 F rec47) n S x2 = some out → WK D a g S s H locs → lv_has ls 3 [(0, .ref (a 6)), (1, .ref (a 36)), (2, .int (x2))] → W p l e (RM 2) s m args below meth c H locs 0 0 (MQ below (QK D a g none out) args s 0 0 (AK a)) (F0 m 47 ls []) := by
  intro n
  induction n with
  | zero => intro S x2 H locs ls hf; cases (show (none : Option SS) = some out from hf)
  | succ n ih => intro S x2 H locs ls hf hw hl; exact k1_weigh_36_b47 E (F := F) ih S x2 H locs ls hf hw hl
set_option maxRecDepth 100000 in
set_option maxHeartbeats 4000000 in
theorem mk1_weigh_36 {l : Launch} {D : va_G} {a : Nat → Nat} {g : Nat → ClassId} (hD : ∀ S, va_D (AK a) (wK a g S)) {F : Nat} {S : SS} {out : SS} (hf : k1_weigh_36 F S  = some out) : Met l yX1_weigh (wsm yX1_weigh cX1_weigh 3 none) (RM 2) (PK D a g S [.ref (a 6), .ref (a 36)]) (QK D a g none out) 0 0 (AK a) := by
  refine Met.ofW (cc := cX1_weigh) (maxL := 3) (ret := none) (by decide) rfl ?_
  intro p e s m args below meth c s₁ B hml hv
  obtain ⟨rfl, hP, hK, hN⟩ := hv
  have hts := atoms_spec (ws := wsm yX1_weigh cX1_weigh 3 none) B.pre
  have E : EK p s m _ meth c D a g cX1_weigh 3 RX1 none := ⟨B.exec, B.bytes, B.returns, hml, findClass_of_methodNamed B.named, fun w h => hts w (List.mem_cons_of_mem _ h), hK, hN, hD, B.notSynchronized⟩
  have hx := E.hx
  have hb := E.hb
  have hw : WK D a g S s s.heap [] := ⟨hP, va_S.rf⟩
  have hl := lv_entry ([.ref (a 6), .ref (a 36)]) (n := 3) (Nat.le_of_ble_eq_true rfl)
  rw [lg_entry_eq]
  generalize (lg_sl ([.ref (a 6), .ref (a 36)]) ++ List.replicate (3 - (lg_sl ([.ref (a 6), .ref (a 36)])).length) Slot.unset).toArray = ls at hl ⊢
  have hl : lv_has ls 3 [(0, .ref (a 6)), (1, .ref (a 36))] := hl
  show W p l e (RM 2) s m _ below meth c s.heap [] 0 0 (MQ below (QK D a g none out) _ s 0 0 (AK a)) (F0 m 0 ls [])
  unfold k1_weigh_36 at hf
  refine lv_aload_n hx hb dX1_weigh_0 rfl (lv_at hl 1 rfl) ?_
  refine va_alen hx hb E.hK hw.1 36 28 rfl rfl (v := 8) rfl dX1_weigh_1 ?_
  refine lv_bipush hx hb dX1_weigh_2 bp_8 ?_
  refine lv_icmp_ge (tgt := 8) hx hb dX1_weigh_4 (by decide) (fun c_1 => ?_) (fun c_1 => ?_)
  · replace hf := ite_t hf c_1
    refine lv_aload_n hx hb dX1_weigh_8 rfl (lv_at hl 0 rfl) ?_
    refine lv_iconst hx hb dX1_weigh_9 ic_0 ?_
    refine pK_6_2 E hw (E.hts _ wl223) dX1_weigh_10 (fun S_2 eS_2 H locs hw => ?_)
    replace hf := bnd_at hf eS_2
    refine lv_iconst hx hb dX1_weigh_13 ic_0 ?_
    refine lv_topi (fun x2_3 ex2_3 => ?_)
    replace hf := bnd_at hf ex2_3
    refine lv_istore_n (lv' := [(2, .int (x2_3)), (0, .ref (a 6)), (1, .ref (a 36))]) hx hb dX1_weigh_14 rfl hl (by decide) rfl (fun ls hl => ?_)
    refine k1_weigh_36_l15 E ?_ F S_2 (x2_3) _ _ ls hf hw (lv_sub hl [1, 2, 0] rfl)
    · intro S_10 H locs ls hf hw hl
      refine lv_iconst hx hb dX1_weigh_45 ic_1 ?_
      refine lv_topi (fun x2_11 ex2_11 => ?_)
      replace hf := bnd_at hf ex2_11
      refine lv_istore_n (lv' := [(2, .int (x2_11)), (0, .ref (a 6)), (1, .ref (a 36))]) hx hb dX1_weigh_46 rfl hl (by decide) rfl (fun ls hl => ?_)
      refine k1_weigh_36_l47 E  F S_10 (x2_11) _ _ ls hf hw (lv_sub hl [1, 2, 0] rfl)
  · replace hf := ite_f hf c_1
    cases hf
    exact retK_v E hw dX1_weigh_7
theorem qk1_weigh_36 {p : Program} {l : Launch} {e : Env} {R : Room} {s : State} {m : MethodId} {args : Array Value} {below : List Frame} {meth : Method} {c : Code} {H : Heap} {locs : List Loc} {cells slots : Nat} {Q : State → Prop} {cc : ByteArray} {pc : Nat} {ls : Array Slot} {rest : List Value} {D : va_G} {a : Nat → Nat} {g : Nat → ClassId} {nL : Nat} {own : String} {ret : Option FieldType} {S S1 : SS} {k : Nat} (E : EK p s m args meth c D a g cc nL own ret) (hw : WK D a g S s H locs) (hM : Met l yX1_weigh (wsm yX1_weigh cX1_weigh 3 none) (RM k) (PK D a g S [.ref (a 6), .ref (a 36)]) (QK D a g none S1) 0 0 (AK a)) {idx : Nat} (hlk : Cond.methodLink own idx yX1_weigh ∈ wd) (hdg : decode cc pc = .ok (.invokevirtual idx, 3)) (hR : k + 1 ≤ R.frames ∧ 8 + (3 + 11) + 64 * k ≤ R.locals) (hls : ls.size = nL) (hrest : (rest.map fun v => v.category).sum ≤ 8) (hcs : cells ≤ R.cells ∧ slots ≤ R.slots) (kk : ∀ (H1 : Heap) (locs1 : List Loc), WK D a g S1 s H1 locs1 → W p l e R s m args below meth c H1 locs1 cells slots Q (F0 m (pc + 3) ls (rest))) : W p l e R s m args below meth c H locs cells slots Q (F0 m pc ls (.ref (a 36) :: .ref (a 6) :: rest)) :=
  callK_v hw (va_runV (As := [.ref (a 36)]) (rest := rest) ⟨E.hx, E.hb, E.hml, E.hown, E.hts⟩ hM ⟨cb_of 1 E.hts wl531 wl42 hlk (by decide +kernel) hR, E.hts _ wl529, E.hts _ wl530⟩ ⟨PK_blind, va_recv E.hK hw.1 (ci := 1) (q0 := 6) rfl rfl, PK_pre E.hK E.hN hw.1⟩ rfl rfl hls rfl (lv_room hrest) hdg hcs) kk
/-! J6_bitCount_0f7a4 -/
def k6_bitCount (F : Nat) (S : SS) (x0 : Int32) : Option Int32 :=
  bnd (x0 - (((Int32.toUInt32 x0 >>> (Int32.toUInt32 ((1 : Int32)) &&& Int32.toUInt32 31)).toInt32) &&& ((1431655765 : Int32)))) fun x0_1 => bnd ((x0_1 &&& ((858993459 : Int32))) + (((Int32.toUInt32 x0_1 >>> (Int32.toUInt32 ((2 : Int32)) &&& Int32.toUInt32 31)).toInt32) &&& ((858993459 : Int32)))) fun x0_2 => bnd ((x0_2 + ((Int32.toUInt32 x0_2 >>> (Int32.toUInt32 ((4 : Int32)) &&& Int32.toUInt32 31)).toInt32)) &&& ((252645135 : Int32))) fun x0_3 => bnd (x0_3 + ((Int32.toUInt32 x0_3 >>> (Int32.toUInt32 ((8 : Int32)) &&& Int32.toUInt32 31)).toInt32)) fun x0_4 => bnd (x0_4 + ((Int32.toUInt32 x0_4 >>> (Int32.toUInt32 ((16 : Int32)) &&& Int32.toUInt32 31)).toInt32)) fun x0_5 => some (x0_5 &&& ((63 : Int32)))
set_option maxRecDepth 100000 in
set_option maxHeartbeats 4000000 in
theorem mk6_bitCount {l : Launch} {D : va_G} {a : Nat → Nat} {g : Nat → ClassId} (hD : ∀ S, va_D (AK a) (wK a g S)) {F : Nat} {S : SS} {x0 : Int32} {out : Int32} (hf : k6_bitCount F S x0 = some out) : Met l yJ6_bitCount_0f7a4 (wsm yJ6_bitCount_0f7a4 cJ6_bitCount_0f7a4 1 (some .int)) (RM 1) (PK D a g S [.int x0]) (QK D a g (some (.int out)) S) 0 0 (AK a) := by
  refine Met.ofW (cc := cJ6_bitCount_0f7a4) (maxL := 1) (ret := (some .int)) (by decide) rfl ?_
  intro p e s m args below meth c s₁ B hml hv
  obtain ⟨rfl, hP, hK, hN⟩ := hv
  have hts := atoms_spec (ws := wsm yJ6_bitCount_0f7a4 cJ6_bitCount_0f7a4 1 (some .int)) B.pre
  have E : EK p s m _ meth c D a g cJ6_bitCount_0f7a4 1 RJ6 (some .int) := ⟨B.exec, B.bytes, B.returns, hml, findClass_of_methodNamed B.named, fun w h => hts w (List.mem_cons_of_mem _ h), hK, hN, hD, B.notSynchronized⟩
  have hx := E.hx
  have hb := E.hb
  have hw : WK D a g S s s.heap [] := ⟨hP, va_S.rf⟩
  have hl := lv_entry ([.int x0]) (n := 1) (Nat.le_of_ble_eq_true rfl)
  rw [lg_entry_eq]
  generalize (lg_sl ([.int x0]) ++ List.replicate (1 - (lg_sl ([.int x0])).length) Slot.unset).toArray = ls at hl ⊢
  have hl : lv_has ls 1 [(0, .int (x0))] := hl
  show W p l e (RM 1) s m _ below meth c s.heap [] 0 0 (MQ below (QK D a g (some (.int out)) S) _ s 0 0 (AK a)) (F0 m 0 ls [])
  unfold k6_bitCount at hf
  refine lv_iload_n hx hb dJ6_bitCount_0f7a4_0 rfl (lv_at hl 0 rfl) ?_
  refine lv_iload_n hx hb dJ6_bitCount_0f7a4_1 rfl (lv_at hl 0 rfl) ?_
  refine lv_iconst hx hb dJ6_bitCount_0f7a4_2 ic_1 ?_
  refine lv_iushr (v := (Int32.toUInt32 x0 >>> (Int32.toUInt32 ((1 : Int32)) &&& Int32.toUInt32 31)).toInt32) hx hb dJ6_bitCount_0f7a4_3 rfl ?_
  refine lv_ldcw hx hb E.hown (E.hts _ wl544) dJ6_bitCount_0f7a4_4 ?_
  refine lv_iand hx hb dJ6_bitCount_0f7a4_7 ?_
  refine lv_isub hx hb dJ6_bitCount_0f7a4_8 ?_
  refine lv_topi (fun x0_1 ex0_1 => ?_)
  replace hf := bnd_at hf ex0_1
  refine lv_istore_n (lv' := [(0, .int (x0_1))]) hx hb dJ6_bitCount_0f7a4_9 rfl hl (by decide) rfl (fun ls hl => ?_)
  refine lv_iload_n hx hb dJ6_bitCount_0f7a4_10 rfl (lv_at hl 0 rfl) ?_
  refine lv_ldcw hx hb E.hown (E.hts _ wl545) dJ6_bitCount_0f7a4_11 ?_
  refine lv_iand hx hb dJ6_bitCount_0f7a4_14 ?_
  refine lv_iload_n hx hb dJ6_bitCount_0f7a4_15 rfl (lv_at hl 0 rfl) ?_
  refine lv_iconst hx hb dJ6_bitCount_0f7a4_16 ic_2 ?_
  refine lv_iushr (v := (Int32.toUInt32 x0_1 >>> (Int32.toUInt32 ((2 : Int32)) &&& Int32.toUInt32 31)).toInt32) hx hb dJ6_bitCount_0f7a4_17 rfl ?_
  refine lv_ldcw hx hb E.hown (E.hts _ wl545) dJ6_bitCount_0f7a4_18 ?_
  refine lv_iand hx hb dJ6_bitCount_0f7a4_21 ?_
  refine lv_iadd hx hb dJ6_bitCount_0f7a4_22 ?_
  refine lv_topi (fun x0_2 ex0_2 => ?_)
  replace hf := bnd_at hf ex0_2
  refine lv_istore_n (lv' := [(0, .int (x0_2))]) hx hb dJ6_bitCount_0f7a4_23 rfl hl (by decide) rfl (fun ls hl => ?_)
  refine lv_iload_n hx hb dJ6_bitCount_0f7a4_24 rfl (lv_at hl 0 rfl) ?_
  refine lv_iload_n hx hb dJ6_bitCount_0f7a4_25 rfl (lv_at hl 0 rfl) ?_
  refine lv_iconst hx hb dJ6_bitCount_0f7a4_26 ic_4 ?_
  refine lv_iushr (v := (Int32.toUInt32 x0_2 >>> (Int32.toUInt32 ((4 : Int32)) &&& Int32.toUInt32 31)).toInt32) hx hb dJ6_bitCount_0f7a4_27 rfl ?_
  refine lv_iadd hx hb dJ6_bitCount_0f7a4_28 ?_
  refine lv_ldcw hx hb E.hown (E.hts _ wl546) dJ6_bitCount_0f7a4_29 ?_
  refine lv_iand hx hb dJ6_bitCount_0f7a4_32 ?_
  refine lv_topi (fun x0_3 ex0_3 => ?_)
  replace hf := bnd_at hf ex0_3
  refine lv_istore_n (lv' := [(0, .int (x0_3))]) hx hb dJ6_bitCount_0f7a4_33 rfl hl (by decide) rfl (fun ls hl => ?_)
  refine lv_iload_n hx hb dJ6_bitCount_0f7a4_34 rfl (lv_at hl 0 rfl) ?_
  refine lv_iload_n hx hb dJ6_bitCount_0f7a4_35 rfl (lv_at hl 0 rfl) ?_
  refine lv_bipush hx hb dJ6_bitCount_0f7a4_36 bp_8 ?_
  refine lv_iushr (v := (Int32.toUInt32 x0_3 >>> (Int32.toUInt32 ((8 : Int32)) &&& Int32.toUInt32 31)).toInt32) hx hb dJ6_bitCount_0f7a4_38 rfl ?_
  refine lv_iadd hx hb dJ6_bitCount_0f7a4_39 ?_
  refine lv_topi (fun x0_4 ex0_4 => ?_)
  replace hf := bnd_at hf ex0_4
  refine lv_istore_n (lv' := [(0, .int (x0_4))]) hx hb dJ6_bitCount_0f7a4_40 rfl hl (by decide) rfl (fun ls hl => ?_)
  refine lv_iload_n hx hb dJ6_bitCount_0f7a4_41 rfl (lv_at hl 0 rfl) ?_
  refine lv_iload_n hx hb dJ6_bitCount_0f7a4_42 rfl (lv_at hl 0 rfl) ?_
  refine lv_bipush hx hb dJ6_bitCount_0f7a4_43 bp_16 ?_
  refine lv_iushr (v := (Int32.toUInt32 x0_4 >>> (Int32.toUInt32 ((16 : Int32)) &&& Int32.toUInt32 31)).toInt32) hx hb dJ6_bitCount_0f7a4_45 rfl ?_
  refine lv_iadd hx hb dJ6_bitCount_0f7a4_46 ?_
  refine lv_topi (fun x0_5 ex0_5 => ?_)
  replace hf := bnd_at hf ex0_5
  refine lv_istore_n (lv' := [(0, .int (x0_5))]) hx hb dJ6_bitCount_0f7a4_47 rfl hl (by decide) rfl (fun ls hl => ?_)
  refine lv_iload_n hx hb dJ6_bitCount_0f7a4_48 rfl (lv_at hl 0 rfl) ?_
  refine lv_bipush hx hb dJ6_bitCount_0f7a4_49 bp_63 ?_
  refine lv_iand hx hb dJ6_bitCount_0f7a4_51 ?_
  cases hf
  exact retK_i E hw dJ6_bitCount_0f7a4_52
theorem qk6_bitCount {p : Program} {l : Launch} {e : Env} {R : Room} {s : State} {m : MethodId} {args : Array Value} {below : List Frame} {meth : Method} {c : Code} {H : Heap} {locs : List Loc} {cells slots : Nat} {Q : State → Prop} {cc : ByteArray} {pc : Nat} {ls : Array Slot} {rest : List Value} {D : va_G} {a : Nat → Nat} {g : Nat → ClassId} {nL : Nat} {own : String} {ret : Option FieldType} {S S1 : SS} {k : Nat} {x0 : Int32} {r : Int32} (E : EK p s m args meth c D a g cc nL own ret) (hw : WK D a g S s H locs) (hM : Met l yJ6_bitCount_0f7a4 (wsm yJ6_bitCount_0f7a4 cJ6_bitCount_0f7a4 1 (some .int)) (RM k) (PK D a g S [.int x0]) (QK D a g (some (.int r)) S1) 0 0 (AK a)) {idx : Nat} (hlk : Cond.methodLink own idx yJ6_bitCount_0f7a4 ∈ wd) (hdg : decode cc pc = .ok (.invokestatic idx, 3)) (hR : k + 1 ≤ R.frames ∧ 8 + (1 + 11) + 64 * k ≤ R.locals) (hls : ls.size = nL) (hrest : (rest.map fun v => v.category).sum ≤ 8) (hcs : cells ≤ R.cells ∧ slots ≤ R.slots) (kk : ∀ (H1 : Heap) (locs1 : List Loc), WK D a g S1 s H1 locs1 → W p l e R s m args below meth c H1 locs1 cells slots Q (F0 m (pc + 3) ls (.int r :: rest))) : W p l e R s m args below meth c H locs cells slots Q (F0 m pc ls (.int x0 :: rest)) :=
  callK_i hw (va_runS (As := [.int x0]) (rest := rest) ⟨E.hx, E.hb, E.hml, E.hown, E.hts⟩ hM ⟨cb_of 1 E.hts wl543 wl47 hlk (by decide +kernel) hR, E.hts _ wl542⟩ ⟨PK_blind, PK_pre E.hK E.hN hw.1⟩ rfl rfl hls rfl (lv_room hrest) hdg hcs) kk
/-! X1_payments -/
def k1_payments (F : Nat) (S : SS) : Option Int32 :=
  (k6_bitCount F S (S 6 2)).bind fun r_2 => (rdA 256 (S 28) (S 6 2)).bind fun v_4 => some (r_2 - v_4)
set_option maxRecDepth 100000 in
set_option maxHeartbeats 4000000 in
theorem mk1_payments {l : Launch} {D : va_G} {a : Nat → Nat} {g : Nat → ClassId} (hD : ∀ S, va_D (AK a) (wK a g S)) {F : Nat} {S : SS} {out : Int32} (hf : k1_payments F S  = some out) : Met l yX1_payments (wsm yX1_payments cX1_payments 1 (some .int)) (RM 2) (PK D a g S [.ref (a 6)]) (QK D a g (some (.int out)) S) 0 0 (AK a) := by
  refine Met.ofW (cc := cX1_payments) (maxL := 1) (ret := (some .int)) (by decide) rfl ?_
  intro p e s m args below meth c s₁ B hml hv
  obtain ⟨rfl, hP, hK, hN⟩ := hv
  have hts := atoms_spec (ws := wsm yX1_payments cX1_payments 1 (some .int)) B.pre
  have E : EK p s m _ meth c D a g cX1_payments 1 RX1 (some .int) := ⟨B.exec, B.bytes, B.returns, hml, findClass_of_methodNamed B.named, fun w h => hts w (List.mem_cons_of_mem _ h), hK, hN, hD, B.notSynchronized⟩
  have hx := E.hx
  have hb := E.hb
  have hw : WK D a g S s s.heap [] := ⟨hP, va_S.rf⟩
  have hl := lv_entry ([.ref (a 6)]) (n := 1) (Nat.le_of_ble_eq_true rfl)
  rw [lg_entry_eq]
  generalize (lg_sl ([.ref (a 6)]) ++ List.replicate (1 - (lg_sl ([.ref (a 6)])).length) Slot.unset).toArray = ls at hl ⊢
  have hl : lv_has ls 1 [(0, .ref (a 6))] := hl
  show W p l e (RM 2) s m _ below meth c s.heap [] 0 0 (MQ below (QK D a g (some (.int out)) S) _ s 0 0 (AK a)) (F0 m 0 ls [])
  unfold k1_payments at hf
  refine lv_aload_n hx hb dX1_payments_0 rfl (lv_at hl 0 rfl) ?_
  refine gK_6_2 E hw (E.hts _ wl223) dX1_payments_1 ?_
  obtain ⟨r_2, h_1, hf⟩ := ob_at hf
  refine qk6_bitCount E hw (mk6_bitCount E.hD h_1) wl541 dX1_payments_4 ⟨Nat.le_of_ble_eq_true rfl, Nat.le_of_ble_eq_true rfl⟩ hl.1 (Nat.le_of_ble_eq_true rfl) ⟨Nat.le_refl 0, Nat.le_refl 0⟩ (fun H locs hw => ?_)
  refine lv_aload_n hx hb dX1_payments_7 rfl (lv_at hl 0 rfl) ?_
  refine gK_6_1 E hw (E.hts _ wl222) dX1_payments_8 ?_
  refine lv_aload_n hx hb dX1_payments_11 rfl (lv_at hl 0 rfl) ?_
  refine gK_6_2 E hw (E.hts _ wl223) dX1_payments_12 ?_
  obtain ⟨h_v_4, hf⟩ := rdA_at hf
  refine lK_28 E hw h_v_4 dX1_payments_15 (fun v_4 ev_4 => ?_)
  replace hf := hf v_4 ev_4
  refine lv_isub hx hb dX1_payments_16 ?_
  cases hf
  exact retK_i E hw dX1_payments_17
theorem qk1_payments {p : Program} {l : Launch} {e : Env} {R : Room} {s : State} {m : MethodId} {args : Array Value} {below : List Frame} {meth : Method} {c : Code} {H : Heap} {locs : List Loc} {cells slots : Nat} {Q : State → Prop} {cc : ByteArray} {pc : Nat} {ls : Array Slot} {rest : List Value} {D : va_G} {a : Nat → Nat} {g : Nat → ClassId} {nL : Nat} {own : String} {ret : Option FieldType} {S S1 : SS} {k : Nat} {r : Int32} (E : EK p s m args meth c D a g cc nL own ret) (hw : WK D a g S s H locs) (hM : Met l yX1_payments (wsm yX1_payments cX1_payments 1 (some .int)) (RM k) (PK D a g S [.ref (a 6)]) (QK D a g (some (.int r)) S1) 0 0 (AK a)) {idx : Nat} (hlk : Cond.methodLink own idx yX1_payments ∈ wd) (hdg : decode cc pc = .ok (.invokevirtual idx, 3)) (hR : k + 1 ≤ R.frames ∧ 8 + (1 + 11) + 64 * k ≤ R.locals) (hls : ls.size = nL) (hrest : (rest.map fun v => v.category).sum ≤ 8) (hcs : cells ≤ R.cells ∧ slots ≤ R.slots) (kk : ∀ (H1 : Heap) (locs1 : List Loc), WK D a g S1 s H1 locs1 → W p l e R s m args below meth c H1 locs1 cells slots Q (F0 m (pc + 3) ls (.int r :: rest))) : W p l e R s m args below meth c H locs cells slots Q (F0 m pc ls (.ref (a 6) :: rest)) :=
  callK_i hw (va_runV (As := []) (rest := rest) ⟨E.hx, E.hb, E.hml, E.hown, E.hts⟩ hM ⟨cb_of 0 E.hts wl540 wl42 hlk (by decide +kernel) hR, E.hts _ wl538, E.hts _ wl539⟩ ⟨PK_blind, va_recv E.hK hw.1 (ci := 1) (q0 := 6) rfl rfl, PK_pre E.hK E.hN hw.1⟩ rfl rfl hls rfl (lv_room hrest) hdg hcs) kk
/-! X7_fewest -/
def k7_fewest (F : Nat) (S : SS) : Option (Int32 × SS) :=
  (k7_strikeBalances F S ).bind fun S_3 => (k1_weigh_36 F S_3 ).bind fun S_6 => (k1_payments F S_6 ).bind fun r_8 => some (r_8, S_6)
set_option maxRecDepth 100000 in
set_option maxHeartbeats 4000000 in
theorem mk7_fewest {l : Launch} {D : va_G} {a : Nat → Nat} {g : Nat → ClassId} (hD : ∀ S, va_D (AK a) (wK a g S)) {F : Nat} {S : SS} {out : (Int32 × SS)} (hf : k7_fewest F S  = some out) : Met l yX7_fewest (wsm yX7_fewest cX7_fewest 1 (some .int)) (RM 15) (PK D a g S [.ref (a 0)]) (QK D a g (some (.int out.1)) out.2) 0 0 (AK a) := by
  refine Met.ofW (cc := cX7_fewest) (maxL := 1) (ret := (some .int)) (by decide) rfl ?_
  intro p e s m args below meth c s₁ B hml hv
  obtain ⟨rfl, hP, hK, hN⟩ := hv
  have hts := atoms_spec (ws := wsm yX7_fewest cX7_fewest 1 (some .int)) B.pre
  have E : EK p s m _ meth c D a g cX7_fewest 1 RX7 (some .int) := ⟨B.exec, B.bytes, B.returns, hml, findClass_of_methodNamed B.named, fun w h => hts w (List.mem_cons_of_mem _ h), hK, hN, hD, B.notSynchronized⟩
  have hx := E.hx
  have hb := E.hb
  have hw : WK D a g S s s.heap [] := ⟨hP, va_S.rf⟩
  have hl := lv_entry ([.ref (a 0)]) (n := 1) (Nat.le_of_ble_eq_true rfl)
  rw [lg_entry_eq]
  generalize (lg_sl ([.ref (a 0)]) ++ List.replicate (1 - (lg_sl ([.ref (a 0)])).length) Slot.unset).toArray = ls at hl ⊢
  have hl : lv_has ls 1 [(0, .ref (a 0))] := hl
  show W p l e (RM 15) s m _ below meth c s.heap [] 0 0 (MQ below (QK D a g (some (.int out.1)) out.2) _ s 0 0 (AK a)) (F0 m 0 ls [])
  unfold k7_fewest at hf
  refine lv_aload_n hx hb dX7_fewest_0 rfl (lv_at hl 0 rfl) ?_
  obtain ⟨S_3, h_1, hf⟩ := ob_at hf
  refine qk7_strikeBalances E hw (mk7_strikeBalances E.hD h_1) wl519 dX7_fewest_1 ⟨Nat.le_of_ble_eq_true rfl, Nat.le_of_ble_eq_true rfl⟩ hl.1 (Nat.le_of_ble_eq_true rfl) ⟨Nat.le_refl 0, Nat.le_refl 0⟩ (fun H locs hw => ?_)
  refine lv_aload_n hx hb dX7_fewest_4 rfl (lv_at hl 0 rfl) ?_
  refine gK_0_5 E hw (E.hts _ wl277) dX7_fewest_5 ?_
  refine lv_aload_n hx hb dX7_fewest_8 rfl (lv_at hl 0 rfl) ?_
  refine gK_0_8 E hw (E.hts _ wl280) dX7_fewest_9 ?_
  obtain ⟨S_6, h_4, hf⟩ := ob_at hf
  refine qk1_weigh_36 E hw (mk1_weigh_36 E.hD h_4) wl528 dX7_fewest_12 ⟨Nat.le_of_ble_eq_true rfl, Nat.le_of_ble_eq_true rfl⟩ hl.1 (Nat.le_of_ble_eq_true rfl) ⟨Nat.le_refl 0, Nat.le_refl 0⟩ (fun H locs hw => ?_)
  refine lv_aload_n hx hb dX7_fewest_15 rfl (lv_at hl 0 rfl) ?_
  refine gK_0_5 E hw (E.hts _ wl277) dX7_fewest_16 ?_
  obtain ⟨r_8, h_7, hf⟩ := ob_at hf
  refine qk1_payments E hw (mk1_payments E.hD h_7) wl537 dX7_fewest_19 ⟨Nat.le_of_ble_eq_true rfl, Nat.le_of_ble_eq_true rfl⟩ hl.1 (Nat.le_of_ble_eq_true rfl) ⟨Nat.le_refl 0, Nat.le_refl 0⟩ (fun H locs hw => ?_)
  cases hf
  exact retK_i E hw dX7_fewest_22
theorem qk7_fewest {p : Program} {l : Launch} {e : Env} {R : Room} {s : State} {m : MethodId} {args : Array Value} {below : List Frame} {meth : Method} {c : Code} {H : Heap} {locs : List Loc} {cells slots : Nat} {Q : State → Prop} {cc : ByteArray} {pc : Nat} {ls : Array Slot} {rest : List Value} {D : va_G} {a : Nat → Nat} {g : Nat → ClassId} {nL : Nat} {own : String} {ret : Option FieldType} {S S1 : SS} {k : Nat} {r : Int32} (E : EK p s m args meth c D a g cc nL own ret) (hw : WK D a g S s H locs) (hM : Met l yX7_fewest (wsm yX7_fewest cX7_fewest 1 (some .int)) (RM k) (PK D a g S [.ref (a 0)]) (QK D a g (some (.int r)) S1) 0 0 (AK a)) {idx : Nat} (hlk : Cond.methodLink own idx yX7_fewest ∈ wd) (hdg : decode cc pc = .ok (.invokevirtual idx, 3)) (hR : k + 1 ≤ R.frames ∧ 8 + (1 + 11) + 64 * k ≤ R.locals) (hls : ls.size = nL) (hrest : (rest.map fun v => v.category).sum ≤ 8) (hcs : cells ≤ R.cells ∧ slots ≤ R.slots) (kk : ∀ (H1 : Heap) (locs1 : List Loc), WK D a g S1 s H1 locs1 → W p l e R s m args below meth c H1 locs1 cells slots Q (F0 m (pc + 3) ls (.int r :: rest))) : W p l e R s m args below meth c H locs cells slots Q (F0 m pc ls (.ref (a 0) :: rest)) :=
  callK_i hw (va_runV (As := []) (rest := rest) ⟨E.hx, E.hb, E.hml, E.hown, E.hts⟩ hM ⟨cb_of 0 E.hts wl527 wl35 hlk (by decide +kernel) hR, E.hts _ wl525, E.hts _ wl526⟩ ⟨PK_blind, va_recv E.hK hw.1 (ci := 7) (q0 := 0) rfl rfl, PK_pre E.hK E.hN hw.1⟩ rfl rfl hls rfl (lv_room hrest) hdg hcs) kk
/-! X1_firstGroup -/
def k1_firstGroup_B7_J31 (F : Nat) (S : SS) (x1 : Int32) (x2 : Int32) (rec7 : Int32 → Option Int32) (x3 : Int32) (s0 : Int32) : Option Int32 :=
  bnd (s0) fun x4_5 => if x4_5 = 0 then (bnd (x3 + (1)) fun x3_7 => rec7 (x3_7)) else ((rdA 256 (S 27) x3).bind fun v_8 => if v_8 = 0 then ((rdA 256 (S 28) (x1 ^^^ x3)).bind fun v_11 => (rdA 256 (S 28) x1).bind fun v_12 => if (v_11 + ((1 : Int32))) = v_12 then (some (x3)) else (bnd (x3 + (1)) fun x3_14 => rec7 (x3_14))) else (bnd (x3 + (1)) fun x3_10 => rec7 (x3_10)))
def k1_firstGroup_B7_J30 (F : Nat) (S : SS) (x1 : Int32) (x2 : Int32) (rec7 : Int32 → Option Int32) (x3 : Int32) : Option Int32 :=
  k1_firstGroup_B7_J31 F S x1 x2 rec7 (x3) ((0 : Int32))
def k1_firstGroup_B7 (F : Nat) (S : SS) (x1 : Int32) (x2 : Int32) (rec7 : Int32 → Option Int32) (x3 : Int32) : Option Int32 :=
  if x1 ≤ x3 then (some (x1)) else (if (x3 &&& (x1 ^^^ ((-1 : Int32)))) = 0 then (if (x3 &&& x2) = 0 then (k1_firstGroup_B7_J30 F S x1 x2 rec7 (x3)) else (k1_firstGroup_B7_J31 F S x1 x2 rec7 (x3) ((1 : Int32)))) else (k1_firstGroup_B7_J30 F S x1 x2 rec7 (x3)))
def k1_firstGroup (F : Nat) (S : SS) (x1 : Int32) : Option Int32 :=
  bnd (x1 &&& (-x1)) fun x2_1 => bnd (x2_1) fun x3_2 => lpN (fun _ => none) (fun rec7 => k1_firstGroup_B7 F S (x1) (x2_1) rec7 ) F (x3_2)
set_option maxRecDepth 100000 in
set_option maxHeartbeats 4000000 in
theorem k1_firstGroup_B7_J31_j {p : Program} {l : Launch} {e : Env} {s : State} {m : MethodId} {args : Array Value} {below : List Frame} {meth : Method} {c : Code} {D : va_G} {a : Nat → Nat} {g : Nat → ClassId} (E : EK p s m args meth c D a g cX1_firstGroup 5 RX1 (some .int)) {F : Nat}  (S : SS) (x1 : Int32) (x2 : Int32) {rec7 : Int32 → Option Int32} {out : Int32} (hrec7 : ∀ (x3 : Int32) (H : Heap) (locs : List Loc) (ls : Array Slot), rec7 x3 = some out → WK D a g S s H locs → lv_has ls 5 [(0, .ref (a 6)), (1, .int (x1)), (2, .int (x2)), (3, .int (x3))] → W p l e (RM 1) s m args below meth c H locs 0 0 (MQ below (QK D a g (some (.int out)) S) args s 0 0 (AK a)) (F0 m 7 ls []))  (x3 : Int32) (s0 : Int32) (H : Heap) (locs : List Loc) (ls : Array Slot) (hf : k1_firstGroup_B7_J31 F S x1 x2 rec7 x3 s0 = some out) (hw : WK D a g S s H locs) (hl : lv_has ls 5 [(0, .ref (a 6)), (1, .int (x1)), (2, .int (x2)), (3, .int (x3))]) : W p l e (RM 1) s m args below meth c H locs 0 0 (MQ below (QK D a g (some (.int out)) S) args s 0 0 (AK a)) (F0 m 31 ls [.int (s0)]) := by
  have hx := E.hx
  have hb := E.hb
  unfold k1_firstGroup_B7_J31 at hf
  refine lv_topi (fun x4_5 ex4_5 => ?_)
  replace hf := bnd_at hf ex4_5
  refine lv_istore (lv' := [(4, .int (x4_5)), (0, .ref (a 6)), (1, .int (x1)), (2, .int (x2)), (3, .int (x3))]) hx hb dX1_firstGroup_31 hl (by decide) rfl (fun ls hl => ?_)
  refine lv_iload hx hb dX1_firstGroup_33 (lv_at hl 0 rfl) ?_
  refine lv_if_eq (tgt := 68) hx hb dX1_firstGroup_35 (by decide) (fun c_6 => ?_) (fun c_6 => ?_)
  · replace hf := ite_t hf c_6
    obtain ⟨x3_7, ex3_7⟩ : ∃ y : Int32, y = x3 + (1) := ⟨_, rfl⟩
    replace hf := bnd_at hf ex3_7
    refine lv_iinc (v := x3_7) (lv' := [(3, .int (x3_7)), (4, .int (x4_5)), (0, .ref (a 6)), (1, .int (x1)), (2, .int (x2))]) hx hb dX1_firstGroup_68 hl (k := 4) rfl (by rw [ex3_7]; rfl) (by decide) rfl (fun ls hl => ?_)
    refine lv_goto (tgt := 7) hx hb dX1_firstGroup_71 (by decide) ?_
    exact hrec7 (x3_7) _ _ ls hf hw (lv_sub hl [2, 3, 4, 0] rfl)
  · replace hf := ite_f hf c_6
    refine lv_aload_n hx hb dX1_firstGroup_38 rfl (lv_at hl 1 rfl) ?_
    refine gK_6_0 E hw (E.hts _ wl221) dX1_firstGroup_39 ?_
    refine lv_iload_n hx hb dX1_firstGroup_42 rfl (lv_at hl 4 rfl) ?_
    obtain ⟨h_v_8, hf⟩ := rdA_at hf
    refine lK_27 E hw h_v_8 dX1_firstGroup_43 (fun v_8 ev_8 => ?_)
    replace hf := hf v_8 ev_8
    refine lv_if_ne (tgt := 68) hx hb dX1_firstGroup_44 (by decide) (fun c_9 => ?_) (fun c_9 => ?_)
    · replace hf := ite_f hf c_9
      obtain ⟨x3_10, ex3_10⟩ : ∃ y : Int32, y = x3 + (1) := ⟨_, rfl⟩
      replace hf := bnd_at hf ex3_10
      refine lv_iinc (v := x3_10) (lv' := [(3, .int (x3_10)), (4, .int (x4_5)), (0, .ref (a 6)), (1, .int (x1)), (2, .int (x2))]) hx hb dX1_firstGroup_68 hl (k := 4) rfl (by rw [ex3_10]; rfl) (by decide) rfl (fun ls hl => ?_)
      refine lv_goto (tgt := 7) hx hb dX1_firstGroup_71 (by decide) ?_
      exact hrec7 (x3_10) _ _ ls hf hw (lv_sub hl [2, 3, 4, 0] rfl)
    · replace hf := ite_t hf c_9
      refine lv_aload_n hx hb dX1_firstGroup_47 rfl (lv_at hl 1 rfl) ?_
      refine gK_6_1 E hw (E.hts _ wl222) dX1_firstGroup_48 ?_
      refine lv_iload_n hx hb dX1_firstGroup_51 rfl (lv_at hl 2 rfl) ?_
      refine lv_iload_n hx hb dX1_firstGroup_52 rfl (lv_at hl 4 rfl) ?_
      refine lv_ixor hx hb dX1_firstGroup_53 ?_
      obtain ⟨h_v_11, hf⟩ := rdA_at hf
      refine lK_28 E hw h_v_11 dX1_firstGroup_54 (fun v_11 ev_11 => ?_)
      replace hf := hf v_11 ev_11
      refine lv_iconst hx hb dX1_firstGroup_55 ic_1 ?_
      refine lv_iadd hx hb dX1_firstGroup_56 ?_
      refine lv_aload_n hx hb dX1_firstGroup_57 rfl (lv_at hl 1 rfl) ?_
      refine gK_6_1 E hw (E.hts _ wl222) dX1_firstGroup_58 ?_
      refine lv_iload_n hx hb dX1_firstGroup_61 rfl (lv_at hl 2 rfl) ?_
      obtain ⟨h_v_12, hf⟩ := rdA_at hf
      refine lK_28 E hw h_v_12 dX1_firstGroup_62 (fun v_12 ev_12 => ?_)
      replace hf := hf v_12 ev_12
      refine lv_icmp_ne (tgt := 68) hx hb dX1_firstGroup_63 (by decide) (fun c_13 => ?_) (fun c_13 => ?_)
      · replace hf := ite_f hf c_13
        obtain ⟨x3_14, ex3_14⟩ : ∃ y : Int32, y = x3 + (1) := ⟨_, rfl⟩
        replace hf := bnd_at hf ex3_14
        refine lv_iinc (v := x3_14) (lv' := [(3, .int (x3_14)), (4, .int (x4_5)), (0, .ref (a 6)), (1, .int (x1)), (2, .int (x2))]) hx hb dX1_firstGroup_68 hl (k := 4) rfl (by rw [ex3_14]; rfl) (by decide) rfl (fun ls hl => ?_)
        refine lv_goto (tgt := 7) hx hb dX1_firstGroup_71 (by decide) ?_
        exact hrec7 (x3_14) _ _ ls hf hw (lv_sub hl [2, 3, 4, 0] rfl)
      · replace hf := ite_t hf c_13
        refine lv_iload_n hx hb dX1_firstGroup_66 rfl (lv_at hl 4 rfl) ?_
        cases hf
        exact retK_i E hw dX1_firstGroup_67
set_option maxRecDepth 100000 in
set_option maxHeartbeats 4000000 in
theorem k1_firstGroup_B7_J30_j {p : Program} {l : Launch} {e : Env} {s : State} {m : MethodId} {args : Array Value} {below : List Frame} {meth : Method} {c : Code} {D : va_G} {a : Nat → Nat} {g : Nat → ClassId} (E : EK p s m args meth c D a g cX1_firstGroup 5 RX1 (some .int)) {F : Nat}  (S : SS) (x1 : Int32) (x2 : Int32) {rec7 : Int32 → Option Int32} {out : Int32} (hrec7 : ∀ (x3 : Int32) (H : Heap) (locs : List Loc) (ls : Array Slot), rec7 x3 = some out → WK D a g S s H locs → lv_has ls 5 [(0, .ref (a 6)), (1, .int (x1)), (2, .int (x2)), (3, .int (x3))] → W p l e (RM 1) s m args below meth c H locs 0 0 (MQ below (QK D a g (some (.int out)) S) args s 0 0 (AK a)) (F0 m 7 ls []))  (x3 : Int32) (H : Heap) (locs : List Loc) (ls : Array Slot) (hf : k1_firstGroup_B7_J30 F S x1 x2 rec7 x3 = some out) (hw : WK D a g S s H locs) (hl : lv_has ls 5 [(0, .ref (a 6)), (1, .int (x1)), (2, .int (x2)), (3, .int (x3))]) : W p l e (RM 1) s m args below meth c H locs 0 0 (MQ below (QK D a g (some (.int out)) S) args s 0 0 (AK a)) (F0 m 30 ls []) := by
  have hx := E.hx
  have hb := E.hb
  unfold k1_firstGroup_B7_J30 at hf
  refine lv_iconst hx hb dX1_firstGroup_30 ic_0 ?_
  exact k1_firstGroup_B7_J31_j E S x1 x2 hrec7 (x3) ((0 : Int32)) _ _ ls hf hw (lv_sub hl [0, 1, 2, 3] rfl)
set_option maxRecDepth 100000 in
set_option maxHeartbeats 4000000 in
theorem k1_firstGroup_b7 {p : Program} {l : Launch} {e : Env} {s : State} {m : MethodId} {args : Array Value} {below : List Frame} {meth : Method} {c : Code} {D : va_G} {a : Nat → Nat} {g : Nat → ClassId} (E : EK p s m args meth c D a g cX1_firstGroup 5 RX1 (some .int)) {F : Nat}  (S : SS) (x1 : Int32) (x2 : Int32) {rec7 : Int32 → Option Int32} {out : Int32} (hrec7 : ∀ (x3 : Int32) (H : Heap) (locs : List Loc) (ls : Array Slot), rec7 x3 = some out → WK D a g S s H locs → lv_has ls 5 [(0, .ref (a 6)), (1, .int (x1)), (2, .int (x2)), (3, .int (x3))] → W p l e (RM 1) s m args below meth c H locs 0 0 (MQ below (QK D a g (some (.int out)) S) args s 0 0 (AK a)) (F0 m 7 ls []))  (x3 : Int32) (H : Heap) (locs : List Loc) (ls : Array Slot) (hf : k1_firstGroup_B7 F S x1 x2 rec7 x3 = some out) (hw : WK D a g S s H locs) (hl : lv_has ls 5 [(0, .ref (a 6)), (1, .int (x1)), (2, .int (x2)), (3, .int (x3))]) : W p l e (RM 1) s m args below meth c H locs 0 0 (MQ below (QK D a g (some (.int out)) S) args s 0 0 (AK a)) (F0 m 7 ls []) := by
  have hx := E.hx
  have hb := E.hb
  unfold k1_firstGroup_B7 at hf
  refine lv_iload_n hx hb dX1_firstGroup_7 rfl (lv_at hl 3 rfl) ?_
  refine lv_iload_n hx hb dX1_firstGroup_8 rfl (lv_at hl 1 rfl) ?_
  refine lv_icmp_ge (tgt := 74) hx hb dX1_firstGroup_9 (by decide) (fun c_3 => ?_) (fun c_3 => ?_)
  · replace hf := ite_t hf c_3
    refine lv_iload_n hx hb dX1_firstGroup_74 rfl (lv_at hl 1 rfl) ?_
    cases hf
    exact retK_i E hw dX1_firstGroup_75
  · replace hf := ite_f hf c_3
    refine lv_iload_n hx hb dX1_firstGroup_12 rfl (lv_at hl 3 rfl) ?_
    refine lv_iload_n hx hb dX1_firstGroup_13 rfl (lv_at hl 1 rfl) ?_
    refine lv_iconst hx hb dX1_firstGroup_14 ic_m1 ?_
    refine lv_ixor hx hb dX1_firstGroup_15 ?_
    refine lv_iand hx hb dX1_firstGroup_16 ?_
    refine lv_if_ne (tgt := 30) hx hb dX1_firstGroup_17 (by decide) (fun c_4 => ?_) (fun c_4 => ?_)
    · replace hf := ite_f hf c_4
      exact k1_firstGroup_B7_J30_j E S x1 x2 hrec7 (x3) _ _ ls hf hw (lv_sub hl [0, 1, 2, 3] rfl)
    · replace hf := ite_t hf c_4
      refine lv_iload_n hx hb dX1_firstGroup_20 rfl (lv_at hl 3 rfl) ?_
      refine lv_iload_n hx hb dX1_firstGroup_21 rfl (lv_at hl 2 rfl) ?_
      refine lv_iand hx hb dX1_firstGroup_22 ?_
      refine lv_if_eq (tgt := 30) hx hb dX1_firstGroup_23 (by decide) (fun c_15 => ?_) (fun c_15 => ?_)
      · replace hf := ite_t hf c_15
        exact k1_firstGroup_B7_J30_j E S x1 x2 hrec7 (x3) _ _ ls hf hw (lv_sub hl [0, 1, 2, 3] rfl)
      · replace hf := ite_f hf c_15
        refine lv_iconst hx hb dX1_firstGroup_26 ic_1 ?_
        refine lv_goto (tgt := 31) hx hb dX1_firstGroup_27 (by decide) ?_
        exact k1_firstGroup_B7_J31_j E S x1 x2 hrec7 (x3) ((1 : Int32)) _ _ ls hf hw (lv_sub hl [0, 1, 2, 3] rfl)
theorem k1_firstGroup_l7 {p : Program} {l : Launch} {e : Env} {s : State} {m : MethodId} {args : Array Value} {below : List Frame} {meth : Method} {c : Code} {D : va_G} {a : Nat → Nat} {g : Nat → ClassId} (E : EK p s m args meth c D a g cX1_firstGroup 5 RX1 (some .int)) {F : Nat}  (S : SS) (x1 : Int32) (x2 : Int32) {out : Int32}  : ∀ (n : Nat) (x3 : Int32) (H : Heap) (locs : List Loc) (ls : Array Slot), lpN (fun _ => none) (fun rec7 => k1_firstGroup_B7 F S x1 x2 rec7) n x3 = some out → WK D a g S s H locs → lv_has ls 5 [(0, .ref (a 6)), (1, .int (x1)), (2, .int (x2)), (3, .int (x3))] → W p l e (RM 1) s m args below meth c H locs 0 0 (MQ below (QK D a g (some (.int out)) S) args s 0 0 (AK a)) (F0 m 7 ls []) := by
  intro n
  induction n with
  | zero => intro x3 H locs ls hf; cases (show (none : Option Int32) = some out from hf)
  | succ n ih => intro x3 H locs ls hf hw hl; exact k1_firstGroup_b7 E (F := F) S x1 x2 ih x3 H locs ls hf hw hl
set_option maxRecDepth 100000 in
set_option maxHeartbeats 4000000 in
theorem mk1_firstGroup {l : Launch} {D : va_G} {a : Nat → Nat} {g : Nat → ClassId} (hD : ∀ S, va_D (AK a) (wK a g S)) {F : Nat} {S : SS} {x1 : Int32} {out : Int32} (hf : k1_firstGroup F S x1 = some out) : Met l yX1_firstGroup (wsm yX1_firstGroup cX1_firstGroup 5 (some .int)) (RM 1) (PK D a g S [.ref (a 6), .int x1]) (QK D a g (some (.int out)) S) 0 0 (AK a) := by
  refine Met.ofW (cc := cX1_firstGroup) (maxL := 5) (ret := (some .int)) (by decide) rfl ?_
  intro p e s m args below meth c s₁ B hml hv
  obtain ⟨rfl, hP, hK, hN⟩ := hv
  have hts := atoms_spec (ws := wsm yX1_firstGroup cX1_firstGroup 5 (some .int)) B.pre
  have E : EK p s m _ meth c D a g cX1_firstGroup 5 RX1 (some .int) := ⟨B.exec, B.bytes, B.returns, hml, findClass_of_methodNamed B.named, fun w h => hts w (List.mem_cons_of_mem _ h), hK, hN, hD, B.notSynchronized⟩
  have hx := E.hx
  have hb := E.hb
  have hw : WK D a g S s s.heap [] := ⟨hP, va_S.rf⟩
  have hl := lv_entry ([.ref (a 6), .int x1]) (n := 5) (Nat.le_of_ble_eq_true rfl)
  rw [lg_entry_eq]
  generalize (lg_sl ([.ref (a 6), .int x1]) ++ List.replicate (5 - (lg_sl ([.ref (a 6), .int x1])).length) Slot.unset).toArray = ls at hl ⊢
  have hl : lv_has ls 5 [(0, .ref (a 6)), (1, .int (x1))] := hl
  show W p l e (RM 1) s m _ below meth c s.heap [] 0 0 (MQ below (QK D a g (some (.int out)) S) _ s 0 0 (AK a)) (F0 m 0 ls [])
  unfold k1_firstGroup at hf
  refine lv_iload_n hx hb dX1_firstGroup_0 rfl (lv_at hl 1 rfl) ?_
  refine lv_iload_n hx hb dX1_firstGroup_1 rfl (lv_at hl 1 rfl) ?_
  refine lv_ineg hx hb dX1_firstGroup_2 ?_
  refine lv_iand hx hb dX1_firstGroup_3 ?_
  refine lv_topi (fun x2_1 ex2_1 => ?_)
  replace hf := bnd_at hf ex2_1
  refine lv_istore_n (lv' := [(2, .int (x2_1)), (0, .ref (a 6)), (1, .int (x1))]) hx hb dX1_firstGroup_4 rfl hl (by decide) rfl (fun ls hl => ?_)
  refine lv_iload_n hx hb dX1_firstGroup_5 rfl (lv_at hl 0 rfl) ?_
  refine lv_topi (fun x3_2 ex3_2 => ?_)
  replace hf := bnd_at hf ex3_2
  refine lv_istore_n (lv' := [(3, .int (x3_2)), (2, .int (x2_1)), (0, .ref (a 6)), (1, .int (x1))]) hx hb dX1_firstGroup_6 rfl hl (by decide) rfl (fun ls hl => ?_)
  refine k1_firstGroup_l7 E S (x1) (x2_1)  F (x3_2) _ _ ls hf hw (lv_sub hl [2, 3, 1, 0] rfl)
theorem qk1_firstGroup {p : Program} {l : Launch} {e : Env} {R : Room} {s : State} {m : MethodId} {args : Array Value} {below : List Frame} {meth : Method} {c : Code} {H : Heap} {locs : List Loc} {cells slots : Nat} {Q : State → Prop} {cc : ByteArray} {pc : Nat} {ls : Array Slot} {rest : List Value} {D : va_G} {a : Nat → Nat} {g : Nat → ClassId} {nL : Nat} {own : String} {ret : Option FieldType} {S S1 : SS} {k : Nat} {x1 : Int32} {r : Int32} (E : EK p s m args meth c D a g cc nL own ret) (hw : WK D a g S s H locs) (hM : Met l yX1_firstGroup (wsm yX1_firstGroup cX1_firstGroup 5 (some .int)) (RM k) (PK D a g S [.ref (a 6), .int x1]) (QK D a g (some (.int r)) S1) 0 0 (AK a)) {idx : Nat} (hlk : Cond.methodLink own idx yX1_firstGroup ∈ wd) (hdg : decode cc pc = .ok (.invokevirtual idx, 3)) (hR : k + 1 ≤ R.frames ∧ 8 + (5 + 11) + 64 * k ≤ R.locals) (hls : ls.size = nL) (hrest : (rest.map fun v => v.category).sum ≤ 8) (hcs : cells ≤ R.cells ∧ slots ≤ R.slots) (kk : ∀ (H1 : Heap) (locs1 : List Loc), WK D a g S1 s H1 locs1 → W p l e R s m args below meth c H1 locs1 cells slots Q (F0 m (pc + 3) ls (.int r :: rest))) : W p l e R s m args below meth c H locs cells slots Q (F0 m pc ls (.int x1 :: .ref (a 6) :: rest)) :=
  callK_i hw (va_runV (As := [.int x1]) (rest := rest) ⟨E.hx, E.hb, E.hml, E.hown, E.hts⟩ hM ⟨cb_of 1 E.hts wl558 wl42 hlk (by decide +kernel) hR, E.hts _ wl557, E.hts _ wl11⟩ ⟨PK_blind, va_recv E.hK hw.1 (ci := 1) (q0 := 6) rfl rfl, PK_pre E.hK E.hN hw.1⟩ rfl rfl hls rfl (lv_room hrest) hdg hcs) kk
/-! X1_groupWith -/
def k1_groupWith_B12 (F : Nat) (S : SS) (x2 : Int32) (rec12 : Int32 → Int32 → Option Int32) (x3 : Int32) (x4 : Int32) : Option Int32 :=
  if ((8 : Int32)) ≤ x4 then (some ((0 : Int32))) else (if x3 = 0 then (some ((0 : Int32))) else ((k1_firstGroup F S (x3)).bind fun r_7 => bnd (r_7) fun x5_9 => if (x5_9 &&& x2) = 0 then (bnd (x3 &&& (x5_9 ^^^ ((-1 : Int32)))) fun x3_11 => bnd (x4 + (1)) fun x4_12 => rec12 (x3_11) (x4_12)) else (some (x5_9))))
def k1_groupWith (F : Nat) (S : SS) (x1 : Int32) : Option Int32 :=
  bnd (((1 : Int32)) <<< (x1 &&& 31)) fun x2_1 => bnd (S 6 2) fun x3_2 => bnd ((0 : Int32)) fun x4_3 => lpN (fun _ _ => none) (fun rec12 => k1_groupWith_B12 F S (x2_1) rec12 ) F (x3_2) (x4_3)
set_option maxRecDepth 100000 in
set_option maxHeartbeats 4000000 in
theorem k1_groupWith_b12 {p : Program} {l : Launch} {e : Env} {s : State} {m : MethodId} {args : Array Value} {below : List Frame} {meth : Method} {c : Code} {D : va_G} {a : Nat → Nat} {g : Nat → ClassId} (E : EK p s m args meth c D a g cX1_groupWith 6 RX1 (some .int)) {F : Nat}  (S : SS) (x2 : Int32) {rec12 : Int32 → Int32 → Option Int32} {out : Int32} (hrec12 : ∀ (x3 : Int32) (x4 : Int32) (H : Heap) (locs : List Loc) (ls : Array Slot), rec12 x3 x4 = some out → WK D a g S s H locs → lv_has ls 6 [(0, .ref (a 6)), (2, .int (x2)), (3, .int (x3)), (4, .int (x4))] → W p l e (RM 2) s m args below meth c H locs 0 0 (MQ below (QK D a g (some (.int out)) S) args s 0 0 (AK a)) (F0 m 12 ls []))  (x3 : Int32) (x4 : Int32) (H : Heap) (locs : List Loc) (ls : Array Slot) (hf : k1_groupWith_B12 F S x2 rec12 x3 x4 = some out) (hw : WK D a g S s H locs) (hl : lv_has ls 6 [(0, .ref (a 6)), (2, .int (x2)), (3, .int (x3)), (4, .int (x4))]) : W p l e (RM 2) s m args below meth c H locs 0 0 (MQ below (QK D a g (some (.int out)) S) args s 0 0 (AK a)) (F0 m 12 ls []) := by
  have hx := E.hx
  have hb := E.hb
  unfold k1_groupWith_B12 at hf
  refine lv_iload hx hb dX1_groupWith_12 (lv_at hl 3 rfl) ?_
  refine lv_bipush hx hb dX1_groupWith_14 bp_8 ?_
  refine lv_icmp_ge (tgt := 53) hx hb dX1_groupWith_16 (by decide) (fun c_4 => ?_) (fun c_4 => ?_)
  · replace hf := ite_t hf c_4
    refine lv_iconst hx hb dX1_groupWith_53 ic_0 ?_
    cases hf
    exact retK_i E hw dX1_groupWith_54
  · replace hf := ite_f hf c_4
    refine lv_iload_n hx hb dX1_groupWith_19 rfl (lv_at hl 2 rfl) ?_
    refine lv_if_eq (tgt := 53) hx hb dX1_groupWith_20 (by decide) (fun c_5 => ?_) (fun c_5 => ?_)
    · replace hf := ite_t hf c_5
      refine lv_iconst hx hb dX1_groupWith_53 ic_0 ?_
      cases hf
      exact retK_i E hw dX1_groupWith_54
    · replace hf := ite_f hf c_5
      refine lv_aload_n hx hb dX1_groupWith_23 rfl (lv_at hl 0 rfl) ?_
      refine lv_iload_n hx hb dX1_groupWith_24 rfl (lv_at hl 2 rfl) ?_
      obtain ⟨r_7, h_6, hf⟩ := ob_at hf
      refine qk1_firstGroup E hw (mk1_firstGroup E.hD h_6) wl555 dX1_groupWith_25 ⟨Nat.le_of_ble_eq_true rfl, Nat.le_of_ble_eq_true rfl⟩ hl.1 (Nat.le_of_ble_eq_true rfl) ⟨Nat.le_refl 0, Nat.le_refl 0⟩ (fun H locs hw => ?_)
      refine lv_topi (fun x5_9 ex5_9 => ?_)
      replace hf := bnd_at hf ex5_9
      refine lv_istore (lv' := [(5, .int (x5_9)), (0, .ref (a 6)), (2, .int (x2)), (3, .int (x3)), (4, .int (x4))]) hx hb dX1_groupWith_28 hl (by decide) rfl (fun ls hl => ?_)
      refine lv_iload hx hb dX1_groupWith_30 (lv_at hl 0 rfl) ?_
      refine lv_iload_n hx hb dX1_groupWith_32 rfl (lv_at hl 2 rfl) ?_
      refine lv_iand hx hb dX1_groupWith_33 ?_
      refine lv_if_eq (tgt := 40) hx hb dX1_groupWith_34 (by decide) (fun c_10 => ?_) (fun c_10 => ?_)
      · replace hf := ite_t hf c_10
        refine lv_iload_n hx hb dX1_groupWith_40 rfl (lv_at hl 3 rfl) ?_
        refine lv_iload hx hb dX1_groupWith_41 (lv_at hl 0 rfl) ?_
        refine lv_iconst hx hb dX1_groupWith_43 ic_m1 ?_
        refine lv_ixor hx hb dX1_groupWith_44 ?_
        refine lv_iand hx hb dX1_groupWith_45 ?_
        refine lv_topi (fun x3_11 ex3_11 => ?_)
        replace hf := bnd_at hf ex3_11
        refine lv_istore_n (lv' := [(3, .int (x3_11)), (5, .int (x5_9)), (0, .ref (a 6)), (2, .int (x2)), (4, .int (x4))]) hx hb dX1_groupWith_46 rfl hl (by decide) rfl (fun ls hl => ?_)
        obtain ⟨x4_12, ex4_12⟩ : ∃ y : Int32, y = x4 + (1) := ⟨_, rfl⟩
        replace hf := bnd_at hf ex4_12
        refine lv_iinc (v := x4_12) (lv' := [(4, .int (x4_12)), (3, .int (x3_11)), (5, .int (x5_9)), (0, .ref (a 6)), (2, .int (x2))]) hx hb dX1_groupWith_47 hl (k := 4) rfl (by rw [ex4_12]; rfl) (by decide) rfl (fun ls hl => ?_)
        refine lv_goto (tgt := 12) hx hb dX1_groupWith_50 (by decide) ?_
        exact hrec12 (x3_11) (x4_12) _ _ ls hf hw (lv_sub hl [3, 4, 1, 0] rfl)
      · replace hf := ite_f hf c_10
        refine lv_iload hx hb dX1_groupWith_37 (lv_at hl 0 rfl) ?_
        cases hf
        exact retK_i E hw dX1_groupWith_39
theorem k1_groupWith_l12 {p : Program} {l : Launch} {e : Env} {s : State} {m : MethodId} {args : Array Value} {below : List Frame} {meth : Method} {c : Code} {D : va_G} {a : Nat → Nat} {g : Nat → ClassId} (E : EK p s m args meth c D a g cX1_groupWith 6 RX1 (some .int)) {F : Nat}  (S : SS) (x2 : Int32) {out : Int32}  : ∀ (n : Nat) (x3 : Int32) (x4 : Int32) (H : Heap) (locs : List Loc) (ls : Array Slot), lpN (fun _ _ => none) (fun rec12 => k1_groupWith_B12 F S x2 rec12) n x3 x4 = some out → WK D a g S s H locs → lv_has ls 6 [(0, .ref (a 6)), (2, .int (x2)), (3, .int (x3)), (4, .int (x4))] → W p l e (RM 2) s m args below meth c H locs 0 0 (MQ below (QK D a g (some (.int out)) S) args s 0 0 (AK a)) (F0 m 12 ls []) := by
  intro n
  induction n with
  | zero => intro x3 x4 H locs ls hf; cases (show (none : Option Int32) = some out from hf)
  | succ n ih => intro x3 x4 H locs ls hf hw hl; exact k1_groupWith_b12 E (F := F) S x2 ih x3 x4 H locs ls hf hw hl
set_option maxRecDepth 100000 in
set_option maxHeartbeats 4000000 in
theorem mk1_groupWith {l : Launch} {D : va_G} {a : Nat → Nat} {g : Nat → ClassId} (hD : ∀ S, va_D (AK a) (wK a g S)) {F : Nat} {S : SS} {x1 : Int32} {out : Int32} (hf : k1_groupWith F S x1 = some out) : Met l yX1_groupWith (wsm yX1_groupWith cX1_groupWith 6 (some .int)) (RM 2) (PK D a g S [.ref (a 6), .int x1]) (QK D a g (some (.int out)) S) 0 0 (AK a) := by
  refine Met.ofW (cc := cX1_groupWith) (maxL := 6) (ret := (some .int)) (by decide) rfl ?_
  intro p e s m args below meth c s₁ B hml hv
  obtain ⟨rfl, hP, hK, hN⟩ := hv
  have hts := atoms_spec (ws := wsm yX1_groupWith cX1_groupWith 6 (some .int)) B.pre
  have E : EK p s m _ meth c D a g cX1_groupWith 6 RX1 (some .int) := ⟨B.exec, B.bytes, B.returns, hml, findClass_of_methodNamed B.named, fun w h => hts w (List.mem_cons_of_mem _ h), hK, hN, hD, B.notSynchronized⟩
  have hx := E.hx
  have hb := E.hb
  have hw : WK D a g S s s.heap [] := ⟨hP, va_S.rf⟩
  have hl := lv_entry ([.ref (a 6), .int x1]) (n := 6) (Nat.le_of_ble_eq_true rfl)
  rw [lg_entry_eq]
  generalize (lg_sl ([.ref (a 6), .int x1]) ++ List.replicate (6 - (lg_sl ([.ref (a 6), .int x1])).length) Slot.unset).toArray = ls at hl ⊢
  have hl : lv_has ls 6 [(0, .ref (a 6)), (1, .int (x1))] := hl
  show W p l e (RM 2) s m _ below meth c s.heap [] 0 0 (MQ below (QK D a g (some (.int out)) S) _ s 0 0 (AK a)) (F0 m 0 ls [])
  unfold k1_groupWith at hf
  refine lv_iconst hx hb dX1_groupWith_0 ic_1 ?_
  refine lv_iload_n hx hb dX1_groupWith_1 rfl (lv_at hl 1 rfl) ?_
  refine lv_ishl hx hb dX1_groupWith_2 ?_
  refine lv_topi (fun x2_1 ex2_1 => ?_)
  replace hf := bnd_at hf ex2_1
  refine lv_istore_n (lv' := [(2, .int (x2_1)), (0, .ref (a 6)), (1, .int (x1))]) hx hb dX1_groupWith_3 rfl hl (by decide) rfl (fun ls hl => ?_)
  refine lv_aload_n hx hb dX1_groupWith_4 rfl (lv_at hl 1 rfl) ?_
  refine gK_6_2 E hw (E.hts _ wl223) dX1_groupWith_5 ?_
  refine lv_topi (fun x3_2 ex3_2 => ?_)
  replace hf := bnd_at hf ex3_2
  refine lv_istore_n (lv' := [(3, .int (x3_2)), (2, .int (x2_1)), (0, .ref (a 6)), (1, .int (x1))]) hx hb dX1_groupWith_8 rfl hl (by decide) rfl (fun ls hl => ?_)
  refine lv_iconst hx hb dX1_groupWith_9 ic_0 ?_
  refine lv_topi (fun x4_3 ex4_3 => ?_)
  replace hf := bnd_at hf ex4_3
  refine lv_istore (lv' := [(4, .int (x4_3)), (3, .int (x3_2)), (2, .int (x2_1)), (0, .ref (a 6)), (1, .int (x1))]) hx hb dX1_groupWith_10 hl (by decide) rfl (fun ls hl => ?_)
  refine k1_groupWith_l12 E S (x2_1)  F (x3_2) (x4_3) _ _ ls hf hw (lv_sub hl [3, 2, 1, 0] rfl)
theorem qk1_groupWith {p : Program} {l : Launch} {e : Env} {R : Room} {s : State} {m : MethodId} {args : Array Value} {below : List Frame} {meth : Method} {c : Code} {H : Heap} {locs : List Loc} {cells slots : Nat} {Q : State → Prop} {cc : ByteArray} {pc : Nat} {ls : Array Slot} {rest : List Value} {D : va_G} {a : Nat → Nat} {g : Nat → ClassId} {nL : Nat} {own : String} {ret : Option FieldType} {S S1 : SS} {k : Nat} {x1 : Int32} {r : Int32} (E : EK p s m args meth c D a g cc nL own ret) (hw : WK D a g S s H locs) (hM : Met l yX1_groupWith (wsm yX1_groupWith cX1_groupWith 6 (some .int)) (RM k) (PK D a g S [.ref (a 6), .int x1]) (QK D a g (some (.int r)) S1) 0 0 (AK a)) {idx : Nat} (hlk : Cond.methodLink own idx yX1_groupWith ∈ wd) (hdg : decode cc pc = .ok (.invokevirtual idx, 3)) (hR : k + 1 ≤ R.frames ∧ 8 + (6 + 11) + 64 * k ≤ R.locals) (hls : ls.size = nL) (hrest : (rest.map fun v => v.category).sum ≤ 8) (hcs : cells ≤ R.cells ∧ slots ≤ R.slots) (kk : ∀ (H1 : Heap) (locs1 : List Loc), WK D a g S1 s H1 locs1 → W p l e R s m args below meth c H1 locs1 cells slots Q (F0 m (pc + 3) ls (.int r :: rest))) : W p l e R s m args below meth c H locs cells slots Q (F0 m pc ls (.int x1 :: .ref (a 6) :: rest)) :=
  callK_i hw (va_runV (As := [.int x1]) (rest := rest) ⟨E.hx, E.hb, E.hml, E.hown, E.hts⟩ hM ⟨cb_of 1 E.hts wl554 wl42 hlk (by decide +kernel) hR, E.hts _ wl552, E.hts _ wl553⟩ ⟨PK_blind, va_recv E.hK hw.1 (ci := 1) (q0 := 6) rfl rfl, PK_pre E.hK E.hN hw.1⟩ rfl rfl hls rfl (lv_room hrest) hdg hcs) kk
/-! X7_group -/
def k7_group (F : Nat) (S : SS) (x1 : Int32) : Option (Int32 × SS) :=
  (k7_isCompany F S (x1)).bind fun r_2 => if r_2 = 0 then (some ((0 : Int32), S)) else ((k7_strikeBalances F S ).bind fun S_7 => (k1_weigh_36 F S_7 ).bind fun S_10 => (k1_groupWith F S_10 (x1)).bind fun r_12 => some (r_12, S_10))
set_option maxRecDepth 100000 in
set_option maxHeartbeats 4000000 in
theorem mk7_group {l : Launch} {D : va_G} {a : Nat → Nat} {g : Nat → ClassId} (hD : ∀ S, va_D (AK a) (wK a g S)) {F : Nat} {S : SS} {x1 : Int32} {out : (Int32 × SS)} (hf : k7_group F S x1 = some out) : Met l yX7_group (wsm yX7_group cX7_group 2 (some .int)) (RM 15) (PK D a g S [.ref (a 0), .int x1]) (QK D a g (some (.int out.1)) out.2) 0 0 (AK a) := by
  refine Met.ofW (cc := cX7_group) (maxL := 2) (ret := (some .int)) (by decide) rfl ?_
  intro p e s m args below meth c s₁ B hml hv
  obtain ⟨rfl, hP, hK, hN⟩ := hv
  have hts := atoms_spec (ws := wsm yX7_group cX7_group 2 (some .int)) B.pre
  have E : EK p s m _ meth c D a g cX7_group 2 RX7 (some .int) := ⟨B.exec, B.bytes, B.returns, hml, findClass_of_methodNamed B.named, fun w h => hts w (List.mem_cons_of_mem _ h), hK, hN, hD, B.notSynchronized⟩
  have hx := E.hx
  have hb := E.hb
  have hw : WK D a g S s s.heap [] := ⟨hP, va_S.rf⟩
  have hl := lv_entry ([.ref (a 0), .int x1]) (n := 2) (Nat.le_of_ble_eq_true rfl)
  rw [lg_entry_eq]
  generalize (lg_sl ([.ref (a 0), .int x1]) ++ List.replicate (2 - (lg_sl ([.ref (a 0), .int x1])).length) Slot.unset).toArray = ls at hl ⊢
  have hl : lv_has ls 2 [(0, .ref (a 0)), (1, .int (x1))] := hl
  show W p l e (RM 15) s m _ below meth c s.heap [] 0 0 (MQ below (QK D a g (some (.int out.1)) out.2) _ s 0 0 (AK a)) (F0 m 0 ls [])
  unfold k7_group at hf
  refine lv_iload_n hx hb dX7_group_0 rfl (lv_at hl 1 rfl) ?_
  obtain ⟨r_2, h_1, hf⟩ := ob_at hf
  refine qk7_isCompany E hw (mk7_isCompany E.hD h_1) wl360 dX7_group_1 ⟨Nat.le_of_ble_eq_true rfl, Nat.le_of_ble_eq_true rfl⟩ hl.1 (Nat.le_of_ble_eq_true rfl) ⟨Nat.le_refl 0, Nat.le_refl 0⟩ (fun H locs hw => ?_)
  refine lv_if_ne (tgt := 9) hx hb dX7_group_4 (by decide) (fun c_4 => ?_) (fun c_4 => ?_)
  · replace hf := ite_f hf c_4
    refine lv_aload_n hx hb dX7_group_9 rfl (lv_at hl 0 rfl) ?_
    obtain ⟨S_7, h_5, hf⟩ := ob_at hf
    refine qk7_strikeBalances E hw (mk7_strikeBalances E.hD h_5) wl519 dX7_group_10 ⟨Nat.le_of_ble_eq_true rfl, Nat.le_of_ble_eq_true rfl⟩ hl.1 (Nat.le_of_ble_eq_true rfl) ⟨Nat.le_refl 0, Nat.le_refl 0⟩ (fun H locs hw => ?_)
    refine lv_aload_n hx hb dX7_group_13 rfl (lv_at hl 0 rfl) ?_
    refine gK_0_5 E hw (E.hts _ wl277) dX7_group_14 ?_
    refine lv_aload_n hx hb dX7_group_17 rfl (lv_at hl 0 rfl) ?_
    refine gK_0_8 E hw (E.hts _ wl280) dX7_group_18 ?_
    obtain ⟨S_10, h_8, hf⟩ := ob_at hf
    refine qk1_weigh_36 E hw (mk1_weigh_36 E.hD h_8) wl528 dX7_group_21 ⟨Nat.le_of_ble_eq_true rfl, Nat.le_of_ble_eq_true rfl⟩ hl.1 (Nat.le_of_ble_eq_true rfl) ⟨Nat.le_refl 0, Nat.le_refl 0⟩ (fun H locs hw => ?_)
    refine lv_aload_n hx hb dX7_group_24 rfl (lv_at hl 0 rfl) ?_
    refine gK_0_5 E hw (E.hts _ wl277) dX7_group_25 ?_
    refine lv_iload_n hx hb dX7_group_28 rfl (lv_at hl 1 rfl) ?_
    obtain ⟨r_12, h_11, hf⟩ := ob_at hf
    refine qk1_groupWith E hw (mk1_groupWith E.hD h_11) wl551 dX7_group_29 ⟨Nat.le_of_ble_eq_true rfl, Nat.le_of_ble_eq_true rfl⟩ hl.1 (Nat.le_of_ble_eq_true rfl) ⟨Nat.le_refl 0, Nat.le_refl 0⟩ (fun H locs hw => ?_)
    cases hf
    exact retK_i E hw dX7_group_32
  · replace hf := ite_t hf c_4
    refine lv_iconst hx hb dX7_group_7 ic_0 ?_
    cases hf
    exact retK_i E hw dX7_group_8
theorem qk7_group {p : Program} {l : Launch} {e : Env} {R : Room} {s : State} {m : MethodId} {args : Array Value} {below : List Frame} {meth : Method} {c : Code} {H : Heap} {locs : List Loc} {cells slots : Nat} {Q : State → Prop} {cc : ByteArray} {pc : Nat} {ls : Array Slot} {rest : List Value} {D : va_G} {a : Nat → Nat} {g : Nat → ClassId} {nL : Nat} {own : String} {ret : Option FieldType} {S S1 : SS} {k : Nat} {x1 : Int32} {r : Int32} (E : EK p s m args meth c D a g cc nL own ret) (hw : WK D a g S s H locs) (hM : Met l yX7_group (wsm yX7_group cX7_group 2 (some .int)) (RM k) (PK D a g S [.ref (a 0), .int x1]) (QK D a g (some (.int r)) S1) 0 0 (AK a)) {idx : Nat} (hlk : Cond.methodLink own idx yX7_group ∈ wd) (hdg : decode cc pc = .ok (.invokevirtual idx, 3)) (hR : k + 1 ≤ R.frames ∧ 8 + (2 + 11) + 64 * k ≤ R.locals) (hls : ls.size = nL) (hrest : (rest.map fun v => v.category).sum ≤ 8) (hcs : cells ≤ R.cells ∧ slots ≤ R.slots) (kk : ∀ (H1 : Heap) (locs1 : List Loc), WK D a g S1 s H1 locs1 → W p l e R s m args below meth c H1 locs1 cells slots Q (F0 m (pc + 3) ls (.int r :: rest))) : W p l e R s m args below meth c H locs cells slots Q (F0 m pc ls (.int x1 :: .ref (a 0) :: rest)) :=
  callK_i hw (va_runV (As := [.int x1]) (rest := rest) ⟨E.hx, E.hb, E.hml, E.hown, E.hts⟩ hM ⟨cb_of 1 E.hts wl550 wl35 hlk (by decide +kernel) hR, E.hts _ wl548, E.hts _ wl549⟩ ⟨PK_blind, va_recv E.hK hw.1 (ci := 7) (q0 := 0) rfl rfl, PK_pre E.hK E.hN hw.1⟩ rfl rfl hls rfl (lv_room hrest) hdg hcs) kk
/-! X3_place -/
def k3_place (F : Nat) (S : SS) (x1 : Int32) (x2 : Int32) (x3 : Int32) : Option (Int32 × SS) :=
  (k7_isJunction F S (x1)).bind fun r_2 => if r_2 = 0 then (some ((0 : Int32), S)) else ((k7_isWithin F S (x2) ((0 : Int32)) ((9 : Int32))).bind fun r_6 => if r_6 = 0 then (some ((0 : Int32), S)) else ((k7_isWithin F S (x3) ((0 : Int32)) ((9 : Int32))).bind fun r_10 => if r_10 = 0 then (some ((0 : Int32), S)) else ((ckA 12 x1).bind fun _ => bnd (st S 29 (Int32.toNatClampNeg x1) x2) fun S_13 => (ckA 12 x1).bind fun _ => bnd (st S_13 30 (Int32.toNatClampNeg x1) x3) fun S_14 => (k3_forget F S_14 ).bind fun S_17 => some ((1 : Int32), S_17))))
set_option maxRecDepth 100000 in
set_option maxHeartbeats 4000000 in
theorem mk3_place {l : Launch} {D : va_G} {a : Nat → Nat} {g : Nat → ClassId} (hD : ∀ S, va_D (AK a) (wK a g S)) {F : Nat} {S : SS} {x1 x2 x3 : Int32} {out : (Int32 × SS)} (hf : k3_place F S x1 x2 x3 = some out) : Met l yX3_place (wsm yX3_place cX3_place 4 (some .boolean)) (RM 2) (PK D a g S [.ref (a 7), .int x1, .int x2, .int x3]) (QK D a g (some (.int out.1)) out.2) 0 0 (AK a) := by
  refine Met.ofW (cc := cX3_place) (maxL := 4) (ret := (some .boolean)) (by decide) rfl ?_
  intro p e s m args below meth c s₁ B hml hv
  obtain ⟨rfl, hP, hK, hN⟩ := hv
  have hts := atoms_spec (ws := wsm yX3_place cX3_place 4 (some .boolean)) B.pre
  have E : EK p s m _ meth c D a g cX3_place 4 RX3 (some .boolean) := ⟨B.exec, B.bytes, B.returns, hml, findClass_of_methodNamed B.named, fun w h => hts w (List.mem_cons_of_mem _ h), hK, hN, hD, B.notSynchronized⟩
  have hx := E.hx
  have hb := E.hb
  have hw : WK D a g S s s.heap [] := ⟨hP, va_S.rf⟩
  have hl := lv_entry ([.ref (a 7), .int x1, .int x2, .int x3]) (n := 4) (Nat.le_of_ble_eq_true rfl)
  rw [lg_entry_eq]
  generalize (lg_sl ([.ref (a 7), .int x1, .int x2, .int x3]) ++ List.replicate (4 - (lg_sl ([.ref (a 7), .int x1, .int x2, .int x3])).length) Slot.unset).toArray = ls at hl ⊢
  have hl : lv_has ls 4 [(0, .ref (a 7)), (1, .int (x1)), (2, .int (x2)), (3, .int (x3))] := hl
  show W p l e (RM 2) s m _ below meth c s.heap [] 0 0 (MQ below (QK D a g (some (.int out.1)) out.2) _ s 0 0 (AK a)) (F0 m 0 ls [])
  unfold k3_place at hf
  refine lv_iload_n hx hb dX3_place_0 rfl (lv_at hl 1 rfl) ?_
  obtain ⟨r_2, h_1, hf⟩ := ob_at hf
  refine qnk7_isJunction E hw (mk7_isJunction E.hD h_1) nw14 dX3_place_1 ⟨Nat.le_of_ble_eq_true rfl, Nat.le_of_ble_eq_true rfl⟩ hl.1 (Nat.le_of_ble_eq_true rfl) ⟨Nat.le_refl 0, Nat.le_refl 0⟩ (fun H locs hw => ?_)
  refine lv_if_eq (tgt := 27) hx hb dX3_place_4 (by decide) (fun c_4 => ?_) (fun c_4 => ?_)
  · replace hf := ite_t hf c_4
    refine lv_iconst hx hb dX3_place_27 ic_0 ?_
    cases hf
    exact retK_z E hw nb0 dX3_place_28
  · replace hf := ite_f hf c_4
    refine lv_iload_n hx hb dX3_place_7 rfl (lv_at hl 2 rfl) ?_
    refine lv_iconst hx hb dX3_place_8 ic_0 ?_
    refine lv_bipush hx hb dX3_place_9 bp_9 ?_
    obtain ⟨r_6, h_5, hf⟩ := ob_at hf
    refine qnk7_isWithin E hw (mk7_isWithin E.hD h_5) nw15 dX3_place_11 ⟨Nat.le_of_ble_eq_true rfl, Nat.le_of_ble_eq_true rfl⟩ hl.1 (Nat.le_of_ble_eq_true rfl) ⟨Nat.le_refl 0, Nat.le_refl 0⟩ (fun H locs hw => ?_)
    refine lv_if_eq (tgt := 27) hx hb dX3_place_14 (by decide) (fun c_8 => ?_) (fun c_8 => ?_)
    · replace hf := ite_t hf c_8
      refine lv_iconst hx hb dX3_place_27 ic_0 ?_
      cases hf
      exact retK_z E hw nb0 dX3_place_28
    · replace hf := ite_f hf c_8
      refine lv_iload_n hx hb dX3_place_17 rfl (lv_at hl 3 rfl) ?_
      refine lv_iconst hx hb dX3_place_18 ic_0 ?_
      refine lv_bipush hx hb dX3_place_19 bp_9 ?_
      obtain ⟨r_10, h_9, hf⟩ := ob_at hf
      refine qnk7_isWithin E hw (mk7_isWithin E.hD h_9) nw15 dX3_place_21 ⟨Nat.le_of_ble_eq_true rfl, Nat.le_of_ble_eq_true rfl⟩ hl.1 (Nat.le_of_ble_eq_true rfl) ⟨Nat.le_refl 0, Nat.le_refl 0⟩ (fun H locs hw => ?_)
      refine lv_if_ne (tgt := 29) hx hb dX3_place_24 (by decide) (fun c_12 => ?_) (fun c_12 => ?_)
      · replace hf := ite_f hf c_12
        refine lv_aload_n hx hb dX3_place_29 rfl (lv_at hl 0 rfl) ?_
        refine gK_7_0 E hw (E.hts _ wl237) dX3_place_30 ?_
        refine lv_iload_n hx hb dX3_place_33 rfl (lv_at hl 1 rfl) ?_
        refine lv_iload_n hx hb dX3_place_34 rfl (lv_at hl 2 rfl) ?_
        obtain ⟨h_S_13, hf⟩ := ckA_at hf
        refine sK_29 E hw h_S_13 dX3_place_35 (fun S_13 eS_13 H locs hw => ?_)
        replace hf := bnd_at hf eS_13
        refine lv_aload_n hx hb dX3_place_36 rfl (lv_at hl 0 rfl) ?_
        refine gK_7_1 E hw (E.hts _ wl239) dX3_place_37 ?_
        refine lv_iload_n hx hb dX3_place_40 rfl (lv_at hl 1 rfl) ?_
        refine lv_iload_n hx hb dX3_place_41 rfl (lv_at hl 3 rfl) ?_
        obtain ⟨h_S_14, hf⟩ := ckA_at hf
        refine sK_30 E hw h_S_14 dX3_place_42 (fun S_14 eS_14 H locs hw => ?_)
        replace hf := bnd_at hf eS_14
        refine lv_aload_n hx hb dX3_place_43 rfl (lv_at hl 0 rfl) ?_
        obtain ⟨S_17, h_15, hf⟩ := ob_at hf
        refine qk3_forget E hw (mk3_forget E.hD h_15) wl569 dX3_place_44 ⟨Nat.le_of_ble_eq_true rfl, Nat.le_of_ble_eq_true rfl⟩ hl.1 (Nat.le_of_ble_eq_true rfl) ⟨Nat.le_refl 0, Nat.le_refl 0⟩ (fun H locs hw => ?_)
        refine lv_iconst hx hb dX3_place_47 ic_1 ?_
        cases hf
        exact retK_z E hw nb1 dX3_place_48
      · replace hf := ite_t hf c_12
        refine lv_iconst hx hb dX3_place_27 ic_0 ?_
        cases hf
        exact retK_z E hw nb0 dX3_place_28
theorem qk3_place {p : Program} {l : Launch} {e : Env} {R : Room} {s : State} {m : MethodId} {args : Array Value} {below : List Frame} {meth : Method} {c : Code} {H : Heap} {locs : List Loc} {cells slots : Nat} {Q : State → Prop} {cc : ByteArray} {pc : Nat} {ls : Array Slot} {rest : List Value} {D : va_G} {a : Nat → Nat} {g : Nat → ClassId} {nL : Nat} {own : String} {ret : Option FieldType} {S S1 : SS} {k : Nat} {x1 x2 x3 : Int32} {r : Int32} (E : EK p s m args meth c D a g cc nL own ret) (hw : WK D a g S s H locs) (hM : Met l yX3_place (wsm yX3_place cX3_place 4 (some .boolean)) (RM k) (PK D a g S [.ref (a 7), .int x1, .int x2, .int x3]) (QK D a g (some (.int r)) S1) 0 0 (AK a)) {idx : Nat} (hlk : Cond.methodLink own idx yX3_place ∈ wd) (hdg : decode cc pc = .ok (.invokevirtual idx, 3)) (hR : k + 1 ≤ R.frames ∧ 8 + (4 + 11) + 64 * k ≤ R.locals) (hls : ls.size = nL) (hrest : (rest.map fun v => v.category).sum ≤ 8) (hcs : cells ≤ R.cells ∧ slots ≤ R.slots) (kk : ∀ (H1 : Heap) (locs1 : List Loc), WK D a g S1 s H1 locs1 → W p l e R s m args below meth c H1 locs1 cells slots Q (F0 m (pc + 3) ls (.int r :: rest))) : W p l e R s m args below meth c H locs cells slots Q (F0 m pc ls (.int x3 :: .int x2 :: .int x1 :: .ref (a 7) :: rest)) :=
  callK_i hw (va_runV (As := [.int x1, .int x2, .int x3]) (rest := rest) ⟨E.hx, E.hb, E.hml, E.hown, E.hts⟩ hM ⟨cb_of 3 E.hts wl566 wl43 hlk (by decide +kernel) hR, E.hts _ wl564, E.hts _ wl565⟩ ⟨PK_blind, va_recv E.hK hw.1 (ci := 3) (q0 := 7) rfl rfl, PK_pre E.hK E.hN hw.1⟩ rfl rfl hls rfl (lv_room hrest) hdg hcs) kk
/-! X7_empties -/
def k7_empties (F : Nat) (S : SS) (x1 : Int32) (x2 : Int32) (x3 : Int32) : Option (Int32 × SS) :=
  ob2 (k3_place F S (x1) (x2) (x3)) fun r_2 S_3 => (ckB r_2).bind fun _ => some (r_2, S_3)
set_option maxRecDepth 100000 in
set_option maxHeartbeats 4000000 in
theorem mk7_empties {l : Launch} {D : va_G} {a : Nat → Nat} {g : Nat → ClassId} (hD : ∀ S, va_D (AK a) (wK a g S)) {F : Nat} {S : SS} {x1 x2 x3 : Int32} {out : (Int32 × SS)} (hf : k7_empties F S x1 x2 x3 = some out) : Met l yX7_empties (wsm yX7_empties cX7_empties 4 (some .boolean)) (RM 3) (PK D a g S [.ref (a 0), .int x1, .int x2, .int x3]) (QK D a g (some (.int out.1)) out.2) 0 0 (AK a) := by
  refine Met.ofW (cc := cX7_empties) (maxL := 4) (ret := (some .boolean)) (by decide) rfl ?_
  intro p e s m args below meth c s₁ B hml hv
  obtain ⟨rfl, hP, hK, hN⟩ := hv
  have hts := atoms_spec (ws := wsm yX7_empties cX7_empties 4 (some .boolean)) B.pre
  have E : EK p s m _ meth c D a g cX7_empties 4 RX7 (some .boolean) := ⟨B.exec, B.bytes, B.returns, hml, findClass_of_methodNamed B.named, fun w h => hts w (List.mem_cons_of_mem _ h), hK, hN, hD, B.notSynchronized⟩
  have hx := E.hx
  have hb := E.hb
  have hw : WK D a g S s s.heap [] := ⟨hP, va_S.rf⟩
  have hl := lv_entry ([.ref (a 0), .int x1, .int x2, .int x3]) (n := 4) (Nat.le_of_ble_eq_true rfl)
  rw [lg_entry_eq]
  generalize (lg_sl ([.ref (a 0), .int x1, .int x2, .int x3]) ++ List.replicate (4 - (lg_sl ([.ref (a 0), .int x1, .int x2, .int x3])).length) Slot.unset).toArray = ls at hl ⊢
  have hl : lv_has ls 4 [(0, .ref (a 0)), (1, .int (x1)), (2, .int (x2)), (3, .int (x3))] := hl
  show W p l e (RM 3) s m _ below meth c s.heap [] 0 0 (MQ below (QK D a g (some (.int out.1)) out.2) _ s 0 0 (AK a)) (F0 m 0 ls [])
  unfold k7_empties at hf
  refine lv_aload_n hx hb dX7_empties_0 rfl (lv_at hl 0 rfl) ?_
  refine gK_0_6 E hw (E.hts _ wl278) dX7_empties_1 ?_
  refine lv_iload_n hx hb dX7_empties_4 rfl (lv_at hl 1 rfl) ?_
  refine lv_iload_n hx hb dX7_empties_5 rfl (lv_at hl 2 rfl) ?_
  refine lv_iload_n hx hb dX7_empties_6 rfl (lv_at hl 3 rfl) ?_
  obtain ⟨r_2, S_3, h_1, hf⟩ := ob2_at hf
  refine qk3_place E hw (mk3_place E.hD h_1) wl563 dX7_empties_7 ⟨Nat.le_of_ble_eq_true rfl, Nat.le_of_ble_eq_true rfl⟩ hl.1 (Nat.le_of_ble_eq_true rfl) ⟨Nat.le_refl 0, Nat.le_refl 0⟩ (fun H locs hw => ?_)
  obtain ⟨h_4, hf⟩ := ckB_at hf
  cases hf
  exact retK_z E hw h_4 dX7_empties_10
theorem qk7_empties {p : Program} {l : Launch} {e : Env} {R : Room} {s : State} {m : MethodId} {args : Array Value} {below : List Frame} {meth : Method} {c : Code} {H : Heap} {locs : List Loc} {cells slots : Nat} {Q : State → Prop} {cc : ByteArray} {pc : Nat} {ls : Array Slot} {rest : List Value} {D : va_G} {a : Nat → Nat} {g : Nat → ClassId} {nL : Nat} {own : String} {ret : Option FieldType} {S S1 : SS} {k : Nat} {x1 x2 x3 : Int32} {r : Int32} (E : EK p s m args meth c D a g cc nL own ret) (hw : WK D a g S s H locs) (hM : Met l yX7_empties (wsm yX7_empties cX7_empties 4 (some .boolean)) (RM k) (PK D a g S [.ref (a 0), .int x1, .int x2, .int x3]) (QK D a g (some (.int r)) S1) 0 0 (AK a)) {idx : Nat} (hlk : Cond.methodLink own idx yX7_empties ∈ wd) (hdg : decode cc pc = .ok (.invokevirtual idx, 3)) (hR : k + 1 ≤ R.frames ∧ 8 + (4 + 11) + 64 * k ≤ R.locals) (hls : ls.size = nL) (hrest : (rest.map fun v => v.category).sum ≤ 8) (hcs : cells ≤ R.cells ∧ slots ≤ R.slots) (kk : ∀ (H1 : Heap) (locs1 : List Loc), WK D a g S1 s H1 locs1 → W p l e R s m args below meth c H1 locs1 cells slots Q (F0 m (pc + 3) ls (.int r :: rest))) : W p l e R s m args below meth c H locs cells slots Q (F0 m pc ls (.int x3 :: .int x2 :: .int x1 :: .ref (a 0) :: rest)) :=
  callK_i hw (va_runV (As := [.int x1, .int x2, .int x3]) (rest := rest) ⟨E.hx, E.hb, E.hml, E.hown, E.hts⟩ hM ⟨cb_of 3 E.hts wl562 wl35 hlk (by decide +kernel) hR, E.hts _ wl560, E.hts _ wl561⟩ ⟨PK_blind, va_recv E.hK hw.1 (ci := 7) (q0 := 0) rfl rfl, PK_pre E.hK E.hN hw.1⟩ rfl rfl hls rfl (lv_room hrest) hdg hcs) kk
/-! J7_fill_53178[32] -/
def k7_fill_32_B5 (F : Nat) (x1 : Int32) (x3 : Int32) (rec5 : SS → Int32 → Option SS) (S : SS) (x2 : Int32) : Option SS :=
  if x3 ≤ x2 then (some S) else ((ckA 144 x2).bind fun _ => bnd (st S 32 (Int32.toNatClampNeg x2) x1) fun S_4 => bnd (x2 + (1)) fun x2_5 => rec5 S_4 (x2_5))
def k7_fill_32 (F : Nat) (S : SS) (x1 : Int32) : Option SS :=
  bnd ((0 : Int32)) fun x2_1 => bnd ((144 : Int32)) fun x3_2 => lpN (fun _ _ => none) (fun rec5 => k7_fill_32_B5 F (x1) (x3_2) rec5 ) F S (x2_1)
set_option maxRecDepth 100000 in
set_option maxHeartbeats 4000000 in
theorem k7_fill_32_b5 {p : Program} {l : Launch} {e : Env} {s : State} {m : MethodId} {args : Array Value} {below : List Frame} {meth : Method} {c : Code} {D : va_G} {a : Nat → Nat} {g : Nat → ClassId} (E : EK p s m args meth c D a g cJ7_fill_53178 4 RJ7 none) {F : Nat}  (x1 : Int32) (x3 : Int32) {rec5 : SS → Int32 → Option SS} {out : SS} (hrec5 : ∀ (S : SS) (x2 : Int32) (H : Heap) (locs : List Loc) (ls : Array Slot), rec5 S x2 = some out → WK D a g S s H locs → lv_has ls 4 [(0, .ref (a 32)), (1, .int (x1)), (2, .int (x2)), (3, .int (x3))] → W p l e (RM 1) s m args below meth c H locs 0 0 (MQ below (QK D a g none out) args s 0 0 (AK a)) (F0 m 5 ls []))  (S : SS) (x2 : Int32) (H : Heap) (locs : List Loc) (ls : Array Slot) (hf : k7_fill_32_B5 F x1 x3 rec5 S x2 = some out) (hw : WK D a g S s H locs) (hl : lv_has ls 4 [(0, .ref (a 32)), (1, .int (x1)), (2, .int (x2)), (3, .int (x3))]) : W p l e (RM 1) s m args below meth c H locs 0 0 (MQ below (QK D a g none out) args s 0 0 (AK a)) (F0 m 5 ls []) := by
  have hx := E.hx
  have hb := E.hb
  unfold k7_fill_32_B5 at hf
  refine lv_iload_n hx hb dJ7_fill_53178_5 rfl (lv_at hl 2 rfl) ?_
  refine lv_iload_n hx hb dJ7_fill_53178_6 rfl (lv_at hl 3 rfl) ?_
  refine lv_icmp_ge (tgt := 20) hx hb dJ7_fill_53178_7 (by decide) (fun c_3 => ?_) (fun c_3 => ?_)
  · replace hf := ite_t hf c_3
    cases hf
    exact retK_v E hw dJ7_fill_53178_20
  · replace hf := ite_f hf c_3
    refine lv_aload_n hx hb dJ7_fill_53178_10 rfl (lv_at hl 0 rfl) ?_
    refine lv_iload_n hx hb dJ7_fill_53178_11 rfl (lv_at hl 2 rfl) ?_
    refine lv_iload_n hx hb dJ7_fill_53178_12 rfl (lv_at hl 1 rfl) ?_
    obtain ⟨h_S_4, hf⟩ := ckA_at hf
    refine sK_32 E hw h_S_4 dJ7_fill_53178_13 (fun S_4 eS_4 H locs hw => ?_)
    replace hf := bnd_at hf eS_4
    obtain ⟨x2_5, ex2_5⟩ : ∃ y : Int32, y = x2 + (1) := ⟨_, rfl⟩
    replace hf := bnd_at hf ex2_5
    refine lv_iinc (v := x2_5) (lv' := [(2, .int (x2_5)), (0, .ref (a 32)), (1, .int (x1)), (3, .int (x3))]) hx hb dJ7_fill_53178_14 hl (k := 2) rfl (by rw [ex2_5]; rfl) (by decide) rfl (fun ls hl => ?_)
    refine lv_goto (tgt := 5) hx hb dJ7_fill_53178_17 (by decide) ?_
    exact hrec5 S_4 (x2_5) _ _ ls hf hw (lv_sub hl [1, 2, 0, 3] rfl)
theorem k7_fill_32_l5 {p : Program} {l : Launch} {e : Env} {s : State} {m : MethodId} {args : Array Value} {below : List Frame} {meth : Method} {c : Code} {D : va_G} {a : Nat → Nat} {g : Nat → ClassId} (E : EK p s m args meth c D a g cJ7_fill_53178 4 RJ7 none) {F : Nat}  (x1 : Int32) (x3 : Int32) {out : SS}  : ∀ (n : Nat) (S : SS) (x2 : Int32) (H : Heap) (locs : List Loc) (ls : Array Slot), lpN (fun _ _ => none) (fun rec5 => k7_fill_32_B5 F x1 x3 rec5) n S x2 = some out → WK D a g S s H locs → lv_has ls 4 [(0, .ref (a 32)), (1, .int (x1)), (2, .int (x2)), (3, .int (x3))] → W p l e (RM 1) s m args below meth c H locs 0 0 (MQ below (QK D a g none out) args s 0 0 (AK a)) (F0 m 5 ls []) := by
  intro n
  induction n with
  | zero => intro S x2 H locs ls hf; cases (show (none : Option SS) = some out from hf)
  | succ n ih => intro S x2 H locs ls hf hw hl; exact k7_fill_32_b5 E (F := F) x1 x3 ih S x2 H locs ls hf hw hl
set_option maxRecDepth 100000 in
set_option maxHeartbeats 4000000 in
theorem mk7_fill_32 {l : Launch} {D : va_G} {a : Nat → Nat} {g : Nat → ClassId} (hD : ∀ S, va_D (AK a) (wK a g S)) {F : Nat} {S : SS} {x1 : Int32} {out : SS} (hf : k7_fill_32 F S x1 = some out) : Met l yJ7_fill_53178 (wsm yJ7_fill_53178 cJ7_fill_53178 4 none) (RM 1) (PK D a g S [.ref (a 32), .int x1]) (QK D a g none out) 0 0 (AK a) := by
  refine Met.ofW (cc := cJ7_fill_53178) (maxL := 4) (ret := none) (by decide) rfl ?_
  intro p e s m args below meth c s₁ B hml hv
  obtain ⟨rfl, hP, hK, hN⟩ := hv
  have hts := atoms_spec (ws := wsm yJ7_fill_53178 cJ7_fill_53178 4 none) B.pre
  have E : EK p s m _ meth c D a g cJ7_fill_53178 4 RJ7 none := ⟨B.exec, B.bytes, B.returns, hml, findClass_of_methodNamed B.named, fun w h => hts w (List.mem_cons_of_mem _ h), hK, hN, hD, B.notSynchronized⟩
  have hx := E.hx
  have hb := E.hb
  have hw : WK D a g S s s.heap [] := ⟨hP, va_S.rf⟩
  have hl := lv_entry ([.ref (a 32), .int x1]) (n := 4) (Nat.le_of_ble_eq_true rfl)
  rw [lg_entry_eq]
  generalize (lg_sl ([.ref (a 32), .int x1]) ++ List.replicate (4 - (lg_sl ([.ref (a 32), .int x1])).length) Slot.unset).toArray = ls at hl ⊢
  have hl : lv_has ls 4 [(0, .ref (a 32)), (1, .int (x1))] := hl
  show W p l e (RM 1) s m _ below meth c s.heap [] 0 0 (MQ below (QK D a g none out) _ s 0 0 (AK a)) (F0 m 0 ls [])
  unfold k7_fill_32 at hf
  refine lv_iconst hx hb dJ7_fill_53178_0 ic_0 ?_
  refine lv_topi (fun x2_1 ex2_1 => ?_)
  replace hf := bnd_at hf ex2_1
  refine lv_istore_n (lv' := [(2, .int (x2_1)), (0, .ref (a 32)), (1, .int (x1))]) hx hb dJ7_fill_53178_1 rfl hl (by decide) rfl (fun ls hl => ?_)
  refine lv_aload_n hx hb dJ7_fill_53178_2 rfl (lv_at hl 1 rfl) ?_
  refine va_alen hx hb E.hK hw.1 32 24 rfl rfl (v := 144) rfl dJ7_fill_53178_3 ?_
  refine lv_topi (fun x3_2 ex3_2 => ?_)
  replace hf := bnd_at hf ex3_2
  refine lv_istore_n (lv' := [(3, .int (x3_2)), (2, .int (x2_1)), (0, .ref (a 32)), (1, .int (x1))]) hx hb dJ7_fill_53178_4 rfl hl (by decide) rfl (fun ls hl => ?_)
  refine k7_fill_32_l5 E (x1) (x3_2)  F S (x2_1) _ _ ls hf hw (lv_sub hl [2, 3, 1, 0] rfl)
theorem qk7_fill_32 {p : Program} {l : Launch} {e : Env} {R : Room} {s : State} {m : MethodId} {args : Array Value} {below : List Frame} {meth : Method} {c : Code} {H : Heap} {locs : List Loc} {cells slots : Nat} {Q : State → Prop} {cc : ByteArray} {pc : Nat} {ls : Array Slot} {rest : List Value} {D : va_G} {a : Nat → Nat} {g : Nat → ClassId} {nL : Nat} {own : String} {ret : Option FieldType} {S S1 : SS} {k : Nat} {x1 : Int32} (E : EK p s m args meth c D a g cc nL own ret) (hw : WK D a g S s H locs) (hM : Met l yJ7_fill_53178 (wsm yJ7_fill_53178 cJ7_fill_53178 4 none) (RM k) (PK D a g S [.ref (a 32), .int x1]) (QK D a g none S1) 0 0 (AK a)) {idx : Nat} (hlk : Cond.methodLink own idx yJ7_fill_53178 ∈ wd) (hdg : decode cc pc = .ok (.invokestatic idx, 3)) (hR : k + 1 ≤ R.frames ∧ 8 + (4 + 11) + 64 * k ≤ R.locals) (hls : ls.size = nL) (hrest : (rest.map fun v => v.category).sum ≤ 8) (hcs : cells ≤ R.cells ∧ slots ≤ R.slots) (kk : ∀ (H1 : Heap) (locs1 : List Loc), WK D a g S1 s H1 locs1 → W p l e R s m args below meth c H1 locs1 cells slots Q (F0 m (pc + 3) ls (rest))) : W p l e R s m args below meth c H locs cells slots Q (F0 m pc ls (.int x1 :: .ref (a 32) :: rest)) :=
  callK_v hw (va_runS (As := [.ref (a 32), .int x1]) (rest := rest) ⟨E.hx, E.hb, E.hml, E.hown, E.hts⟩ hM ⟨cb_of 2 E.hts wl65 wl37 hlk (by decide +kernel) hR, E.hts _ wl64⟩ ⟨PK_blind, PK_pre E.hK E.hN hw.1⟩ rfl rfl hls rfl (lv_room hrest) hdg hcs) kk
/-! X3_stayAtHome -/
def k3_stayAtHome_B20 (F : Nat) (rec20 : SS → Int32 → Option SS) (S : SS) (x1 : Int32) : Option SS :=
  if ((12 : Int32)) ≤ x1 then (some S) else ((rdA 12 (S 29) x1).bind fun v_8 => (rdA 12 (S 30) x1).bind fun v_9 => bnd (st S 7 2 ((S 7 2) + (if v_9 < v_8 then v_9 else v_8))) fun S_10 => (rdA 12 (S_10 29) x1).bind fun v_11 => (rdA 12 (S_10 30) x1).bind fun v_12 => (ckA 12 x1).bind fun _ => bnd (st S_10 31 (Int32.toNatClampNeg x1) (v_11 - v_12)) fun S_13 => bnd (x1 + (1)) fun x1_14 => rec20 S_13 (x1_14))
def k3_stayAtHome (F : Nat) (S : SS) : Option SS :=
  (k7_fill_32 F S ((0 : Int32))).bind fun S_3 => bnd (st S_3 7 2 ((0 : Int32))) fun S_4 => bnd (st S_4 7 3 ((0 : Int32))) fun S_5 => bnd ((0 : Int32)) fun x1_6 => lpN (fun _ _ => none) (fun rec20 => k3_stayAtHome_B20 F rec20 ) F S_5 (x1_6)
set_option maxRecDepth 100000 in
set_option maxHeartbeats 4000000 in
theorem k3_stayAtHome_b20 {p : Program} {l : Launch} {e : Env} {s : State} {m : MethodId} {args : Array Value} {below : List Frame} {meth : Method} {c : Code} {D : va_G} {a : Nat → Nat} {g : Nat → ClassId} (E : EK p s m args meth c D a g cX3_stayAtHome 2 RX3 none) {F : Nat}  {rec20 : SS → Int32 → Option SS} {out : SS} (hrec20 : ∀ (S : SS) (x1 : Int32) (H : Heap) (locs : List Loc) (ls : Array Slot), rec20 S x1 = some out → WK D a g S s H locs → lv_has ls 2 [(0, .ref (a 7)), (1, .int (x1))] → W p l e (RM 2) s m args below meth c H locs 0 0 (MQ below (QK D a g none out) args s 0 0 (AK a)) (F0 m 20 ls []))  (S : SS) (x1 : Int32) (H : Heap) (locs : List Loc) (ls : Array Slot) (hf : k3_stayAtHome_B20 F rec20 S x1 = some out) (hw : WK D a g S s H locs) (hl : lv_has ls 2 [(0, .ref (a 7)), (1, .int (x1))]) : W p l e (RM 2) s m args below meth c H locs 0 0 (MQ below (QK D a g none out) args s 0 0 (AK a)) (F0 m 20 ls []) := by
  have hx := E.hx
  have hb := E.hb
  unfold k3_stayAtHome_B20 at hf
  refine lv_iload_n hx hb dX3_stayAtHome_20 rfl (lv_at hl 1 rfl) ?_
  refine lv_bipush hx hb dX3_stayAtHome_21 bp_12 ?_
  refine lv_icmp_ge (tgt := 75) hx hb dX3_stayAtHome_23 (by decide) (fun c_7 => ?_) (fun c_7 => ?_)
  · replace hf := ite_t hf c_7
    cases hf
    exact retK_v E hw dX3_stayAtHome_75
  · replace hf := ite_f hf c_7
    refine lv_aload_n hx hb dX3_stayAtHome_26 rfl (lv_at hl 0 rfl) ?_
    refine lv_dup hx hb dX3_stayAtHome_27 rfl ?_
    refine gK_7_2 E hw (E.hts _ wl241) dX3_stayAtHome_28 ?_
    refine lv_aload_n hx hb dX3_stayAtHome_31 rfl (lv_at hl 0 rfl) ?_
    refine gK_7_0 E hw (E.hts _ wl237) dX3_stayAtHome_32 ?_
    refine lv_iload_n hx hb dX3_stayAtHome_35 rfl (lv_at hl 1 rfl) ?_
    obtain ⟨h_v_8, hf⟩ := rdA_at hf
    refine lK_29 E hw h_v_8 dX3_stayAtHome_36 (fun v_8 ev_8 => ?_)
    replace hf := hf v_8 ev_8
    refine lv_aload_n hx hb dX3_stayAtHome_37 rfl (lv_at hl 0 rfl) ?_
    refine gK_7_1 E hw (E.hts _ wl239) dX3_stayAtHome_38 ?_
    refine lv_iload_n hx hb dX3_stayAtHome_41 rfl (lv_at hl 1 rfl) ?_
    obtain ⟨h_v_9, hf⟩ := rdA_at hf
    refine lK_30 E hw h_v_9 dX3_stayAtHome_42 (fun v_9 ev_9 => ?_)
    replace hf := hf v_9 ev_9
    refine va_mmin hx hb (by rw [E.hml]; exact hl.1.symm) E.hown (E.hts _ wl583) (E.hts _ wl325) (E.hts _ wl45) (E.hts _ wl326) (Nat.le_of_ble_eq_true rfl) (Nat.le_of_ble_eq_true rfl) (Nat.le_refl 0) (Nat.le_refl 0) dX3_stayAtHome_43 ?_
    refine lv_iadd hx hb dX3_stayAtHome_46 ?_
    refine pK_7_2 E hw (E.hts _ wl241) dX3_stayAtHome_47 (fun S_10 eS_10 H locs hw => ?_)
    replace hf := bnd_at hf eS_10
    refine lv_aload_n hx hb dX3_stayAtHome_50 rfl (lv_at hl 0 rfl) ?_
    refine gK_7_5 E hw (E.hts _ wl246) dX3_stayAtHome_51 ?_
    refine lv_iload_n hx hb dX3_stayAtHome_54 rfl (lv_at hl 1 rfl) ?_
    refine lv_aload_n hx hb dX3_stayAtHome_55 rfl (lv_at hl 0 rfl) ?_
    refine gK_7_0 E hw (E.hts _ wl237) dX3_stayAtHome_56 ?_
    refine lv_iload_n hx hb dX3_stayAtHome_59 rfl (lv_at hl 1 rfl) ?_
    obtain ⟨h_v_11, hf⟩ := rdA_at hf
    refine lK_29 E hw h_v_11 dX3_stayAtHome_60 (fun v_11 ev_11 => ?_)
    replace hf := hf v_11 ev_11
    refine lv_aload_n hx hb dX3_stayAtHome_61 rfl (lv_at hl 0 rfl) ?_
    refine gK_7_1 E hw (E.hts _ wl239) dX3_stayAtHome_62 ?_
    refine lv_iload_n hx hb dX3_stayAtHome_65 rfl (lv_at hl 1 rfl) ?_
    obtain ⟨h_v_12, hf⟩ := rdA_at hf
    refine lK_30 E hw h_v_12 dX3_stayAtHome_66 (fun v_12 ev_12 => ?_)
    replace hf := hf v_12 ev_12
    refine lv_isub hx hb dX3_stayAtHome_67 ?_
    obtain ⟨h_S_13, hf⟩ := ckA_at hf
    refine sK_31 E hw h_S_13 dX3_stayAtHome_68 (fun S_13 eS_13 H locs hw => ?_)
    replace hf := bnd_at hf eS_13
    obtain ⟨x1_14, ex1_14⟩ : ∃ y : Int32, y = x1 + (1) := ⟨_, rfl⟩
    replace hf := bnd_at hf ex1_14
    refine lv_iinc (v := x1_14) (lv' := [(1, .int (x1_14)), (0, .ref (a 7))]) hx hb dX3_stayAtHome_69 hl (k := 1) rfl (by rw [ex1_14]; rfl) (by decide) rfl (fun ls hl => ?_)
    refine lv_goto (tgt := 20) hx hb dX3_stayAtHome_72 (by decide) ?_
    exact hrec20 S_13 (x1_14) _ _ ls hf hw (lv_sub hl [1, 0] rfl)
theorem k3_stayAtHome_l20 {p : Program} {l : Launch} {e : Env} {s : State} {m : MethodId} {args : Array Value} {below : List Frame} {meth : Method} {c : Code} {D : va_G} {a : Nat → Nat} {g : Nat → ClassId} (E : EK p s m args meth c D a g cX3_stayAtHome 2 RX3 none) {F : Nat}  {out : SS}  : ∀ (n : Nat) (S : SS) (x1 : Int32) (H : Heap) (locs : List Loc) (ls : Array Slot), lpN (fun _ _ => none) (fun rec20 => k3_stayAtHome_B20 F rec20) n S x1 = some out → WK D a g S s H locs → lv_has ls 2 [(0, .ref (a 7)), (1, .int (x1))] → W p l e (RM 2) s m args below meth c H locs 0 0 (MQ below (QK D a g none out) args s 0 0 (AK a)) (F0 m 20 ls []) := by
  intro n
  induction n with
  | zero => intro S x1 H locs ls hf; cases (show (none : Option SS) = some out from hf)
  | succ n ih => intro S x1 H locs ls hf hw hl; exact k3_stayAtHome_b20 E (F := F) ih S x1 H locs ls hf hw hl
set_option maxRecDepth 100000 in
set_option maxHeartbeats 4000000 in
theorem mk3_stayAtHome {l : Launch} {D : va_G} {a : Nat → Nat} {g : Nat → ClassId} (hD : ∀ S, va_D (AK a) (wK a g S)) {F : Nat} {S : SS} {out : SS} (hf : k3_stayAtHome F S  = some out) : Met l yX3_stayAtHome (wsm yX3_stayAtHome cX3_stayAtHome 2 none) (RM 2) (PK D a g S [.ref (a 7)]) (QK D a g none out) 0 0 (AK a) := by
  refine Met.ofW (cc := cX3_stayAtHome) (maxL := 2) (ret := none) (by decide) rfl ?_
  intro p e s m args below meth c s₁ B hml hv
  obtain ⟨rfl, hP, hK, hN⟩ := hv
  have hts := atoms_spec (ws := wsm yX3_stayAtHome cX3_stayAtHome 2 none) B.pre
  have E : EK p s m _ meth c D a g cX3_stayAtHome 2 RX3 none := ⟨B.exec, B.bytes, B.returns, hml, findClass_of_methodNamed B.named, fun w h => hts w (List.mem_cons_of_mem _ h), hK, hN, hD, B.notSynchronized⟩
  have hx := E.hx
  have hb := E.hb
  have hw : WK D a g S s s.heap [] := ⟨hP, va_S.rf⟩
  have hl := lv_entry ([.ref (a 7)]) (n := 2) (Nat.le_of_ble_eq_true rfl)
  rw [lg_entry_eq]
  generalize (lg_sl ([.ref (a 7)]) ++ List.replicate (2 - (lg_sl ([.ref (a 7)])).length) Slot.unset).toArray = ls at hl ⊢
  have hl : lv_has ls 2 [(0, .ref (a 7))] := hl
  show W p l e (RM 2) s m _ below meth c s.heap [] 0 0 (MQ below (QK D a g none out) _ s 0 0 (AK a)) (F0 m 0 ls [])
  unfold k3_stayAtHome at hf
  refine lv_aload_n hx hb dX3_stayAtHome_0 rfl (lv_at hl 0 rfl) ?_
  refine gK_7_6 E hw (E.hts _ wl247) dX3_stayAtHome_1 ?_
  refine lv_iconst hx hb dX3_stayAtHome_4 ic_0 ?_
  obtain ⟨S_3, h_1, hf⟩ := ob_at hf
  refine qk7_fill_32 E hw (mk7_fill_32 E.hD h_1) wl582 dX3_stayAtHome_5 ⟨Nat.le_of_ble_eq_true rfl, Nat.le_of_ble_eq_true rfl⟩ hl.1 (Nat.le_of_ble_eq_true rfl) ⟨Nat.le_refl 0, Nat.le_refl 0⟩ (fun H locs hw => ?_)
  refine lv_aload_n hx hb dX3_stayAtHome_8 rfl (lv_at hl 0 rfl) ?_
  refine lv_iconst hx hb dX3_stayAtHome_9 ic_0 ?_
  refine pK_7_2 E hw (E.hts _ wl241) dX3_stayAtHome_10 (fun S_4 eS_4 H locs hw => ?_)
  replace hf := bnd_at hf eS_4
  refine lv_aload_n hx hb dX3_stayAtHome_13 rfl (lv_at hl 0 rfl) ?_
  refine lv_iconst hx hb dX3_stayAtHome_14 ic_0 ?_
  refine pK_7_3 E hw (E.hts _ wl243) dX3_stayAtHome_15 (fun S_5 eS_5 H locs hw => ?_)
  replace hf := bnd_at hf eS_5
  refine lv_iconst hx hb dX3_stayAtHome_18 ic_0 ?_
  refine lv_topi (fun x1_6 ex1_6 => ?_)
  replace hf := bnd_at hf ex1_6
  refine lv_istore_n (lv' := [(1, .int (x1_6)), (0, .ref (a 7))]) hx hb dX3_stayAtHome_19 rfl hl (by decide) rfl (fun ls hl => ?_)
  refine k3_stayAtHome_l20 E  F S_5 (x1_6) _ _ ls hf hw (lv_sub hl [1, 0] rfl)
theorem qk3_stayAtHome {p : Program} {l : Launch} {e : Env} {R : Room} {s : State} {m : MethodId} {args : Array Value} {below : List Frame} {meth : Method} {c : Code} {H : Heap} {locs : List Loc} {cells slots : Nat} {Q : State → Prop} {cc : ByteArray} {pc : Nat} {ls : Array Slot} {rest : List Value} {D : va_G} {a : Nat → Nat} {g : Nat → ClassId} {nL : Nat} {own : String} {ret : Option FieldType} {S S1 : SS} {k : Nat} (E : EK p s m args meth c D a g cc nL own ret) (hw : WK D a g S s H locs) (hM : Met l yX3_stayAtHome (wsm yX3_stayAtHome cX3_stayAtHome 2 none) (RM k) (PK D a g S [.ref (a 7)]) (QK D a g none S1) 0 0 (AK a)) {idx : Nat} (hlk : Cond.methodLink own idx yX3_stayAtHome ∈ wd) (hdg : decode cc pc = .ok (.invokevirtual idx, 3)) (hR : k + 1 ≤ R.frames ∧ 8 + (2 + 11) + 64 * k ≤ R.locals) (hls : ls.size = nL) (hrest : (rest.map fun v => v.category).sum ≤ 8) (hcs : cells ≤ R.cells ∧ slots ≤ R.slots) (kk : ∀ (H1 : Heap) (locs1 : List Loc), WK D a g S1 s H1 locs1 → W p l e R s m args below meth c H1 locs1 cells slots Q (F0 m (pc + 3) ls (rest))) : W p l e R s m args below meth c H locs cells slots Q (F0 m pc ls (.ref (a 7) :: rest)) :=
  callK_v hw (va_runV (As := []) (rest := rest) ⟨E.hx, E.hb, E.hml, E.hown, E.hts⟩ hM ⟨cb_of 0 E.hts wl581 wl43 hlk (by decide +kernel) hR, E.hts _ wl580, E.hts _ wl12⟩ ⟨PK_blind, va_recv E.hK hw.1 (ci := 3) (q0 := 7) rfl rfl, PK_pre E.hK E.hN hw.1⟩ rfl rfl hls rfl (lv_room hrest) hdg hcs) kk
/-! X3_isGiver -/
def k3_isGiver (F : Nat) (S : SS) (x1 : Int32) : Option Int32 :=
  (rdA 12 (S 29) x1).bind fun v_1 => (rdA 12 (S 30) x1).bind fun v_2 => if v_1 ≤ v_2 then (some ((0 : Int32))) else (some ((1 : Int32)))
set_option maxRecDepth 100000 in
set_option maxHeartbeats 4000000 in
theorem mk3_isGiver {l : Launch} {D : va_G} {a : Nat → Nat} {g : Nat → ClassId} (hD : ∀ S, va_D (AK a) (wK a g S)) {F : Nat} {S : SS} {x1 : Int32} {out : Int32} (hf : k3_isGiver F S x1 = some out) : Met l yX3_isGiver (wsm yX3_isGiver cX3_isGiver 2 (some .boolean)) (RM 1) (PK D a g S [.ref (a 7), .int x1]) (QK D a g (some (.int out)) S) 0 0 (AK a) := by
  refine Met.ofW (cc := cX3_isGiver) (maxL := 2) (ret := (some .boolean)) (by decide) rfl ?_
  intro p e s m args below meth c s₁ B hml hv
  obtain ⟨rfl, hP, hK, hN⟩ := hv
  have hts := atoms_spec (ws := wsm yX3_isGiver cX3_isGiver 2 (some .boolean)) B.pre
  have E : EK p s m _ meth c D a g cX3_isGiver 2 RX3 (some .boolean) := ⟨B.exec, B.bytes, B.returns, hml, findClass_of_methodNamed B.named, fun w h => hts w (List.mem_cons_of_mem _ h), hK, hN, hD, B.notSynchronized⟩
  have hx := E.hx
  have hb := E.hb
  have hw : WK D a g S s s.heap [] := ⟨hP, va_S.rf⟩
  have hl := lv_entry ([.ref (a 7), .int x1]) (n := 2) (Nat.le_of_ble_eq_true rfl)
  rw [lg_entry_eq]
  generalize (lg_sl ([.ref (a 7), .int x1]) ++ List.replicate (2 - (lg_sl ([.ref (a 7), .int x1])).length) Slot.unset).toArray = ls at hl ⊢
  have hl : lv_has ls 2 [(0, .ref (a 7)), (1, .int (x1))] := hl
  show W p l e (RM 1) s m _ below meth c s.heap [] 0 0 (MQ below (QK D a g (some (.int out)) S) _ s 0 0 (AK a)) (F0 m 0 ls [])
  unfold k3_isGiver at hf
  refine lv_aload_n hx hb dX3_isGiver_0 rfl (lv_at hl 0 rfl) ?_
  refine gK_7_0 E hw (E.hts _ wl237) dX3_isGiver_1 ?_
  refine lv_iload_n hx hb dX3_isGiver_4 rfl (lv_at hl 1 rfl) ?_
  obtain ⟨h_v_1, hf⟩ := rdA_at hf
  refine lK_29 E hw h_v_1 dX3_isGiver_5 (fun v_1 ev_1 => ?_)
  replace hf := hf v_1 ev_1
  refine lv_aload_n hx hb dX3_isGiver_6 rfl (lv_at hl 0 rfl) ?_
  refine gK_7_1 E hw (E.hts _ wl239) dX3_isGiver_7 ?_
  refine lv_iload_n hx hb dX3_isGiver_10 rfl (lv_at hl 1 rfl) ?_
  obtain ⟨h_v_2, hf⟩ := rdA_at hf
  refine lK_30 E hw h_v_2 dX3_isGiver_11 (fun v_2 ev_2 => ?_)
  replace hf := hf v_2 ev_2
  refine lv_icmp_le (tgt := 19) hx hb dX3_isGiver_12 (by decide) (fun c_3 => ?_) (fun c_3 => ?_)
  · replace hf := ite_t hf c_3
    refine lv_iconst hx hb dX3_isGiver_19 ic_0 ?_
    cases hf
    exact retK_z E hw nb0 dX3_isGiver_20
  · replace hf := ite_f hf c_3
    refine lv_iconst hx hb dX3_isGiver_15 ic_1 ?_
    refine lv_goto (tgt := 20) hx hb dX3_isGiver_16 (by decide) ?_
    cases hf
    exact retK_z E hw nb1 dX3_isGiver_20
theorem qk3_isGiver {p : Program} {l : Launch} {e : Env} {R : Room} {s : State} {m : MethodId} {args : Array Value} {below : List Frame} {meth : Method} {c : Code} {H : Heap} {locs : List Loc} {cells slots : Nat} {Q : State → Prop} {cc : ByteArray} {pc : Nat} {ls : Array Slot} {rest : List Value} {D : va_G} {a : Nat → Nat} {g : Nat → ClassId} {nL : Nat} {own : String} {ret : Option FieldType} {S S1 : SS} {k : Nat} {x1 : Int32} {r : Int32} (E : EK p s m args meth c D a g cc nL own ret) (hw : WK D a g S s H locs) (hM : Met l yX3_isGiver (wsm yX3_isGiver cX3_isGiver 2 (some .boolean)) (RM k) (PK D a g S [.ref (a 7), .int x1]) (QK D a g (some (.int r)) S1) 0 0 (AK a)) {idx : Nat} (hlk : Cond.methodLink own idx yX3_isGiver ∈ wd) (hdg : decode cc pc = .ok (.invokevirtual idx, 3)) (hR : k + 1 ≤ R.frames ∧ 8 + (2 + 11) + 64 * k ≤ R.locals) (hls : ls.size = nL) (hrest : (rest.map fun v => v.category).sum ≤ 8) (hcs : cells ≤ R.cells ∧ slots ≤ R.slots) (kk : ∀ (H1 : Heap) (locs1 : List Loc), WK D a g S1 s H1 locs1 → W p l e R s m args below meth c H1 locs1 cells slots Q (F0 m (pc + 3) ls (.int r :: rest))) : W p l e R s m args below meth c H locs cells slots Q (F0 m pc ls (.int x1 :: .ref (a 7) :: rest)) :=
  callK_i hw (va_runV (As := [.int x1]) (rest := rest) ⟨E.hx, E.hb, E.hml, E.hown, E.hts⟩ hM ⟨cb_of 1 E.hts wl604 wl43 hlk (by decide +kernel) hR, E.hts _ wl603, E.hts _ wl17⟩ ⟨PK_blind, va_recv E.hK hw.1 (ci := 3) (q0 := 7) rfl rfl, PK_pre E.hK E.hN hw.1⟩ rfl rfl hls rfl (lv_room hrest) hdg hcs) kk
/-! X3_isTaker -/
def k3_isTaker (F : Nat) (S : SS) (x1 : Int32) : Option Int32 :=
  (rdA 12 (S 29) x1).bind fun v_1 => (rdA 12 (S 30) x1).bind fun v_2 => if v_2 ≤ v_1 then (some ((0 : Int32))) else (some ((1 : Int32)))
set_option maxRecDepth 100000 in
set_option maxHeartbeats 4000000 in
theorem mk3_isTaker {l : Launch} {D : va_G} {a : Nat → Nat} {g : Nat → ClassId} (hD : ∀ S, va_D (AK a) (wK a g S)) {F : Nat} {S : SS} {x1 : Int32} {out : Int32} (hf : k3_isTaker F S x1 = some out) : Met l yX3_isTaker (wsm yX3_isTaker cX3_isTaker 2 (some .boolean)) (RM 1) (PK D a g S [.ref (a 7), .int x1]) (QK D a g (some (.int out)) S) 0 0 (AK a) := by
  refine Met.ofW (cc := cX3_isTaker) (maxL := 2) (ret := (some .boolean)) (by decide) rfl ?_
  intro p e s m args below meth c s₁ B hml hv
  obtain ⟨rfl, hP, hK, hN⟩ := hv
  have hts := atoms_spec (ws := wsm yX3_isTaker cX3_isTaker 2 (some .boolean)) B.pre
  have E : EK p s m _ meth c D a g cX3_isTaker 2 RX3 (some .boolean) := ⟨B.exec, B.bytes, B.returns, hml, findClass_of_methodNamed B.named, fun w h => hts w (List.mem_cons_of_mem _ h), hK, hN, hD, B.notSynchronized⟩
  have hx := E.hx
  have hb := E.hb
  have hw : WK D a g S s s.heap [] := ⟨hP, va_S.rf⟩
  have hl := lv_entry ([.ref (a 7), .int x1]) (n := 2) (Nat.le_of_ble_eq_true rfl)
  rw [lg_entry_eq]
  generalize (lg_sl ([.ref (a 7), .int x1]) ++ List.replicate (2 - (lg_sl ([.ref (a 7), .int x1])).length) Slot.unset).toArray = ls at hl ⊢
  have hl : lv_has ls 2 [(0, .ref (a 7)), (1, .int (x1))] := hl
  show W p l e (RM 1) s m _ below meth c s.heap [] 0 0 (MQ below (QK D a g (some (.int out)) S) _ s 0 0 (AK a)) (F0 m 0 ls [])
  unfold k3_isTaker at hf
  refine lv_aload_n hx hb dX3_isTaker_0 rfl (lv_at hl 0 rfl) ?_
  refine gK_7_0 E hw (E.hts _ wl237) dX3_isTaker_1 ?_
  refine lv_iload_n hx hb dX3_isTaker_4 rfl (lv_at hl 1 rfl) ?_
  obtain ⟨h_v_1, hf⟩ := rdA_at hf
  refine lK_29 E hw h_v_1 dX3_isTaker_5 (fun v_1 ev_1 => ?_)
  replace hf := hf v_1 ev_1
  refine lv_aload_n hx hb dX3_isTaker_6 rfl (lv_at hl 0 rfl) ?_
  refine gK_7_1 E hw (E.hts _ wl239) dX3_isTaker_7 ?_
  refine lv_iload_n hx hb dX3_isTaker_10 rfl (lv_at hl 1 rfl) ?_
  obtain ⟨h_v_2, hf⟩ := rdA_at hf
  refine lK_30 E hw h_v_2 dX3_isTaker_11 (fun v_2 ev_2 => ?_)
  replace hf := hf v_2 ev_2
  refine lv_icmp_ge (tgt := 19) hx hb dX3_isTaker_12 (by decide) (fun c_3 => ?_) (fun c_3 => ?_)
  · replace hf := ite_t hf c_3
    refine lv_iconst hx hb dX3_isTaker_19 ic_0 ?_
    cases hf
    exact retK_z E hw nb0 dX3_isTaker_20
  · replace hf := ite_f hf c_3
    refine lv_iconst hx hb dX3_isTaker_15 ic_1 ?_
    refine lv_goto (tgt := 20) hx hb dX3_isTaker_16 (by decide) ?_
    cases hf
    exact retK_z E hw nb1 dX3_isTaker_20
theorem qk3_isTaker {p : Program} {l : Launch} {e : Env} {R : Room} {s : State} {m : MethodId} {args : Array Value} {below : List Frame} {meth : Method} {c : Code} {H : Heap} {locs : List Loc} {cells slots : Nat} {Q : State → Prop} {cc : ByteArray} {pc : Nat} {ls : Array Slot} {rest : List Value} {D : va_G} {a : Nat → Nat} {g : Nat → ClassId} {nL : Nat} {own : String} {ret : Option FieldType} {S S1 : SS} {k : Nat} {x1 : Int32} {r : Int32} (E : EK p s m args meth c D a g cc nL own ret) (hw : WK D a g S s H locs) (hM : Met l yX3_isTaker (wsm yX3_isTaker cX3_isTaker 2 (some .boolean)) (RM k) (PK D a g S [.ref (a 7), .int x1]) (QK D a g (some (.int r)) S1) 0 0 (AK a)) {idx : Nat} (hlk : Cond.methodLink own idx yX3_isTaker ∈ wd) (hdg : decode cc pc = .ok (.invokevirtual idx, 3)) (hR : k + 1 ≤ R.frames ∧ 8 + (2 + 11) + 64 * k ≤ R.locals) (hls : ls.size = nL) (hrest : (rest.map fun v => v.category).sum ≤ 8) (hcs : cells ≤ R.cells ∧ slots ≤ R.slots) (kk : ∀ (H1 : Heap) (locs1 : List Loc), WK D a g S1 s H1 locs1 → W p l e R s m args below meth c H1 locs1 cells slots Q (F0 m (pc + 3) ls (.int r :: rest))) : W p l e R s m args below meth c H locs cells slots Q (F0 m pc ls (.int x1 :: .ref (a 7) :: rest)) :=
  callK_i hw (va_runV (As := [.int x1]) (rest := rest) ⟨E.hx, E.hb, E.hml, E.hown, E.hts⟩ hM ⟨cb_of 1 E.hts wl608 wl43 hlk (by decide +kernel) hR, E.hts _ wl607, E.hts _ wl18⟩ ⟨PK_blind, va_recv E.hK hw.1 (ci := 3) (q0 := 7) rfl rfl, PK_pre E.hK E.hN hw.1⟩ rfl rfl hls rfl (lv_room hrest) hdg hcs) kk
/-! X3_stepMiles -/
def k3_stepMiles_J33 (F : Nat) (S : SS) (x1 : Int32) (x2 : Int32) (x3 : Int32) : Option Int32 :=
  (k3_isTaker F S (x1)).bind fun r_8 => if r_8 = 0 then (some ((1000000 : Int32))) else ((k3_isGiver F S (x2)).bind fun r_12 => if r_12 = 0 then (some ((1000000 : Int32))) else ((rdA 144 (S 32) ((x2 * ((12 : Int32))) + x1)).bind fun v_15 => if v_15 ≤ 0 then (some ((1000000 : Int32))) else (some (-x3))))
def k3_stepMiles (F : Nat) (S : SS) (x1 : Int32) (x2 : Int32) : Option Int32 :=
  (rdA 144 (S 12) ((x1 * ((12 : Int32))) + x2)).bind fun v_1 => bnd (v_1) fun x3_2 => (k3_isGiver F S (x1)).bind fun r_4 => if r_4 = 0 then (k3_stepMiles_J33 F S (x1) (x2) (x3_2)) else ((k3_isTaker F S (x2)).bind fun r_18 => if r_18 = 0 then (k3_stepMiles_J33 F S (x1) (x2) (x3_2)) else (some (x3_2)))
set_option maxRecDepth 100000 in
set_option maxHeartbeats 4000000 in
theorem k3_stepMiles_J33_j {p : Program} {l : Launch} {e : Env} {s : State} {m : MethodId} {args : Array Value} {below : List Frame} {meth : Method} {c : Code} {D : va_G} {a : Nat → Nat} {g : Nat → ClassId} (E : EK p s m args meth c D a g cX3_stepMiles 4 RX3 (some .int)) {F : Nat}  {out : Int32} (S : SS) (x1 : Int32) (x2 : Int32) (x3 : Int32) (H : Heap) (locs : List Loc) (ls : Array Slot) (hf : k3_stepMiles_J33 F S x1 x2 x3 = some out) (hw : WK D a g S s H locs) (hl : lv_has ls 4 [(0, .ref (a 7)), (1, .int (x1)), (2, .int (x2)), (3, .int (x3))]) : W p l e (RM 2) s m args below meth c H locs 0 0 (MQ below (QK D a g (some (.int out)) S) args s 0 0 (AK a)) (F0 m 33 ls []) := by
  have hx := E.hx
  have hb := E.hb
  unfold k3_stepMiles_J33 at hf
  refine lv_aload_n hx hb dX3_stepMiles_33 rfl (lv_at hl 0 rfl) ?_
  refine lv_iload_n hx hb dX3_stepMiles_34 rfl (lv_at hl 1 rfl) ?_
  obtain ⟨r_8, h_7, hf⟩ := ob_at hf
  refine qk3_isTaker E hw (mk3_isTaker E.hD h_7) wl605 dX3_stepMiles_35 ⟨Nat.le_of_ble_eq_true rfl, Nat.le_of_ble_eq_true rfl⟩ hl.1 (Nat.le_of_ble_eq_true rfl) ⟨Nat.le_refl 0, Nat.le_refl 0⟩ (fun H locs hw => ?_)
  refine lv_if_eq (tgt := 66) hx hb dX3_stepMiles_38 (by decide) (fun c_10 => ?_) (fun c_10 => ?_)
  · replace hf := ite_t hf c_10
    refine lv_ldc hx hb E.hown (E.hts _ wl592) dX3_stepMiles_66 ?_
    cases hf
    exact retK_i E hw dX3_stepMiles_68
  · replace hf := ite_f hf c_10
    refine lv_aload_n hx hb dX3_stepMiles_41 rfl (lv_at hl 0 rfl) ?_
    refine lv_iload_n hx hb dX3_stepMiles_42 rfl (lv_at hl 2 rfl) ?_
    obtain ⟨r_12, h_11, hf⟩ := ob_at hf
    refine qk3_isGiver E hw (mk3_isGiver E.hD h_11) wl601 dX3_stepMiles_43 ⟨Nat.le_of_ble_eq_true rfl, Nat.le_of_ble_eq_true rfl⟩ hl.1 (Nat.le_of_ble_eq_true rfl) ⟨Nat.le_refl 0, Nat.le_refl 0⟩ (fun H locs hw => ?_)
    refine lv_if_eq (tgt := 66) hx hb dX3_stepMiles_46 (by decide) (fun c_14 => ?_) (fun c_14 => ?_)
    · replace hf := ite_t hf c_14
      refine lv_ldc hx hb E.hown (E.hts _ wl592) dX3_stepMiles_66 ?_
      cases hf
      exact retK_i E hw dX3_stepMiles_68
    · replace hf := ite_f hf c_14
      refine lv_aload_n hx hb dX3_stepMiles_49 rfl (lv_at hl 0 rfl) ?_
      refine gK_7_6 E hw (E.hts _ wl247) dX3_stepMiles_50 ?_
      refine lv_iload_n hx hb dX3_stepMiles_53 rfl (lv_at hl 2 rfl) ?_
      refine lv_bipush hx hb dX3_stepMiles_54 bp_12 ?_
      refine lv_imul hx hb dX3_stepMiles_56 ?_
      refine lv_iload_n hx hb dX3_stepMiles_57 rfl (lv_at hl 1 rfl) ?_
      refine lv_iadd hx hb dX3_stepMiles_58 ?_
      obtain ⟨h_v_15, hf⟩ := rdA_at hf
      refine lK_32 E hw h_v_15 dX3_stepMiles_59 (fun v_15 ev_15 => ?_)
      replace hf := hf v_15 ev_15
      refine lv_if_le (tgt := 66) hx hb dX3_stepMiles_60 (by decide) (fun c_16 => ?_) (fun c_16 => ?_)
      · replace hf := ite_t hf c_16
        refine lv_ldc hx hb E.hown (E.hts _ wl592) dX3_stepMiles_66 ?_
        cases hf
        exact retK_i E hw dX3_stepMiles_68
      · replace hf := ite_f hf c_16
        refine lv_iload_n hx hb dX3_stepMiles_63 rfl (lv_at hl 3 rfl) ?_
        refine lv_ineg hx hb dX3_stepMiles_64 ?_
        cases hf
        exact retK_i E hw dX3_stepMiles_65
set_option maxRecDepth 100000 in
set_option maxHeartbeats 4000000 in
theorem mk3_stepMiles {l : Launch} {D : va_G} {a : Nat → Nat} {g : Nat → ClassId} (hD : ∀ S, va_D (AK a) (wK a g S)) {F : Nat} {S : SS} {x1 x2 : Int32} {out : Int32} (hf : k3_stepMiles F S x1 x2 = some out) : Met l yX3_stepMiles (wsm yX3_stepMiles cX3_stepMiles 4 (some .int)) (RM 2) (PK D a g S [.ref (a 7), .int x1, .int x2]) (QK D a g (some (.int out)) S) 0 0 (AK a) := by
  refine Met.ofW (cc := cX3_stepMiles) (maxL := 4) (ret := (some .int)) (by decide) rfl ?_
  intro p e s m args below meth c s₁ B hml hv
  obtain ⟨rfl, hP, hK, hN⟩ := hv
  have hts := atoms_spec (ws := wsm yX3_stepMiles cX3_stepMiles 4 (some .int)) B.pre
  have E : EK p s m _ meth c D a g cX3_stepMiles 4 RX3 (some .int) := ⟨B.exec, B.bytes, B.returns, hml, findClass_of_methodNamed B.named, fun w h => hts w (List.mem_cons_of_mem _ h), hK, hN, hD, B.notSynchronized⟩
  have hx := E.hx
  have hb := E.hb
  have hw : WK D a g S s s.heap [] := ⟨hP, va_S.rf⟩
  have hl := lv_entry ([.ref (a 7), .int x1, .int x2]) (n := 4) (Nat.le_of_ble_eq_true rfl)
  rw [lg_entry_eq]
  generalize (lg_sl ([.ref (a 7), .int x1, .int x2]) ++ List.replicate (4 - (lg_sl ([.ref (a 7), .int x1, .int x2])).length) Slot.unset).toArray = ls at hl ⊢
  have hl : lv_has ls 4 [(0, .ref (a 7)), (1, .int (x1)), (2, .int (x2))] := hl
  show W p l e (RM 2) s m _ below meth c s.heap [] 0 0 (MQ below (QK D a g (some (.int out)) S) _ s 0 0 (AK a)) (F0 m 0 ls [])
  unfold k3_stepMiles at hf
  refine lv_aload_n hx hb dX3_stepMiles_0 rfl (lv_at hl 0 rfl) ?_
  refine gK_7_4 E hw (E.hts _ wl245) dX3_stepMiles_1 ?_
  refine gK_1_4 E hw (E.hts _ wl74) dX3_stepMiles_4 ?_
  refine lv_iload_n hx hb dX3_stepMiles_7 rfl (lv_at hl 1 rfl) ?_
  refine lv_bipush hx hb dX3_stepMiles_8 bp_12 ?_
  refine lv_imul hx hb dX3_stepMiles_10 ?_
  refine lv_iload_n hx hb dX3_stepMiles_11 rfl (lv_at hl 2 rfl) ?_
  refine lv_iadd hx hb dX3_stepMiles_12 ?_
  obtain ⟨h_v_1, hf⟩ := rdA_at hf
  refine lK_12 E hw h_v_1 dX3_stepMiles_13 (fun v_1 ev_1 => ?_)
  replace hf := hf v_1 ev_1
  refine lv_topi (fun x3_2 ex3_2 => ?_)
  replace hf := bnd_at hf ex3_2
  refine lv_istore_n (lv' := [(3, .int (x3_2)), (0, .ref (a 7)), (1, .int (x1)), (2, .int (x2))]) hx hb dX3_stepMiles_14 rfl hl (by decide) rfl (fun ls hl => ?_)
  refine lv_aload_n hx hb dX3_stepMiles_15 rfl (lv_at hl 1 rfl) ?_
  refine lv_iload_n hx hb dX3_stepMiles_16 rfl (lv_at hl 2 rfl) ?_
  obtain ⟨r_4, h_3, hf⟩ := ob_at hf
  refine qk3_isGiver E hw (mk3_isGiver E.hD h_3) wl601 dX3_stepMiles_17 ⟨Nat.le_of_ble_eq_true rfl, Nat.le_of_ble_eq_true rfl⟩ hl.1 (Nat.le_of_ble_eq_true rfl) ⟨Nat.le_refl 0, Nat.le_refl 0⟩ (fun H locs hw => ?_)
  refine lv_if_eq (tgt := 33) hx hb dX3_stepMiles_20 (by decide) (fun c_6 => ?_) (fun c_6 => ?_)
  · replace hf := ite_t hf c_6
    exact k3_stepMiles_J33_j E S (x1) (x2) (x3_2) _ _ ls hf hw (lv_sub hl [1, 2, 3, 0] rfl)
  · replace hf := ite_f hf c_6
    refine lv_aload_n hx hb dX3_stepMiles_23 rfl (lv_at hl 1 rfl) ?_
    refine lv_iload_n hx hb dX3_stepMiles_24 rfl (lv_at hl 3 rfl) ?_
    obtain ⟨r_18, h_17, hf⟩ := ob_at hf
    refine qk3_isTaker E hw (mk3_isTaker E.hD h_17) wl605 dX3_stepMiles_25 ⟨Nat.le_of_ble_eq_true rfl, Nat.le_of_ble_eq_true rfl⟩ hl.1 (Nat.le_of_ble_eq_true rfl) ⟨Nat.le_refl 0, Nat.le_refl 0⟩ (fun H locs hw => ?_)
    refine lv_if_eq (tgt := 33) hx hb dX3_stepMiles_28 (by decide) (fun c_20 => ?_) (fun c_20 => ?_)
    · replace hf := ite_t hf c_20
      exact k3_stepMiles_J33_j E S (x1) (x2) (x3_2) _ _ ls hf hw (lv_sub hl [1, 2, 3, 0] rfl)
    · replace hf := ite_f hf c_20
      refine lv_iload_n hx hb dX3_stepMiles_31 rfl (lv_at hl 0 rfl) ?_
      cases hf
      exact retK_i E hw dX3_stepMiles_32
theorem qk3_stepMiles {p : Program} {l : Launch} {e : Env} {R : Room} {s : State} {m : MethodId} {args : Array Value} {below : List Frame} {meth : Method} {c : Code} {H : Heap} {locs : List Loc} {cells slots : Nat} {Q : State → Prop} {cc : ByteArray} {pc : Nat} {ls : Array Slot} {rest : List Value} {D : va_G} {a : Nat → Nat} {g : Nat → ClassId} {nL : Nat} {own : String} {ret : Option FieldType} {S S1 : SS} {k : Nat} {x1 x2 : Int32} {r : Int32} (E : EK p s m args meth c D a g cc nL own ret) (hw : WK D a g S s H locs) (hM : Met l yX3_stepMiles (wsm yX3_stepMiles cX3_stepMiles 4 (some .int)) (RM k) (PK D a g S [.ref (a 7), .int x1, .int x2]) (QK D a g (some (.int r)) S1) 0 0 (AK a)) {idx : Nat} (hlk : Cond.methodLink own idx yX3_stepMiles ∈ wd) (hdg : decode cc pc = .ok (.invokevirtual idx, 3)) (hR : k + 1 ≤ R.frames ∧ 8 + (4 + 11) + 64 * k ≤ R.locals) (hls : ls.size = nL) (hrest : (rest.map fun v => v.category).sum ≤ 8) (hcs : cells ≤ R.cells ∧ slots ≤ R.slots) (kk : ∀ (H1 : Heap) (locs1 : List Loc), WK D a g S1 s H1 locs1 → W p l e R s m args below meth c H1 locs1 cells slots Q (F0 m (pc + 3) ls (.int r :: rest))) : W p l e R s m args below meth c H locs cells slots Q (F0 m pc ls (.int x2 :: .int x1 :: .ref (a 7) :: rest)) :=
  callK_i hw (va_runV (As := [.int x1, .int x2]) (rest := rest) ⟨E.hx, E.hb, E.hml, E.hown, E.hts⟩ hM ⟨cb_of 2 E.hts wl600 wl43 hlk (by decide +kernel) hR, E.hts _ wl599, E.hts _ wl16⟩ ⟨PK_blind, va_recv E.hK hw.1 (ci := 3) (q0 := 7) rfl rfl, PK_pre E.hK E.hN hw.1⟩ rfl rfl hls rfl (lv_room hrest) hdg hcs) kk
/-! X3_stepFrom -/
def k3_stepFrom_B4 (F : Nat) (x1 : Int32) (rec4 : SS → Int32 → Int32 → Option (Int32 × SS)) (S : SS) (x2 : Int32) (x3 : Int32) : Option (Int32 × SS) :=
  if ((12 : Int32)) ≤ x3 then ((ckB x2).bind fun _ => some (x2, S)) else ((k3_stepMiles F S (x1) (x3)).bind fun r_6 => bnd (r_6) fun x4_8 => if ((1000000 : Int32)) ≤ x4_8 then (bnd (x3 + (1)) fun x3_10 => rec4 S (x2) (x3_10)) else ((rdA 12 (S 33) x1).bind fun v_11 => (rdA 12 (S 33) x3).bind fun v_12 => if v_12 ≤ (v_11 + x4_8) then (bnd (x3 + (1)) fun x3_14 => rec4 S (x2) (x3_14)) else ((rdA 12 (S 33) x1).bind fun v_15 => (ckA 12 x3).bind fun _ => bnd (st S 33 (Int32.toNatClampNeg x3) (v_15 + x4_8)) fun S_16 => (ckA 12 x3).bind fun _ => bnd (st S_16 34 (Int32.toNatClampNeg x3) x1) fun S_17 => bnd ((1 : Int32)) fun x2_18 => bnd (x3 + (1)) fun x3_19 => rec4 S_17 (x2_18) (x3_19))))
def k3_stepFrom (F : Nat) (S : SS) (x1 : Int32) : Option (Int32 × SS) :=
  bnd ((0 : Int32)) fun x2_1 => bnd ((0 : Int32)) fun x3_2 => lpN (fun _ _ _ => none) (fun rec4 => k3_stepFrom_B4 F (x1) rec4 ) F S (x2_1) (x3_2)
set_option maxRecDepth 100000 in
set_option maxHeartbeats 4000000 in
theorem k3_stepFrom_b4 {p : Program} {l : Launch} {e : Env} {s : State} {m : MethodId} {args : Array Value} {below : List Frame} {meth : Method} {c : Code} {D : va_G} {a : Nat → Nat} {g : Nat → ClassId} (E : EK p s m args meth c D a g cX3_stepFrom 5 RX3 (some .boolean)) {F : Nat}  (x1 : Int32) {rec4 : SS → Int32 → Int32 → Option (Int32 × SS)} {out : (Int32 × SS)} (hrec4 : ∀ (S : SS) (x2 : Int32) (x3 : Int32) (H : Heap) (locs : List Loc) (ls : Array Slot), rec4 S x2 x3 = some out → WK D a g S s H locs → lv_has ls 5 [(0, .ref (a 7)), (1, .int (x1)), (2, .int (x2)), (3, .int (x3))] → W p l e (RM 3) s m args below meth c H locs 0 0 (MQ below (QK D a g (some (.int out.1)) out.2) args s 0 0 (AK a)) (F0 m 4 ls []))  (S : SS) (x2 : Int32) (x3 : Int32) (H : Heap) (locs : List Loc) (ls : Array Slot) (hf : k3_stepFrom_B4 F x1 rec4 S x2 x3 = some out) (hw : WK D a g S s H locs) (hl : lv_has ls 5 [(0, .ref (a 7)), (1, .int (x1)), (2, .int (x2)), (3, .int (x3))]) : W p l e (RM 3) s m args below meth c H locs 0 0 (MQ below (QK D a g (some (.int out.1)) out.2) args s 0 0 (AK a)) (F0 m 4 ls []) := by
  have hx := E.hx
  have hb := E.hb
  unfold k3_stepFrom_B4 at hf
  refine lv_iload_n hx hb dX3_stepFrom_4 rfl (lv_at hl 3 rfl) ?_
  refine lv_bipush hx hb dX3_stepFrom_5 bp_12 ?_
  refine lv_icmp_ge (tgt := 73) hx hb dX3_stepFrom_7 (by decide) (fun c_3 => ?_) (fun c_3 => ?_)
  · replace hf := ite_t hf c_3
    refine lv_iload_n hx hb dX3_stepFrom_73 rfl (lv_at hl 2 rfl) ?_
    obtain ⟨h_4, hf⟩ := ckB_at hf
    cases hf
    exact retK_z E hw h_4 dX3_stepFrom_74
  · replace hf := ite_f hf c_3
    refine lv_aload_n hx hb dX3_stepFrom_10 rfl (lv_at hl 0 rfl) ?_
    refine lv_iload_n hx hb dX3_stepFrom_11 rfl (lv_at hl 1 rfl) ?_
    refine lv_iload_n hx hb dX3_stepFrom_12 rfl (lv_at hl 3 rfl) ?_
    obtain ⟨r_6, h_5, hf⟩ := ob_at hf
    refine qk3_stepMiles E hw (mk3_stepMiles E.hD h_5) wl597 dX3_stepFrom_13 ⟨Nat.le_of_ble_eq_true rfl, Nat.le_of_ble_eq_true rfl⟩ hl.1 (Nat.le_of_ble_eq_true rfl) ⟨Nat.le_refl 0, Nat.le_refl 0⟩ (fun H locs hw => ?_)
    refine lv_topi (fun x4_8 ex4_8 => ?_)
    replace hf := bnd_at hf ex4_8
    refine lv_istore (lv' := [(4, .int (x4_8)), (0, .ref (a 7)), (1, .int (x1)), (2, .int (x2)), (3, .int (x3))]) hx hb dX3_stepFrom_16 hl (by decide) rfl (fun ls hl => ?_)
    refine lv_iload hx hb dX3_stepFrom_18 (lv_at hl 0 rfl) ?_
    refine lv_ldc hx hb E.hown (E.hts _ wl592) dX3_stepFrom_20 ?_
    refine lv_icmp_ge (tgt := 67) hx hb dX3_stepFrom_22 (by decide) (fun c_9 => ?_) (fun c_9 => ?_)
    · replace hf := ite_t hf c_9
      obtain ⟨x3_10, ex3_10⟩ : ∃ y : Int32, y = x3 + (1) := ⟨_, rfl⟩
      replace hf := bnd_at hf ex3_10
      refine lv_iinc (v := x3_10) (lv' := [(3, .int (x3_10)), (4, .int (x4_8)), (0, .ref (a 7)), (1, .int (x1)), (2, .int (x2))]) hx hb dX3_stepFrom_67 hl (k := 4) rfl (by rw [ex3_10]; rfl) (by decide) rfl (fun ls hl => ?_)
      refine lv_goto (tgt := 4) hx hb dX3_stepFrom_70 (by decide) ?_
      exact hrec4 S (x2) (x3_10) _ _ ls hf hw (lv_sub hl [2, 3, 4, 0] rfl)
    · replace hf := ite_f hf c_9
      refine lv_aload_n hx hb dX3_stepFrom_25 rfl (lv_at hl 1 rfl) ?_
      refine gK_7_7 E hw (E.hts _ wl248) dX3_stepFrom_26 ?_
      refine lv_iload_n hx hb dX3_stepFrom_29 rfl (lv_at hl 2 rfl) ?_
      obtain ⟨h_v_11, hf⟩ := rdA_at hf
      refine lK_33 E hw h_v_11 dX3_stepFrom_30 (fun v_11 ev_11 => ?_)
      replace hf := hf v_11 ev_11
      refine lv_iload hx hb dX3_stepFrom_31 (lv_at hl 0 rfl) ?_
      refine lv_iadd hx hb dX3_stepFrom_33 ?_
      refine lv_aload_n hx hb dX3_stepFrom_34 rfl (lv_at hl 1 rfl) ?_
      refine gK_7_7 E hw (E.hts _ wl248) dX3_stepFrom_35 ?_
      refine lv_iload_n hx hb dX3_stepFrom_38 rfl (lv_at hl 4 rfl) ?_
      obtain ⟨h_v_12, hf⟩ := rdA_at hf
      refine lK_33 E hw h_v_12 dX3_stepFrom_39 (fun v_12 ev_12 => ?_)
      replace hf := hf v_12 ev_12
      refine lv_icmp_ge (tgt := 67) hx hb dX3_stepFrom_40 (by decide) (fun c_13 => ?_) (fun c_13 => ?_)
      · replace hf := ite_t hf c_13
        obtain ⟨x3_14, ex3_14⟩ : ∃ y : Int32, y = x3 + (1) := ⟨_, rfl⟩
        replace hf := bnd_at hf ex3_14
        refine lv_iinc (v := x3_14) (lv' := [(3, .int (x3_14)), (4, .int (x4_8)), (0, .ref (a 7)), (1, .int (x1)), (2, .int (x2))]) hx hb dX3_stepFrom_67 hl (k := 4) rfl (by rw [ex3_14]; rfl) (by decide) rfl (fun ls hl => ?_)
        refine lv_goto (tgt := 4) hx hb dX3_stepFrom_70 (by decide) ?_
        exact hrec4 S (x2) (x3_14) _ _ ls hf hw (lv_sub hl [2, 3, 4, 0] rfl)
      · replace hf := ite_f hf c_13
        refine lv_aload_n hx hb dX3_stepFrom_43 rfl (lv_at hl 1 rfl) ?_
        refine gK_7_7 E hw (E.hts _ wl248) dX3_stepFrom_44 ?_
        refine lv_iload_n hx hb dX3_stepFrom_47 rfl (lv_at hl 4 rfl) ?_
        refine lv_aload_n hx hb dX3_stepFrom_48 rfl (lv_at hl 1 rfl) ?_
        refine gK_7_7 E hw (E.hts _ wl248) dX3_stepFrom_49 ?_
        refine lv_iload_n hx hb dX3_stepFrom_52 rfl (lv_at hl 2 rfl) ?_
        obtain ⟨h_v_15, hf⟩ := rdA_at hf
        refine lK_33 E hw h_v_15 dX3_stepFrom_53 (fun v_15 ev_15 => ?_)
        replace hf := hf v_15 ev_15
        refine lv_iload hx hb dX3_stepFrom_54 (lv_at hl 0 rfl) ?_
        refine lv_iadd hx hb dX3_stepFrom_56 ?_
        obtain ⟨h_S_16, hf⟩ := ckA_at hf
        refine sK_33 E hw h_S_16 dX3_stepFrom_57 (fun S_16 eS_16 H locs hw => ?_)
        replace hf := bnd_at hf eS_16
        refine lv_aload_n hx hb dX3_stepFrom_58 rfl (lv_at hl 1 rfl) ?_
        refine gK_7_8 E hw (E.hts _ wl249) dX3_stepFrom_59 ?_
        refine lv_iload_n hx hb dX3_stepFrom_62 rfl (lv_at hl 4 rfl) ?_
        refine lv_iload_n hx hb dX3_stepFrom_63 rfl (lv_at hl 2 rfl) ?_
        obtain ⟨h_S_17, hf⟩ := ckA_at hf
        refine sK_34 E hw h_S_17 dX3_stepFrom_64 (fun S_17 eS_17 H locs hw => ?_)
        replace hf := bnd_at hf eS_17
        refine lv_iconst hx hb dX3_stepFrom_65 ic_1 ?_
        refine lv_topi (fun x2_18 ex2_18 => ?_)
        replace hf := bnd_at hf ex2_18
        refine lv_istore_n (lv' := [(2, .int (x2_18)), (4, .int (x4_8)), (0, .ref (a 7)), (1, .int (x1)), (3, .int (x3))]) hx hb dX3_stepFrom_66 rfl hl (by decide) rfl (fun ls hl => ?_)
        obtain ⟨x3_19, ex3_19⟩ : ∃ y : Int32, y = x3 + (1) := ⟨_, rfl⟩
        replace hf := bnd_at hf ex3_19
        refine lv_iinc (v := x3_19) (lv' := [(3, .int (x3_19)), (2, .int (x2_18)), (4, .int (x4_8)), (0, .ref (a 7)), (1, .int (x1))]) hx hb dX3_stepFrom_67 hl (k := 4) rfl (by rw [ex3_19]; rfl) (by decide) rfl (fun ls hl => ?_)
        refine lv_goto (tgt := 4) hx hb dX3_stepFrom_70 (by decide) ?_
        exact hrec4 S_17 (x2_18) (x3_19) _ _ ls hf hw (lv_sub hl [3, 4, 1, 0] rfl)
theorem k3_stepFrom_l4 {p : Program} {l : Launch} {e : Env} {s : State} {m : MethodId} {args : Array Value} {below : List Frame} {meth : Method} {c : Code} {D : va_G} {a : Nat → Nat} {g : Nat → ClassId} (E : EK p s m args meth c D a g cX3_stepFrom 5 RX3 (some .boolean)) {F : Nat}  (x1 : Int32) {out : (Int32 × SS)}  : ∀ (n : Nat) (S : SS) (x2 : Int32) (x3 : Int32) (H : Heap) (locs : List Loc) (ls : Array Slot), lpN (fun _ _ _ => none) (fun rec4 => k3_stepFrom_B4 F x1 rec4) n S x2 x3 = some out → WK D a g S s H locs → lv_has ls 5 [(0, .ref (a 7)), (1, .int (x1)), (2, .int (x2)), (3, .int (x3))] → W p l e (RM 3) s m args below meth c H locs 0 0 (MQ below (QK D a g (some (.int out.1)) out.2) args s 0 0 (AK a)) (F0 m 4 ls []) := by
  intro n
  induction n with
  | zero => intro S x2 x3 H locs ls hf; cases (show (none : Option (Int32 × SS)) = some out from hf)
  | succ n ih => intro S x2 x3 H locs ls hf hw hl; exact k3_stepFrom_b4 E (F := F) x1 ih S x2 x3 H locs ls hf hw hl
set_option maxRecDepth 100000 in
set_option maxHeartbeats 4000000 in
theorem mk3_stepFrom {l : Launch} {D : va_G} {a : Nat → Nat} {g : Nat → ClassId} (hD : ∀ S, va_D (AK a) (wK a g S)) {F : Nat} {S : SS} {x1 : Int32} {out : (Int32 × SS)} (hf : k3_stepFrom F S x1 = some out) : Met l yX3_stepFrom (wsm yX3_stepFrom cX3_stepFrom 5 (some .boolean)) (RM 3) (PK D a g S [.ref (a 7), .int x1]) (QK D a g (some (.int out.1)) out.2) 0 0 (AK a) := by
  refine Met.ofW (cc := cX3_stepFrom) (maxL := 5) (ret := (some .boolean)) (by decide) rfl ?_
  intro p e s m args below meth c s₁ B hml hv
  obtain ⟨rfl, hP, hK, hN⟩ := hv
  have hts := atoms_spec (ws := wsm yX3_stepFrom cX3_stepFrom 5 (some .boolean)) B.pre
  have E : EK p s m _ meth c D a g cX3_stepFrom 5 RX3 (some .boolean) := ⟨B.exec, B.bytes, B.returns, hml, findClass_of_methodNamed B.named, fun w h => hts w (List.mem_cons_of_mem _ h), hK, hN, hD, B.notSynchronized⟩
  have hx := E.hx
  have hb := E.hb
  have hw : WK D a g S s s.heap [] := ⟨hP, va_S.rf⟩
  have hl := lv_entry ([.ref (a 7), .int x1]) (n := 5) (Nat.le_of_ble_eq_true rfl)
  rw [lg_entry_eq]
  generalize (lg_sl ([.ref (a 7), .int x1]) ++ List.replicate (5 - (lg_sl ([.ref (a 7), .int x1])).length) Slot.unset).toArray = ls at hl ⊢
  have hl : lv_has ls 5 [(0, .ref (a 7)), (1, .int (x1))] := hl
  show W p l e (RM 3) s m _ below meth c s.heap [] 0 0 (MQ below (QK D a g (some (.int out.1)) out.2) _ s 0 0 (AK a)) (F0 m 0 ls [])
  unfold k3_stepFrom at hf
  refine lv_iconst hx hb dX3_stepFrom_0 ic_0 ?_
  refine lv_topi (fun x2_1 ex2_1 => ?_)
  replace hf := bnd_at hf ex2_1
  refine lv_istore_n (lv' := [(2, .int (x2_1)), (0, .ref (a 7)), (1, .int (x1))]) hx hb dX3_stepFrom_1 rfl hl (by decide) rfl (fun ls hl => ?_)
  refine lv_iconst hx hb dX3_stepFrom_2 ic_0 ?_
  refine lv_topi (fun x3_2 ex3_2 => ?_)
  replace hf := bnd_at hf ex3_2
  refine lv_istore_n (lv' := [(3, .int (x3_2)), (2, .int (x2_1)), (0, .ref (a 7)), (1, .int (x1))]) hx hb dX3_stepFrom_3 rfl hl (by decide) rfl (fun ls hl => ?_)
  refine k3_stepFrom_l4 E (x1)  F S (x2_1) (x3_2) _ _ ls hf hw (lv_sub hl [2, 3, 1, 0] rfl)
theorem qk3_stepFrom {p : Program} {l : Launch} {e : Env} {R : Room} {s : State} {m : MethodId} {args : Array Value} {below : List Frame} {meth : Method} {c : Code} {H : Heap} {locs : List Loc} {cells slots : Nat} {Q : State → Prop} {cc : ByteArray} {pc : Nat} {ls : Array Slot} {rest : List Value} {D : va_G} {a : Nat → Nat} {g : Nat → ClassId} {nL : Nat} {own : String} {ret : Option FieldType} {S S1 : SS} {k : Nat} {x1 : Int32} {r : Int32} (E : EK p s m args meth c D a g cc nL own ret) (hw : WK D a g S s H locs) (hM : Met l yX3_stepFrom (wsm yX3_stepFrom cX3_stepFrom 5 (some .boolean)) (RM k) (PK D a g S [.ref (a 7), .int x1]) (QK D a g (some (.int r)) S1) 0 0 (AK a)) {idx : Nat} (hlk : Cond.methodLink own idx yX3_stepFrom ∈ wd) (hdg : decode cc pc = .ok (.invokevirtual idx, 3)) (hR : k + 1 ≤ R.frames ∧ 8 + (5 + 11) + 64 * k ≤ R.locals) (hls : ls.size = nL) (hrest : (rest.map fun v => v.category).sum ≤ 8) (hcs : cells ≤ R.cells ∧ slots ≤ R.slots) (kk : ∀ (H1 : Heap) (locs1 : List Loc), WK D a g S1 s H1 locs1 → W p l e R s m args below meth c H1 locs1 cells slots Q (F0 m (pc + 3) ls (.int r :: rest))) : W p l e R s m args below meth c H locs cells slots Q (F0 m pc ls (.int x1 :: .ref (a 7) :: rest)) :=
  callK_i hw (va_runV (As := [.int x1]) (rest := rest) ⟨E.hx, E.hb, E.hml, E.hown, E.hts⟩ hM ⟨cb_of 1 E.hts wl596 wl43 hlk (by decide +kernel) hR, E.hts _ wl595, E.hts _ wl15⟩ ⟨PK_blind, va_recv E.hK hw.1 (ci := 3) (q0 := 7) rfl rfl, PK_pre E.hK E.hN hw.1⟩ rfl rfl hls rfl (lv_room hrest) hdg hcs) kk

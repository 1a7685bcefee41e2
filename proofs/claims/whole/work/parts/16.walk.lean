/-! X8_wagon -/
def k8_wagon_B31 (F : Nat) (S : SM) (x1 : Int32) (x2 : Int32) (rec31 : Int32 → Option (Int32 × SM)) (k57 : Option (Int32 × SM)) (x3 : Int32) : Option (Int32 × SM) :=
  if (S.1 0 6) ≤ x3 then (k57) else ((rdA 4 (S.1 6) x3).bind fun v_12 => if v_12 = x1 then (some ((-1 : Int32), S)) else (bnd (x3 + (1)) fun x3_14 => rec31 (x3_14)))
def k8_wagon (F : Nat) (S : SM) (x1 : Int32) (x2 : Int32) : Option (Int32 × SM) :=
  (k8_in F S (x1) ((10000 : Int32)) ((99999 : Int32))).bind fun r_2 => if r_2 = 0 then (some ((-1 : Int32), S)) else ((k8_isCompany F S (x2)).bind fun r_6 => if r_6 = 0 then (some ((-1 : Int32), S)) else (if (S.1 0 6) = ((4 : Int32)) then (some ((-1 : Int32), S)) else (bnd ((0 : Int32)) fun x3_10 => lpN (fun _ => none) (fun rec31 => k8_wagon_B31 F S (x1) (x2) rec31 ((ckA 4 (S.1 0 6)).bind fun _ => bnd (stM S 6 (Int32.toNatClampNeg (S.1 0 6)) x1) fun S_16 => (ckA 4 (S_16.1 0 6)).bind fun _ => bnd (stM S_16 7 (Int32.toNatClampNeg (S_16.1 0 6)) x2) fun S_17 => bnd (stM S_17 0 6 ((S_17.1 0 6) + ((1 : Int32)))) fun S_18 => some ((S_18.1 0 6) - ((1 : Int32)), S_18))) F (x3_10))))
set_option maxRecDepth 100000 in
set_option maxHeartbeats 4000000 in
theorem k8_wagon_b31 {p : Program} {l : Launch} {e : Env} {s : State} {m : MethodId} {args : Array Value} {below : List Frame} {meth : Method} {c : Code} {D : va_G} {a : Nat → Nat} {g : Nat → ClassId} (E : EM p s m args meth c D a g cX8_wagon 4 RX8 (some .int)) {F : Nat}  (S : SM) (x1 : Int32) (x2 : Int32) {rec31 : Int32 → Option (Int32 × SM)} {k57 : Option (Int32 × SM)} {out : (Int32 × SM)} (hrec31 : ∀ (x3 : Int32) (H : Heap) (locs : List Loc) (ls : Array Slot), rec31 x3 = some out → WM D a g S s H locs → lv_has ls 4 [(0, .ref (a 0)), (1, .int (x1)), (2, .int (x2)), (3, .int (x3))] → W p l e (RM 3) s m args below meth c H locs 0 0 (MQ below (QM D a g (some (.int out.1)) out.2) args s 0 0 (AM a)) (F0 m 31 ls [])) (hk57 : ∀ (H : Heap) (locs : List Loc) (ls : Array Slot), k57 = some out → WM D a g S s H locs → lv_has ls 4 [(0, .ref (a 0)), (1, .int (x1)), (2, .int (x2))] → W p l e (RM 3) s m args below meth c H locs 0 0 (MQ below (QM D a g (some (.int out.1)) out.2) args s 0 0 (AM a)) (F0 m 57 ls [])) (x3 : Int32) (H : Heap) (locs : List Loc) (ls : Array Slot) (hf : k8_wagon_B31 F S x1 x2 rec31 k57 x3 = some out) (hw : WM D a g S s H locs) (hl : lv_has ls 4 [(0, .ref (a 0)), (1, .int (x1)), (2, .int (x2)), (3, .int (x3))]) : W p l e (RM 3) s m args below meth c H locs 0 0 (MQ below (QM D a g (some (.int out.1)) out.2) args s 0 0 (AM a)) (F0 m 31 ls []) := by
  have hx := E.hx
  have hb := E.hb
  unfold k8_wagon_B31 at hf
  refine lv_iload_n hx hb dX8_wagon_31 rfl (lv_at hl 3 rfl) ?_
  refine lv_aload_n hx hb dX8_wagon_32 rfl (lv_at hl 0 rfl) ?_
  refine gM_0_6 E hw (E.hts _ wl647) dX8_wagon_33 ?_
  refine lv_icmp_ge (tgt := 57) hx hb dX8_wagon_36 (by decide) (fun c_11 => ?_) (fun c_11 => ?_)
  · replace hf := ite_t hf c_11
    exact hk57  _ _ ls hf hw (lv_sub hl [0, 1, 2] rfl)
  · replace hf := ite_f hf c_11
    refine lv_aload_n hx hb dX8_wagon_39 rfl (lv_at hl 0 rfl) ?_
    refine gM_0_7 E hw (E.hts _ wl648) dX8_wagon_40 ?_
    refine lv_iload_n hx hb dX8_wagon_43 rfl (lv_at hl 3 rfl) ?_
    obtain ⟨h_v_12, hf⟩ := rdA_at hf
    refine lM_6 E hw h_v_12 dX8_wagon_44 (fun v_12 ev_12 => ?_)
    replace hf := hf v_12 ev_12
    refine lv_iload_n hx hb dX8_wagon_45 rfl (lv_at hl 1 rfl) ?_
    refine lv_icmp_ne (tgt := 51) hx hb dX8_wagon_46 (by decide) (fun c_13 => ?_) (fun c_13 => ?_)
    · replace hf := ite_f hf c_13
      obtain ⟨x3_14, ex3_14⟩ : ∃ y : Int32, y = x3 + (1) := ⟨_, rfl⟩
      replace hf := bnd_at hf ex3_14
      refine lv_iinc (v := x3_14) (lv' := [(3, .int (x3_14)), (0, .ref (a 0)), (1, .int (x1)), (2, .int (x2))]) hx hb dX8_wagon_51 hl (k := 3) rfl (by rw [ex3_14]; rfl) (by decide) rfl (fun ls hl => ?_)
      refine lv_goto (tgt := 31) hx hb dX8_wagon_54 (by decide) ?_
      exact hrec31 (x3_14) _ _ ls hf hw (lv_sub hl [1, 2, 3, 0] rfl)
    · replace hf := ite_t hf c_13
      refine lv_iconst hx hb dX8_wagon_49 ic_m1 ?_
      cases hf
      exact retM_i E hw dX8_wagon_50
theorem k8_wagon_l31 {p : Program} {l : Launch} {e : Env} {s : State} {m : MethodId} {args : Array Value} {below : List Frame} {meth : Method} {c : Code} {D : va_G} {a : Nat → Nat} {g : Nat → ClassId} (E : EM p s m args meth c D a g cX8_wagon 4 RX8 (some .int)) {F : Nat}  (S : SM) (x1 : Int32) (x2 : Int32) {k57 : Option (Int32 × SM)} {out : (Int32 × SM)} (hk57 : ∀ (H : Heap) (locs : List Loc) (ls : Array Slot), k57 = some out → WM D a g S s H locs → lv_has ls 4 [(0, .ref (a 0)), (1, .int (x1)), (2, .int (x2))] → W p l e (RM 3) s m args below meth c H locs 0 0 (MQ below (QM D a g (some (.int out.1)) out.2) args s 0 0 (AM a)) (F0 m 57 ls [])) : ∀ (n : Nat) (x3 : Int32) (H : Heap) (locs : List Loc) (ls : Array Slot), lpN (fun _ => none) (fun rec31 => k8_wagon_B31 F S x1 x2 rec31 k57) n x3 = some out → WM D a g S s H locs → lv_has ls 4 [(0, .ref (a 0)), (1, .int (x1)), (2, .int (x2)), (3, .int (x3))] → W p l e (RM 3) s m args below meth c H locs 0 0 (MQ below (QM D a g (some (.int out.1)) out.2) args s 0 0 (AM a)) (F0 m 31 ls []) := by
  intro n
  induction n with
  | zero => intro x3 H locs ls hf; cases (show (none : Option (Int32 × SM)) = some out from hf)
  | succ n ih => intro x3 H locs ls hf hw hl; exact k8_wagon_b31 E (F := F) S x1 x2 ih hk57 x3 H locs ls hf hw hl
set_option maxRecDepth 100000 in
set_option maxHeartbeats 4000000 in
theorem mk8_wagon {l : Launch} {D : va_G} {a : Nat → Nat} {g : Nat → ClassId} (hD : ∀ S, va_D (AM a) (wM a g S)) {F : Nat} {S : SM} {x1 x2 : Int32} {out : (Int32 × SM)} (hf : k8_wagon F S x1 x2 = some out) : Met l yX8_wagon (wsm yX8_wagon cX8_wagon 4 (some .int)) (RM 3) (PM D a g S [.ref (a 0), .int x1, .int x2]) (QM D a g (some (.int out.1)) out.2) 0 0 (AM a) := by
  refine Met.ofW (cc := cX8_wagon) (maxL := 4) (ret := (some .int)) (by decide) rfl ?_
  intro p e s m args below meth c s₁ B hml hv
  obtain ⟨rfl, hP, hK, hN⟩ := hv
  have hts := atoms_spec (ws := wsm yX8_wagon cX8_wagon 4 (some .int)) B.pre
  have E : EM p s m _ meth c D a g cX8_wagon 4 RX8 (some .int) := ⟨B.exec, B.bytes, B.returns, hml, findClass_of_methodNamed B.named, fun w h => hts w (List.mem_cons_of_mem _ h), hK, hN, hD, B.notSynchronized⟩
  have hx := E.hx
  have hb := E.hb
  have hw : WM D a g S s s.heap [] := ⟨hP, va_S.rf⟩
  have hl := lv_entry ([.ref (a 0), .int x1, .int x2]) (n := 4) (Nat.le_of_ble_eq_true rfl)
  rw [lg_entry_eq]
  generalize (lg_sl ([.ref (a 0), .int x1, .int x2]) ++ List.replicate (4 - (lg_sl ([.ref (a 0), .int x1, .int x2])).length) Slot.unset).toArray = ls at hl ⊢
  have hl : lv_has ls 4 [(0, .ref (a 0)), (1, .int (x1)), (2, .int (x2))] := hl
  show W p l e (RM 3) s m _ below meth c s.heap [] 0 0 (MQ below (QM D a g (some (.int out.1)) out.2) _ s 0 0 (AM a)) (F0 m 0 ls [])
  unfold k8_wagon at hf
  refine lv_iload_n hx hb dX8_wagon_0 rfl (lv_at hl 1 rfl) ?_
  refine lv_sipush hx hb dX8_wagon_1 sp_10000 ?_
  refine lv_ldc hx hb E.hown (E.hts _ wl780) dX8_wagon_4 ?_
  obtain ⟨r_2, h_1, hf⟩ := ob_at hf
  refine qk8_in E hw (mk8_in E.hD h_1) wl743 dX8_wagon_6 ⟨Nat.le_of_ble_eq_true rfl, Nat.le_of_ble_eq_true rfl⟩ hl.1 (Nat.le_of_ble_eq_true rfl) ⟨Nat.le_refl 0, Nat.le_refl 0⟩ (fun H locs hw => ?_)
  refine lv_if_eq (tgt := 27) hx hb dX8_wagon_9 (by decide) (fun c_4 => ?_) (fun c_4 => ?_)
  · replace hf := ite_t hf c_4
    refine lv_iconst hx hb dX8_wagon_27 ic_m1 ?_
    cases hf
    exact retM_i E hw dX8_wagon_28
  · replace hf := ite_f hf c_4
    refine lv_iload_n hx hb dX8_wagon_12 rfl (lv_at hl 2 rfl) ?_
    obtain ⟨r_6, h_5, hf⟩ := ob_at hf
    refine qk8_isCompany E hw (mk8_isCompany E.hD h_5) wl746 dX8_wagon_13 ⟨Nat.le_of_ble_eq_true rfl, Nat.le_of_ble_eq_true rfl⟩ hl.1 (Nat.le_of_ble_eq_true rfl) ⟨Nat.le_refl 0, Nat.le_refl 0⟩ (fun H locs hw => ?_)
    refine lv_if_eq (tgt := 27) hx hb dX8_wagon_16 (by decide) (fun c_8 => ?_) (fun c_8 => ?_)
    · replace hf := ite_t hf c_8
      refine lv_iconst hx hb dX8_wagon_27 ic_m1 ?_
      cases hf
      exact retM_i E hw dX8_wagon_28
    · replace hf := ite_f hf c_8
      refine lv_aload_n hx hb dX8_wagon_19 rfl (lv_at hl 0 rfl) ?_
      refine gM_0_6 E hw (E.hts _ wl647) dX8_wagon_20 ?_
      refine lv_iconst hx hb dX8_wagon_23 ic_4 ?_
      refine lv_icmp_ne (tgt := 29) hx hb dX8_wagon_24 (by decide) (fun c_9 => ?_) (fun c_9 => ?_)
      · replace hf := ite_f hf c_9
        refine lv_iconst hx hb dX8_wagon_29 ic_0 ?_
        refine lv_topi (fun x3_10 ex3_10 => ?_)
        replace hf := bnd_at hf ex3_10
        refine lv_istore_n (lv' := [(3, .int (x3_10)), (0, .ref (a 0)), (1, .int (x1)), (2, .int (x2))]) hx hb dX8_wagon_30 rfl hl (by decide) rfl (fun ls hl => ?_)
        refine k8_wagon_l31 E S (x1) (x2) ?_ F (x3_10) _ _ ls hf hw (lv_sub hl [1, 2, 3, 0] rfl)
        · intro  H locs ls hf hw hl
          refine lv_aload_n hx hb dX8_wagon_57 rfl (lv_at hl 0 rfl) ?_
          refine gM_0_7 E hw (E.hts _ wl648) dX8_wagon_58 ?_
          refine lv_aload_n hx hb dX8_wagon_61 rfl (lv_at hl 0 rfl) ?_
          refine gM_0_6 E hw (E.hts _ wl647) dX8_wagon_62 ?_
          refine lv_iload_n hx hb dX8_wagon_65 rfl (lv_at hl 1 rfl) ?_
          obtain ⟨h_S_16, hf⟩ := ckA_at hf
          refine sM_6 E hw h_S_16 dX8_wagon_66 (fun S_16 eS_16 H locs hw => ?_)
          replace hf := bnd_at hf eS_16
          refine lv_aload_n hx hb dX8_wagon_67 rfl (lv_at hl 0 rfl) ?_
          refine gM_0_8 E hw (E.hts _ wl649) dX8_wagon_68 ?_
          refine lv_aload_n hx hb dX8_wagon_71 rfl (lv_at hl 0 rfl) ?_
          refine gM_0_6 E hw (E.hts _ wl647) dX8_wagon_72 ?_
          refine lv_iload_n hx hb dX8_wagon_75 rfl (lv_at hl 2 rfl) ?_
          obtain ⟨h_S_17, hf⟩ := ckA_at hf
          refine sM_7 E hw h_S_17 dX8_wagon_76 (fun S_17 eS_17 H locs hw => ?_)
          replace hf := bnd_at hf eS_17
          refine lv_aload_n hx hb dX8_wagon_77 rfl (lv_at hl 0 rfl) ?_
          refine lv_dup hx hb dX8_wagon_78 rfl ?_
          refine gM_0_6 E hw (E.hts _ wl647) dX8_wagon_79 ?_
          refine lv_iconst hx hb dX8_wagon_82 ic_1 ?_
          refine lv_iadd hx hb dX8_wagon_83 ?_
          refine pM_0_6 E hw (E.hts _ wl647) dX8_wagon_84 (fun S_18 eS_18 H locs hw => ?_)
          replace hf := bnd_at hf eS_18
          refine lv_aload_n hx hb dX8_wagon_87 rfl (lv_at hl 0 rfl) ?_
          refine gM_0_6 E hw (E.hts _ wl647) dX8_wagon_88 ?_
          refine lv_iconst hx hb dX8_wagon_91 ic_1 ?_
          refine lv_isub hx hb dX8_wagon_92 ?_
          cases hf
          exact retM_i E hw dX8_wagon_93
      · replace hf := ite_t hf c_9
        refine lv_iconst hx hb dX8_wagon_27 ic_m1 ?_
        cases hf
        exact retM_i E hw dX8_wagon_28
theorem qk8_wagon {p : Program} {l : Launch} {e : Env} {R : Room} {s : State} {m : MethodId} {args : Array Value} {below : List Frame} {meth : Method} {c : Code} {H : Heap} {locs : List Loc} {cells slots : Nat} {Q : State → Prop} {cc : ByteArray} {pc : Nat} {ls : Array Slot} {rest : List Value} {D : va_G} {a : Nat → Nat} {g : Nat → ClassId} {nL : Nat} {own : String} {ret : Option FieldType} {S S1 : SM} {k : Nat} {x1 x2 : Int32} {r : Int32} (E : EM p s m args meth c D a g cc nL own ret) (hw : WM D a g S s H locs) (hM : Met l yX8_wagon (wsm yX8_wagon cX8_wagon 4 (some .int)) (RM k) (PM D a g S [.ref (a 0), .int x1, .int x2]) (QM D a g (some (.int r)) S1) 0 0 (AM a)) {idx : Nat} (hlk : Cond.methodLink own idx yX8_wagon ∈ wd) (hdg : decode cc pc = .ok (.invokevirtual idx, 3)) (hR : k + 1 ≤ R.frames ∧ 8 + (4 + 11) + 64 * k ≤ R.locals) (hls : ls.size = nL) (hrest : (rest.map fun v => v.category).sum ≤ 8) (hcs : cells ≤ R.cells ∧ slots ≤ R.slots) (kk : ∀ (H1 : Heap) (locs1 : List Loc), WM D a g S1 s H1 locs1 → W p l e R s m args below meth c H1 locs1 cells slots Q (F0 m (pc + 3) ls (.int r :: rest))) : W p l e R s m args below meth c H locs cells slots Q (F0 m pc ls (.int x2 :: .int x1 :: .ref (a 0) :: rest)) :=
  callM_i hw (va_runV (As := [.int x1, .int x2]) (rest := rest) ⟨E.hx, E.hb, E.hml, E.hown, E.hts⟩ hM ⟨cb_of 2 E.hts wl779 wl44 hlk (by decide +kernel) hR, E.hts _ wl777, E.hts _ wl778⟩ ⟨PM_blind, va_recv E.hK hw.1 (ci := 8) (q0 := 0) rfl rfl, PM_pre E.hK E.hN hw.1⟩ rfl rfl hls rfl (lv_room hrest) hdg hcs) kk
/-! X8_see -/
def k8_see_J73 (F : Nat) (S : SM) (x1 : Int32) (x2 : Int32) (x3 : Int32) (x4 : Int32) : Option (Int32 × SM) :=
  (ckA 7 (S.1 0 9)).bind fun _ => bnd (stM S 8 (Int32.toNatClampNeg (S.1 0 9)) x1) fun S_19 => (ckA 7 (S_19.1 0 9)).bind fun _ => bnd (stM S_19 9 (Int32.toNatClampNeg (S_19.1 0 9)) x2) fun S_20 => (ckA 7 (S_20.1 0 9)).bind fun _ => bnd (stM S_20 10 (Int32.toNatClampNeg (S_20.1 0 9)) x3) fun S_21 => (ckA 7 (S_21.1 0 9)).bind fun _ => bnd (stM S_21 11 (Int32.toNatClampNeg (S_21.1 0 9)) x4) fun S_22 => bnd (stM S_22 0 9 ((S_22.1 0 9) + ((1 : Int32)))) fun S_23 => some ((S_23.1 0 9) - ((1 : Int32)), S_23)
def k8_see (F : Nat) (S : SM) (x1 : Int32) (x2 : Int32) (x3 : Int32) (x4 : Int32) : Option (Int32 × SM) :=
  (k8_in F S (x1) ((10000 : Int32)) ((99999 : Int32))).bind fun r_2 => if r_2 = 0 then (some ((-1 : Int32), S)) else ((k8_isJunction F S (x2)).bind fun r_6 => if r_6 = 0 then (some ((-1 : Int32), S)) else ((k8_in F S (x3) ((0 : Int32)) ((999 : Int32))).bind fun r_10 => if r_10 = 0 then (some ((-1 : Int32), S)) else ((k8_isCompany F S (x4)).bind fun r_14 => if r_14 = 0 then (some ((-1 : Int32), S)) else (if (S.1 0 9) = ((7 : Int32)) then (some ((-1 : Int32), S)) else (if (S.1 0 9) ≤ 0 then (k8_see_J73 F S (x1) (x2) (x3) (x4)) else ((rdA 7 (S.1 10) ((S.1 0 9) - ((1 : Int32)))).bind fun v_24 => if v_24 ≤ x3 then (k8_see_J73 F S (x1) (x2) (x3) (x4)) else (some ((-1 : Int32), S))))))))
set_option maxRecDepth 100000 in
set_option maxHeartbeats 4000000 in
theorem k8_see_J73_j {p : Program} {l : Launch} {e : Env} {s : State} {m : MethodId} {args : Array Value} {below : List Frame} {meth : Method} {c : Code} {D : va_G} {a : Nat → Nat} {g : Nat → ClassId} (E : EM p s m args meth c D a g cX8_see 5 RX8 (some .int)) {F : Nat}  {out : (Int32 × SM)} (S : SM) (x1 : Int32) (x2 : Int32) (x3 : Int32) (x4 : Int32) (H : Heap) (locs : List Loc) (ls : Array Slot) (hf : k8_see_J73 F S x1 x2 x3 x4 = some out) (hw : WM D a g S s H locs) (hl : lv_has ls 5 [(0, .ref (a 0)), (1, .int (x1)), (2, .int (x2)), (3, .int (x3)), (4, .int (x4))]) : W p l e (RM 3) s m args below meth c H locs 0 0 (MQ below (QM D a g (some (.int out.1)) out.2) args s 0 0 (AM a)) (F0 m 73 ls []) := by
  have hx := E.hx
  have hb := E.hb
  unfold k8_see_J73 at hf
  refine lv_aload_n hx hb dX8_see_73 rfl (lv_at hl 0 rfl) ?_
  refine gM_0_10 E hw (E.hts _ wl651) dX8_see_74 ?_
  refine lv_aload_n hx hb dX8_see_77 rfl (lv_at hl 0 rfl) ?_
  refine gM_0_9 E hw (E.hts _ wl650) dX8_see_78 ?_
  refine lv_iload_n hx hb dX8_see_81 rfl (lv_at hl 1 rfl) ?_
  obtain ⟨h_S_19, hf⟩ := ckA_at hf
  refine sM_8 E hw h_S_19 dX8_see_82 (fun S_19 eS_19 H locs hw => ?_)
  replace hf := bnd_at hf eS_19
  refine lv_aload_n hx hb dX8_see_83 rfl (lv_at hl 0 rfl) ?_
  refine gM_0_11 E hw (E.hts _ wl652) dX8_see_84 ?_
  refine lv_aload_n hx hb dX8_see_87 rfl (lv_at hl 0 rfl) ?_
  refine gM_0_9 E hw (E.hts _ wl650) dX8_see_88 ?_
  refine lv_iload_n hx hb dX8_see_91 rfl (lv_at hl 2 rfl) ?_
  obtain ⟨h_S_20, hf⟩ := ckA_at hf
  refine sM_9 E hw h_S_20 dX8_see_92 (fun S_20 eS_20 H locs hw => ?_)
  replace hf := bnd_at hf eS_20
  refine lv_aload_n hx hb dX8_see_93 rfl (lv_at hl 0 rfl) ?_
  refine gM_0_12 E hw (E.hts _ wl653) dX8_see_94 ?_
  refine lv_aload_n hx hb dX8_see_97 rfl (lv_at hl 0 rfl) ?_
  refine gM_0_9 E hw (E.hts _ wl650) dX8_see_98 ?_
  refine lv_iload_n hx hb dX8_see_101 rfl (lv_at hl 3 rfl) ?_
  obtain ⟨h_S_21, hf⟩ := ckA_at hf
  refine sM_10 E hw h_S_21 dX8_see_102 (fun S_21 eS_21 H locs hw => ?_)
  replace hf := bnd_at hf eS_21
  refine lv_aload_n hx hb dX8_see_103 rfl (lv_at hl 0 rfl) ?_
  refine gM_0_13 E hw (E.hts _ wl654) dX8_see_104 ?_
  refine lv_aload_n hx hb dX8_see_107 rfl (lv_at hl 0 rfl) ?_
  refine gM_0_9 E hw (E.hts _ wl650) dX8_see_108 ?_
  refine lv_iload hx hb dX8_see_111 (lv_at hl 4 rfl) ?_
  obtain ⟨h_S_22, hf⟩ := ckA_at hf
  refine sM_11 E hw h_S_22 dX8_see_113 (fun S_22 eS_22 H locs hw => ?_)
  replace hf := bnd_at hf eS_22
  refine lv_aload_n hx hb dX8_see_114 rfl (lv_at hl 0 rfl) ?_
  refine lv_dup hx hb dX8_see_115 rfl ?_
  refine gM_0_9 E hw (E.hts _ wl650) dX8_see_116 ?_
  refine lv_iconst hx hb dX8_see_119 ic_1 ?_
  refine lv_iadd hx hb dX8_see_120 ?_
  refine pM_0_9 E hw (E.hts _ wl650) dX8_see_121 (fun S_23 eS_23 H locs hw => ?_)
  replace hf := bnd_at hf eS_23
  refine lv_aload_n hx hb dX8_see_124 rfl (lv_at hl 0 rfl) ?_
  refine gM_0_9 E hw (E.hts _ wl650) dX8_see_125 ?_
  refine lv_iconst hx hb dX8_see_128 ic_1 ?_
  refine lv_isub hx hb dX8_see_129 ?_
  cases hf
  exact retM_i E hw dX8_see_130
set_option maxRecDepth 100000 in
set_option maxHeartbeats 4000000 in
theorem mk8_see {l : Launch} {D : va_G} {a : Nat → Nat} {g : Nat → ClassId} (hD : ∀ S, va_D (AM a) (wM a g S)) {F : Nat} {S : SM} {x1 x2 x3 x4 : Int32} {out : (Int32 × SM)} (hf : k8_see F S x1 x2 x3 x4 = some out) : Met l yX8_see (wsm yX8_see cX8_see 5 (some .int)) (RM 3) (PM D a g S [.ref (a 0), .int x1, .int x2, .int x3, .int x4]) (QM D a g (some (.int out.1)) out.2) 0 0 (AM a) := by
  refine Met.ofW (cc := cX8_see) (maxL := 5) (ret := (some .int)) (by decide) rfl ?_
  intro p e s m args below meth c s₁ B hml hv
  obtain ⟨rfl, hP, hK, hN⟩ := hv
  have hts := atoms_spec (ws := wsm yX8_see cX8_see 5 (some .int)) B.pre
  have E : EM p s m _ meth c D a g cX8_see 5 RX8 (some .int) := ⟨B.exec, B.bytes, B.returns, hml, findClass_of_methodNamed B.named, fun w h => hts w (List.mem_cons_of_mem _ h), hK, hN, hD, B.notSynchronized⟩
  have hx := E.hx
  have hb := E.hb
  have hw : WM D a g S s s.heap [] := ⟨hP, va_S.rf⟩
  have hl := lv_entry ([.ref (a 0), .int x1, .int x2, .int x3, .int x4]) (n := 5) (Nat.le_of_ble_eq_true rfl)
  rw [lg_entry_eq]
  generalize (lg_sl ([.ref (a 0), .int x1, .int x2, .int x3, .int x4]) ++ List.replicate (5 - (lg_sl ([.ref (a 0), .int x1, .int x2, .int x3, .int x4])).length) Slot.unset).toArray = ls at hl ⊢
  have hl : lv_has ls 5 [(0, .ref (a 0)), (1, .int (x1)), (2, .int (x2)), (3, .int (x3)), (4, .int (x4))] := hl
  show W p l e (RM 3) s m _ below meth c s.heap [] 0 0 (MQ below (QM D a g (some (.int out.1)) out.2) _ s 0 0 (AM a)) (F0 m 0 ls [])
  unfold k8_see at hf
  refine lv_iload_n hx hb dX8_see_0 rfl (lv_at hl 1 rfl) ?_
  refine lv_sipush hx hb dX8_see_1 sp_10000 ?_
  refine lv_ldc hx hb E.hown (E.hts _ wl780) dX8_see_4 ?_
  obtain ⟨r_2, h_1, hf⟩ := ob_at hf
  refine qk8_in E hw (mk8_in E.hD h_1) wl743 dX8_see_6 ⟨Nat.le_of_ble_eq_true rfl, Nat.le_of_ble_eq_true rfl⟩ hl.1 (Nat.le_of_ble_eq_true rfl) ⟨Nat.le_refl 0, Nat.le_refl 0⟩ (fun H locs hw => ?_)
  refine lv_if_eq (tgt := 47) hx hb dX8_see_9 (by decide) (fun c_4 => ?_) (fun c_4 => ?_)
  · replace hf := ite_t hf c_4
    refine lv_iconst hx hb dX8_see_47 ic_m1 ?_
    cases hf
    exact retM_i E hw dX8_see_48
  · replace hf := ite_f hf c_4
    refine lv_iload_n hx hb dX8_see_12 rfl (lv_at hl 2 rfl) ?_
    obtain ⟨r_6, h_5, hf⟩ := ob_at hf
    refine qk8_isJunction E hw (mk8_isJunction E.hD h_5) wl740 dX8_see_13 ⟨Nat.le_of_ble_eq_true rfl, Nat.le_of_ble_eq_true rfl⟩ hl.1 (Nat.le_of_ble_eq_true rfl) ⟨Nat.le_refl 0, Nat.le_refl 0⟩ (fun H locs hw => ?_)
    refine lv_if_eq (tgt := 47) hx hb dX8_see_16 (by decide) (fun c_8 => ?_) (fun c_8 => ?_)
    · replace hf := ite_t hf c_8
      refine lv_iconst hx hb dX8_see_47 ic_m1 ?_
      cases hf
      exact retM_i E hw dX8_see_48
    · replace hf := ite_f hf c_8
      refine lv_iload_n hx hb dX8_see_19 rfl (lv_at hl 3 rfl) ?_
      refine lv_iconst hx hb dX8_see_20 ic_0 ?_
      refine lv_sipush hx hb dX8_see_21 sp_999 ?_
      obtain ⟨r_10, h_9, hf⟩ := ob_at hf
      refine qk8_in E hw (mk8_in E.hD h_9) wl743 dX8_see_24 ⟨Nat.le_of_ble_eq_true rfl, Nat.le_of_ble_eq_true rfl⟩ hl.1 (Nat.le_of_ble_eq_true rfl) ⟨Nat.le_refl 0, Nat.le_refl 0⟩ (fun H locs hw => ?_)
      refine lv_if_eq (tgt := 47) hx hb dX8_see_27 (by decide) (fun c_12 => ?_) (fun c_12 => ?_)
      · replace hf := ite_t hf c_12
        refine lv_iconst hx hb dX8_see_47 ic_m1 ?_
        cases hf
        exact retM_i E hw dX8_see_48
      · replace hf := ite_f hf c_12
        refine lv_iload hx hb dX8_see_30 (lv_at hl 4 rfl) ?_
        obtain ⟨r_14, h_13, hf⟩ := ob_at hf
        refine qk8_isCompany E hw (mk8_isCompany E.hD h_13) wl746 dX8_see_32 ⟨Nat.le_of_ble_eq_true rfl, Nat.le_of_ble_eq_true rfl⟩ hl.1 (Nat.le_of_ble_eq_true rfl) ⟨Nat.le_refl 0, Nat.le_refl 0⟩ (fun H locs hw => ?_)
        refine lv_if_eq (tgt := 47) hx hb dX8_see_35 (by decide) (fun c_16 => ?_) (fun c_16 => ?_)
        · replace hf := ite_t hf c_16
          refine lv_iconst hx hb dX8_see_47 ic_m1 ?_
          cases hf
          exact retM_i E hw dX8_see_48
        · replace hf := ite_f hf c_16
          refine lv_aload_n hx hb dX8_see_38 rfl (lv_at hl 0 rfl) ?_
          refine gM_0_9 E hw (E.hts _ wl650) dX8_see_39 ?_
          refine lv_bipush hx hb dX8_see_42 bp_7 ?_
          refine lv_icmp_ne (tgt := 49) hx hb dX8_see_44 (by decide) (fun c_17 => ?_) (fun c_17 => ?_)
          · replace hf := ite_f hf c_17
            refine lv_aload_n hx hb dX8_see_49 rfl (lv_at hl 0 rfl) ?_
            refine gM_0_9 E hw (E.hts _ wl650) dX8_see_50 ?_
            refine lv_if_le (tgt := 73) hx hb dX8_see_53 (by decide) (fun c_18 => ?_) (fun c_18 => ?_)
            · replace hf := ite_t hf c_18
              exact k8_see_J73_j E S (x1) (x2) (x3) (x4) _ _ ls hf hw (lv_sub hl [0, 1, 2, 3, 4] rfl)
            · replace hf := ite_f hf c_18
              refine lv_iload_n hx hb dX8_see_56 rfl (lv_at hl 3 rfl) ?_
              refine lv_aload_n hx hb dX8_see_57 rfl (lv_at hl 0 rfl) ?_
              refine gM_0_12 E hw (E.hts _ wl653) dX8_see_58 ?_
              refine lv_aload_n hx hb dX8_see_61 rfl (lv_at hl 0 rfl) ?_
              refine gM_0_9 E hw (E.hts _ wl650) dX8_see_62 ?_
              refine lv_iconst hx hb dX8_see_65 ic_1 ?_
              refine lv_isub hx hb dX8_see_66 ?_
              obtain ⟨h_v_24, hf⟩ := rdA_at hf
              refine lM_10 E hw h_v_24 dX8_see_67 (fun v_24 ev_24 => ?_)
              replace hf := hf v_24 ev_24
              refine lv_icmp_ge (tgt := 73) hx hb dX8_see_68 (by decide) (fun c_25 => ?_) (fun c_25 => ?_)
              · replace hf := ite_t hf c_25
                exact k8_see_J73_j E S (x1) (x2) (x3) (x4) _ _ ls hf hw (lv_sub hl [0, 1, 2, 3, 4] rfl)
              · replace hf := ite_f hf c_25
                refine lv_iconst hx hb dX8_see_71 ic_m1 ?_
                cases hf
                exact retM_i E hw dX8_see_72
          · replace hf := ite_t hf c_17
            refine lv_iconst hx hb dX8_see_47 ic_m1 ?_
            cases hf
            exact retM_i E hw dX8_see_48
theorem qk8_see {p : Program} {l : Launch} {e : Env} {R : Room} {s : State} {m : MethodId} {args : Array Value} {below : List Frame} {meth : Method} {c : Code} {H : Heap} {locs : List Loc} {cells slots : Nat} {Q : State → Prop} {cc : ByteArray} {pc : Nat} {ls : Array Slot} {rest : List Value} {D : va_G} {a : Nat → Nat} {g : Nat → ClassId} {nL : Nat} {own : String} {ret : Option FieldType} {S S1 : SM} {k : Nat} {x1 x2 x3 x4 : Int32} {r : Int32} (E : EM p s m args meth c D a g cc nL own ret) (hw : WM D a g S s H locs) (hM : Met l yX8_see (wsm yX8_see cX8_see 5 (some .int)) (RM k) (PM D a g S [.ref (a 0), .int x1, .int x2, .int x3, .int x4]) (QM D a g (some (.int r)) S1) 0 0 (AM a)) {idx : Nat} (hlk : Cond.methodLink own idx yX8_see ∈ wd) (hdg : decode cc pc = .ok (.invokevirtual idx, 3)) (hR : k + 1 ≤ R.frames ∧ 8 + (5 + 11) + 64 * k ≤ R.locals) (hls : ls.size = nL) (hrest : (rest.map fun v => v.category).sum ≤ 8) (hcs : cells ≤ R.cells ∧ slots ≤ R.slots) (kk : ∀ (H1 : Heap) (locs1 : List Loc), WM D a g S1 s H1 locs1 → W p l e R s m args below meth c H1 locs1 cells slots Q (F0 m (pc + 3) ls (.int r :: rest))) : W p l e R s m args below meth c H locs cells slots Q (F0 m pc ls (.int x4 :: .int x3 :: .int x2 :: .int x1 :: .ref (a 0) :: rest)) :=
  callM_i hw (va_runV (As := [.int x1, .int x2, .int x3, .int x4]) (rest := rest) ⟨E.hx, E.hb, E.hml, E.hown, E.hts⟩ hM ⟨cb_of 4 E.hts wl784 wl44 hlk (by decide +kernel) hR, E.hts _ wl782, E.hts _ wl783⟩ ⟨PM_blind, va_recv E.hK hw.1 (ci := 8) (q0 := 0) rfl rfl, PM_pre E.hK E.hN hw.1⟩ rfl rfl hls rfl (lv_room hrest) hdg hcs) kk
/-! X8_digit -/
def k8_digit_B4 (F : Nat) (S : SM) (x1 : Int32) (rec4 : Int32 → Int32 → Option Int32) (x2 : Int32) (x3 : Int32) : Option Int32 :=
  if x1 ≤ x3 then (some (x2 - x2 / ((10 : Int32)) * ((10 : Int32)))) else (bnd (x2 / ((10 : Int32))) fun x2_4 => bnd (x3 + (1)) fun x3_5 => rec4 (x2_4) (x3_5))
def k8_digit (F : Nat) (S : SM) (x0 : Int32) (x1 : Int32) : Option Int32 :=
  bnd (x0) fun x2_1 => bnd ((0 : Int32)) fun x3_2 => lpN (fun _ _ => none) (fun rec4 => k8_digit_B4 F S (x1) rec4 ) F (x2_1) (x3_2)
set_option maxRecDepth 100000 in
set_option maxHeartbeats 4000000 in
theorem k8_digit_b4 {p : Program} {l : Launch} {e : Env} {s : State} {m : MethodId} {args : Array Value} {below : List Frame} {meth : Method} {c : Code} {D : va_G} {a : Nat → Nat} {g : Nat → ClassId} (E : EM p s m args meth c D a g cX8_digit 4 RX8 (some .int)) {F : Nat}  (S : SM) (x1 : Int32) {rec4 : Int32 → Int32 → Option Int32} {out : Int32} (hrec4 : ∀ (x2 : Int32) (x3 : Int32) (H : Heap) (locs : List Loc) (ls : Array Slot), rec4 x2 x3 = some out → WM D a g S s H locs → lv_has ls 4 [(1, .int (x1)), (2, .int (x2)), (3, .int (x3))] → W p l e (RM 1) s m args below meth c H locs 0 0 (MQ below (QM D a g (some (.int out)) S) args s 0 0 (AM a)) (F0 m 4 ls []))  (x2 : Int32) (x3 : Int32) (H : Heap) (locs : List Loc) (ls : Array Slot) (hf : k8_digit_B4 F S x1 rec4 x2 x3 = some out) (hw : WM D a g S s H locs) (hl : lv_has ls 4 [(1, .int (x1)), (2, .int (x2)), (3, .int (x3))]) : W p l e (RM 1) s m args below meth c H locs 0 0 (MQ below (QM D a g (some (.int out)) S) args s 0 0 (AM a)) (F0 m 4 ls []) := by
  have hx := E.hx
  have hb := E.hb
  unfold k8_digit_B4 at hf
  refine lv_iload_n hx hb dX8_digit_4 rfl (lv_at hl 2 rfl) ?_
  refine lv_iload_n hx hb dX8_digit_5 rfl (lv_at hl 0 rfl) ?_
  refine lv_icmp_ge (tgt := 20) hx hb dX8_digit_6 (by decide) (fun c_3 => ?_) (fun c_3 => ?_)
  · replace hf := ite_t hf c_3
    refine lv_iload_n hx hb dX8_digit_20 rfl (lv_at hl 1 rfl) ?_
    refine lv_bipush hx hb dX8_digit_21 bp_10 ?_
    refine lv_irem hx hb dX8_digit_23 (by decide) ?_
    cases hf
    exact retM_i E hw dX8_digit_24
  · replace hf := ite_f hf c_3
    refine lv_iload_n hx hb dX8_digit_9 rfl (lv_at hl 1 rfl) ?_
    refine lv_bipush hx hb dX8_digit_10 bp_10 ?_
    refine lv_idiv hx hb dX8_digit_12 (by decide) ?_
    refine lv_topi (fun x2_4 ex2_4 => ?_)
    replace hf := bnd_at hf ex2_4
    refine lv_istore_n (lv' := [(2, .int (x2_4)), (1, .int (x1)), (3, .int (x3))]) hx hb dX8_digit_13 rfl hl (by decide) rfl (fun ls hl => ?_)
    obtain ⟨x3_5, ex3_5⟩ : ∃ y : Int32, y = x3 + (1) := ⟨_, rfl⟩
    replace hf := bnd_at hf ex3_5
    refine lv_iinc (v := x3_5) (lv' := [(3, .int (x3_5)), (2, .int (x2_4)), (1, .int (x1))]) hx hb dX8_digit_14 hl (k := 2) rfl (by rw [ex3_5]; rfl) (by decide) rfl (fun ls hl => ?_)
    refine lv_goto (tgt := 4) hx hb dX8_digit_17 (by decide) ?_
    exact hrec4 (x2_4) (x3_5) _ _ ls hf hw (lv_sub hl [2, 1, 0] rfl)
theorem k8_digit_l4 {p : Program} {l : Launch} {e : Env} {s : State} {m : MethodId} {args : Array Value} {below : List Frame} {meth : Method} {c : Code} {D : va_G} {a : Nat → Nat} {g : Nat → ClassId} (E : EM p s m args meth c D a g cX8_digit 4 RX8 (some .int)) {F : Nat}  (S : SM) (x1 : Int32) {out : Int32}  : ∀ (n : Nat) (x2 : Int32) (x3 : Int32) (H : Heap) (locs : List Loc) (ls : Array Slot), lpN (fun _ _ => none) (fun rec4 => k8_digit_B4 F S x1 rec4) n x2 x3 = some out → WM D a g S s H locs → lv_has ls 4 [(1, .int (x1)), (2, .int (x2)), (3, .int (x3))] → W p l e (RM 1) s m args below meth c H locs 0 0 (MQ below (QM D a g (some (.int out)) S) args s 0 0 (AM a)) (F0 m 4 ls []) := by
  intro n
  induction n with
  | zero => intro x2 x3 H locs ls hf; cases (show (none : Option Int32) = some out from hf)
  | succ n ih => intro x2 x3 H locs ls hf hw hl; exact k8_digit_b4 E (F := F) S x1 ih x2 x3 H locs ls hf hw hl
set_option maxRecDepth 100000 in
set_option maxHeartbeats 4000000 in
theorem mk8_digit {l : Launch} {D : va_G} {a : Nat → Nat} {g : Nat → ClassId} (hD : ∀ S, va_D (AM a) (wM a g S)) {F : Nat} {S : SM} {x0 x1 : Int32} {out : Int32} (hf : k8_digit F S x0 x1 = some out) : Met l yX8_digit (wsm yX8_digit cX8_digit 4 (some .int)) (RM 1) (PM D a g S [.int x0, .int x1]) (QM D a g (some (.int out)) S) 0 0 (AM a) := by
  refine Met.ofW (cc := cX8_digit) (maxL := 4) (ret := (some .int)) (by decide) rfl ?_
  intro p e s m args below meth c s₁ B hml hv
  obtain ⟨rfl, hP, hK, hN⟩ := hv
  have hts := atoms_spec (ws := wsm yX8_digit cX8_digit 4 (some .int)) B.pre
  have E : EM p s m _ meth c D a g cX8_digit 4 RX8 (some .int) := ⟨B.exec, B.bytes, B.returns, hml, findClass_of_methodNamed B.named, fun w h => hts w (List.mem_cons_of_mem _ h), hK, hN, hD, B.notSynchronized⟩
  have hx := E.hx
  have hb := E.hb
  have hw : WM D a g S s s.heap [] := ⟨hP, va_S.rf⟩
  have hl := lv_entry ([.int x0, .int x1]) (n := 4) (Nat.le_of_ble_eq_true rfl)
  rw [lg_entry_eq]
  generalize (lg_sl ([.int x0, .int x1]) ++ List.replicate (4 - (lg_sl ([.int x0, .int x1])).length) Slot.unset).toArray = ls at hl ⊢
  have hl : lv_has ls 4 [(0, .int (x0)), (1, .int (x1))] := hl
  show W p l e (RM 1) s m _ below meth c s.heap [] 0 0 (MQ below (QM D a g (some (.int out)) S) _ s 0 0 (AM a)) (F0 m 0 ls [])
  unfold k8_digit at hf
  refine lv_iload_n hx hb dX8_digit_0 rfl (lv_at hl 0 rfl) ?_
  refine lv_topi (fun x2_1 ex2_1 => ?_)
  replace hf := bnd_at hf ex2_1
  refine lv_istore_n (lv' := [(2, .int (x2_1)), (0, .int (x0)), (1, .int (x1))]) hx hb dX8_digit_1 rfl hl (by decide) rfl (fun ls hl => ?_)
  refine lv_iconst hx hb dX8_digit_2 ic_0 ?_
  refine lv_topi (fun x3_2 ex3_2 => ?_)
  replace hf := bnd_at hf ex3_2
  refine lv_istore_n (lv' := [(3, .int (x3_2)), (2, .int (x2_1)), (0, .int (x0)), (1, .int (x1))]) hx hb dX8_digit_3 rfl hl (by decide) rfl (fun ls hl => ?_)
  refine k8_digit_l4 E S (x1)  F (x2_1) (x3_2) _ _ ls hf hw (lv_sub hl [3, 1, 0] rfl)
theorem qk8_digit {p : Program} {l : Launch} {e : Env} {R : Room} {s : State} {m : MethodId} {args : Array Value} {below : List Frame} {meth : Method} {c : Code} {H : Heap} {locs : List Loc} {cells slots : Nat} {Q : State → Prop} {cc : ByteArray} {pc : Nat} {ls : Array Slot} {rest : List Value} {D : va_G} {a : Nat → Nat} {g : Nat → ClassId} {nL : Nat} {own : String} {ret : Option FieldType} {S S1 : SM} {k : Nat} {x0 x1 : Int32} {r : Int32} (E : EM p s m args meth c D a g cc nL own ret) (hw : WM D a g S s H locs) (hM : Met l yX8_digit (wsm yX8_digit cX8_digit 4 (some .int)) (RM k) (PM D a g S [.int x0, .int x1]) (QM D a g (some (.int r)) S1) 0 0 (AM a)) {idx : Nat} (hlk : Cond.methodLink own idx yX8_digit ∈ wd) (hdg : decode cc pc = .ok (.invokestatic idx, 3)) (hR : k + 1 ≤ R.frames ∧ 8 + (4 + 11) + 64 * k ≤ R.locals) (hls : ls.size = nL) (hrest : (rest.map fun v => v.category).sum ≤ 8) (hcs : cells ≤ R.cells ∧ slots ≤ R.slots) (kk : ∀ (H1 : Heap) (locs1 : List Loc), WM D a g S1 s H1 locs1 → W p l e R s m args below meth c H1 locs1 cells slots Q (F0 m (pc + 3) ls (.int r :: rest))) : W p l e R s m args below meth c H locs cells slots Q (F0 m pc ls (.int x1 :: .int x0 :: rest)) :=
  callM_i hw (va_runS (As := [.int x0, .int x1]) (rest := rest) ⟨E.hx, E.hb, E.hml, E.hown, E.hts⟩ hM ⟨cb_of 2 E.hts wl794 wl44 hlk (by decide +kernel) hR, E.hts _ wl793⟩ ⟨PM_blind, PM_pre E.hK E.hN hw.1⟩ rfl rfl hls rfl (lv_room hrest) hdg hcs) kk
/-! X8_errorOf -/
def k8_errorOf_B7_J34 (F : Nat) (S : SM) (x0 : Int32) (x1 : Int32) (rec7 : Int32 → Int32 → Int32 → Option Int32) (k107 : Int32 → Int32 → Option Int32) (x3 : Int32) (x4 : Int32) (s0 : Int32) (s1 : Int32) : Option Int32 :=
  bnd (s1 + s0) fun x2_12 => if x3 = 0 then (if ((4 : Int32)) ≤ x4 then (bnd ((0 : Int32)) fun x3_17 => bnd (x4 + (1)) fun x4_18 => rec7 (x2_12) (x3_17) (x4_18)) else ((k8_digit F S (x0) (x4)).bind fun r_20 => (k8_digit F S (x1) (x4)).bind fun r_23 => if r_20 = r_23 then (bnd ((0 : Int32)) fun x3_26 => bnd (x4 + (1)) fun x4_27 => rec7 (x2_12) (x3_26) (x4_27)) else ((k8_digit F S (x0) (x4)).bind fun r_29 => (k8_digit F S (x1) (x4 + ((1 : Int32)))).bind fun r_32 => if r_29 = r_32 then ((k8_digit F S (x0) (x4 + ((1 : Int32)))).bind fun r_38 => (k8_digit F S (x1) (x4)).bind fun r_41 => if r_38 = r_41 then (bnd ((1 : Int32)) fun x3_46 => bnd (x4 + (1)) fun x4_47 => rec7 (x2_12) (x3_46) (x4_47)) else (bnd ((0 : Int32)) fun x3_44 => bnd (x4 + (1)) fun x4_45 => rec7 (x2_12) (x3_44) (x4_45))) else (bnd ((0 : Int32)) fun x3_35 => bnd (x4 + (1)) fun x4_36 => rec7 (x2_12) (x3_35) (x4_36))))) else (bnd ((1 : Int32)) fun x3_14 => bnd (x4 + (1)) fun x4_15 => rec7 (x2_12) (x3_14) (x4_15))
def k8_errorOf_B7 (F : Nat) (S : SM) (x0 : Int32) (x1 : Int32) (rec7 : Int32 → Int32 → Int32 → Option Int32) (k107 : Int32 → Int32 → Option Int32) (x2 : Int32) (x3 : Int32) (x4 : Int32) : Option Int32 :=
  if ((5 : Int32)) ≤ x4 then (k107 (x2) (x3)) else ((k8_digit F S (x0) (x4)).bind fun r_6 => (k8_digit F S (x1) (x4)).bind fun r_9 => if r_6 = r_9 then (k8_errorOf_B7_J34 F S x0 x1 rec7 k107 (x3) (x4) ((0 : Int32)) (x2)) else (k8_errorOf_B7_J34 F S x0 x1 rec7 k107 (x3) (x4) ((1 : Int32)) (x2)))
def k8_errorOf (F : Nat) (S : SM) (x0 : Int32) (x1 : Int32) : Option Int32 :=
  bnd ((0 : Int32)) fun x2_1 => bnd ((0 : Int32)) fun x3_2 => bnd ((0 : Int32)) fun x4_3 => lpN (fun _ _ _ => none) (fun rec7 => k8_errorOf_B7 F S (x0) (x1) rec7 (fun x2_48 x3_48 => if x2_48 ≤ ((2 : Int32)) then (if x2_48 = ((2 : Int32)) then (if x3_48 = 0 then (some (x2_48)) else (some ((1 : Int32)))) else (some (x2_48))) else (some ((9 : Int32))))) F (x2_1) (x3_2) (x4_3)
set_option maxRecDepth 100000 in
set_option maxHeartbeats 4000000 in
theorem k8_errorOf_B7_J34_j {p : Program} {l : Launch} {e : Env} {s : State} {m : MethodId} {args : Array Value} {below : List Frame} {meth : Method} {c : Code} {D : va_G} {a : Nat → Nat} {g : Nat → ClassId} (E : EM p s m args meth c D a g cX8_errorOf 5 RX8 (some .int)) {F : Nat}  (S : SM) (x0 : Int32) (x1 : Int32) {rec7 : Int32 → Int32 → Int32 → Option Int32} {k107 : Int32 → Int32 → Option Int32} {out : Int32} (hrec7 : ∀ (x2 : Int32) (x3 : Int32) (x4 : Int32) (H : Heap) (locs : List Loc) (ls : Array Slot), rec7 x2 x3 x4 = some out → WM D a g S s H locs → lv_has ls 5 [(0, .int (x0)), (1, .int (x1)), (2, .int (x2)), (3, .int (x3)), (4, .int (x4))] → W p l e (RM 2) s m args below meth c H locs 0 0 (MQ below (QM D a g (some (.int out)) S) args s 0 0 (AM a)) (F0 m 7 ls [])) (hk107 : ∀ (x2 : Int32) (x3 : Int32) (H : Heap) (locs : List Loc) (ls : Array Slot), k107 x2 x3 = some out → WM D a g S s H locs → lv_has ls 5 [(2, .int (x2)), (3, .int (x3))] → W p l e (RM 2) s m args below meth c H locs 0 0 (MQ below (QM D a g (some (.int out)) S) args s 0 0 (AM a)) (F0 m 107 ls [])) (x3 : Int32) (x4 : Int32) (s0 : Int32) (s1 : Int32) (H : Heap) (locs : List Loc) (ls : Array Slot) (hf : k8_errorOf_B7_J34 F S x0 x1 rec7 k107 x3 x4 s0 s1 = some out) (hw : WM D a g S s H locs) (hl : lv_has ls 5 [(0, .int (x0)), (1, .int (x1)), (3, .int (x3)), (4, .int (x4))]) : W p l e (RM 2) s m args below meth c H locs 0 0 (MQ below (QM D a g (some (.int out)) S) args s 0 0 (AM a)) (F0 m 34 ls [.int (s0), .int (s1)]) := by
  have hx := E.hx
  have hb := E.hb
  unfold k8_errorOf_B7_J34 at hf
  refine lv_iadd hx hb dX8_errorOf_34 ?_
  refine lv_topi (fun x2_12 ex2_12 => ?_)
  replace hf := bnd_at hf ex2_12
  refine lv_istore_n (lv' := [(2, .int (x2_12)), (0, .int (x0)), (1, .int (x1)), (3, .int (x3)), (4, .int (x4))]) hx hb dX8_errorOf_35 rfl hl (by decide) rfl (fun ls hl => ?_)
  refine lv_iload_n hx hb dX8_errorOf_36 rfl (lv_at hl 3 rfl) ?_
  refine lv_if_ne (tgt := 95) hx hb dX8_errorOf_37 (by decide) (fun c_13 => ?_) (fun c_13 => ?_)
  · replace hf := ite_f hf c_13
    refine lv_iconst hx hb dX8_errorOf_95 ic_1 ?_
    refine lv_goto (tgt := 100) hx hb dX8_errorOf_96 (by decide) ?_
    refine lv_topi (fun x3_14 ex3_14 => ?_)
    replace hf := bnd_at hf ex3_14
    refine lv_istore_n (lv' := [(3, .int (x3_14)), (2, .int (x2_12)), (0, .int (x0)), (1, .int (x1)), (4, .int (x4))]) hx hb dX8_errorOf_100 rfl hl (by decide) rfl (fun ls hl => ?_)
    obtain ⟨x4_15, ex4_15⟩ : ∃ y : Int32, y = x4 + (1) := ⟨_, rfl⟩
    replace hf := bnd_at hf ex4_15
    refine lv_iinc (v := x4_15) (lv' := [(4, .int (x4_15)), (3, .int (x3_14)), (2, .int (x2_12)), (0, .int (x0)), (1, .int (x1))]) hx hb dX8_errorOf_101 hl (k := 4) rfl (by rw [ex4_15]; rfl) (by decide) rfl (fun ls hl => ?_)
    refine lv_goto (tgt := 7) hx hb dX8_errorOf_104 (by decide) ?_
    exact hrec7 (x2_12) (x3_14) (x4_15) _ _ ls hf hw (lv_sub hl [3, 4, 2, 1, 0] rfl)
  · replace hf := ite_t hf c_13
    refine lv_iload hx hb dX8_errorOf_40 (lv_at hl 4 rfl) ?_
    refine lv_iconst hx hb dX8_errorOf_42 ic_4 ?_
    refine lv_icmp_ge (tgt := 99) hx hb dX8_errorOf_43 (by decide) (fun c_16 => ?_) (fun c_16 => ?_)
    · replace hf := ite_t hf c_16
      refine lv_iconst hx hb dX8_errorOf_99 ic_0 ?_
      refine lv_topi (fun x3_17 ex3_17 => ?_)
      replace hf := bnd_at hf ex3_17
      refine lv_istore_n (lv' := [(3, .int (x3_17)), (2, .int (x2_12)), (0, .int (x0)), (1, .int (x1)), (4, .int (x4))]) hx hb dX8_errorOf_100 rfl hl (by decide) rfl (fun ls hl => ?_)
      obtain ⟨x4_18, ex4_18⟩ : ∃ y : Int32, y = x4 + (1) := ⟨_, rfl⟩
      replace hf := bnd_at hf ex4_18
      refine lv_iinc (v := x4_18) (lv' := [(4, .int (x4_18)), (3, .int (x3_17)), (2, .int (x2_12)), (0, .int (x0)), (1, .int (x1))]) hx hb dX8_errorOf_101 hl (k := 4) rfl (by rw [ex4_18]; rfl) (by decide) rfl (fun ls hl => ?_)
      refine lv_goto (tgt := 7) hx hb dX8_errorOf_104 (by decide) ?_
      exact hrec7 (x2_12) (x3_17) (x4_18) _ _ ls hf hw (lv_sub hl [3, 4, 2, 1, 0] rfl)
    · replace hf := ite_f hf c_16
      refine lv_iload_n hx hb dX8_errorOf_46 rfl (lv_at hl 1 rfl) ?_
      refine lv_iload hx hb dX8_errorOf_47 (lv_at hl 4 rfl) ?_
      obtain ⟨r_20, h_19, hf⟩ := ob_at hf
      refine qk8_digit E hw (mk8_digit E.hD h_19) wl792 dX8_errorOf_49 ⟨Nat.le_of_ble_eq_true rfl, Nat.le_of_ble_eq_true rfl⟩ hl.1 (Nat.le_of_ble_eq_true rfl) ⟨Nat.le_refl 0, Nat.le_refl 0⟩ (fun H locs hw => ?_)
      refine lv_iload_n hx hb dX8_errorOf_52 rfl (lv_at hl 2 rfl) ?_
      refine lv_iload hx hb dX8_errorOf_53 (lv_at hl 4 rfl) ?_
      obtain ⟨r_23, h_22, hf⟩ := ob_at hf
      refine qk8_digit E hw (mk8_digit E.hD h_22) wl792 dX8_errorOf_55 ⟨Nat.le_of_ble_eq_true rfl, Nat.le_of_ble_eq_true rfl⟩ hl.1 (Nat.le_of_ble_eq_true rfl) ⟨Nat.le_refl 0, Nat.le_refl 0⟩ (fun H locs hw => ?_)
      refine lv_icmp_eq (tgt := 99) hx hb dX8_errorOf_58 (by decide) (fun c_25 => ?_) (fun c_25 => ?_)
      · replace hf := ite_t hf c_25
        refine lv_iconst hx hb dX8_errorOf_99 ic_0 ?_
        refine lv_topi (fun x3_26 ex3_26 => ?_)
        replace hf := bnd_at hf ex3_26
        refine lv_istore_n (lv' := [(3, .int (x3_26)), (2, .int (x2_12)), (0, .int (x0)), (1, .int (x1)), (4, .int (x4))]) hx hb dX8_errorOf_100 rfl hl (by decide) rfl (fun ls hl => ?_)
        obtain ⟨x4_27, ex4_27⟩ : ∃ y : Int32, y = x4 + (1) := ⟨_, rfl⟩
        replace hf := bnd_at hf ex4_27
        refine lv_iinc (v := x4_27) (lv' := [(4, .int (x4_27)), (3, .int (x3_26)), (2, .int (x2_12)), (0, .int (x0)), (1, .int (x1))]) hx hb dX8_errorOf_101 hl (k := 4) rfl (by rw [ex4_27]; rfl) (by decide) rfl (fun ls hl => ?_)
        refine lv_goto (tgt := 7) hx hb dX8_errorOf_104 (by decide) ?_
        exact hrec7 (x2_12) (x3_26) (x4_27) _ _ ls hf hw (lv_sub hl [3, 4, 2, 1, 0] rfl)
      · replace hf := ite_f hf c_25
        refine lv_iload_n hx hb dX8_errorOf_61 rfl (lv_at hl 1 rfl) ?_
        refine lv_iload hx hb dX8_errorOf_62 (lv_at hl 4 rfl) ?_
        obtain ⟨r_29, h_28, hf⟩ := ob_at hf
        refine qk8_digit E hw (mk8_digit E.hD h_28) wl792 dX8_errorOf_64 ⟨Nat.le_of_ble_eq_true rfl, Nat.le_of_ble_eq_true rfl⟩ hl.1 (Nat.le_of_ble_eq_true rfl) ⟨Nat.le_refl 0, Nat.le_refl 0⟩ (fun H locs hw => ?_)
        refine lv_iload_n hx hb dX8_errorOf_67 rfl (lv_at hl 2 rfl) ?_
        refine lv_iload hx hb dX8_errorOf_68 (lv_at hl 4 rfl) ?_
        refine lv_iconst hx hb dX8_errorOf_70 ic_1 ?_
        refine lv_iadd hx hb dX8_errorOf_71 ?_
        obtain ⟨r_32, h_31, hf⟩ := ob_at hf
        refine qk8_digit E hw (mk8_digit E.hD h_31) wl792 dX8_errorOf_72 ⟨Nat.le_of_ble_eq_true rfl, Nat.le_of_ble_eq_true rfl⟩ hl.1 (Nat.le_of_ble_eq_true rfl) ⟨Nat.le_refl 0, Nat.le_refl 0⟩ (fun H locs hw => ?_)
        refine lv_icmp_ne (tgt := 99) hx hb dX8_errorOf_75 (by decide) (fun c_34 => ?_) (fun c_34 => ?_)
        · replace hf := ite_f hf c_34
          refine lv_iconst hx hb dX8_errorOf_99 ic_0 ?_
          refine lv_topi (fun x3_35 ex3_35 => ?_)
          replace hf := bnd_at hf ex3_35
          refine lv_istore_n (lv' := [(3, .int (x3_35)), (2, .int (x2_12)), (0, .int (x0)), (1, .int (x1)), (4, .int (x4))]) hx hb dX8_errorOf_100 rfl hl (by decide) rfl (fun ls hl => ?_)
          obtain ⟨x4_36, ex4_36⟩ : ∃ y : Int32, y = x4 + (1) := ⟨_, rfl⟩
          replace hf := bnd_at hf ex4_36
          refine lv_iinc (v := x4_36) (lv' := [(4, .int (x4_36)), (3, .int (x3_35)), (2, .int (x2_12)), (0, .int (x0)), (1, .int (x1))]) hx hb dX8_errorOf_101 hl (k := 4) rfl (by rw [ex4_36]; rfl) (by decide) rfl (fun ls hl => ?_)
          refine lv_goto (tgt := 7) hx hb dX8_errorOf_104 (by decide) ?_
          exact hrec7 (x2_12) (x3_35) (x4_36) _ _ ls hf hw (lv_sub hl [3, 4, 2, 1, 0] rfl)
        · replace hf := ite_t hf c_34
          refine lv_iload_n hx hb dX8_errorOf_78 rfl (lv_at hl 1 rfl) ?_
          refine lv_iload hx hb dX8_errorOf_79 (lv_at hl 4 rfl) ?_
          refine lv_iconst hx hb dX8_errorOf_81 ic_1 ?_
          refine lv_iadd hx hb dX8_errorOf_82 ?_
          obtain ⟨r_38, h_37, hf⟩ := ob_at hf
          refine qk8_digit E hw (mk8_digit E.hD h_37) wl792 dX8_errorOf_83 ⟨Nat.le_of_ble_eq_true rfl, Nat.le_of_ble_eq_true rfl⟩ hl.1 (Nat.le_of_ble_eq_true rfl) ⟨Nat.le_refl 0, Nat.le_refl 0⟩ (fun H locs hw => ?_)
          refine lv_iload_n hx hb dX8_errorOf_86 rfl (lv_at hl 2 rfl) ?_
          refine lv_iload hx hb dX8_errorOf_87 (lv_at hl 4 rfl) ?_
          obtain ⟨r_41, h_40, hf⟩ := ob_at hf
          refine qk8_digit E hw (mk8_digit E.hD h_40) wl792 dX8_errorOf_89 ⟨Nat.le_of_ble_eq_true rfl, Nat.le_of_ble_eq_true rfl⟩ hl.1 (Nat.le_of_ble_eq_true rfl) ⟨Nat.le_refl 0, Nat.le_refl 0⟩ (fun H locs hw => ?_)
          refine lv_icmp_ne (tgt := 99) hx hb dX8_errorOf_92 (by decide) (fun c_43 => ?_) (fun c_43 => ?_)
          · replace hf := ite_f hf c_43
            refine lv_iconst hx hb dX8_errorOf_99 ic_0 ?_
            refine lv_topi (fun x3_44 ex3_44 => ?_)
            replace hf := bnd_at hf ex3_44
            refine lv_istore_n (lv' := [(3, .int (x3_44)), (2, .int (x2_12)), (0, .int (x0)), (1, .int (x1)), (4, .int (x4))]) hx hb dX8_errorOf_100 rfl hl (by decide) rfl (fun ls hl => ?_)
            obtain ⟨x4_45, ex4_45⟩ : ∃ y : Int32, y = x4 + (1) := ⟨_, rfl⟩
            replace hf := bnd_at hf ex4_45
            refine lv_iinc (v := x4_45) (lv' := [(4, .int (x4_45)), (3, .int (x3_44)), (2, .int (x2_12)), (0, .int (x0)), (1, .int (x1))]) hx hb dX8_errorOf_101 hl (k := 4) rfl (by rw [ex4_45]; rfl) (by decide) rfl (fun ls hl => ?_)
            refine lv_goto (tgt := 7) hx hb dX8_errorOf_104 (by decide) ?_
            exact hrec7 (x2_12) (x3_44) (x4_45) _ _ ls hf hw (lv_sub hl [3, 4, 2, 1, 0] rfl)
          · replace hf := ite_t hf c_43
            refine lv_iconst hx hb dX8_errorOf_95 ic_1 ?_
            refine lv_goto (tgt := 100) hx hb dX8_errorOf_96 (by decide) ?_
            refine lv_topi (fun x3_46 ex3_46 => ?_)
            replace hf := bnd_at hf ex3_46
            refine lv_istore_n (lv' := [(3, .int (x3_46)), (2, .int (x2_12)), (0, .int (x0)), (1, .int (x1)), (4, .int (x4))]) hx hb dX8_errorOf_100 rfl hl (by decide) rfl (fun ls hl => ?_)
            obtain ⟨x4_47, ex4_47⟩ : ∃ y : Int32, y = x4 + (1) := ⟨_, rfl⟩
            replace hf := bnd_at hf ex4_47
            refine lv_iinc (v := x4_47) (lv' := [(4, .int (x4_47)), (3, .int (x3_46)), (2, .int (x2_12)), (0, .int (x0)), (1, .int (x1))]) hx hb dX8_errorOf_101 hl (k := 4) rfl (by rw [ex4_47]; rfl) (by decide) rfl (fun ls hl => ?_)
            refine lv_goto (tgt := 7) hx hb dX8_errorOf_104 (by decide) ?_
            exact hrec7 (x2_12) (x3_46) (x4_47) _ _ ls hf hw (lv_sub hl [3, 4, 2, 1, 0] rfl)
set_option maxRecDepth 100000 in
set_option maxHeartbeats 4000000 in
theorem k8_errorOf_b7 {p : Program} {l : Launch} {e : Env} {s : State} {m : MethodId} {args : Array Value} {below : List Frame} {meth : Method} {c : Code} {D : va_G} {a : Nat → Nat} {g : Nat → ClassId} (E : EM p s m args meth c D a g cX8_errorOf 5 RX8 (some .int)) {F : Nat}  (S : SM) (x0 : Int32) (x1 : Int32) {rec7 : Int32 → Int32 → Int32 → Option Int32} {k107 : Int32 → Int32 → Option Int32} {out : Int32} (hrec7 : ∀ (x2 : Int32) (x3 : Int32) (x4 : Int32) (H : Heap) (locs : List Loc) (ls : Array Slot), rec7 x2 x3 x4 = some out → WM D a g S s H locs → lv_has ls 5 [(0, .int (x0)), (1, .int (x1)), (2, .int (x2)), (3, .int (x3)), (4, .int (x4))] → W p l e (RM 2) s m args below meth c H locs 0 0 (MQ below (QM D a g (some (.int out)) S) args s 0 0 (AM a)) (F0 m 7 ls [])) (hk107 : ∀ (x2 : Int32) (x3 : Int32) (H : Heap) (locs : List Loc) (ls : Array Slot), k107 x2 x3 = some out → WM D a g S s H locs → lv_has ls 5 [(2, .int (x2)), (3, .int (x3))] → W p l e (RM 2) s m args below meth c H locs 0 0 (MQ below (QM D a g (some (.int out)) S) args s 0 0 (AM a)) (F0 m 107 ls [])) (x2 : Int32) (x3 : Int32) (x4 : Int32) (H : Heap) (locs : List Loc) (ls : Array Slot) (hf : k8_errorOf_B7 F S x0 x1 rec7 k107 x2 x3 x4 = some out) (hw : WM D a g S s H locs) (hl : lv_has ls 5 [(0, .int (x0)), (1, .int (x1)), (2, .int (x2)), (3, .int (x3)), (4, .int (x4))]) : W p l e (RM 2) s m args below meth c H locs 0 0 (MQ below (QM D a g (some (.int out)) S) args s 0 0 (AM a)) (F0 m 7 ls []) := by
  have hx := E.hx
  have hb := E.hb
  unfold k8_errorOf_B7 at hf
  refine lv_iload hx hb dX8_errorOf_7 (lv_at hl 4 rfl) ?_
  refine lv_iconst hx hb dX8_errorOf_9 ic_5 ?_
  refine lv_icmp_ge (tgt := 107) hx hb dX8_errorOf_10 (by decide) (fun c_4 => ?_) (fun c_4 => ?_)
  · replace hf := ite_t hf c_4
    exact hk107 (x2) (x3) _ _ ls hf hw (lv_sub hl [2, 3] rfl)
  · replace hf := ite_f hf c_4
    refine lv_iload_n hx hb dX8_errorOf_13 rfl (lv_at hl 2 rfl) ?_
    refine lv_iload_n hx hb dX8_errorOf_14 rfl (lv_at hl 0 rfl) ?_
    refine lv_iload hx hb dX8_errorOf_15 (lv_at hl 4 rfl) ?_
    obtain ⟨r_6, h_5, hf⟩ := ob_at hf
    refine qk8_digit E hw (mk8_digit E.hD h_5) wl792 dX8_errorOf_17 ⟨Nat.le_of_ble_eq_true rfl, Nat.le_of_ble_eq_true rfl⟩ hl.1 (Nat.le_of_ble_eq_true rfl) ⟨Nat.le_refl 0, Nat.le_refl 0⟩ (fun H locs hw => ?_)
    refine lv_iload_n hx hb dX8_errorOf_20 rfl (lv_at hl 1 rfl) ?_
    refine lv_iload hx hb dX8_errorOf_21 (lv_at hl 4 rfl) ?_
    obtain ⟨r_9, h_8, hf⟩ := ob_at hf
    refine qk8_digit E hw (mk8_digit E.hD h_8) wl792 dX8_errorOf_23 ⟨Nat.le_of_ble_eq_true rfl, Nat.le_of_ble_eq_true rfl⟩ hl.1 (Nat.le_of_ble_eq_true rfl) ⟨Nat.le_refl 0, Nat.le_refl 0⟩ (fun H locs hw => ?_)
    refine lv_icmp_eq (tgt := 33) hx hb dX8_errorOf_26 (by decide) (fun c_11 => ?_) (fun c_11 => ?_)
    · replace hf := ite_t hf c_11
      refine lv_iconst hx hb dX8_errorOf_33 ic_0 ?_
      exact k8_errorOf_B7_J34_j E S x0 x1 hrec7 hk107 (x3) (x4) ((0 : Int32)) (x2) _ _ ls hf hw (lv_sub hl [0, 1, 3, 4] rfl)
    · replace hf := ite_f hf c_11
      refine lv_iconst hx hb dX8_errorOf_29 ic_1 ?_
      refine lv_goto (tgt := 34) hx hb dX8_errorOf_30 (by decide) ?_
      exact k8_errorOf_B7_J34_j E S x0 x1 hrec7 hk107 (x3) (x4) ((1 : Int32)) (x2) _ _ ls hf hw (lv_sub hl [0, 1, 3, 4] rfl)
theorem k8_errorOf_l7 {p : Program} {l : Launch} {e : Env} {s : State} {m : MethodId} {args : Array Value} {below : List Frame} {meth : Method} {c : Code} {D : va_G} {a : Nat → Nat} {g : Nat → ClassId} (E : EM p s m args meth c D a g cX8_errorOf 5 RX8 (some .int)) {F : Nat}  (S : SM) (x0 : Int32) (x1 : Int32) {k107 : Int32 → Int32 → Option Int32} {out : Int32} (hk107 : ∀ (x2 : Int32) (x3 : Int32) (H : Heap) (locs : List Loc) (ls : Array Slot), k107 x2 x3 = some out → WM D a g S s H locs → lv_has ls 5 [(2, .int (x2)), (3, .int (x3))] → W p l e (RM 2) s m args below meth c H locs 0 0 (MQ below (QM D a g (some (.int out)) S) args s 0 0 (AM a)) (F0 m 107 ls [])) : ∀ (n : Nat) (x2 : Int32) (x3 : Int32) (x4 : Int32) (H : Heap) (locs : List Loc) (ls : Array Slot), lpN (fun _ _ _ => none) (fun rec7 => k8_errorOf_B7 F S x0 x1 rec7 k107) n x2 x3 x4 = some out → WM D a g S s H locs → lv_has ls 5 [(0, .int (x0)), (1, .int (x1)), (2, .int (x2)), (3, .int (x3)), (4, .int (x4))] → W p l e (RM 2) s m args below meth c H locs 0 0 (MQ below (QM D a g (some (.int out)) S) args s 0 0 (AM a)) (F0 m 7 ls []) := by
  intro n
  induction n with
  | zero => intro x2 x3 x4 H locs ls hf; cases (show (none : Option Int32) = some out from hf)
  | succ n ih => intro x2 x3 x4 H locs ls hf hw hl; exact k8_errorOf_b7 E (F := F) S x0 x1 ih hk107 x2 x3 x4 H locs ls hf hw hl
set_option maxRecDepth 100000 in
set_option maxHeartbeats 4000000 in
theorem mk8_errorOf {l : Launch} {D : va_G} {a : Nat → Nat} {g : Nat → ClassId} (hD : ∀ S, va_D (AM a) (wM a g S)) {F : Nat} {S : SM} {x0 x1 : Int32} {out : Int32} (hf : k8_errorOf F S x0 x1 = some out) : Met l yX8_errorOf (wsm yX8_errorOf cX8_errorOf 5 (some .int)) (RM 2) (PM D a g S [.int x0, .int x1]) (QM D a g (some (.int out)) S) 0 0 (AM a) := by
  refine Met.ofW (cc := cX8_errorOf) (maxL := 5) (ret := (some .int)) (by decide) rfl ?_
  intro p e s m args below meth c s₁ B hml hv
  obtain ⟨rfl, hP, hK, hN⟩ := hv
  have hts := atoms_spec (ws := wsm yX8_errorOf cX8_errorOf 5 (some .int)) B.pre
  have E : EM p s m _ meth c D a g cX8_errorOf 5 RX8 (some .int) := ⟨B.exec, B.bytes, B.returns, hml, findClass_of_methodNamed B.named, fun w h => hts w (List.mem_cons_of_mem _ h), hK, hN, hD, B.notSynchronized⟩
  have hx := E.hx
  have hb := E.hb
  have hw : WM D a g S s s.heap [] := ⟨hP, va_S.rf⟩
  have hl := lv_entry ([.int x0, .int x1]) (n := 5) (Nat.le_of_ble_eq_true rfl)
  rw [lg_entry_eq]
  generalize (lg_sl ([.int x0, .int x1]) ++ List.replicate (5 - (lg_sl ([.int x0, .int x1])).length) Slot.unset).toArray = ls at hl ⊢
  have hl : lv_has ls 5 [(0, .int (x0)), (1, .int (x1))] := hl
  show W p l e (RM 2) s m _ below meth c s.heap [] 0 0 (MQ below (QM D a g (some (.int out)) S) _ s 0 0 (AM a)) (F0 m 0 ls [])
  unfold k8_errorOf at hf
  refine lv_iconst hx hb dX8_errorOf_0 ic_0 ?_
  refine lv_topi (fun x2_1 ex2_1 => ?_)
  replace hf := bnd_at hf ex2_1
  refine lv_istore_n (lv' := [(2, .int (x2_1)), (0, .int (x0)), (1, .int (x1))]) hx hb dX8_errorOf_1 rfl hl (by decide) rfl (fun ls hl => ?_)
  refine lv_iconst hx hb dX8_errorOf_2 ic_0 ?_
  refine lv_topi (fun x3_2 ex3_2 => ?_)
  replace hf := bnd_at hf ex3_2
  refine lv_istore_n (lv' := [(3, .int (x3_2)), (2, .int (x2_1)), (0, .int (x0)), (1, .int (x1))]) hx hb dX8_errorOf_3 rfl hl (by decide) rfl (fun ls hl => ?_)
  refine lv_iconst hx hb dX8_errorOf_4 ic_0 ?_
  refine lv_topi (fun x4_3 ex4_3 => ?_)
  replace hf := bnd_at hf ex4_3
  refine lv_istore (lv' := [(4, .int (x4_3)), (3, .int (x3_2)), (2, .int (x2_1)), (0, .int (x0)), (1, .int (x1))]) hx hb dX8_errorOf_5 hl (by decide) rfl (fun ls hl => ?_)
  refine k8_errorOf_l7 E S (x0) (x1) ?_ F (x2_1) (x3_2) (x4_3) _ _ ls hf hw (lv_sub hl [3, 4, 2, 1, 0] rfl)
  · intro x2_48 x3_48 H locs ls hf hw hl
    refine lv_iload_n hx hb dX8_errorOf_107 rfl (lv_at hl 0 rfl) ?_
    refine lv_iconst hx hb dX8_errorOf_108 ic_2 ?_
    refine lv_icmp_le (tgt := 117) hx hb dX8_errorOf_109 (by decide) (fun c_49 => ?_) (fun c_49 => ?_)
    · replace hf := ite_t hf c_49
      refine lv_iload_n hx hb dX8_errorOf_117 rfl (lv_at hl 0 rfl) ?_
      refine lv_iconst hx hb dX8_errorOf_118 ic_2 ?_
      refine lv_icmp_ne (tgt := 130) hx hb dX8_errorOf_119 (by decide) (fun c_50 => ?_) (fun c_50 => ?_)
      · replace hf := ite_f hf c_50
        refine lv_iload_n hx hb dX8_errorOf_130 rfl (lv_at hl 0 rfl) ?_
        cases hf
        exact retM_i E hw dX8_errorOf_131
      · replace hf := ite_t hf c_50
        refine lv_iload_n hx hb dX8_errorOf_122 rfl (lv_at hl 1 rfl) ?_
        refine lv_if_eq (tgt := 130) hx hb dX8_errorOf_123 (by decide) (fun c_51 => ?_) (fun c_51 => ?_)
        · replace hf := ite_t hf c_51
          refine lv_iload_n hx hb dX8_errorOf_130 rfl (lv_at hl 0 rfl) ?_
          cases hf
          exact retM_i E hw dX8_errorOf_131
        · replace hf := ite_f hf c_51
          refine lv_iconst hx hb dX8_errorOf_126 ic_1 ?_
          refine lv_goto (tgt := 131) hx hb dX8_errorOf_127 (by decide) ?_
          cases hf
          exact retM_i E hw dX8_errorOf_131
    · replace hf := ite_f hf c_49
      refine lv_bipush hx hb dX8_errorOf_112 bp_9 ?_
      refine lv_goto (tgt := 131) hx hb dX8_errorOf_114 (by decide) ?_
      cases hf
      exact retM_i E hw dX8_errorOf_131
theorem qk8_errorOf {p : Program} {l : Launch} {e : Env} {R : Room} {s : State} {m : MethodId} {args : Array Value} {below : List Frame} {meth : Method} {c : Code} {H : Heap} {locs : List Loc} {cells slots : Nat} {Q : State → Prop} {cc : ByteArray} {pc : Nat} {ls : Array Slot} {rest : List Value} {D : va_G} {a : Nat → Nat} {g : Nat → ClassId} {nL : Nat} {own : String} {ret : Option FieldType} {S S1 : SM} {k : Nat} {x0 x1 : Int32} {r : Int32} (E : EM p s m args meth c D a g cc nL own ret) (hw : WM D a g S s H locs) (hM : Met l yX8_errorOf (wsm yX8_errorOf cX8_errorOf 5 (some .int)) (RM k) (PM D a g S [.int x0, .int x1]) (QM D a g (some (.int r)) S1) 0 0 (AM a)) {idx : Nat} (hlk : Cond.methodLink own idx yX8_errorOf ∈ wd) (hdg : decode cc pc = .ok (.invokestatic idx, 3)) (hR : k + 1 ≤ R.frames ∧ 8 + (5 + 11) + 64 * k ≤ R.locals) (hls : ls.size = nL) (hrest : (rest.map fun v => v.category).sum ≤ 8) (hcs : cells ≤ R.cells ∧ slots ≤ R.slots) (kk : ∀ (H1 : Heap) (locs1 : List Loc), WM D a g S1 s H1 locs1 → W p l e R s m args below meth c H1 locs1 cells slots Q (F0 m (pc + 3) ls (.int r :: rest))) : W p l e R s m args below meth c H locs cells slots Q (F0 m pc ls (.int x1 :: .int x0 :: rest)) :=
  callM_i hw (va_runS (As := [.int x0, .int x1]) (rest := rest) ⟨E.hx, E.hb, E.hml, E.hown, E.hts⟩ hM ⟨cb_of 2 E.hts wl791 wl44 hlk (by decide +kernel) hR, E.hts _ wl790⟩ ⟨PM_blind, PM_pre E.hK E.hN hw.1⟩ rfl rfl hls rfl (lv_room hrest) hdg hcs) kk
/-! X8_canBe -/
def k8_canBe_B42 (F : Nat) (S : SM) (x1 : Int32) (x2 : Int32) (rec42 : Int32 → Option Int32) (k59 : Int32 → Option Int32) (x3 : Int32) : Option Int32 :=
  if x3 < 0 then (some ((1 : Int32))) else ((rdA 7 (S.1 17) x3).bind fun v_12 => if v_12 = x2 then (k59 (x3)) else (bnd (x3 + (-1)) fun x3_14 => rec42 (x3_14)))
def k8_canBe (F : Nat) (S : SM) (x1 : Int32) : Option Int32 :=
  (rdA 7 (S.1 17) x1).bind fun v_1 => bnd (v_1) fun x2_2 => if x2_2 = (S.1 0 6) then (some ((1 : Int32))) else ((rdA 7 (S.1 8) x1).bind fun v_4 => (rdA 4 (S.1 6) x2_2).bind fun v_5 => (k8_errorOf F S (v_4) (v_5)).bind fun r_7 => if r_7 ≤ ((2 : Int32)) then (bnd (x1 - ((1 : Int32))) fun x3_10 => lpN (fun _ => none) (fun rec42 => k8_canBe_B42 F S (x1) (x2_2) rec42 (fun x3_15 => (rdA 7 (S.1 9) x3_15).bind fun v_16 => (rdA 7 (S.1 9) x1).bind fun v_17 => (k8_least F S (v_16) (v_17)).bind fun r_19 => bnd (r_19) fun x4_21 => if x4_21 = ((-1 : Int32)) then (some ((0 : Int32))) else ((rdA 7 (S.1 10) x1).bind fun v_23 => (rdA 7 (S.1 10) x3_15).bind fun v_24 => if (v_23 - v_24) < ((x4_21 + ((99 : Int32))) / ((100 : Int32))) then (some ((0 : Int32))) else (some ((1 : Int32)))))) F (x3_10)) else (some ((0 : Int32))))
set_option maxRecDepth 100000 in
set_option maxHeartbeats 4000000 in
theorem k8_canBe_b42 {p : Program} {l : Launch} {e : Env} {s : State} {m : MethodId} {args : Array Value} {below : List Frame} {meth : Method} {c : Code} {D : va_G} {a : Nat → Nat} {g : Nat → ClassId} (E : EM p s m args meth c D a g cX8_canBe 5 RX8 (some .boolean)) {F : Nat}  (S : SM) (x1 : Int32) (x2 : Int32) {rec42 : Int32 → Option Int32} {k59 : Int32 → Option Int32} {out : Int32} (hrec42 : ∀ (x3 : Int32) (H : Heap) (locs : List Loc) (ls : Array Slot), rec42 x3 = some out → WM D a g S s H locs → lv_has ls 5 [(0, .ref (a 0)), (1, .int (x1)), (2, .int (x2)), (3, .int (x3))] → W p l e (RM 4) s m args below meth c H locs 0 0 (MQ below (QM D a g (some (.int out)) S) args s 0 0 (AM a)) (F0 m 42 ls [])) (hk59 : ∀ (x3 : Int32) (H : Heap) (locs : List Loc) (ls : Array Slot), k59 x3 = some out → WM D a g S s H locs → lv_has ls 5 [(0, .ref (a 0)), (1, .int (x1)), (3, .int (x3))] → W p l e (RM 4) s m args below meth c H locs 0 0 (MQ below (QM D a g (some (.int out)) S) args s 0 0 (AM a)) (F0 m 59 ls [])) (x3 : Int32) (H : Heap) (locs : List Loc) (ls : Array Slot) (hf : k8_canBe_B42 F S x1 x2 rec42 k59 x3 = some out) (hw : WM D a g S s H locs) (hl : lv_has ls 5 [(0, .ref (a 0)), (1, .int (x1)), (2, .int (x2)), (3, .int (x3))]) : W p l e (RM 4) s m args below meth c H locs 0 0 (MQ below (QM D a g (some (.int out)) S) args s 0 0 (AM a)) (F0 m 42 ls []) := by
  have hx := E.hx
  have hb := E.hb
  unfold k8_canBe_B42 at hf
  refine lv_iload_n hx hb dX8_canBe_42 rfl (lv_at hl 3 rfl) ?_
  refine lv_if_lt (tgt := 119) hx hb dX8_canBe_43 (by decide) (fun c_11 => ?_) (fun c_11 => ?_)
  · replace hf := ite_t hf c_11
    refine lv_iconst hx hb dX8_canBe_119 ic_1 ?_
    cases hf
    exact retM_z E hw nb1 dX8_canBe_120
  · replace hf := ite_f hf c_11
    refine lv_aload_n hx hb dX8_canBe_46 rfl (lv_at hl 0 rfl) ?_
    refine gM_0_23 E hw (E.hts _ wl664) dX8_canBe_47 ?_
    refine lv_iload_n hx hb dX8_canBe_50 rfl (lv_at hl 3 rfl) ?_
    obtain ⟨h_v_12, hf⟩ := rdA_at hf
    refine lM_17 E hw h_v_12 dX8_canBe_51 (fun v_12 ev_12 => ?_)
    replace hf := hf v_12 ev_12
    refine lv_iload_n hx hb dX8_canBe_52 rfl (lv_at hl 2 rfl) ?_
    refine lv_icmp_eq (tgt := 59) hx hb dX8_canBe_53 (by decide) (fun c_13 => ?_) (fun c_13 => ?_)
    · replace hf := ite_t hf c_13
      exact hk59 (x3) _ _ ls hf hw (lv_sub hl [0, 1, 3] rfl)
    · replace hf := ite_f hf c_13
      refine lv_goto (tgt := 113) hx hb dX8_canBe_56 (by decide) ?_
      obtain ⟨x3_14, ex3_14⟩ : ∃ y : Int32, y = x3 + (-1) := ⟨_, rfl⟩
      replace hf := bnd_at hf ex3_14
      refine lv_iinc (v := x3_14) (lv' := [(3, .int (x3_14)), (0, .ref (a 0)), (1, .int (x1)), (2, .int (x2))]) hx hb dX8_canBe_113 hl (k := 3) rfl (by rw [ex3_14]; rfl) (by decide) rfl (fun ls hl => ?_)
      refine lv_goto (tgt := 42) hx hb dX8_canBe_116 (by decide) ?_
      exact hrec42 (x3_14) _ _ ls hf hw (lv_sub hl [1, 2, 3, 0] rfl)
theorem k8_canBe_l42 {p : Program} {l : Launch} {e : Env} {s : State} {m : MethodId} {args : Array Value} {below : List Frame} {meth : Method} {c : Code} {D : va_G} {a : Nat → Nat} {g : Nat → ClassId} (E : EM p s m args meth c D a g cX8_canBe 5 RX8 (some .boolean)) {F : Nat}  (S : SM) (x1 : Int32) (x2 : Int32) {k59 : Int32 → Option Int32} {out : Int32} (hk59 : ∀ (x3 : Int32) (H : Heap) (locs : List Loc) (ls : Array Slot), k59 x3 = some out → WM D a g S s H locs → lv_has ls 5 [(0, .ref (a 0)), (1, .int (x1)), (3, .int (x3))] → W p l e (RM 4) s m args below meth c H locs 0 0 (MQ below (QM D a g (some (.int out)) S) args s 0 0 (AM a)) (F0 m 59 ls [])) : ∀ (n : Nat) (x3 : Int32) (H : Heap) (locs : List Loc) (ls : Array Slot), lpN (fun _ => none) (fun rec42 => k8_canBe_B42 F S x1 x2 rec42 k59) n x3 = some out → WM D a g S s H locs → lv_has ls 5 [(0, .ref (a 0)), (1, .int (x1)), (2, .int (x2)), (3, .int (x3))] → W p l e (RM 4) s m args below meth c H locs 0 0 (MQ below (QM D a g (some (.int out)) S) args s 0 0 (AM a)) (F0 m 42 ls []) := by
  intro n
  induction n with
  | zero => intro x3 H locs ls hf; cases (show (none : Option Int32) = some out from hf)
  | succ n ih => intro x3 H locs ls hf hw hl; exact k8_canBe_b42 E (F := F) S x1 x2 ih hk59 x3 H locs ls hf hw hl
set_option maxRecDepth 100000 in
set_option maxHeartbeats 4000000 in
theorem mk8_canBe {l : Launch} {D : va_G} {a : Nat → Nat} {g : Nat → ClassId} (hD : ∀ S, va_D (AM a) (wM a g S)) {F : Nat} {S : SM} {x1 : Int32} {out : Int32} (hf : k8_canBe F S x1 = some out) : Met l yX8_canBe (wsm yX8_canBe cX8_canBe 5 (some .boolean)) (RM 4) (PM D a g S [.ref (a 0), .int x1]) (QM D a g (some (.int out)) S) 0 0 (AM a) := by
  refine Met.ofW (cc := cX8_canBe) (maxL := 5) (ret := (some .boolean)) (by decide) rfl ?_
  intro p e s m args below meth c s₁ B hml hv
  obtain ⟨rfl, hP, hK, hN⟩ := hv
  have hts := atoms_spec (ws := wsm yX8_canBe cX8_canBe 5 (some .boolean)) B.pre
  have E : EM p s m _ meth c D a g cX8_canBe 5 RX8 (some .boolean) := ⟨B.exec, B.bytes, B.returns, hml, findClass_of_methodNamed B.named, fun w h => hts w (List.mem_cons_of_mem _ h), hK, hN, hD, B.notSynchronized⟩
  have hx := E.hx
  have hb := E.hb
  have hw : WM D a g S s s.heap [] := ⟨hP, va_S.rf⟩
  have hl := lv_entry ([.ref (a 0), .int x1]) (n := 5) (Nat.le_of_ble_eq_true rfl)
  rw [lg_entry_eq]
  generalize (lg_sl ([.ref (a 0), .int x1]) ++ List.replicate (5 - (lg_sl ([.ref (a 0), .int x1])).length) Slot.unset).toArray = ls at hl ⊢
  have hl : lv_has ls 5 [(0, .ref (a 0)), (1, .int (x1))] := hl
  show W p l e (RM 4) s m _ below meth c s.heap [] 0 0 (MQ below (QM D a g (some (.int out)) S) _ s 0 0 (AM a)) (F0 m 0 ls [])
  unfold k8_canBe at hf
  refine lv_aload_n hx hb dX8_canBe_0 rfl (lv_at hl 0 rfl) ?_
  refine gM_0_23 E hw (E.hts _ wl664) dX8_canBe_1 ?_
  refine lv_iload_n hx hb dX8_canBe_4 rfl (lv_at hl 1 rfl) ?_
  obtain ⟨h_v_1, hf⟩ := rdA_at hf
  refine lM_17 E hw h_v_1 dX8_canBe_5 (fun v_1 ev_1 => ?_)
  replace hf := hf v_1 ev_1
  refine lv_topi (fun x2_2 ex2_2 => ?_)
  replace hf := bnd_at hf ex2_2
  refine lv_istore_n (lv' := [(2, .int (x2_2)), (0, .ref (a 0)), (1, .int (x1))]) hx hb dX8_canBe_6 rfl hl (by decide) rfl (fun ls hl => ?_)
  refine lv_iload_n hx hb dX8_canBe_7 rfl (lv_at hl 0 rfl) ?_
  refine lv_aload_n hx hb dX8_canBe_8 rfl (lv_at hl 1 rfl) ?_
  refine gM_0_6 E hw (E.hts _ wl647) dX8_canBe_9 ?_
  refine lv_icmp_ne (tgt := 17) hx hb dX8_canBe_12 (by decide) (fun c_3 => ?_) (fun c_3 => ?_)
  · replace hf := ite_f hf c_3
    refine lv_aload_n hx hb dX8_canBe_17 rfl (lv_at hl 1 rfl) ?_
    refine gM_0_10 E hw (E.hts _ wl651) dX8_canBe_18 ?_
    refine lv_iload_n hx hb dX8_canBe_21 rfl (lv_at hl 2 rfl) ?_
    obtain ⟨h_v_4, hf⟩ := rdA_at hf
    refine lM_8 E hw h_v_4 dX8_canBe_22 (fun v_4 ev_4 => ?_)
    replace hf := hf v_4 ev_4
    refine lv_aload_n hx hb dX8_canBe_23 rfl (lv_at hl 1 rfl) ?_
    refine gM_0_7 E hw (E.hts _ wl648) dX8_canBe_24 ?_
    refine lv_iload_n hx hb dX8_canBe_27 rfl (lv_at hl 0 rfl) ?_
    obtain ⟨h_v_5, hf⟩ := rdA_at hf
    refine lM_6 E hw h_v_5 dX8_canBe_28 (fun v_5 ev_5 => ?_)
    replace hf := hf v_5 ev_5
    obtain ⟨r_7, h_6, hf⟩ := ob_at hf
    refine qk8_errorOf E hw (mk8_errorOf E.hD h_6) wl789 dX8_canBe_29 ⟨Nat.le_of_ble_eq_true rfl, Nat.le_of_ble_eq_true rfl⟩ hl.1 (Nat.le_of_ble_eq_true rfl) ⟨Nat.le_refl 0, Nat.le_refl 0⟩ (fun H locs hw => ?_)
    refine lv_iconst hx hb dX8_canBe_32 ic_2 ?_
    refine lv_icmp_le (tgt := 38) hx hb dX8_canBe_33 (by decide) (fun c_9 => ?_) (fun c_9 => ?_)
    · replace hf := ite_t hf c_9
      refine lv_iload_n hx hb dX8_canBe_38 rfl (lv_at hl 2 rfl) ?_
      refine lv_iconst hx hb dX8_canBe_39 ic_1 ?_
      refine lv_isub hx hb dX8_canBe_40 ?_
      refine lv_topi (fun x3_10 ex3_10 => ?_)
      replace hf := bnd_at hf ex3_10
      refine lv_istore_n (lv' := [(3, .int (x3_10)), (2, .int (x2_2)), (0, .ref (a 0)), (1, .int (x1))]) hx hb dX8_canBe_41 rfl hl (by decide) rfl (fun ls hl => ?_)
      refine k8_canBe_l42 E S (x1) (x2_2) ?_ F (x3_10) _ _ ls hf hw (lv_sub hl [2, 3, 1, 0] rfl)
      · intro x3_15 H locs ls hf hw hl
        refine lv_aload_n hx hb dX8_canBe_59 rfl (lv_at hl 0 rfl) ?_
        refine lv_aload_n hx hb dX8_canBe_60 rfl (lv_at hl 0 rfl) ?_
        refine gM_0_11 E hw (E.hts _ wl652) dX8_canBe_61 ?_
        refine lv_iload_n hx hb dX8_canBe_64 rfl (lv_at hl 2 rfl) ?_
        obtain ⟨h_v_16, hf⟩ := rdA_at hf
        refine lM_9 E hw h_v_16 dX8_canBe_65 (fun v_16 ev_16 => ?_)
        replace hf := hf v_16 ev_16
        refine lv_aload_n hx hb dX8_canBe_66 rfl (lv_at hl 0 rfl) ?_
        refine gM_0_11 E hw (E.hts _ wl652) dX8_canBe_67 ?_
        refine lv_iload_n hx hb dX8_canBe_70 rfl (lv_at hl 1 rfl) ?_
        obtain ⟨h_v_17, hf⟩ := rdA_at hf
        refine lM_9 E hw h_v_17 dX8_canBe_71 (fun v_17 ev_17 => ?_)
        replace hf := hf v_17 ev_17
        obtain ⟨r_19, h_18, hf⟩ := ob_at hf
        refine qk8_least E hw (mk8_least E.hD h_18) wl757 dX8_canBe_72 ⟨Nat.le_of_ble_eq_true rfl, Nat.le_of_ble_eq_true rfl⟩ hl.1 (Nat.le_of_ble_eq_true rfl) ⟨Nat.le_refl 0, Nat.le_refl 0⟩ (fun H locs hw => ?_)
        refine lv_topi (fun x4_21 ex4_21 => ?_)
        replace hf := bnd_at hf ex4_21
        refine lv_istore (lv' := [(4, .int (x4_21)), (0, .ref (a 0)), (1, .int (x1)), (3, .int (x3_15))]) hx hb dX8_canBe_75 hl (by decide) rfl (fun ls hl => ?_)
        refine lv_iload hx hb dX8_canBe_77 (lv_at hl 0 rfl) ?_
        refine lv_iconst hx hb dX8_canBe_79 ic_m1 ?_
        refine lv_icmp_eq (tgt := 111) hx hb dX8_canBe_80 (by decide) (fun c_22 => ?_) (fun c_22 => ?_)
        · replace hf := ite_t hf c_22
          refine lv_iconst hx hb dX8_canBe_111 ic_0 ?_
          cases hf
          exact retM_z E hw nb0 dX8_canBe_112
        · replace hf := ite_f hf c_22
          refine lv_aload_n hx hb dX8_canBe_83 rfl (lv_at hl 1 rfl) ?_
          refine gM_0_12 E hw (E.hts _ wl653) dX8_canBe_84 ?_
          refine lv_iload_n hx hb dX8_canBe_87 rfl (lv_at hl 2 rfl) ?_
          obtain ⟨h_v_23, hf⟩ := rdA_at hf
          refine lM_10 E hw h_v_23 dX8_canBe_88 (fun v_23 ev_23 => ?_)
          replace hf := hf v_23 ev_23
          refine lv_aload_n hx hb dX8_canBe_89 rfl (lv_at hl 1 rfl) ?_
          refine gM_0_12 E hw (E.hts _ wl653) dX8_canBe_90 ?_
          refine lv_iload_n hx hb dX8_canBe_93 rfl (lv_at hl 3 rfl) ?_
          obtain ⟨h_v_24, hf⟩ := rdA_at hf
          refine lM_10 E hw h_v_24 dX8_canBe_94 (fun v_24 ev_24 => ?_)
          replace hf := hf v_24 ev_24
          refine lv_isub hx hb dX8_canBe_95 ?_
          refine lv_iload hx hb dX8_canBe_96 (lv_at hl 0 rfl) ?_
          refine lv_bipush hx hb dX8_canBe_98 bp_99 ?_
          refine lv_iadd hx hb dX8_canBe_100 ?_
          refine lv_bipush hx hb dX8_canBe_101 bp_100 ?_
          refine lv_idiv hx hb dX8_canBe_103 (by decide) ?_
          refine lv_icmp_lt (tgt := 111) hx hb dX8_canBe_104 (by decide) (fun c_25 => ?_) (fun c_25 => ?_)
          · replace hf := ite_t hf c_25
            refine lv_iconst hx hb dX8_canBe_111 ic_0 ?_
            cases hf
            exact retM_z E hw nb0 dX8_canBe_112
          · replace hf := ite_f hf c_25
            refine lv_iconst hx hb dX8_canBe_107 ic_1 ?_
            refine lv_goto (tgt := 112) hx hb dX8_canBe_108 (by decide) ?_
            cases hf
            exact retM_z E hw nb1 dX8_canBe_112
    · replace hf := ite_f hf c_9
      refine lv_iconst hx hb dX8_canBe_36 ic_0 ?_
      cases hf
      exact retM_z E hw nb0 dX8_canBe_37
  · replace hf := ite_t hf c_3
    refine lv_iconst hx hb dX8_canBe_15 ic_1 ?_
    cases hf
    exact retM_z E hw nb1 dX8_canBe_16
theorem qk8_canBe {p : Program} {l : Launch} {e : Env} {R : Room} {s : State} {m : MethodId} {args : Array Value} {below : List Frame} {meth : Method} {c : Code} {H : Heap} {locs : List Loc} {cells slots : Nat} {Q : State → Prop} {cc : ByteArray} {pc : Nat} {ls : Array Slot} {rest : List Value} {D : va_G} {a : Nat → Nat} {g : Nat → ClassId} {nL : Nat} {own : String} {ret : Option FieldType} {S S1 : SM} {k : Nat} {x1 : Int32} {r : Int32} (E : EM p s m args meth c D a g cc nL own ret) (hw : WM D a g S s H locs) (hM : Met l yX8_canBe (wsm yX8_canBe cX8_canBe 5 (some .boolean)) (RM k) (PM D a g S [.ref (a 0), .int x1]) (QM D a g (some (.int r)) S1) 0 0 (AM a)) {idx : Nat} (hlk : Cond.methodLink own idx yX8_canBe ∈ wd) (hdg : decode cc pc = .ok (.invokevirtual idx, 3)) (hR : k + 1 ≤ R.frames ∧ 8 + (5 + 11) + 64 * k ≤ R.locals) (hls : ls.size = nL) (hrest : (rest.map fun v => v.category).sum ≤ 8) (hcs : cells ≤ R.cells ∧ slots ≤ R.slots) (kk : ∀ (H1 : Heap) (locs1 : List Loc), WM D a g S1 s H1 locs1 → W p l e R s m args below meth c H1 locs1 cells slots Q (F0 m (pc + 3) ls (.int r :: rest))) : W p l e R s m args below meth c H locs cells slots Q (F0 m pc ls (.int x1 :: .ref (a 0) :: rest)) :=
  callM_i hw (va_runV (As := [.int x1]) (rest := rest) ⟨E.hx, E.hb, E.hml, E.hown, E.hts⟩ hM ⟨cb_of 1 E.hts wl806 wl44 hlk (by decide +kernel) hR, E.hts _ wl805, E.hts _ wl26⟩ ⟨PM_blind, va_recv E.hK hw.1 (ci := 8) (q0 := 0) rfl rfl, PM_pre E.hK E.hN hw.1⟩ rfl rfl hls rfl (lv_room hrest) hdg hcs) kk
/-! X8_joins -/
def k8_joins_B93 (F : Nat) (S : SM) (x1 : Int32) (x2 : Int32) (rec93 : Int32 → Int32 → Option (Int32 × SM)) (k151 : Int32 → Option (Int32 × SM)) (x3 : Int32) (x4 : Int32) : Option (Int32 × SM) :=
  if (S.1 0 9) ≤ x4 then (k151 (x3)) else ((rdA 7 (S.1 17) x4).bind fun v_18 => if v_18 = (S.1 0 6) then (bnd (x3 + ((3 : Int32))) fun x3_28 => bnd (x4 + (1)) fun x4_29 => rec93 (x3_28) (x4_29)) else ((rdA 7 (S.1 8) x4).bind fun v_20 => (rdA 7 (S.1 17) x4).bind fun v_21 => (rdA 4 (S.1 6) v_21).bind fun v_22 => (k8_errorOf F S (v_20) (v_22)).bind fun r_24 => bnd (x3 + r_24) fun x3_26 => bnd (x4 + (1)) fun x4_27 => rec93 (x3_26) (x4_27)))
def k8_joins_B164 (F : Nat) (x1 : Int32) (x2 : Int32) (rec164 : SM → Int32 → Option (Int32 × SM)) (k193 : SM → Option (Int32 × SM)) (S : SM) (x4 : Int32) : Option (Int32 × SM) :=
  if (S.1 0 9) ≤ x4 then (k193 S) else ((rdA 7 (S.1 17) x4).bind fun v_35 => (ckA 7 x4).bind fun _ => bnd (stM S 18 (Int32.toNatClampNeg x4) v_35) fun S_36 => bnd (x4 + (1)) fun x4_37 => rec164 S_36 (x4_37))
def k8_joins_B21 (F : Nat) (rec21 : SM → Int32 → Int32 → Option (Int32 × SM)) (S : SM) (x1 : Int32) (x2 : Int32) : Option (Int32 × SM) :=
  if x2 < 0 then (some (x1, S)) else ((rdA 7 (S.1 17) x2).bind fun v_6 => (ckA 7 x2).bind fun _ => bnd (stM S 17 (Int32.toNatClampNeg x2) (v_6 + ((1 : Int32)))) fun S_7 => (rdA 7 (S_7.1 17) x2).bind fun v_8 => if v_8 ≤ (S_7.1 0 6) then ((k8_canBe F S_7 (x2)).bind fun r_11 => if r_11 = 0 then (rec21 S_7 (x1) (x2)) else (if (S_7.1 0 9) ≤ (x2 + ((1 : Int32))) then (bnd ((0 : Int32)) fun x3_15 => bnd ((0 : Int32)) fun x4_16 => lpN (fun _ _ => none) (fun rec93 => k8_joins_B93 F S_7 (x1) (x2) rec93 (fun x3_30 => if x3_30 < x1 then (bnd (x3_30) fun x1_32 => bnd ((0 : Int32)) fun x4_33 => lpN (fun _ _ => none) (fun rec164 => k8_joins_B164 F (x1_32) (x2) rec164 (fun S_38 => rec21 S_38 (x1_32) (x2))) F S_7 (x4_33)) else (rec21 S_7 (x1) (x2)))) F (x3_15) (x4_16)) else (bnd (x2 + (1)) fun x2_39 => (ckA 7 x2_39).bind fun _ => bnd (stM S_7 17 (Int32.toNatClampNeg x2_39) ((-1 : Int32))) fun S_40 => rec21 S_40 (x1) (x2_39)))) else (bnd (x2 + (-1)) fun x2_41 => rec21 S_7 (x1) (x2_41)))
def k8_joins (F : Nat) (S : SM) : Option (Int32 × SM) :=
  bnd ((1000000 : Int32)) fun x1_1 => bnd ((0 : Int32)) fun x2_2 => (ckA 7 ((0 : Int32))).bind fun _ => bnd (stM S 17 (Int32.toNatClampNeg ((0 : Int32))) ((-1 : Int32))) fun S_3 => if (S_3.1 0 9) = 0 then (some ((0 : Int32), S_3)) else (lpN (fun _ _ _ => none) (fun rec21 => k8_joins_B21 F rec21 ) F S_3 (x1_1) (x2_2))
set_option maxRecDepth 100000 in
set_option maxHeartbeats 4000000 in
theorem k8_joins_b93 {p : Program} {l : Launch} {e : Env} {s : State} {m : MethodId} {args : Array Value} {below : List Frame} {meth : Method} {c : Code} {D : va_G} {a : Nat → Nat} {g : Nat → ClassId} (E : EM p s m args meth c D a g cX8_joins 5 RX8 (some .int)) {F : Nat}  (S : SM) (x1 : Int32) (x2 : Int32) {rec93 : Int32 → Int32 → Option (Int32 × SM)} {k151 : Int32 → Option (Int32 × SM)} {out : (Int32 × SM)} (hrec93 : ∀ (x3 : Int32) (x4 : Int32) (H : Heap) (locs : List Loc) (ls : Array Slot), rec93 x3 x4 = some out → WM D a g S s H locs → lv_has ls 5 [(0, .ref (a 0)), (1, .int (x1)), (2, .int (x2)), (3, .int (x3)), (4, .int (x4))] → W p l e (RM 5) s m args below meth c H locs 0 0 (MQ below (QM D a g (some (.int out.1)) out.2) args s 0 0 (AM a)) (F0 m 93 ls [])) (hk151 : ∀ (x3 : Int32) (H : Heap) (locs : List Loc) (ls : Array Slot), k151 x3 = some out → WM D a g S s H locs → lv_has ls 5 [(0, .ref (a 0)), (1, .int (x1)), (2, .int (x2)), (3, .int (x3))] → W p l e (RM 5) s m args below meth c H locs 0 0 (MQ below (QM D a g (some (.int out.1)) out.2) args s 0 0 (AM a)) (F0 m 151 ls [])) (x3 : Int32) (x4 : Int32) (H : Heap) (locs : List Loc) (ls : Array Slot) (hf : k8_joins_B93 F S x1 x2 rec93 k151 x3 x4 = some out) (hw : WM D a g S s H locs) (hl : lv_has ls 5 [(0, .ref (a 0)), (1, .int (x1)), (2, .int (x2)), (3, .int (x3)), (4, .int (x4))]) : W p l e (RM 5) s m args below meth c H locs 0 0 (MQ below (QM D a g (some (.int out.1)) out.2) args s 0 0 (AM a)) (F0 m 93 ls []) := by
  have hx := E.hx
  have hb := E.hb
  unfold k8_joins_B93 at hf
  refine lv_iload hx hb dX8_joins_93 (lv_at hl 4 rfl) ?_
  refine lv_aload_n hx hb dX8_joins_95 rfl (lv_at hl 0 rfl) ?_
  refine gM_0_9 E hw (E.hts _ wl650) dX8_joins_96 ?_
  refine lv_icmp_ge (tgt := 151) hx hb dX8_joins_99 (by decide) (fun c_17 => ?_) (fun c_17 => ?_)
  · replace hf := ite_t hf c_17
    exact hk151 (x3) _ _ ls hf hw (lv_sub hl [0, 1, 2, 3] rfl)
  · replace hf := ite_f hf c_17
    refine lv_iload_n hx hb dX8_joins_102 rfl (lv_at hl 3 rfl) ?_
    refine lv_aload_n hx hb dX8_joins_103 rfl (lv_at hl 0 rfl) ?_
    refine gM_0_23 E hw (E.hts _ wl664) dX8_joins_104 ?_
    refine lv_iload hx hb dX8_joins_107 (lv_at hl 4 rfl) ?_
    obtain ⟨h_v_18, hf⟩ := rdA_at hf
    refine lM_17 E hw h_v_18 dX8_joins_109 (fun v_18 ev_18 => ?_)
    replace hf := hf v_18 ev_18
    refine lv_aload_n hx hb dX8_joins_110 rfl (lv_at hl 0 rfl) ?_
    refine gM_0_6 E hw (E.hts _ wl647) dX8_joins_111 ?_
    refine lv_icmp_ne (tgt := 121) hx hb dX8_joins_114 (by decide) (fun c_19 => ?_) (fun c_19 => ?_)
    · replace hf := ite_f hf c_19
      refine lv_aload_n hx hb dX8_joins_121 rfl (lv_at hl 0 rfl) ?_
      refine gM_0_10 E hw (E.hts _ wl651) dX8_joins_122 ?_
      refine lv_iload hx hb dX8_joins_125 (lv_at hl 4 rfl) ?_
      obtain ⟨h_v_20, hf⟩ := rdA_at hf
      refine lM_8 E hw h_v_20 dX8_joins_127 (fun v_20 ev_20 => ?_)
      replace hf := hf v_20 ev_20
      refine lv_aload_n hx hb dX8_joins_128 rfl (lv_at hl 0 rfl) ?_
      refine gM_0_7 E hw (E.hts _ wl648) dX8_joins_129 ?_
      refine lv_aload_n hx hb dX8_joins_132 rfl (lv_at hl 0 rfl) ?_
      refine gM_0_23 E hw (E.hts _ wl664) dX8_joins_133 ?_
      refine lv_iload hx hb dX8_joins_136 (lv_at hl 4 rfl) ?_
      obtain ⟨h_v_21, hf⟩ := rdA_at hf
      refine lM_17 E hw h_v_21 dX8_joins_138 (fun v_21 ev_21 => ?_)
      replace hf := hf v_21 ev_21
      obtain ⟨h_v_22, hf⟩ := rdA_at hf
      refine lM_6 E hw h_v_22 dX8_joins_139 (fun v_22 ev_22 => ?_)
      replace hf := hf v_22 ev_22
      obtain ⟨r_24, h_23, hf⟩ := ob_at hf
      refine qk8_errorOf E hw (mk8_errorOf E.hD h_23) wl789 dX8_joins_140 ⟨Nat.le_of_ble_eq_true rfl, Nat.le_of_ble_eq_true rfl⟩ hl.1 (Nat.le_of_ble_eq_true rfl) ⟨Nat.le_refl 0, Nat.le_refl 0⟩ (fun H locs hw => ?_)
      refine lv_iadd hx hb dX8_joins_143 ?_
      refine lv_topi (fun x3_26 ex3_26 => ?_)
      replace hf := bnd_at hf ex3_26
      refine lv_istore_n (lv' := [(3, .int (x3_26)), (0, .ref (a 0)), (1, .int (x1)), (2, .int (x2)), (4, .int (x4))]) hx hb dX8_joins_144 rfl hl (by decide) rfl (fun ls hl => ?_)
      obtain ⟨x4_27, ex4_27⟩ : ∃ y : Int32, y = x4 + (1) := ⟨_, rfl⟩
      replace hf := bnd_at hf ex4_27
      refine lv_iinc (v := x4_27) (lv' := [(4, .int (x4_27)), (3, .int (x3_26)), (0, .ref (a 0)), (1, .int (x1)), (2, .int (x2))]) hx hb dX8_joins_145 hl (k := 4) rfl (by rw [ex4_27]; rfl) (by decide) rfl (fun ls hl => ?_)
      refine lv_goto (tgt := 93) hx hb dX8_joins_148 (by decide) ?_
      exact hrec93 (x3_26) (x4_27) _ _ ls hf hw (lv_sub hl [2, 3, 4, 1, 0] rfl)
    · replace hf := ite_t hf c_19
      refine lv_iconst hx hb dX8_joins_117 ic_3 ?_
      refine lv_goto (tgt := 143) hx hb dX8_joins_118 (by decide) ?_
      refine lv_iadd hx hb dX8_joins_143 ?_
      refine lv_topi (fun x3_28 ex3_28 => ?_)
      replace hf := bnd_at hf ex3_28
      refine lv_istore_n (lv' := [(3, .int (x3_28)), (0, .ref (a 0)), (1, .int (x1)), (2, .int (x2)), (4, .int (x4))]) hx hb dX8_joins_144 rfl hl (by decide) rfl (fun ls hl => ?_)
      obtain ⟨x4_29, ex4_29⟩ : ∃ y : Int32, y = x4 + (1) := ⟨_, rfl⟩
      replace hf := bnd_at hf ex4_29
      refine lv_iinc (v := x4_29) (lv' := [(4, .int (x4_29)), (3, .int (x3_28)), (0, .ref (a 0)), (1, .int (x1)), (2, .int (x2))]) hx hb dX8_joins_145 hl (k := 4) rfl (by rw [ex4_29]; rfl) (by decide) rfl (fun ls hl => ?_)
      refine lv_goto (tgt := 93) hx hb dX8_joins_148 (by decide) ?_
      exact hrec93 (x3_28) (x4_29) _ _ ls hf hw (lv_sub hl [2, 3, 4, 1, 0] rfl)
theorem k8_joins_l93 {p : Program} {l : Launch} {e : Env} {s : State} {m : MethodId} {args : Array Value} {below : List Frame} {meth : Method} {c : Code} {D : va_G} {a : Nat → Nat} {g : Nat → ClassId} (E : EM p s m args meth c D a g cX8_joins 5 RX8 (some .int)) {F : Nat}  (S : SM) (x1 : Int32) (x2 : Int32) {k151 : Int32 → Option (Int32 × SM)} {out : (Int32 × SM)} (hk151 : ∀ (x3 : Int32) (H : Heap) (locs : List Loc) (ls : Array Slot), k151 x3 = some out → WM D a g S s H locs → lv_has ls 5 [(0, .ref (a 0)), (1, .int (x1)), (2, .int (x2)), (3, .int (x3))] → W p l e (RM 5) s m args below meth c H locs 0 0 (MQ below (QM D a g (some (.int out.1)) out.2) args s 0 0 (AM a)) (F0 m 151 ls [])) : ∀ (n : Nat) (x3 : Int32) (x4 : Int32) (H : Heap) (locs : List Loc) (ls : Array Slot), lpN (fun _ _ => none) (fun rec93 => k8_joins_B93 F S x1 x2 rec93 k151) n x3 x4 = some out → WM D a g S s H locs → lv_has ls 5 [(0, .ref (a 0)), (1, .int (x1)), (2, .int (x2)), (3, .int (x3)), (4, .int (x4))] → W p l e (RM 5) s m args below meth c H locs 0 0 (MQ below (QM D a g (some (.int out.1)) out.2) args s 0 0 (AM a)) (F0 m 93 ls []) := by
  intro n
  induction n with
  | zero => intro x3 x4 H locs ls hf; cases (show (none : Option (Int32 × SM)) = some out from hf)
  | succ n ih => intro x3 x4 H locs ls hf hw hl; exact k8_joins_b93 E (F := F) S x1 x2 ih hk151 x3 x4 H locs ls hf hw hl
set_option maxRecDepth 100000 in
set_option maxHeartbeats 4000000 in
theorem k8_joins_b164 {p : Program} {l : Launch} {e : Env} {s : State} {m : MethodId} {args : Array Value} {below : List Frame} {meth : Method} {c : Code} {D : va_G} {a : Nat → Nat} {g : Nat → ClassId} (E : EM p s m args meth c D a g cX8_joins 5 RX8 (some .int)) {F : Nat}  (x1 : Int32) (x2 : Int32) {rec164 : SM → Int32 → Option (Int32 × SM)} {k193 : SM → Option (Int32 × SM)} {out : (Int32 × SM)} (hrec164 : ∀ (S : SM) (x4 : Int32) (H : Heap) (locs : List Loc) (ls : Array Slot), rec164 S x4 = some out → WM D a g S s H locs → lv_has ls 5 [(0, .ref (a 0)), (1, .int (x1)), (2, .int (x2)), (4, .int (x4))] → W p l e (RM 5) s m args below meth c H locs 0 0 (MQ below (QM D a g (some (.int out.1)) out.2) args s 0 0 (AM a)) (F0 m 164 ls [])) (hk193 : ∀ (S : SM) (H : Heap) (locs : List Loc) (ls : Array Slot), k193 S = some out → WM D a g S s H locs → lv_has ls 5 [(0, .ref (a 0)), (1, .int (x1)), (2, .int (x2))] → W p l e (RM 5) s m args below meth c H locs 0 0 (MQ below (QM D a g (some (.int out.1)) out.2) args s 0 0 (AM a)) (F0 m 193 ls [])) (S : SM) (x4 : Int32) (H : Heap) (locs : List Loc) (ls : Array Slot) (hf : k8_joins_B164 F x1 x2 rec164 k193 S x4 = some out) (hw : WM D a g S s H locs) (hl : lv_has ls 5 [(0, .ref (a 0)), (1, .int (x1)), (2, .int (x2)), (4, .int (x4))]) : W p l e (RM 5) s m args below meth c H locs 0 0 (MQ below (QM D a g (some (.int out.1)) out.2) args s 0 0 (AM a)) (F0 m 164 ls []) := by
  have hx := E.hx
  have hb := E.hb
  unfold k8_joins_B164 at hf
  refine lv_iload hx hb dX8_joins_164 (lv_at hl 3 rfl) ?_
  refine lv_aload_n hx hb dX8_joins_166 rfl (lv_at hl 0 rfl) ?_
  refine gM_0_9 E hw (E.hts _ wl650) dX8_joins_167 ?_
  refine lv_icmp_ge (tgt := 193) hx hb dX8_joins_170 (by decide) (fun c_34 => ?_) (fun c_34 => ?_)
  · replace hf := ite_t hf c_34
    exact hk193 S _ _ ls hf hw (lv_sub hl [0, 1, 2] rfl)
  · replace hf := ite_f hf c_34
    refine lv_aload_n hx hb dX8_joins_173 rfl (lv_at hl 0 rfl) ?_
    refine gM_0_24 E hw (E.hts _ wl665) dX8_joins_174 ?_
    refine lv_iload hx hb dX8_joins_177 (lv_at hl 3 rfl) ?_
    refine lv_aload_n hx hb dX8_joins_179 rfl (lv_at hl 0 rfl) ?_
    refine gM_0_23 E hw (E.hts _ wl664) dX8_joins_180 ?_
    refine lv_iload hx hb dX8_joins_183 (lv_at hl 3 rfl) ?_
    obtain ⟨h_v_35, hf⟩ := rdA_at hf
    refine lM_17 E hw h_v_35 dX8_joins_185 (fun v_35 ev_35 => ?_)
    replace hf := hf v_35 ev_35
    obtain ⟨h_S_36, hf⟩ := ckA_at hf
    refine sM_18 E hw h_S_36 dX8_joins_186 (fun S_36 eS_36 H locs hw => ?_)
    replace hf := bnd_at hf eS_36
    obtain ⟨x4_37, ex4_37⟩ : ∃ y : Int32, y = x4 + (1) := ⟨_, rfl⟩
    replace hf := bnd_at hf ex4_37
    refine lv_iinc (v := x4_37) (lv' := [(4, .int (x4_37)), (0, .ref (a 0)), (1, .int (x1)), (2, .int (x2))]) hx hb dX8_joins_187 hl (k := 3) rfl (by rw [ex4_37]; rfl) (by decide) rfl (fun ls hl => ?_)
    refine lv_goto (tgt := 164) hx hb dX8_joins_190 (by decide) ?_
    exact hrec164 S_36 (x4_37) _ _ ls hf hw (lv_sub hl [1, 2, 3, 0] rfl)
theorem k8_joins_l164 {p : Program} {l : Launch} {e : Env} {s : State} {m : MethodId} {args : Array Value} {below : List Frame} {meth : Method} {c : Code} {D : va_G} {a : Nat → Nat} {g : Nat → ClassId} (E : EM p s m args meth c D a g cX8_joins 5 RX8 (some .int)) {F : Nat}  (x1 : Int32) (x2 : Int32) {k193 : SM → Option (Int32 × SM)} {out : (Int32 × SM)} (hk193 : ∀ (S : SM) (H : Heap) (locs : List Loc) (ls : Array Slot), k193 S = some out → WM D a g S s H locs → lv_has ls 5 [(0, .ref (a 0)), (1, .int (x1)), (2, .int (x2))] → W p l e (RM 5) s m args below meth c H locs 0 0 (MQ below (QM D a g (some (.int out.1)) out.2) args s 0 0 (AM a)) (F0 m 193 ls [])) : ∀ (n : Nat) (S : SM) (x4 : Int32) (H : Heap) (locs : List Loc) (ls : Array Slot), lpN (fun _ _ => none) (fun rec164 => k8_joins_B164 F x1 x2 rec164 k193) n S x4 = some out → WM D a g S s H locs → lv_has ls 5 [(0, .ref (a 0)), (1, .int (x1)), (2, .int (x2)), (4, .int (x4))] → W p l e (RM 5) s m args below meth c H locs 0 0 (MQ below (QM D a g (some (.int out.1)) out.2) args s 0 0 (AM a)) (F0 m 164 ls []) := by
  intro n
  induction n with
  | zero => intro S x4 H locs ls hf; cases (show (none : Option (Int32 × SM)) = some out from hf)
  | succ n ih => intro S x4 H locs ls hf hw hl; exact k8_joins_b164 E (F := F) x1 x2 ih hk193 S x4 H locs ls hf hw hl
set_option maxRecDepth 100000 in
set_option maxHeartbeats 4000000 in
theorem k8_joins_b21 {p : Program} {l : Launch} {e : Env} {s : State} {m : MethodId} {args : Array Value} {below : List Frame} {meth : Method} {c : Code} {D : va_G} {a : Nat → Nat} {g : Nat → ClassId} (E : EM p s m args meth c D a g cX8_joins 5 RX8 (some .int)) {F : Nat}  {rec21 : SM → Int32 → Int32 → Option (Int32 × SM)} {out : (Int32 × SM)} (hrec21 : ∀ (S : SM) (x1 : Int32) (x2 : Int32) (H : Heap) (locs : List Loc) (ls : Array Slot), rec21 S x1 x2 = some out → WM D a g S s H locs → lv_has ls 5 [(0, .ref (a 0)), (1, .int (x1)), (2, .int (x2))] → W p l e (RM 5) s m args below meth c H locs 0 0 (MQ below (QM D a g (some (.int out.1)) out.2) args s 0 0 (AM a)) (F0 m 21 ls []))  (S : SM) (x1 : Int32) (x2 : Int32) (H : Heap) (locs : List Loc) (ls : Array Slot) (hf : k8_joins_B21 F rec21 S x1 x2 = some out) (hw : WM D a g S s H locs) (hl : lv_has ls 5 [(0, .ref (a 0)), (1, .int (x1)), (2, .int (x2))]) : W p l e (RM 5) s m args below meth c H locs 0 0 (MQ below (QM D a g (some (.int out.1)) out.2) args s 0 0 (AM a)) (F0 m 21 ls []) := by
  have hx := E.hx
  have hb := E.hb
  unfold k8_joins_B21 at hf
  refine lv_iload_n hx hb dX8_joins_21 rfl (lv_at hl 2 rfl) ?_
  refine lv_if_lt (tgt := 196) hx hb dX8_joins_22 (by decide) (fun c_5 => ?_) (fun c_5 => ?_)
  · replace hf := ite_t hf c_5
    refine lv_iload_n hx hb dX8_joins_196 rfl (lv_at hl 1 rfl) ?_
    cases hf
    exact retM_i E hw dX8_joins_197
  · replace hf := ite_f hf c_5
    refine lv_aload_n hx hb dX8_joins_25 rfl (lv_at hl 0 rfl) ?_
    refine gM_0_23 E hw (E.hts _ wl664) dX8_joins_26 ?_
    refine lv_iload_n hx hb dX8_joins_29 rfl (lv_at hl 2 rfl) ?_
    refine lv_dup2_11 hx hb dX8_joins_30 rfl rfl ?_
    obtain ⟨h_v_6, hf⟩ := rdA_at hf
    refine lM_17 E hw h_v_6 dX8_joins_31 (fun v_6 ev_6 => ?_)
    replace hf := hf v_6 ev_6
    refine lv_iconst hx hb dX8_joins_32 ic_1 ?_
    refine lv_iadd hx hb dX8_joins_33 ?_
    obtain ⟨h_S_7, hf⟩ := ckA_at hf
    refine sM_17 E hw h_S_7 dX8_joins_34 (fun S_7 eS_7 H locs hw => ?_)
    replace hf := bnd_at hf eS_7
    refine lv_aload_n hx hb dX8_joins_35 rfl (lv_at hl 0 rfl) ?_
    refine gM_0_23 E hw (E.hts _ wl664) dX8_joins_36 ?_
    refine lv_iload_n hx hb dX8_joins_39 rfl (lv_at hl 2 rfl) ?_
    obtain ⟨h_v_8, hf⟩ := rdA_at hf
    refine lM_17 E hw h_v_8 dX8_joins_40 (fun v_8 ev_8 => ?_)
    replace hf := hf v_8 ev_8
    refine lv_aload_n hx hb dX8_joins_41 rfl (lv_at hl 0 rfl) ?_
    refine gM_0_6 E hw (E.hts _ wl647) dX8_joins_42 ?_
    refine lv_icmp_le (tgt := 54) hx hb dX8_joins_45 (by decide) (fun c_9 => ?_) (fun c_9 => ?_)
    · replace hf := ite_t hf c_9
      refine lv_aload_n hx hb dX8_joins_54 rfl (lv_at hl 0 rfl) ?_
      refine lv_iload_n hx hb dX8_joins_55 rfl (lv_at hl 2 rfl) ?_
      obtain ⟨r_11, h_10, hf⟩ := ob_at hf
      refine qk8_canBe E hw (mk8_canBe E.hD h_10) wl803 dX8_joins_56 ⟨Nat.le_of_ble_eq_true rfl, Nat.le_of_ble_eq_true rfl⟩ hl.1 (Nat.le_of_ble_eq_true rfl) ⟨Nat.le_refl 0, Nat.le_refl 0⟩ (fun H locs hw => ?_)
      refine lv_if_ne (tgt := 65) hx hb dX8_joins_59 (by decide) (fun c_13 => ?_) (fun c_13 => ?_)
      · replace hf := ite_f hf c_13
        refine lv_iload_n hx hb dX8_joins_65 rfl (lv_at hl 2 rfl) ?_
        refine lv_iconst hx hb dX8_joins_66 ic_1 ?_
        refine lv_iadd hx hb dX8_joins_67 ?_
        refine lv_aload_n hx hb dX8_joins_68 rfl (lv_at hl 0 rfl) ?_
        refine gM_0_9 E hw (E.hts _ wl650) dX8_joins_69 ?_
        refine lv_icmp_ge (tgt := 88) hx hb dX8_joins_72 (by decide) (fun c_14 => ?_) (fun c_14 => ?_)
        · replace hf := ite_t hf c_14
          refine lv_iconst hx hb dX8_joins_88 ic_0 ?_
          refine lv_topi (fun x3_15 ex3_15 => ?_)
          replace hf := bnd_at hf ex3_15
          refine lv_istore_n (lv' := [(3, .int (x3_15)), (0, .ref (a 0)), (1, .int (x1)), (2, .int (x2))]) hx hb dX8_joins_89 rfl hl (by decide) rfl (fun ls hl => ?_)
          refine lv_iconst hx hb dX8_joins_90 ic_0 ?_
          refine lv_topi (fun x4_16 ex4_16 => ?_)
          replace hf := bnd_at hf ex4_16
          refine lv_istore (lv' := [(4, .int (x4_16)), (3, .int (x3_15)), (0, .ref (a 0)), (1, .int (x1)), (2, .int (x2))]) hx hb dX8_joins_91 hl (by decide) rfl (fun ls hl => ?_)
          refine k8_joins_l93 E S_7 (x1) (x2) ?_ F (x3_15) (x4_16) _ _ ls hf hw (lv_sub hl [2, 3, 4, 1, 0] rfl)
          · intro x3_30 H locs ls hf hw hl
            refine lv_iload_n hx hb dX8_joins_151 rfl (lv_at hl 3 rfl) ?_
            refine lv_iload_n hx hb dX8_joins_152 rfl (lv_at hl 1 rfl) ?_
            refine lv_icmp_lt (tgt := 159) hx hb dX8_joins_153 (by decide) (fun c_31 => ?_) (fun c_31 => ?_)
            · replace hf := ite_t hf c_31
              refine lv_iload_n hx hb dX8_joins_159 rfl (lv_at hl 3 rfl) ?_
              refine lv_topi (fun x1_32 ex1_32 => ?_)
              replace hf := bnd_at hf ex1_32
              refine lv_istore_n (lv' := [(1, .int (x1_32)), (0, .ref (a 0)), (2, .int (x2)), (3, .int (x3_30))]) hx hb dX8_joins_160 rfl hl (by decide) rfl (fun ls hl => ?_)
              refine lv_iconst hx hb dX8_joins_161 ic_0 ?_
              refine lv_topi (fun x4_33 ex4_33 => ?_)
              replace hf := bnd_at hf ex4_33
              refine lv_istore (lv' := [(4, .int (x4_33)), (1, .int (x1_32)), (0, .ref (a 0)), (2, .int (x2)), (3, .int (x3_30))]) hx hb dX8_joins_162 hl (by decide) rfl (fun ls hl => ?_)
              refine k8_joins_l164 E (x1_32) (x2) ?_ F S_7 (x4_33) _ _ ls hf hw (lv_sub hl [2, 1, 3, 0] rfl)
              · intro S_38 H locs ls hf hw hl
                refine lv_goto (tgt := 21) hx hb dX8_joins_193 (by decide) ?_
                exact hrec21 S_38 (x1_32) (x2) _ _ ls hf hw (lv_sub hl [0, 1, 2] rfl)
            · replace hf := ite_f hf c_31
              refine lv_goto (tgt := 21) hx hb dX8_joins_156 (by decide) ?_
              exact hrec21 S_7 (x1) (x2) _ _ ls hf hw (lv_sub hl [0, 1, 2] rfl)
        · replace hf := ite_f hf c_14
          obtain ⟨x2_39, ex2_39⟩ : ∃ y : Int32, y = x2 + (1) := ⟨_, rfl⟩
          replace hf := bnd_at hf ex2_39
          refine lv_iinc (v := x2_39) (lv' := [(2, .int (x2_39)), (0, .ref (a 0)), (1, .int (x1))]) hx hb dX8_joins_75 hl (k := 2) rfl (by rw [ex2_39]; rfl) (by decide) rfl (fun ls hl => ?_)
          refine lv_aload_n hx hb dX8_joins_78 rfl (lv_at hl 1 rfl) ?_
          refine gM_0_23 E hw (E.hts _ wl664) dX8_joins_79 ?_
          refine lv_iload_n hx hb dX8_joins_82 rfl (lv_at hl 0 rfl) ?_
          refine lv_iconst hx hb dX8_joins_83 ic_m1 ?_
          obtain ⟨h_S_40, hf⟩ := ckA_at hf
          refine sM_17 E hw h_S_40 dX8_joins_84 (fun S_40 eS_40 H locs hw => ?_)
          replace hf := bnd_at hf eS_40
          refine lv_goto (tgt := 21) hx hb dX8_joins_85 (by decide) ?_
          exact hrec21 S_40 (x1) (x2_39) _ _ ls hf hw (lv_sub hl [1, 2, 0] rfl)
      · replace hf := ite_t hf c_13
        refine lv_goto (tgt := 21) hx hb dX8_joins_62 (by decide) ?_
        exact hrec21 S_7 (x1) (x2) _ _ ls hf hw (lv_sub hl [0, 1, 2] rfl)
    · replace hf := ite_f hf c_9
      obtain ⟨x2_41, ex2_41⟩ : ∃ y : Int32, y = x2 + (-1) := ⟨_, rfl⟩
      replace hf := bnd_at hf ex2_41
      refine lv_iinc (v := x2_41) (lv' := [(2, .int (x2_41)), (0, .ref (a 0)), (1, .int (x1))]) hx hb dX8_joins_48 hl (k := 2) rfl (by rw [ex2_41]; rfl) (by decide) rfl (fun ls hl => ?_)
      refine lv_goto (tgt := 21) hx hb dX8_joins_51 (by decide) ?_
      exact hrec21 S_7 (x1) (x2_41) _ _ ls hf hw (lv_sub hl [1, 2, 0] rfl)
theorem k8_joins_l21 {p : Program} {l : Launch} {e : Env} {s : State} {m : MethodId} {args : Array Value} {below : List Frame} {meth : Method} {c : Code} {D : va_G} {a : Nat → Nat} {g : Nat → ClassId} (E : EM p s m args meth c D a g cX8_joins 5 RX8 (some .int)) {F : Nat}  {out : (Int32 × SM)}  : ∀ (n : Nat) (S : SM) (x1 : Int32) (x2 : Int32) (H : Heap) (locs : List Loc) (ls : Array Slot), lpN (fun _ _ _ => none) (fun rec21 => k8_joins_B21 F rec21) n S x1 x2 = some out → WM D a g S s H locs → lv_has ls 5 [(0, .ref (a 0)), (1, .int (x1)), (2, .int (x2))] → W p l e (RM 5) s m args below meth c H locs 0 0 (MQ below (QM D a g (some (.int out.1)) out.2) args s 0 0 (AM a)) (F0 m 21 ls []) := by
  intro n
  induction n with
  | zero => intro S x1 x2 H locs ls hf; cases (show (none : Option (Int32 × SM)) = some out from hf)
  | succ n ih => intro S x1 x2 H locs ls hf hw hl; exact k8_joins_b21 E (F := F) ih S x1 x2 H locs ls hf hw hl
set_option maxRecDepth 100000 in
set_option maxHeartbeats 4000000 in
theorem mk8_joins {l : Launch} {D : va_G} {a : Nat → Nat} {g : Nat → ClassId} (hD : ∀ S, va_D (AM a) (wM a g S)) {F : Nat} {S : SM} {out : (Int32 × SM)} (hf : k8_joins F S  = some out) : Met l yX8_joins (wsm yX8_joins cX8_joins 5 (some .int)) (RM 5) (PM D a g S [.ref (a 0)]) (QM D a g (some (.int out.1)) out.2) 0 0 (AM a) := by
  refine Met.ofW (cc := cX8_joins) (maxL := 5) (ret := (some .int)) (by decide) rfl ?_
  intro p e s m args below meth c s₁ B hml hv
  obtain ⟨rfl, hP, hK, hN⟩ := hv
  have hts := atoms_spec (ws := wsm yX8_joins cX8_joins 5 (some .int)) B.pre
  have E : EM p s m _ meth c D a g cX8_joins 5 RX8 (some .int) := ⟨B.exec, B.bytes, B.returns, hml, findClass_of_methodNamed B.named, fun w h => hts w (List.mem_cons_of_mem _ h), hK, hN, hD, B.notSynchronized⟩
  have hx := E.hx
  have hb := E.hb
  have hw : WM D a g S s s.heap [] := ⟨hP, va_S.rf⟩
  have hl := lv_entry ([.ref (a 0)]) (n := 5) (Nat.le_of_ble_eq_true rfl)
  rw [lg_entry_eq]
  generalize (lg_sl ([.ref (a 0)]) ++ List.replicate (5 - (lg_sl ([.ref (a 0)])).length) Slot.unset).toArray = ls at hl ⊢
  have hl : lv_has ls 5 [(0, .ref (a 0))] := hl
  show W p l e (RM 5) s m _ below meth c s.heap [] 0 0 (MQ below (QM D a g (some (.int out.1)) out.2) _ s 0 0 (AM a)) (F0 m 0 ls [])
  unfold k8_joins at hf
  refine lv_ldc hx hb E.hown (E.hts _ wl640) dX8_joins_0 ?_
  refine lv_topi (fun x1_1 ex1_1 => ?_)
  replace hf := bnd_at hf ex1_1
  refine lv_istore_n (lv' := [(1, .int (x1_1)), (0, .ref (a 0))]) hx hb dX8_joins_2 rfl hl (by decide) rfl (fun ls hl => ?_)
  refine lv_iconst hx hb dX8_joins_3 ic_0 ?_
  refine lv_topi (fun x2_2 ex2_2 => ?_)
  replace hf := bnd_at hf ex2_2
  refine lv_istore_n (lv' := [(2, .int (x2_2)), (1, .int (x1_1)), (0, .ref (a 0))]) hx hb dX8_joins_4 rfl hl (by decide) rfl (fun ls hl => ?_)
  refine lv_aload_n hx hb dX8_joins_5 rfl (lv_at hl 2 rfl) ?_
  refine gM_0_23 E hw (E.hts _ wl664) dX8_joins_6 ?_
  refine lv_iconst hx hb dX8_joins_9 ic_0 ?_
  refine lv_iconst hx hb dX8_joins_10 ic_m1 ?_
  obtain ⟨h_S_3, hf⟩ := ckA_at hf
  refine sM_17 E hw h_S_3 dX8_joins_11 (fun S_3 eS_3 H locs hw => ?_)
  replace hf := bnd_at hf eS_3
  refine lv_aload_n hx hb dX8_joins_12 rfl (lv_at hl 2 rfl) ?_
  refine gM_0_9 E hw (E.hts _ wl650) dX8_joins_13 ?_
  refine lv_if_ne (tgt := 21) hx hb dX8_joins_16 (by decide) (fun c_4 => ?_) (fun c_4 => ?_)
  · replace hf := ite_f hf c_4
    refine k8_joins_l21 E  F S_3 (x1_1) (x2_2) _ _ ls hf hw (lv_sub hl [2, 1, 0] rfl)
  · replace hf := ite_t hf c_4
    refine lv_iconst hx hb dX8_joins_19 ic_0 ?_
    cases hf
    exact retM_i E hw dX8_joins_20
theorem qk8_joins {p : Program} {l : Launch} {e : Env} {R : Room} {s : State} {m : MethodId} {args : Array Value} {below : List Frame} {meth : Method} {c : Code} {H : Heap} {locs : List Loc} {cells slots : Nat} {Q : State → Prop} {cc : ByteArray} {pc : Nat} {ls : Array Slot} {rest : List Value} {D : va_G} {a : Nat → Nat} {g : Nat → ClassId} {nL : Nat} {own : String} {ret : Option FieldType} {S S1 : SM} {k : Nat} {r : Int32} (E : EM p s m args meth c D a g cc nL own ret) (hw : WM D a g S s H locs) (hM : Met l yX8_joins (wsm yX8_joins cX8_joins 5 (some .int)) (RM k) (PM D a g S [.ref (a 0)]) (QM D a g (some (.int r)) S1) 0 0 (AM a)) {idx : Nat} (hlk : Cond.methodLink own idx yX8_joins ∈ wd) (hdg : decode cc pc = .ok (.invokevirtual idx, 3)) (hR : k + 1 ≤ R.frames ∧ 8 + (5 + 11) + 64 * k ≤ R.locals) (hls : ls.size = nL) (hrest : (rest.map fun v => v.category).sum ≤ 8) (hcs : cells ≤ R.cells ∧ slots ≤ R.slots) (kk : ∀ (H1 : Heap) (locs1 : List Loc), WM D a g S1 s H1 locs1 → W p l e R s m args below meth c H1 locs1 cells slots Q (F0 m (pc + 3) ls (.int r :: rest))) : W p l e R s m args below meth c H locs cells slots Q (F0 m pc ls (.ref (a 0) :: rest)) :=
  callM_i hw (va_runV (As := []) (rest := rest) ⟨E.hx, E.hb, E.hml, E.hown, E.hts⟩ hM ⟨cb_of 0 E.hts wl802 wl44 hlk (by decide +kernel) hR, E.hts _ wl801, E.hts _ wl25⟩ ⟨PM_blind, va_recv E.hK hw.1 (ci := 8) (q0 := 0) rfl rfl, PM_pre E.hK E.hN hw.1⟩ rfl rfl hls rfl (lv_room hrest) hdg hcs) kk
/-! X8_owes -/
def k8_owes_B8_J56 (F : Nat) (S : SM) (x1 : Int32) (x2 : Int32) (rec8 : Int32 → Int32 → Int32 → Option Int32) (k109 : Int32 → Option Int32) (x3 : Int32) (x4 : Int32) (x5 : Int32) (s0 : Int32) : Option Int32 :=
  bnd (s0) fun x6_10 => if x4 = ((-1 : Int32)) then (bnd (x5) fun x4_12 => bnd (x5 + (1)) fun x5_13 => rec8 (x3) (x4_12) (x5_13)) else ((rdA 7 (S.1 11) x4).bind fun v_14 => if v_14 = x2 then (if x6_10 ≤ (S.1 0 14) then (bnd (x5) fun x4_19 => bnd (x5 + (1)) fun x5_20 => rec8 (x3) (x4_19) (x5_20)) else (bnd (x3 + ((x6_10 - (S.1 0 14)) * (S.1 0 15))) fun x3_21 => bnd (x5) fun x4_22 => bnd (x5 + (1)) fun x5_23 => rec8 (x3_21) (x4_22) (x5_23))) else (bnd (x5) fun x4_16 => bnd (x5 + (1)) fun x5_17 => rec8 (x3) (x4_16) (x5_17)))
def k8_owes_B8 (F : Nat) (S : SM) (x1 : Int32) (x2 : Int32) (rec8 : Int32 → Int32 → Int32 → Option Int32) (k109 : Int32 → Option Int32) (x3 : Int32) (x4 : Int32) (x5 : Int32) : Option Int32 :=
  if (S.1 0 9) ≤ x5 then (k109 (x3)) else ((rdA 7 (S.1 18) x5).bind fun v_5 => if v_5 = x1 then (if x4 = ((-1 : Int32)) then (k8_owes_B8_J56 F S x1 x2 rec8 k109 (x3) (x4) (x5) ((0 : Int32))) else ((rdA 7 (S.1 10) x5).bind fun v_8 => (rdA 7 (S.1 10) x4).bind fun v_9 => k8_owes_B8_J56 F S x1 x2 rec8 k109 (x3) (x4) (x5) (v_8 - v_9))) else (bnd (x5 + (1)) fun x5_24 => rec8 (x3) (x4) (x5_24)))
def k8_owes (F : Nat) (S : SM) (x1 : Int32) (x2 : Int32) : Option Int32 :=
  bnd ((0 : Int32)) fun x3_1 => bnd ((-1 : Int32)) fun x4_2 => bnd ((0 : Int32)) fun x5_3 => lpN (fun _ _ _ => none) (fun rec8 => k8_owes_B8 F S (x1) (x2) rec8 (fun x3_25 => (rdA 4 (S.1 7) x1).bind fun v_26 => if x2 = v_26 then (some ((0 : Int32))) else (some (x3_25)))) F (x3_1) (x4_2) (x5_3)
set_option maxRecDepth 100000 in
set_option maxHeartbeats 4000000 in
theorem k8_owes_B8_J56_j {p : Program} {l : Launch} {e : Env} {s : State} {m : MethodId} {args : Array Value} {below : List Frame} {meth : Method} {c : Code} {D : va_G} {a : Nat → Nat} {g : Nat → ClassId} (E : EM p s m args meth c D a g cX8_owes 7 RX8 (some .int)) {F : Nat}  (S : SM) (x1 : Int32) (x2 : Int32) {rec8 : Int32 → Int32 → Int32 → Option Int32} {k109 : Int32 → Option Int32} {out : Int32} (hrec8 : ∀ (x3 : Int32) (x4 : Int32) (x5 : Int32) (H : Heap) (locs : List Loc) (ls : Array Slot), rec8 x3 x4 x5 = some out → WM D a g S s H locs → lv_has ls 7 [(0, .ref (a 0)), (1, .int (x1)), (2, .int (x2)), (3, .int (x3)), (4, .int (x4)), (5, .int (x5))] → W p l e (RM 1) s m args below meth c H locs 0 0 (MQ below (QM D a g (some (.int out)) S) args s 0 0 (AM a)) (F0 m 8 ls [])) (hk109 : ∀ (x3 : Int32) (H : Heap) (locs : List Loc) (ls : Array Slot), k109 x3 = some out → WM D a g S s H locs → lv_has ls 7 [(0, .ref (a 0)), (1, .int (x1)), (2, .int (x2)), (3, .int (x3))] → W p l e (RM 1) s m args below meth c H locs 0 0 (MQ below (QM D a g (some (.int out)) S) args s 0 0 (AM a)) (F0 m 109 ls [])) (x3 : Int32) (x4 : Int32) (x5 : Int32) (s0 : Int32) (H : Heap) (locs : List Loc) (ls : Array Slot) (hf : k8_owes_B8_J56 F S x1 x2 rec8 k109 x3 x4 x5 s0 = some out) (hw : WM D a g S s H locs) (hl : lv_has ls 7 [(0, .ref (a 0)), (1, .int (x1)), (2, .int (x2)), (3, .int (x3)), (4, .int (x4)), (5, .int (x5))]) : W p l e (RM 1) s m args below meth c H locs 0 0 (MQ below (QM D a g (some (.int out)) S) args s 0 0 (AM a)) (F0 m 56 ls [.int (s0)]) := by
  have hx := E.hx
  have hb := E.hb
  unfold k8_owes_B8_J56 at hf
  refine lv_topi (fun x6_10 ex6_10 => ?_)
  replace hf := bnd_at hf ex6_10
  refine lv_istore (lv' := [(6, .int (x6_10)), (0, .ref (a 0)), (1, .int (x1)), (2, .int (x2)), (3, .int (x3)), (4, .int (x4)), (5, .int (x5))]) hx hb dX8_owes_56 hl (by decide) rfl (fun ls hl => ?_)
  refine lv_iload hx hb dX8_owes_58 (lv_at hl 5 rfl) ?_
  refine lv_iconst hx hb dX8_owes_60 ic_m1 ?_
  refine lv_icmp_eq (tgt := 99) hx hb dX8_owes_61 (by decide) (fun c_11 => ?_) (fun c_11 => ?_)
  · replace hf := ite_t hf c_11
    refine lv_iload hx hb dX8_owes_99 (lv_at hl 6 rfl) ?_
    refine lv_topi (fun x4_12 ex4_12 => ?_)
    replace hf := bnd_at hf ex4_12
    refine lv_istore (lv' := [(4, .int (x4_12)), (6, .int (x6_10)), (0, .ref (a 0)), (1, .int (x1)), (2, .int (x2)), (3, .int (x3)), (5, .int (x5))]) hx hb dX8_owes_101 hl (by decide) rfl (fun ls hl => ?_)
    obtain ⟨x5_13, ex5_13⟩ : ∃ y : Int32, y = x5 + (1) := ⟨_, rfl⟩
    replace hf := bnd_at hf ex5_13
    refine lv_iinc (v := x5_13) (lv' := [(5, .int (x5_13)), (4, .int (x4_12)), (6, .int (x6_10)), (0, .ref (a 0)), (1, .int (x1)), (2, .int (x2)), (3, .int (x3))]) hx hb dX8_owes_103 hl (k := 6) rfl (by rw [ex5_13]; rfl) (by decide) rfl (fun ls hl => ?_)
    refine lv_goto (tgt := 8) hx hb dX8_owes_106 (by decide) ?_
    exact hrec8 (x3) (x4_12) (x5_13) _ _ ls hf hw (lv_sub hl [3, 4, 5, 6, 1, 0] rfl)
  · replace hf := ite_f hf c_11
    refine lv_aload_n hx hb dX8_owes_64 rfl (lv_at hl 1 rfl) ?_
    refine gM_0_13 E hw (E.hts _ wl654) dX8_owes_65 ?_
    refine lv_iload hx hb dX8_owes_68 (lv_at hl 5 rfl) ?_
    obtain ⟨h_v_14, hf⟩ := rdA_at hf
    refine lM_11 E hw h_v_14 dX8_owes_70 (fun v_14 ev_14 => ?_)
    replace hf := hf v_14 ev_14
    refine lv_iload_n hx hb dX8_owes_71 rfl (lv_at hl 3 rfl) ?_
    refine lv_icmp_ne (tgt := 99) hx hb dX8_owes_72 (by decide) (fun c_15 => ?_) (fun c_15 => ?_)
    · replace hf := ite_f hf c_15
      refine lv_iload hx hb dX8_owes_99 (lv_at hl 6 rfl) ?_
      refine lv_topi (fun x4_16 ex4_16 => ?_)
      replace hf := bnd_at hf ex4_16
      refine lv_istore (lv' := [(4, .int (x4_16)), (6, .int (x6_10)), (0, .ref (a 0)), (1, .int (x1)), (2, .int (x2)), (3, .int (x3)), (5, .int (x5))]) hx hb dX8_owes_101 hl (by decide) rfl (fun ls hl => ?_)
      obtain ⟨x5_17, ex5_17⟩ : ∃ y : Int32, y = x5 + (1) := ⟨_, rfl⟩
      replace hf := bnd_at hf ex5_17
      refine lv_iinc (v := x5_17) (lv' := [(5, .int (x5_17)), (4, .int (x4_16)), (6, .int (x6_10)), (0, .ref (a 0)), (1, .int (x1)), (2, .int (x2)), (3, .int (x3))]) hx hb dX8_owes_103 hl (k := 6) rfl (by rw [ex5_17]; rfl) (by decide) rfl (fun ls hl => ?_)
      refine lv_goto (tgt := 8) hx hb dX8_owes_106 (by decide) ?_
      exact hrec8 (x3) (x4_16) (x5_17) _ _ ls hf hw (lv_sub hl [3, 4, 5, 6, 1, 0] rfl)
    · replace hf := ite_t hf c_15
      refine lv_iload hx hb dX8_owes_75 (lv_at hl 0 rfl) ?_
      refine lv_aload_n hx hb dX8_owes_77 rfl (lv_at hl 1 rfl) ?_
      refine gM_0_14 E hw (E.hts _ wl655) dX8_owes_78 ?_
      refine lv_icmp_le (tgt := 99) hx hb dX8_owes_81 (by decide) (fun c_18 => ?_) (fun c_18 => ?_)
      · replace hf := ite_t hf c_18
        refine lv_iload hx hb dX8_owes_99 (lv_at hl 6 rfl) ?_
        refine lv_topi (fun x4_19 ex4_19 => ?_)
        replace hf := bnd_at hf ex4_19
        refine lv_istore (lv' := [(4, .int (x4_19)), (6, .int (x6_10)), (0, .ref (a 0)), (1, .int (x1)), (2, .int (x2)), (3, .int (x3)), (5, .int (x5))]) hx hb dX8_owes_101 hl (by decide) rfl (fun ls hl => ?_)
        obtain ⟨x5_20, ex5_20⟩ : ∃ y : Int32, y = x5 + (1) := ⟨_, rfl⟩
        replace hf := bnd_at hf ex5_20
        refine lv_iinc (v := x5_20) (lv' := [(5, .int (x5_20)), (4, .int (x4_19)), (6, .int (x6_10)), (0, .ref (a 0)), (1, .int (x1)), (2, .int (x2)), (3, .int (x3))]) hx hb dX8_owes_103 hl (k := 6) rfl (by rw [ex5_20]; rfl) (by decide) rfl (fun ls hl => ?_)
        refine lv_goto (tgt := 8) hx hb dX8_owes_106 (by decide) ?_
        exact hrec8 (x3) (x4_19) (x5_20) _ _ ls hf hw (lv_sub hl [3, 4, 5, 6, 1, 0] rfl)
      · replace hf := ite_f hf c_18
        refine lv_iload_n hx hb dX8_owes_84 rfl (lv_at hl 4 rfl) ?_
        refine lv_iload hx hb dX8_owes_85 (lv_at hl 0 rfl) ?_
        refine lv_aload_n hx hb dX8_owes_87 rfl (lv_at hl 1 rfl) ?_
        refine gM_0_14 E hw (E.hts _ wl655) dX8_owes_88 ?_
        refine lv_isub hx hb dX8_owes_91 ?_
        refine lv_aload_n hx hb dX8_owes_92 rfl (lv_at hl 1 rfl) ?_
        refine gM_0_15 E hw (E.hts _ wl656) dX8_owes_93 ?_
        refine lv_imul hx hb dX8_owes_96 ?_
        refine lv_iadd hx hb dX8_owes_97 ?_
        refine lv_topi (fun x3_21 ex3_21 => ?_)
        replace hf := bnd_at hf ex3_21
        refine lv_istore_n (lv' := [(3, .int (x3_21)), (6, .int (x6_10)), (0, .ref (a 0)), (1, .int (x1)), (2, .int (x2)), (4, .int (x4)), (5, .int (x5))]) hx hb dX8_owes_98 rfl hl (by decide) rfl (fun ls hl => ?_)
        refine lv_iload hx hb dX8_owes_99 (lv_at hl 6 rfl) ?_
        refine lv_topi (fun x4_22 ex4_22 => ?_)
        replace hf := bnd_at hf ex4_22
        refine lv_istore (lv' := [(4, .int (x4_22)), (3, .int (x3_21)), (6, .int (x6_10)), (0, .ref (a 0)), (1, .int (x1)), (2, .int (x2)), (5, .int (x5))]) hx hb dX8_owes_101 hl (by decide) rfl (fun ls hl => ?_)
        obtain ⟨x5_23, ex5_23⟩ : ∃ y : Int32, y = x5 + (1) := ⟨_, rfl⟩
        replace hf := bnd_at hf ex5_23
        refine lv_iinc (v := x5_23) (lv' := [(5, .int (x5_23)), (4, .int (x4_22)), (3, .int (x3_21)), (6, .int (x6_10)), (0, .ref (a 0)), (1, .int (x1)), (2, .int (x2))]) hx hb dX8_owes_103 hl (k := 6) rfl (by rw [ex5_23]; rfl) (by decide) rfl (fun ls hl => ?_)
        refine lv_goto (tgt := 8) hx hb dX8_owes_106 (by decide) ?_
        exact hrec8 (x3_21) (x4_22) (x5_23) _ _ ls hf hw (lv_sub hl [4, 5, 6, 2, 1, 0] rfl)
set_option maxRecDepth 100000 in
set_option maxHeartbeats 4000000 in
theorem k8_owes_b8 {p : Program} {l : Launch} {e : Env} {s : State} {m : MethodId} {args : Array Value} {below : List Frame} {meth : Method} {c : Code} {D : va_G} {a : Nat → Nat} {g : Nat → ClassId} (E : EM p s m args meth c D a g cX8_owes 7 RX8 (some .int)) {F : Nat}  (S : SM) (x1 : Int32) (x2 : Int32) {rec8 : Int32 → Int32 → Int32 → Option Int32} {k109 : Int32 → Option Int32} {out : Int32} (hrec8 : ∀ (x3 : Int32) (x4 : Int32) (x5 : Int32) (H : Heap) (locs : List Loc) (ls : Array Slot), rec8 x3 x4 x5 = some out → WM D a g S s H locs → lv_has ls 7 [(0, .ref (a 0)), (1, .int (x1)), (2, .int (x2)), (3, .int (x3)), (4, .int (x4)), (5, .int (x5))] → W p l e (RM 1) s m args below meth c H locs 0 0 (MQ below (QM D a g (some (.int out)) S) args s 0 0 (AM a)) (F0 m 8 ls [])) (hk109 : ∀ (x3 : Int32) (H : Heap) (locs : List Loc) (ls : Array Slot), k109 x3 = some out → WM D a g S s H locs → lv_has ls 7 [(0, .ref (a 0)), (1, .int (x1)), (2, .int (x2)), (3, .int (x3))] → W p l e (RM 1) s m args below meth c H locs 0 0 (MQ below (QM D a g (some (.int out)) S) args s 0 0 (AM a)) (F0 m 109 ls [])) (x3 : Int32) (x4 : Int32) (x5 : Int32) (H : Heap) (locs : List Loc) (ls : Array Slot) (hf : k8_owes_B8 F S x1 x2 rec8 k109 x3 x4 x5 = some out) (hw : WM D a g S s H locs) (hl : lv_has ls 7 [(0, .ref (a 0)), (1, .int (x1)), (2, .int (x2)), (3, .int (x3)), (4, .int (x4)), (5, .int (x5))]) : W p l e (RM 1) s m args below meth c H locs 0 0 (MQ below (QM D a g (some (.int out)) S) args s 0 0 (AM a)) (F0 m 8 ls []) := by
  have hx := E.hx
  have hb := E.hb
  unfold k8_owes_B8 at hf
  refine lv_iload hx hb dX8_owes_8 (lv_at hl 5 rfl) ?_
  refine lv_aload_n hx hb dX8_owes_10 rfl (lv_at hl 0 rfl) ?_
  refine gM_0_9 E hw (E.hts _ wl650) dX8_owes_11 ?_
  refine lv_icmp_ge (tgt := 109) hx hb dX8_owes_14 (by decide) (fun c_4 => ?_) (fun c_4 => ?_)
  · replace hf := ite_t hf c_4
    exact hk109 (x3) _ _ ls hf hw (lv_sub hl [0, 1, 2, 3] rfl)
  · replace hf := ite_f hf c_4
    refine lv_aload_n hx hb dX8_owes_17 rfl (lv_at hl 0 rfl) ?_
    refine gM_0_24 E hw (E.hts _ wl665) dX8_owes_18 ?_
    refine lv_iload hx hb dX8_owes_21 (lv_at hl 5 rfl) ?_
    obtain ⟨h_v_5, hf⟩ := rdA_at hf
    refine lM_18 E hw h_v_5 dX8_owes_23 (fun v_5 ev_5 => ?_)
    replace hf := hf v_5 ev_5
    refine lv_iload_n hx hb dX8_owes_24 rfl (lv_at hl 1 rfl) ?_
    refine lv_icmp_eq (tgt := 31) hx hb dX8_owes_25 (by decide) (fun c_6 => ?_) (fun c_6 => ?_)
    · replace hf := ite_t hf c_6
      refine lv_iload hx hb dX8_owes_31 (lv_at hl 4 rfl) ?_
      refine lv_iconst hx hb dX8_owes_33 ic_m1 ?_
      refine lv_icmp_ne (tgt := 41) hx hb dX8_owes_34 (by decide) (fun c_7 => ?_) (fun c_7 => ?_)
      · replace hf := ite_f hf c_7
        refine lv_aload_n hx hb dX8_owes_41 rfl (lv_at hl 0 rfl) ?_
        refine gM_0_12 E hw (E.hts _ wl653) dX8_owes_42 ?_
        refine lv_iload hx hb dX8_owes_45 (lv_at hl 5 rfl) ?_
        obtain ⟨h_v_8, hf⟩ := rdA_at hf
        refine lM_10 E hw h_v_8 dX8_owes_47 (fun v_8 ev_8 => ?_)
        replace hf := hf v_8 ev_8
        refine lv_aload_n hx hb dX8_owes_48 rfl (lv_at hl 0 rfl) ?_
        refine gM_0_12 E hw (E.hts _ wl653) dX8_owes_49 ?_
        refine lv_iload hx hb dX8_owes_52 (lv_at hl 4 rfl) ?_
        obtain ⟨h_v_9, hf⟩ := rdA_at hf
        refine lM_10 E hw h_v_9 dX8_owes_54 (fun v_9 ev_9 => ?_)
        replace hf := hf v_9 ev_9
        refine lv_isub hx hb dX8_owes_55 ?_
        exact k8_owes_B8_J56_j E S x1 x2 hrec8 hk109 (x3) (x4) (x5) (v_8 - v_9) _ _ ls hf hw (lv_sub hl [0, 1, 2, 3, 4, 5] rfl)
      · replace hf := ite_t hf c_7
        refine lv_iconst hx hb dX8_owes_37 ic_0 ?_
        refine lv_goto (tgt := 56) hx hb dX8_owes_38 (by decide) ?_
        exact k8_owes_B8_J56_j E S x1 x2 hrec8 hk109 (x3) (x4) (x5) ((0 : Int32)) _ _ ls hf hw (lv_sub hl [0, 1, 2, 3, 4, 5] rfl)
    · replace hf := ite_f hf c_6
      refine lv_goto (tgt := 103) hx hb dX8_owes_28 (by decide) ?_
      obtain ⟨x5_24, ex5_24⟩ : ∃ y : Int32, y = x5 + (1) := ⟨_, rfl⟩
      replace hf := bnd_at hf ex5_24
      refine lv_iinc (v := x5_24) (lv' := [(5, .int (x5_24)), (0, .ref (a 0)), (1, .int (x1)), (2, .int (x2)), (3, .int (x3)), (4, .int (x4))]) hx hb dX8_owes_103 hl (k := 5) rfl (by rw [ex5_24]; rfl) (by decide) rfl (fun ls hl => ?_)
      refine lv_goto (tgt := 8) hx hb dX8_owes_106 (by decide) ?_
      exact hrec8 (x3) (x4) (x5_24) _ _ ls hf hw (lv_sub hl [1, 2, 3, 4, 5, 0] rfl)
theorem k8_owes_l8 {p : Program} {l : Launch} {e : Env} {s : State} {m : MethodId} {args : Array Value} {below : List Frame} {meth : Method} {c : Code} {D : va_G} {a : Nat → Nat} {g : Nat → ClassId} (E : EM p s m args meth c D a g cX8_owes 7 RX8 (some .int)) {F : Nat}  (S : SM) (x1 : Int32) (x2 : Int32) {k109 : Int32 → Option Int32} {out : Int32} (hk109 : ∀ (x3 : Int32) (H : Heap) (locs : List Loc) (ls : Array Slot), k109 x3 = some out → WM D a g S s H locs → lv_has ls 7 [(0, .ref (a 0)), (1, .int (x1)), (2, .int (x2)), (3, .int (x3))] → W p l e (RM 1) s m args below meth c H locs 0 0 (MQ below (QM D a g (some (.int out)) S) args s 0 0 (AM a)) (F0 m 109 ls [])) : ∀ (n : Nat) (x3 : Int32) (x4 : Int32) (x5 : Int32) (H : Heap) (locs : List Loc) (ls : Array Slot), lpN (fun _ _ _ => none) (fun rec8 => k8_owes_B8 F S x1 x2 rec8 k109) n x3 x4 x5 = some out → WM D a g S s H locs → lv_has ls 7 [(0, .ref (a 0)), (1, .int (x1)), (2, .int (x2)), (3, .int (x3)), (4, .int (x4)), (5, .int (x5))] → W p l e (RM 1) s m args below meth c H locs 0 0 (MQ below (QM D a g (some (.int out)) S) args s 0 0 (AM a)) (F0 m 8 ls []) := by
  intro n
  induction n with
  | zero => intro x3 x4 x5 H locs ls hf; cases (show (none : Option Int32) = some out from hf)
  | succ n ih => intro x3 x4 x5 H locs ls hf hw hl; exact k8_owes_b8 E (F := F) S x1 x2 ih hk109 x3 x4 x5 H locs ls hf hw hl
set_option maxRecDepth 100000 in
set_option maxHeartbeats 4000000 in
theorem mk8_owes {l : Launch} {D : va_G} {a : Nat → Nat} {g : Nat → ClassId} (hD : ∀ S, va_D (AM a) (wM a g S)) {F : Nat} {S : SM} {x1 x2 : Int32} {out : Int32} (hf : k8_owes F S x1 x2 = some out) : Met l yX8_owes (wsm yX8_owes cX8_owes 7 (some .int)) (RM 1) (PM D a g S [.ref (a 0), .int x1, .int x2]) (QM D a g (some (.int out)) S) 0 0 (AM a) := by
  refine Met.ofW (cc := cX8_owes) (maxL := 7) (ret := (some .int)) (by decide) rfl ?_
  intro p e s m args below meth c s₁ B hml hv
  obtain ⟨rfl, hP, hK, hN⟩ := hv
  have hts := atoms_spec (ws := wsm yX8_owes cX8_owes 7 (some .int)) B.pre
  have E : EM p s m _ meth c D a g cX8_owes 7 RX8 (some .int) := ⟨B.exec, B.bytes, B.returns, hml, findClass_of_methodNamed B.named, fun w h => hts w (List.mem_cons_of_mem _ h), hK, hN, hD, B.notSynchronized⟩
  have hx := E.hx
  have hb := E.hb
  have hw : WM D a g S s s.heap [] := ⟨hP, va_S.rf⟩
  have hl := lv_entry ([.ref (a 0), .int x1, .int x2]) (n := 7) (Nat.le_of_ble_eq_true rfl)
  rw [lg_entry_eq]
  generalize (lg_sl ([.ref (a 0), .int x1, .int x2]) ++ List.replicate (7 - (lg_sl ([.ref (a 0), .int x1, .int x2])).length) Slot.unset).toArray = ls at hl ⊢
  have hl : lv_has ls 7 [(0, .ref (a 0)), (1, .int (x1)), (2, .int (x2))] := hl
  show W p l e (RM 1) s m _ below meth c s.heap [] 0 0 (MQ below (QM D a g (some (.int out)) S) _ s 0 0 (AM a)) (F0 m 0 ls [])
  unfold k8_owes at hf
  refine lv_iconst hx hb dX8_owes_0 ic_0 ?_
  refine lv_topi (fun x3_1 ex3_1 => ?_)
  replace hf := bnd_at hf ex3_1
  refine lv_istore_n (lv' := [(3, .int (x3_1)), (0, .ref (a 0)), (1, .int (x1)), (2, .int (x2))]) hx hb dX8_owes_1 rfl hl (by decide) rfl (fun ls hl => ?_)
  refine lv_iconst hx hb dX8_owes_2 ic_m1 ?_
  refine lv_topi (fun x4_2 ex4_2 => ?_)
  replace hf := bnd_at hf ex4_2
  refine lv_istore (lv' := [(4, .int (x4_2)), (3, .int (x3_1)), (0, .ref (a 0)), (1, .int (x1)), (2, .int (x2))]) hx hb dX8_owes_3 hl (by decide) rfl (fun ls hl => ?_)
  refine lv_iconst hx hb dX8_owes_5 ic_0 ?_
  refine lv_topi (fun x5_3 ex5_3 => ?_)
  replace hf := bnd_at hf ex5_3
  refine lv_istore (lv' := [(5, .int (x5_3)), (4, .int (x4_2)), (3, .int (x3_1)), (0, .ref (a 0)), (1, .int (x1)), (2, .int (x2))]) hx hb dX8_owes_6 hl (by decide) rfl (fun ls hl => ?_)
  refine k8_owes_l8 E S (x1) (x2) ?_ F (x3_1) (x4_2) (x5_3) _ _ ls hf hw (lv_sub hl [3, 4, 5, 2, 1, 0] rfl)
  · intro x3_25 H locs ls hf hw hl
    refine lv_iload_n hx hb dX8_owes_109 rfl (lv_at hl 2 rfl) ?_
    refine lv_aload_n hx hb dX8_owes_110 rfl (lv_at hl 0 rfl) ?_
    refine gM_0_8 E hw (E.hts _ wl649) dX8_owes_111 ?_
    refine lv_iload_n hx hb dX8_owes_114 rfl (lv_at hl 1 rfl) ?_
    obtain ⟨h_v_26, hf⟩ := rdA_at hf
    refine lM_7 E hw h_v_26 dX8_owes_115 (fun v_26 ev_26 => ?_)
    replace hf := hf v_26 ev_26
    refine lv_icmp_ne (tgt := 123) hx hb dX8_owes_116 (by decide) (fun c_27 => ?_) (fun c_27 => ?_)
    · replace hf := ite_f hf c_27
      refine lv_iload_n hx hb dX8_owes_123 rfl (lv_at hl 3 rfl) ?_
      cases hf
      exact retM_i E hw dX8_owes_124
    · replace hf := ite_t hf c_27
      refine lv_iconst hx hb dX8_owes_119 ic_0 ?_
      refine lv_goto (tgt := 124) hx hb dX8_owes_120 (by decide) ?_
      cases hf
      exact retM_i E hw dX8_owes_124
theorem qk8_owes {p : Program} {l : Launch} {e : Env} {R : Room} {s : State} {m : MethodId} {args : Array Value} {below : List Frame} {meth : Method} {c : Code} {H : Heap} {locs : List Loc} {cells slots : Nat} {Q : State → Prop} {cc : ByteArray} {pc : Nat} {ls : Array Slot} {rest : List Value} {D : va_G} {a : Nat → Nat} {g : Nat → ClassId} {nL : Nat} {own : String} {ret : Option FieldType} {S S1 : SM} {k : Nat} {x1 x2 : Int32} {r : Int32} (E : EM p s m args meth c D a g cc nL own ret) (hw : WM D a g S s H locs) (hM : Met l yX8_owes (wsm yX8_owes cX8_owes 7 (some .int)) (RM k) (PM D a g S [.ref (a 0), .int x1, .int x2]) (QM D a g (some (.int r)) S1) 0 0 (AM a)) {idx : Nat} (hlk : Cond.methodLink own idx yX8_owes ∈ wd) (hdg : decode cc pc = .ok (.invokevirtual idx, 3)) (hR : k + 1 ≤ R.frames ∧ 8 + (7 + 11) + 64 * k ≤ R.locals) (hls : ls.size = nL) (hrest : (rest.map fun v => v.category).sum ≤ 8) (hcs : cells ≤ R.cells ∧ slots ≤ R.slots) (kk : ∀ (H1 : Heap) (locs1 : List Loc), WM D a g S1 s H1 locs1 → W p l e R s m args below meth c H1 locs1 cells slots Q (F0 m (pc + 3) ls (.int r :: rest))) : W p l e R s m args below meth c H locs cells slots Q (F0 m pc ls (.int x2 :: .int x1 :: .ref (a 0) :: rest)) :=
  callM_i hw (va_runV (As := [.int x1, .int x2]) (rest := rest) ⟨E.hx, E.hb, E.hml, E.hown, E.hts⟩ hM ⟨cb_of 2 E.hts wl822 wl44 hlk (by decide +kernel) hR, E.hts _ wl821, E.hts _ wl27⟩ ⟨PM_blind, va_recv E.hK hw.1 (ci := 8) (q0 := 0) rfl rfl, PM_pre E.hK E.hN hw.1⟩ rfl rfl hls rfl (lv_room hrest) hdg hcs) kk

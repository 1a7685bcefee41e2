/-! X8_balance -/
def k8_balance_B50 (F : Nat) (S : SM) (x1 : Int32) (x3 : Int32) (rec50 : Int32 → Int32 → Option (Int32 × SM)) (k83 : Int32 → Option (Int32 × SM)) (x2 : Int32) (x4 : Int32) : Option (Int32 × SM) :=
  if ((8 : Int32)) ≤ x4 then (k83 (x2)) else ((rdA 4 (S.1 7) x3).bind fun v_19 => if v_19 = x1 then ((k8_owes F S (x3) (x4)).bind fun r_23 => bnd (x2 + r_23) fun x2_25 => bnd (x4 + (1)) fun x4_26 => rec50 (x2_25) (x4_26)) else (bnd (x4 + (1)) fun x4_21 => rec50 (x2) (x4_21)))
def k8_balance_B23 (F : Nat) (S : SM) (x1 : Int32) (rec23 : Int32 → Int32 → Option (Int32 × SM)) (x2 : Int32) (x3 : Int32) : Option (Int32 × SM) :=
  if (S.1 0 6) ≤ x3 then (some (x2, S)) else (if (S.1 0 9) ≤ 0 then (some (x2, S)) else ((k8_owes F S (x3) (x1)).bind fun r_14 => bnd (x2 - r_14) fun x2_16 => bnd ((0 : Int32)) fun x4_17 => lpN (fun _ _ => none) (fun rec50 => k8_balance_B50 F S (x1) (x3) rec50 (fun x2_27 => bnd (x3 + (1)) fun x3_28 => rec23 (x2_27) (x3_28))) F (x2_16) (x4_17)))
def k8_balance (F : Nat) (S : SM) (x1 : Int32) : Option (Int32 × SM) :=
  (k8_isCompany F S (x1)).bind fun r_2 => if r_2 = 0 then (some ((0 : Int32), S)) else (ob2 (k8_joins F S ) fun r_6 S_7 => (rdA 8 (S_7.1 12) x1).bind fun v_8 => bnd (v_8) fun x2_9 => bnd ((0 : Int32)) fun x3_10 => lpN (fun _ _ => none) (fun rec23 => k8_balance_B23 F S_7 (x1) rec23 ) F (x2_9) (x3_10))
set_option maxRecDepth 100000 in
set_option maxHeartbeats 4000000 in
theorem k8_balance_b50 {p : Program} {l : Launch} {e : Env} {s : State} {m : MethodId} {args : Array Value} {below : List Frame} {meth : Method} {c : Code} {D : va_G} {a : Nat → Nat} {g : Nat → ClassId} (E : EM p s m args meth c D a g cX8_balance 5 RX8 (some .int)) {F : Nat}  (S : SM) (x1 : Int32) (x3 : Int32) {rec50 : Int32 → Int32 → Option (Int32 × SM)} {k83 : Int32 → Option (Int32 × SM)} {out : (Int32 × SM)} (hrec50 : ∀ (x2 : Int32) (x4 : Int32) (H : Heap) (locs : List Loc) (ls : Array Slot), rec50 x2 x4 = some out → WM D a g S s H locs → lv_has ls 5 [(0, .ref (a 0)), (1, .int (x1)), (2, .int (x2)), (3, .int (x3)), (4, .int (x4))] → W p l e (RM 6) s m args below meth c H locs 0 0 (MQ below (QM D a g (some (.int out.1)) out.2) args s 0 0 (AM a)) (F0 m 50 ls [])) (hk83 : ∀ (x2 : Int32) (H : Heap) (locs : List Loc) (ls : Array Slot), k83 x2 = some out → WM D a g S s H locs → lv_has ls 5 [(0, .ref (a 0)), (1, .int (x1)), (2, .int (x2)), (3, .int (x3))] → W p l e (RM 6) s m args below meth c H locs 0 0 (MQ below (QM D a g (some (.int out.1)) out.2) args s 0 0 (AM a)) (F0 m 83 ls [])) (x2 : Int32) (x4 : Int32) (H : Heap) (locs : List Loc) (ls : Array Slot) (hf : k8_balance_B50 F S x1 x3 rec50 k83 x2 x4 = some out) (hw : WM D a g S s H locs) (hl : lv_has ls 5 [(0, .ref (a 0)), (1, .int (x1)), (2, .int (x2)), (3, .int (x3)), (4, .int (x4))]) : W p l e (RM 6) s m args below meth c H locs 0 0 (MQ below (QM D a g (some (.int out.1)) out.2) args s 0 0 (AM a)) (F0 m 50 ls []) := by
  have hx := E.hx
  have hb := E.hb
  unfold k8_balance_B50 at hf
  refine lv_iload hx hb dX8_balance_50 (lv_at hl 4 rfl) ?_
  refine lv_bipush hx hb dX8_balance_52 bp_8 ?_
  refine lv_icmp_ge (tgt := 83) hx hb dX8_balance_54 (by decide) (fun c_18 => ?_) (fun c_18 => ?_)
  · replace hf := ite_t hf c_18
    exact hk83 (x2) _ _ ls hf hw (lv_sub hl [0, 1, 2, 3] rfl)
  · replace hf := ite_f hf c_18
    refine lv_aload_n hx hb dX8_balance_57 rfl (lv_at hl 0 rfl) ?_
    refine gM_0_8 E hw (E.hts _ wl649) dX8_balance_58 ?_
    refine lv_iload_n hx hb dX8_balance_61 rfl (lv_at hl 3 rfl) ?_
    obtain ⟨h_v_19, hf⟩ := rdA_at hf
    refine lM_7 E hw h_v_19 dX8_balance_62 (fun v_19 ev_19 => ?_)
    replace hf := hf v_19 ev_19
    refine lv_iload_n hx hb dX8_balance_63 rfl (lv_at hl 1 rfl) ?_
    refine lv_icmp_ne (tgt := 77) hx hb dX8_balance_64 (by decide) (fun c_20 => ?_) (fun c_20 => ?_)
    · replace hf := ite_f hf c_20
      obtain ⟨x4_21, ex4_21⟩ : ∃ y : Int32, y = x4 + (1) := ⟨_, rfl⟩
      replace hf := bnd_at hf ex4_21
      refine lv_iinc (v := x4_21) (lv' := [(4, .int (x4_21)), (0, .ref (a 0)), (1, .int (x1)), (2, .int (x2)), (3, .int (x3))]) hx hb dX8_balance_77 hl (k := 4) rfl (by rw [ex4_21]; rfl) (by decide) rfl (fun ls hl => ?_)
      refine lv_goto (tgt := 50) hx hb dX8_balance_80 (by decide) ?_
      exact hrec50 (x2) (x4_21) _ _ ls hf hw (lv_sub hl [1, 2, 3, 4, 0] rfl)
    · replace hf := ite_t hf c_20
      refine lv_iload_n hx hb dX8_balance_67 rfl (lv_at hl 2 rfl) ?_
      refine lv_aload_n hx hb dX8_balance_68 rfl (lv_at hl 0 rfl) ?_
      refine lv_iload_n hx hb dX8_balance_69 rfl (lv_at hl 3 rfl) ?_
      refine lv_iload hx hb dX8_balance_70 (lv_at hl 4 rfl) ?_
      obtain ⟨r_23, h_22, hf⟩ := ob_at hf
      refine qk8_owes E hw (mk8_owes E.hD h_22) wl819 dX8_balance_72 ⟨Nat.le_of_ble_eq_true rfl, Nat.le_of_ble_eq_true rfl⟩ hl.1 (Nat.le_of_ble_eq_true rfl) ⟨Nat.le_refl 0, Nat.le_refl 0⟩ (fun H locs hw => ?_)
      refine lv_iadd hx hb dX8_balance_75 ?_
      refine lv_topi (fun x2_25 ex2_25 => ?_)
      replace hf := bnd_at hf ex2_25
      refine lv_istore_n (lv' := [(2, .int (x2_25)), (0, .ref (a 0)), (1, .int (x1)), (3, .int (x3)), (4, .int (x4))]) hx hb dX8_balance_76 rfl hl (by decide) rfl (fun ls hl => ?_)
      obtain ⟨x4_26, ex4_26⟩ : ∃ y : Int32, y = x4 + (1) := ⟨_, rfl⟩
      replace hf := bnd_at hf ex4_26
      refine lv_iinc (v := x4_26) (lv' := [(4, .int (x4_26)), (2, .int (x2_25)), (0, .ref (a 0)), (1, .int (x1)), (3, .int (x3))]) hx hb dX8_balance_77 hl (k := 4) rfl (by rw [ex4_26]; rfl) (by decide) rfl (fun ls hl => ?_)
      refine lv_goto (tgt := 50) hx hb dX8_balance_80 (by decide) ?_
      exact hrec50 (x2_25) (x4_26) _ _ ls hf hw (lv_sub hl [2, 3, 1, 4, 0] rfl)
theorem k8_balance_l50 {p : Program} {l : Launch} {e : Env} {s : State} {m : MethodId} {args : Array Value} {below : List Frame} {meth : Method} {c : Code} {D : va_G} {a : Nat → Nat} {g : Nat → ClassId} (E : EM p s m args meth c D a g cX8_balance 5 RX8 (some .int)) {F : Nat}  (S : SM) (x1 : Int32) (x3 : Int32) {k83 : Int32 → Option (Int32 × SM)} {out : (Int32 × SM)} (hk83 : ∀ (x2 : Int32) (H : Heap) (locs : List Loc) (ls : Array Slot), k83 x2 = some out → WM D a g S s H locs → lv_has ls 5 [(0, .ref (a 0)), (1, .int (x1)), (2, .int (x2)), (3, .int (x3))] → W p l e (RM 6) s m args below meth c H locs 0 0 (MQ below (QM D a g (some (.int out.1)) out.2) args s 0 0 (AM a)) (F0 m 83 ls [])) : ∀ (n : Nat) (x2 : Int32) (x4 : Int32) (H : Heap) (locs : List Loc) (ls : Array Slot), lpN (fun _ _ => none) (fun rec50 => k8_balance_B50 F S x1 x3 rec50 k83) n x2 x4 = some out → WM D a g S s H locs → lv_has ls 5 [(0, .ref (a 0)), (1, .int (x1)), (2, .int (x2)), (3, .int (x3)), (4, .int (x4))] → W p l e (RM 6) s m args below meth c H locs 0 0 (MQ below (QM D a g (some (.int out.1)) out.2) args s 0 0 (AM a)) (F0 m 50 ls []) := by
  intro n
  induction n with
  | zero => intro x2 x4 H locs ls hf; cases (show (none : Option (Int32 × SM)) = some out from hf)
  | succ n ih => intro x2 x4 H locs ls hf hw hl; exact k8_balance_b50 E (F := F) S x1 x3 ih hk83 x2 x4 H locs ls hf hw hl
set_option maxRecDepth 100000 in
set_option maxHeartbeats 4000000 in
theorem k8_balance_b23 {p : Program} {l : Launch} {e : Env} {s : State} {m : MethodId} {args : Array Value} {below : List Frame} {meth : Method} {c : Code} {D : va_G} {a : Nat → Nat} {g : Nat → ClassId} (E : EM p s m args meth c D a g cX8_balance 5 RX8 (some .int)) {F : Nat}  (S : SM) (x1 : Int32) {rec23 : Int32 → Int32 → Option (Int32 × SM)} {out : (Int32 × SM)} (hrec23 : ∀ (x2 : Int32) (x3 : Int32) (H : Heap) (locs : List Loc) (ls : Array Slot), rec23 x2 x3 = some out → WM D a g S s H locs → lv_has ls 5 [(0, .ref (a 0)), (1, .int (x1)), (2, .int (x2)), (3, .int (x3))] → W p l e (RM 6) s m args below meth c H locs 0 0 (MQ below (QM D a g (some (.int out.1)) out.2) args s 0 0 (AM a)) (F0 m 23 ls []))  (x2 : Int32) (x3 : Int32) (H : Heap) (locs : List Loc) (ls : Array Slot) (hf : k8_balance_B23 F S x1 rec23 x2 x3 = some out) (hw : WM D a g S s H locs) (hl : lv_has ls 5 [(0, .ref (a 0)), (1, .int (x1)), (2, .int (x2)), (3, .int (x3))]) : W p l e (RM 6) s m args below meth c H locs 0 0 (MQ below (QM D a g (some (.int out.1)) out.2) args s 0 0 (AM a)) (F0 m 23 ls []) := by
  have hx := E.hx
  have hb := E.hb
  unfold k8_balance_B23 at hf
  refine lv_iload_n hx hb dX8_balance_23 rfl (lv_at hl 3 rfl) ?_
  refine lv_aload_n hx hb dX8_balance_24 rfl (lv_at hl 0 rfl) ?_
  refine gM_0_6 E hw (E.hts _ wl647) dX8_balance_25 ?_
  refine lv_icmp_ge (tgt := 89) hx hb dX8_balance_28 (by decide) (fun c_11 => ?_) (fun c_11 => ?_)
  · replace hf := ite_t hf c_11
    refine lv_iload_n hx hb dX8_balance_89 rfl (lv_at hl 2 rfl) ?_
    cases hf
    exact retM_i E hw dX8_balance_90
  · replace hf := ite_f hf c_11
    refine lv_aload_n hx hb dX8_balance_31 rfl (lv_at hl 0 rfl) ?_
    refine gM_0_9 E hw (E.hts _ wl650) dX8_balance_32 ?_
    refine lv_if_le (tgt := 89) hx hb dX8_balance_35 (by decide) (fun c_12 => ?_) (fun c_12 => ?_)
    · replace hf := ite_t hf c_12
      refine lv_iload_n hx hb dX8_balance_89 rfl (lv_at hl 2 rfl) ?_
      cases hf
      exact retM_i E hw dX8_balance_90
    · replace hf := ite_f hf c_12
      refine lv_iload_n hx hb dX8_balance_38 rfl (lv_at hl 2 rfl) ?_
      refine lv_aload_n hx hb dX8_balance_39 rfl (lv_at hl 0 rfl) ?_
      refine lv_iload_n hx hb dX8_balance_40 rfl (lv_at hl 3 rfl) ?_
      refine lv_iload_n hx hb dX8_balance_41 rfl (lv_at hl 1 rfl) ?_
      obtain ⟨r_14, h_13, hf⟩ := ob_at hf
      refine qk8_owes E hw (mk8_owes E.hD h_13) wl819 dX8_balance_42 ⟨Nat.le_of_ble_eq_true rfl, Nat.le_of_ble_eq_true rfl⟩ hl.1 (Nat.le_of_ble_eq_true rfl) ⟨Nat.le_refl 0, Nat.le_refl 0⟩ (fun H locs hw => ?_)
      refine lv_isub hx hb dX8_balance_45 ?_
      refine lv_topi (fun x2_16 ex2_16 => ?_)
      replace hf := bnd_at hf ex2_16
      refine lv_istore_n (lv' := [(2, .int (x2_16)), (0, .ref (a 0)), (1, .int (x1)), (3, .int (x3))]) hx hb dX8_balance_46 rfl hl (by decide) rfl (fun ls hl => ?_)
      refine lv_iconst hx hb dX8_balance_47 ic_0 ?_
      refine lv_topi (fun x4_17 ex4_17 => ?_)
      replace hf := bnd_at hf ex4_17
      refine lv_istore (lv' := [(4, .int (x4_17)), (2, .int (x2_16)), (0, .ref (a 0)), (1, .int (x1)), (3, .int (x3))]) hx hb dX8_balance_48 hl (by decide) rfl (fun ls hl => ?_)
      refine k8_balance_l50 E S (x1) (x3) ?_ F (x2_16) (x4_17) _ _ ls hf hw (lv_sub hl [2, 3, 1, 4, 0] rfl)
      · intro x2_27 H locs ls hf hw hl
        obtain ⟨x3_28, ex3_28⟩ : ∃ y : Int32, y = x3 + (1) := ⟨_, rfl⟩
        replace hf := bnd_at hf ex3_28
        refine lv_iinc (v := x3_28) (lv' := [(3, .int (x3_28)), (0, .ref (a 0)), (1, .int (x1)), (2, .int (x2_27))]) hx hb dX8_balance_83 hl (k := 3) rfl (by rw [ex3_28]; rfl) (by decide) rfl (fun ls hl => ?_)
        refine lv_goto (tgt := 23) hx hb dX8_balance_86 (by decide) ?_
        exact hrec23 (x2_27) (x3_28) _ _ ls hf hw (lv_sub hl [1, 2, 3, 0] rfl)
theorem k8_balance_l23 {p : Program} {l : Launch} {e : Env} {s : State} {m : MethodId} {args : Array Value} {below : List Frame} {meth : Method} {c : Code} {D : va_G} {a : Nat → Nat} {g : Nat → ClassId} (E : EM p s m args meth c D a g cX8_balance 5 RX8 (some .int)) {F : Nat}  (S : SM) (x1 : Int32) {out : (Int32 × SM)}  : ∀ (n : Nat) (x2 : Int32) (x3 : Int32) (H : Heap) (locs : List Loc) (ls : Array Slot), lpN (fun _ _ => none) (fun rec23 => k8_balance_B23 F S x1 rec23) n x2 x3 = some out → WM D a g S s H locs → lv_has ls 5 [(0, .ref (a 0)), (1, .int (x1)), (2, .int (x2)), (3, .int (x3))] → W p l e (RM 6) s m args below meth c H locs 0 0 (MQ below (QM D a g (some (.int out.1)) out.2) args s 0 0 (AM a)) (F0 m 23 ls []) := by
  intro n
  induction n with
  | zero => intro x2 x3 H locs ls hf; cases (show (none : Option (Int32 × SM)) = some out from hf)
  | succ n ih => intro x2 x3 H locs ls hf hw hl; exact k8_balance_b23 E (F := F) S x1 ih x2 x3 H locs ls hf hw hl
set_option maxRecDepth 100000 in
set_option maxHeartbeats 4000000 in
theorem mk8_balance {l : Launch} {D : va_G} {a : Nat → Nat} {g : Nat → ClassId} (hD : ∀ S, va_D (AM a) (wM a g S)) {F : Nat} {S : SM} {x1 : Int32} {out : (Int32 × SM)} (hf : k8_balance F S x1 = some out) : Met l yX8_balance (wsm yX8_balance cX8_balance 5 (some .int)) (RM 6) (PM D a g S [.ref (a 0), .int x1]) (QM D a g (some (.int out.1)) out.2) 0 0 (AM a) := by
  refine Met.ofW (cc := cX8_balance) (maxL := 5) (ret := (some .int)) (by decide) rfl ?_
  intro p e s m args below meth c s₁ B hml hv
  obtain ⟨rfl, hP, hK, hN⟩ := hv
  have hts := atoms_spec (ws := wsm yX8_balance cX8_balance 5 (some .int)) B.pre
  have E : EM p s m _ meth c D a g cX8_balance 5 RX8 (some .int) := ⟨B.exec, B.bytes, B.returns, hml, findClass_of_methodNamed B.named, fun w h => hts w (List.mem_cons_of_mem _ h), hK, hN, hD, B.notSynchronized⟩
  have hx := E.hx
  have hb := E.hb
  have hw : WM D a g S s s.heap [] := ⟨hP, va_S.rf⟩
  have hl := lv_entry ([.ref (a 0), .int x1]) (n := 5) (Nat.le_of_ble_eq_true rfl)
  rw [lg_entry_eq]
  generalize (lg_sl ([.ref (a 0), .int x1]) ++ List.replicate (5 - (lg_sl ([.ref (a 0), .int x1])).length) Slot.unset).toArray = ls at hl ⊢
  have hl : lv_has ls 5 [(0, .ref (a 0)), (1, .int (x1))] := hl
  show W p l e (RM 6) s m _ below meth c s.heap [] 0 0 (MQ below (QM D a g (some (.int out.1)) out.2) _ s 0 0 (AM a)) (F0 m 0 ls [])
  unfold k8_balance at hf
  refine lv_iload_n hx hb dX8_balance_0 rfl (lv_at hl 1 rfl) ?_
  obtain ⟨r_2, h_1, hf⟩ := ob_at hf
  refine qk8_isCompany E hw (mk8_isCompany E.hD h_1) wl746 dX8_balance_1 ⟨Nat.le_of_ble_eq_true rfl, Nat.le_of_ble_eq_true rfl⟩ hl.1 (Nat.le_of_ble_eq_true rfl) ⟨Nat.le_refl 0, Nat.le_refl 0⟩ (fun H locs hw => ?_)
  refine lv_if_ne (tgt := 9) hx hb dX8_balance_4 (by decide) (fun c_4 => ?_) (fun c_4 => ?_)
  · replace hf := ite_f hf c_4
    refine lv_aload_n hx hb dX8_balance_9 rfl (lv_at hl 0 rfl) ?_
    obtain ⟨r_6, S_7, h_5, hf⟩ := ob2_at hf
    refine qk8_joins E hw (mk8_joins E.hD h_5) wl799 dX8_balance_10 ⟨Nat.le_of_ble_eq_true rfl, Nat.le_of_ble_eq_true rfl⟩ hl.1 (Nat.le_of_ble_eq_true rfl) ⟨Nat.le_refl 0, Nat.le_refl 0⟩ (fun H locs hw => ?_)
    refine lv_pop hx hb dX8_balance_13 rfl ?_
    refine lv_aload_n hx hb dX8_balance_14 rfl (lv_at hl 0 rfl) ?_
    refine gM_0_17 E hw (E.hts _ wl658) dX8_balance_15 ?_
    refine lv_iload_n hx hb dX8_balance_18 rfl (lv_at hl 1 rfl) ?_
    obtain ⟨h_v_8, hf⟩ := rdA_at hf
    refine lM_12 E hw h_v_8 dX8_balance_19 (fun v_8 ev_8 => ?_)
    replace hf := hf v_8 ev_8
    refine lv_topi (fun x2_9 ex2_9 => ?_)
    replace hf := bnd_at hf ex2_9
    refine lv_istore_n (lv' := [(2, .int (x2_9)), (0, .ref (a 0)), (1, .int (x1))]) hx hb dX8_balance_20 rfl hl (by decide) rfl (fun ls hl => ?_)
    refine lv_iconst hx hb dX8_balance_21 ic_0 ?_
    refine lv_topi (fun x3_10 ex3_10 => ?_)
    replace hf := bnd_at hf ex3_10
    refine lv_istore_n (lv' := [(3, .int (x3_10)), (2, .int (x2_9)), (0, .ref (a 0)), (1, .int (x1))]) hx hb dX8_balance_22 rfl hl (by decide) rfl (fun ls hl => ?_)
    refine k8_balance_l23 E S_7 (x1)  F (x2_9) (x3_10) _ _ ls hf hw (lv_sub hl [2, 3, 1, 0] rfl)
  · replace hf := ite_t hf c_4
    refine lv_iconst hx hb dX8_balance_7 ic_0 ?_
    cases hf
    exact retM_i E hw dX8_balance_8
theorem qk8_balance {p : Program} {l : Launch} {e : Env} {R : Room} {s : State} {m : MethodId} {args : Array Value} {below : List Frame} {meth : Method} {c : Code} {H : Heap} {locs : List Loc} {cells slots : Nat} {Q : State → Prop} {cc : ByteArray} {pc : Nat} {ls : Array Slot} {rest : List Value} {D : va_G} {a : Nat → Nat} {g : Nat → ClassId} {nL : Nat} {own : String} {ret : Option FieldType} {S S1 : SM} {k : Nat} {x1 : Int32} {r : Int32} (E : EM p s m args meth c D a g cc nL own ret) (hw : WM D a g S s H locs) (hM : Met l yX8_balance (wsm yX8_balance cX8_balance 5 (some .int)) (RM k) (PM D a g S [.ref (a 0), .int x1]) (QM D a g (some (.int r)) S1) 0 0 (AM a)) {idx : Nat} (hlk : Cond.methodLink own idx yX8_balance ∈ wd) (hdg : decode cc pc = .ok (.invokevirtual idx, 3)) (hR : k + 1 ≤ R.frames ∧ 8 + (5 + 11) + 64 * k ≤ R.locals) (hls : ls.size = nL) (hrest : (rest.map fun v => v.category).sum ≤ 8) (hcs : cells ≤ R.cells ∧ slots ≤ R.slots) (kk : ∀ (H1 : Heap) (locs1 : List Loc), WM D a g S1 s H1 locs1 → W p l e R s m args below meth c H1 locs1 cells slots Q (F0 m (pc + 3) ls (.int r :: rest))) : W p l e R s m args below meth c H locs cells slots Q (F0 m pc ls (.int x1 :: .ref (a 0) :: rest)) :=
  callM_i hw (va_runV (As := [.int x1]) (rest := rest) ⟨E.hx, E.hb, E.hml, E.hown, E.hts⟩ hM ⟨cb_of 1 E.hts wl830 wl44 hlk (by decide +kernel) hR, E.hts _ wl828, E.hts _ wl829⟩ ⟨PM_blind, va_recv E.hK hw.1 (ci := 8) (q0 := 0) rfl rfl, PM_pre E.hK E.hN hw.1⟩ rfl rfl hls rfl (lv_room hrest) hdg hcs) kk
/-! X8_close -/
def k8_close_B7 (F : Nat) (x1 : Int32) (rec7 : SM → Int32 → Option (Int32 × SM)) (k30 : SM → Option (Int32 × SM)) (S : SM) (x2 : Int32) : Option (Int32 × SM) :=
  if ((8 : Int32)) ≤ x2 then (k30 S) else (ob2 (k8_balance F S (x2)) fun r_5 S_6 => (ckA 8 x2).bind fun _ => bnd (stM S_6 19 (Int32.toNatClampNeg x2) r_5) fun S_7 => bnd (x2 + (1)) fun x2_8 => rec7 S_7 (x2_8))
def k8_close_B32 (F : Nat) (x1 : Int32) (rec32 : SM → Int32 → Option (Int32 × SM)) (S : SM) (x2 : Int32) : Option (Int32 × SM) :=
  if ((8 : Int32)) ≤ x2 then (bnd (stM S 0 9 ((0 : Int32))) fun S_12 => some (x1, S_12)) else ((rdA 8 (S.1 19) x2).bind fun v_13 => (ckA 8 x2).bind fun _ => bnd (stM S 12 (Int32.toNatClampNeg x2) v_13) fun S_14 => bnd (x2 + (1)) fun x2_15 => rec32 S_14 (x2_15))
def k8_close (F : Nat) (S : SM) : Option (Int32 × SM) :=
  bnd (S.1 0 9) fun x1_1 => bnd ((0 : Int32)) fun x2_2 => lpN (fun _ _ => none) (fun rec7 => k8_close_B7 F (x1_1) rec7 (fun S_9 => bnd ((0 : Int32)) fun x2_10 => lpN (fun _ _ => none) (fun rec32 => k8_close_B32 F (x1_1) rec32 ) F S_9 (x2_10))) F S (x2_2)
set_option maxRecDepth 100000 in
set_option maxHeartbeats 4000000 in
theorem k8_close_b7 {p : Program} {l : Launch} {e : Env} {s : State} {m : MethodId} {args : Array Value} {below : List Frame} {meth : Method} {c : Code} {D : va_G} {a : Nat → Nat} {g : Nat → ClassId} (E : EM p s m args meth c D a g cX8_close 3 RX8 (some .int)) {F : Nat}  (x1 : Int32) {rec7 : SM → Int32 → Option (Int32 × SM)} {k30 : SM → Option (Int32 × SM)} {out : (Int32 × SM)} (hrec7 : ∀ (S : SM) (x2 : Int32) (H : Heap) (locs : List Loc) (ls : Array Slot), rec7 S x2 = some out → WM D a g S s H locs → lv_has ls 3 [(0, .ref (a 0)), (1, .int (x1)), (2, .int (x2))] → W p l e (RM 7) s m args below meth c H locs 0 0 (MQ below (QM D a g (some (.int out.1)) out.2) args s 0 0 (AM a)) (F0 m 7 ls [])) (hk30 : ∀ (S : SM) (H : Heap) (locs : List Loc) (ls : Array Slot), k30 S = some out → WM D a g S s H locs → lv_has ls 3 [(0, .ref (a 0)), (1, .int (x1))] → W p l e (RM 7) s m args below meth c H locs 0 0 (MQ below (QM D a g (some (.int out.1)) out.2) args s 0 0 (AM a)) (F0 m 30 ls [])) (S : SM) (x2 : Int32) (H : Heap) (locs : List Loc) (ls : Array Slot) (hf : k8_close_B7 F x1 rec7 k30 S x2 = some out) (hw : WM D a g S s H locs) (hl : lv_has ls 3 [(0, .ref (a 0)), (1, .int (x1)), (2, .int (x2))]) : W p l e (RM 7) s m args below meth c H locs 0 0 (MQ below (QM D a g (some (.int out.1)) out.2) args s 0 0 (AM a)) (F0 m 7 ls []) := by
  have hx := E.hx
  have hb := E.hb
  unfold k8_close_B7 at hf
  refine lv_iload_n hx hb dX8_close_7 rfl (lv_at hl 2 rfl) ?_
  refine lv_bipush hx hb dX8_close_8 bp_8 ?_
  refine lv_icmp_ge (tgt := 30) hx hb dX8_close_10 (by decide) (fun c_3 => ?_) (fun c_3 => ?_)
  · replace hf := ite_t hf c_3
    exact hk30 S _ _ ls hf hw (lv_sub hl [0, 1] rfl)
  · replace hf := ite_f hf c_3
    refine lv_aload_n hx hb dX8_close_13 rfl (lv_at hl 0 rfl) ?_
    refine gM_0_25 E hw (E.hts _ wl666) dX8_close_14 ?_
    refine lv_iload_n hx hb dX8_close_17 rfl (lv_at hl 2 rfl) ?_
    refine lv_aload_n hx hb dX8_close_18 rfl (lv_at hl 0 rfl) ?_
    refine lv_iload_n hx hb dX8_close_19 rfl (lv_at hl 2 rfl) ?_
    obtain ⟨r_5, S_6, h_4, hf⟩ := ob2_at hf
    refine qk8_balance E hw (mk8_balance E.hD h_4) wl827 dX8_close_20 ⟨Nat.le_of_ble_eq_true rfl, Nat.le_of_ble_eq_true rfl⟩ hl.1 (Nat.le_of_ble_eq_true rfl) ⟨Nat.le_refl 0, Nat.le_refl 0⟩ (fun H locs hw => ?_)
    obtain ⟨h_S_7, hf⟩ := ckA_at hf
    refine sM_19 E hw h_S_7 dX8_close_23 (fun S_7 eS_7 H locs hw => ?_)
    replace hf := bnd_at hf eS_7
    obtain ⟨x2_8, ex2_8⟩ : ∃ y : Int32, y = x2 + (1) := ⟨_, rfl⟩
    replace hf := bnd_at hf ex2_8
    refine lv_iinc (v := x2_8) (lv' := [(2, .int (x2_8)), (0, .ref (a 0)), (1, .int (x1))]) hx hb dX8_close_24 hl (k := 2) rfl (by rw [ex2_8]; rfl) (by decide) rfl (fun ls hl => ?_)
    refine lv_goto (tgt := 7) hx hb dX8_close_27 (by decide) ?_
    exact hrec7 S_7 (x2_8) _ _ ls hf hw (lv_sub hl [1, 2, 0] rfl)
theorem k8_close_l7 {p : Program} {l : Launch} {e : Env} {s : State} {m : MethodId} {args : Array Value} {below : List Frame} {meth : Method} {c : Code} {D : va_G} {a : Nat → Nat} {g : Nat → ClassId} (E : EM p s m args meth c D a g cX8_close 3 RX8 (some .int)) {F : Nat}  (x1 : Int32) {k30 : SM → Option (Int32 × SM)} {out : (Int32 × SM)} (hk30 : ∀ (S : SM) (H : Heap) (locs : List Loc) (ls : Array Slot), k30 S = some out → WM D a g S s H locs → lv_has ls 3 [(0, .ref (a 0)), (1, .int (x1))] → W p l e (RM 7) s m args below meth c H locs 0 0 (MQ below (QM D a g (some (.int out.1)) out.2) args s 0 0 (AM a)) (F0 m 30 ls [])) : ∀ (n : Nat) (S : SM) (x2 : Int32) (H : Heap) (locs : List Loc) (ls : Array Slot), lpN (fun _ _ => none) (fun rec7 => k8_close_B7 F x1 rec7 k30) n S x2 = some out → WM D a g S s H locs → lv_has ls 3 [(0, .ref (a 0)), (1, .int (x1)), (2, .int (x2))] → W p l e (RM 7) s m args below meth c H locs 0 0 (MQ below (QM D a g (some (.int out.1)) out.2) args s 0 0 (AM a)) (F0 m 7 ls []) := by
  intro n
  induction n with
  | zero => intro S x2 H locs ls hf; cases (show (none : Option (Int32 × SM)) = some out from hf)
  | succ n ih => intro S x2 H locs ls hf hw hl; exact k8_close_b7 E (F := F) x1 ih hk30 S x2 H locs ls hf hw hl
set_option maxRecDepth 100000 in
set_option maxHeartbeats 4000000 in
theorem k8_close_b32 {p : Program} {l : Launch} {e : Env} {s : State} {m : MethodId} {args : Array Value} {below : List Frame} {meth : Method} {c : Code} {D : va_G} {a : Nat → Nat} {g : Nat → ClassId} (E : EM p s m args meth c D a g cX8_close 3 RX8 (some .int)) {F : Nat}  (x1 : Int32) {rec32 : SM → Int32 → Option (Int32 × SM)} {out : (Int32 × SM)} (hrec32 : ∀ (S : SM) (x2 : Int32) (H : Heap) (locs : List Loc) (ls : Array Slot), rec32 S x2 = some out → WM D a g S s H locs → lv_has ls 3 [(0, .ref (a 0)), (1, .int (x1)), (2, .int (x2))] → W p l e (RM 7) s m args below meth c H locs 0 0 (MQ below (QM D a g (some (.int out.1)) out.2) args s 0 0 (AM a)) (F0 m 32 ls []))  (S : SM) (x2 : Int32) (H : Heap) (locs : List Loc) (ls : Array Slot) (hf : k8_close_B32 F x1 rec32 S x2 = some out) (hw : WM D a g S s H locs) (hl : lv_has ls 3 [(0, .ref (a 0)), (1, .int (x1)), (2, .int (x2))]) : W p l e (RM 7) s m args below meth c H locs 0 0 (MQ below (QM D a g (some (.int out.1)) out.2) args s 0 0 (AM a)) (F0 m 32 ls []) := by
  have hx := E.hx
  have hb := E.hb
  unfold k8_close_B32 at hf
  refine lv_iload_n hx hb dX8_close_32 rfl (lv_at hl 2 rfl) ?_
  refine lv_bipush hx hb dX8_close_33 bp_8 ?_
  refine lv_icmp_ge (tgt := 56) hx hb dX8_close_35 (by decide) (fun c_11 => ?_) (fun c_11 => ?_)
  · replace hf := ite_t hf c_11
    refine lv_aload_n hx hb dX8_close_56 rfl (lv_at hl 0 rfl) ?_
    refine lv_iconst hx hb dX8_close_57 ic_0 ?_
    refine pM_0_9 E hw (E.hts _ wl650) dX8_close_58 (fun S_12 eS_12 H locs hw => ?_)
    replace hf := bnd_at hf eS_12
    refine lv_iload_n hx hb dX8_close_61 rfl (lv_at hl 1 rfl) ?_
    cases hf
    exact retM_i E hw dX8_close_62
  · replace hf := ite_f hf c_11
    refine lv_aload_n hx hb dX8_close_38 rfl (lv_at hl 0 rfl) ?_
    refine gM_0_17 E hw (E.hts _ wl658) dX8_close_39 ?_
    refine lv_iload_n hx hb dX8_close_42 rfl (lv_at hl 2 rfl) ?_
    refine lv_aload_n hx hb dX8_close_43 rfl (lv_at hl 0 rfl) ?_
    refine gM_0_25 E hw (E.hts _ wl666) dX8_close_44 ?_
    refine lv_iload_n hx hb dX8_close_47 rfl (lv_at hl 2 rfl) ?_
    obtain ⟨h_v_13, hf⟩ := rdA_at hf
    refine lM_19 E hw h_v_13 dX8_close_48 (fun v_13 ev_13 => ?_)
    replace hf := hf v_13 ev_13
    obtain ⟨h_S_14, hf⟩ := ckA_at hf
    refine sM_12 E hw h_S_14 dX8_close_49 (fun S_14 eS_14 H locs hw => ?_)
    replace hf := bnd_at hf eS_14
    obtain ⟨x2_15, ex2_15⟩ : ∃ y : Int32, y = x2 + (1) := ⟨_, rfl⟩
    replace hf := bnd_at hf ex2_15
    refine lv_iinc (v := x2_15) (lv' := [(2, .int (x2_15)), (0, .ref (a 0)), (1, .int (x1))]) hx hb dX8_close_50 hl (k := 2) rfl (by rw [ex2_15]; rfl) (by decide) rfl (fun ls hl => ?_)
    refine lv_goto (tgt := 32) hx hb dX8_close_53 (by decide) ?_
    exact hrec32 S_14 (x2_15) _ _ ls hf hw (lv_sub hl [1, 2, 0] rfl)
theorem k8_close_l32 {p : Program} {l : Launch} {e : Env} {s : State} {m : MethodId} {args : Array Value} {below : List Frame} {meth : Method} {c : Code} {D : va_G} {a : Nat → Nat} {g : Nat → ClassId} (E : EM p s m args meth c D a g cX8_close 3 RX8 (some .int)) {F : Nat}  (x1 : Int32) {out : (Int32 × SM)}  : ∀ (n : Nat) (S : SM) (x2 : Int32) (H : Heap) (locs : List Loc) (ls : Array Slot), lpN (fun _ _ => none) (fun rec32 => k8_close_B32 F x1 rec32) n S x2 = some out → WM D a g S s H locs → lv_has ls 3 [(0, .ref (a 0)), (1, .int (x1)), (2, .int (x2))] → W p l e (RM 7) s m args below meth c H locs 0 0 (MQ below (QM D a g (some (.int out.1)) out.2) args s 0 0 (AM a)) (F0 m 32 ls []) := by
  intro n
  induction n with
  | zero => intro S x2 H locs ls hf; cases (show (none : Option (Int32 × SM)) = some out from hf)
  | succ n ih => intro S x2 H locs ls hf hw hl; exact k8_close_b32 E (F := F) x1 ih S x2 H locs ls hf hw hl
set_option maxRecDepth 100000 in
set_option maxHeartbeats 4000000 in
theorem mk8_close {l : Launch} {D : va_G} {a : Nat → Nat} {g : Nat → ClassId} (hD : ∀ S, va_D (AM a) (wM a g S)) {F : Nat} {S : SM} {out : (Int32 × SM)} (hf : k8_close F S  = some out) : Met l yX8_close (wsm yX8_close cX8_close 3 (some .int)) (RM 7) (PM D a g S [.ref (a 0)]) (QM D a g (some (.int out.1)) out.2) 0 0 (AM a) := by
  refine Met.ofW (cc := cX8_close) (maxL := 3) (ret := (some .int)) (by decide) rfl ?_
  intro p e s m args below meth c s₁ B hml hv
  obtain ⟨rfl, hP, hK, hN⟩ := hv
  have hts := atoms_spec (ws := wsm yX8_close cX8_close 3 (some .int)) B.pre
  have E : EM p s m _ meth c D a g cX8_close 3 RX8 (some .int) := ⟨B.exec, B.bytes, B.returns, hml, findClass_of_methodNamed B.named, fun w h => hts w (List.mem_cons_of_mem _ h), hK, hN, hD, B.notSynchronized⟩
  have hx := E.hx
  have hb := E.hb
  have hw : WM D a g S s s.heap [] := ⟨hP, va_S.rf⟩
  have hl := lv_entry ([.ref (a 0)]) (n := 3) (Nat.le_of_ble_eq_true rfl)
  rw [lg_entry_eq]
  generalize (lg_sl ([.ref (a 0)]) ++ List.replicate (3 - (lg_sl ([.ref (a 0)])).length) Slot.unset).toArray = ls at hl ⊢
  have hl : lv_has ls 3 [(0, .ref (a 0))] := hl
  show W p l e (RM 7) s m _ below meth c s.heap [] 0 0 (MQ below (QM D a g (some (.int out.1)) out.2) _ s 0 0 (AM a)) (F0 m 0 ls [])
  unfold k8_close at hf
  refine lv_aload_n hx hb dX8_close_0 rfl (lv_at hl 0 rfl) ?_
  refine gM_0_9 E hw (E.hts _ wl650) dX8_close_1 ?_
  refine lv_topi (fun x1_1 ex1_1 => ?_)
  replace hf := bnd_at hf ex1_1
  refine lv_istore_n (lv' := [(1, .int (x1_1)), (0, .ref (a 0))]) hx hb dX8_close_4 rfl hl (by decide) rfl (fun ls hl => ?_)
  refine lv_iconst hx hb dX8_close_5 ic_0 ?_
  refine lv_topi (fun x2_2 ex2_2 => ?_)
  replace hf := bnd_at hf ex2_2
  refine lv_istore_n (lv' := [(2, .int (x2_2)), (1, .int (x1_1)), (0, .ref (a 0))]) hx hb dX8_close_6 rfl hl (by decide) rfl (fun ls hl => ?_)
  refine k8_close_l7 E (x1_1) ?_ F S (x2_2) _ _ ls hf hw (lv_sub hl [2, 1, 0] rfl)
  · intro S_9 H locs ls hf hw hl
    refine lv_iconst hx hb dX8_close_30 ic_0 ?_
    refine lv_topi (fun x2_10 ex2_10 => ?_)
    replace hf := bnd_at hf ex2_10
    refine lv_istore_n (lv' := [(2, .int (x2_10)), (0, .ref (a 0)), (1, .int (x1_1))]) hx hb dX8_close_31 rfl hl (by decide) rfl (fun ls hl => ?_)
    refine k8_close_l32 E (x1_1)  F S_9 (x2_10) _ _ ls hf hw (lv_sub hl [1, 2, 0] rfl)
theorem qk8_close {p : Program} {l : Launch} {e : Env} {R : Room} {s : State} {m : MethodId} {args : Array Value} {below : List Frame} {meth : Method} {c : Code} {H : Heap} {locs : List Loc} {cells slots : Nat} {Q : State → Prop} {cc : ByteArray} {pc : Nat} {ls : Array Slot} {rest : List Value} {D : va_G} {a : Nat → Nat} {g : Nat → ClassId} {nL : Nat} {own : String} {ret : Option FieldType} {S S1 : SM} {k : Nat} {r : Int32} (E : EM p s m args meth c D a g cc nL own ret) (hw : WM D a g S s H locs) (hM : Met l yX8_close (wsm yX8_close cX8_close 3 (some .int)) (RM k) (PM D a g S [.ref (a 0)]) (QM D a g (some (.int r)) S1) 0 0 (AM a)) {idx : Nat} (hlk : Cond.methodLink own idx yX8_close ∈ wd) (hdg : decode cc pc = .ok (.invokevirtual idx, 3)) (hR : k + 1 ≤ R.frames ∧ 8 + (3 + 11) + 64 * k ≤ R.locals) (hls : ls.size = nL) (hrest : (rest.map fun v => v.category).sum ≤ 8) (hcs : cells ≤ R.cells ∧ slots ≤ R.slots) (kk : ∀ (H1 : Heap) (locs1 : List Loc), WM D a g S1 s H1 locs1 → W p l e R s m args below meth c H1 locs1 cells slots Q (F0 m (pc + 3) ls (.int r :: rest))) : W p l e R s m args below meth c H locs cells slots Q (F0 m pc ls (.ref (a 0) :: rest)) :=
  callM_i hw (va_runV (As := []) (rest := rest) ⟨E.hx, E.hb, E.hml, E.hown, E.hts⟩ hM ⟨cb_of 0 E.hts wl826 wl44 hlk (by decide +kernel) hR, E.hts _ wl824, E.hts _ wl825⟩ ⟨PM_blind, va_recv E.hK hw.1 (ci := 8) (q0 := 0) rfl rfl, PM_pre E.hK E.hN hw.1⟩ rfl rfl hls rfl (lv_room hrest) hdg hcs) kk
/-! X8_error -/
def k8_error (F : Nat) (S : SM) (x1 : Int32) (x2 : Int32) : Option Int32 :=
  (k8_in F S (x1) ((0 : Int32)) ((S.1 0 9) - ((1 : Int32)))).bind fun r_2 => if r_2 = 0 then (some ((-1 : Int32))) else ((k8_in F S (x2) ((0 : Int32)) ((S.1 0 6) - ((1 : Int32)))).bind fun r_6 => if r_6 = 0 then (some ((-1 : Int32))) else ((rdA 7 (S.1 8) x1).bind fun v_9 => (rdA 4 (S.1 6) x2).bind fun v_10 => (k8_errorOf F S (v_9) (v_10)).bind fun r_12 => some (r_12)))
set_option maxRecDepth 100000 in
set_option maxHeartbeats 4000000 in
theorem mk8_error {l : Launch} {D : va_G} {a : Nat → Nat} {g : Nat → ClassId} (hD : ∀ S, va_D (AM a) (wM a g S)) {F : Nat} {S : SM} {x1 x2 : Int32} {out : Int32} (hf : k8_error F S x1 x2 = some out) : Met l yX8_error (wsm yX8_error cX8_error 3 (some .int)) (RM 3) (PM D a g S [.ref (a 0), .int x1, .int x2]) (QM D a g (some (.int out)) S) 0 0 (AM a) := by
  refine Met.ofW (cc := cX8_error) (maxL := 3) (ret := (some .int)) (by decide) rfl ?_
  intro p e s m args below meth c s₁ B hml hv
  obtain ⟨rfl, hP, hK, hN⟩ := hv
  have hts := atoms_spec (ws := wsm yX8_error cX8_error 3 (some .int)) B.pre
  have E : EM p s m _ meth c D a g cX8_error 3 RX8 (some .int) := ⟨B.exec, B.bytes, B.returns, hml, findClass_of_methodNamed B.named, fun w h => hts w (List.mem_cons_of_mem _ h), hK, hN, hD, B.notSynchronized⟩
  have hx := E.hx
  have hb := E.hb
  have hw : WM D a g S s s.heap [] := ⟨hP, va_S.rf⟩
  have hl := lv_entry ([.ref (a 0), .int x1, .int x2]) (n := 3) (Nat.le_of_ble_eq_true rfl)
  rw [lg_entry_eq]
  generalize (lg_sl ([.ref (a 0), .int x1, .int x2]) ++ List.replicate (3 - (lg_sl ([.ref (a 0), .int x1, .int x2])).length) Slot.unset).toArray = ls at hl ⊢
  have hl : lv_has ls 3 [(0, .ref (a 0)), (1, .int (x1)), (2, .int (x2))] := hl
  show W p l e (RM 3) s m _ below meth c s.heap [] 0 0 (MQ below (QM D a g (some (.int out)) S) _ s 0 0 (AM a)) (F0 m 0 ls [])
  unfold k8_error at hf
  refine lv_iload_n hx hb dX8_error_0 rfl (lv_at hl 1 rfl) ?_
  refine lv_iconst hx hb dX8_error_1 ic_0 ?_
  refine lv_aload_n hx hb dX8_error_2 rfl (lv_at hl 0 rfl) ?_
  refine gM_0_9 E hw (E.hts _ wl650) dX8_error_3 ?_
  refine lv_iconst hx hb dX8_error_6 ic_1 ?_
  refine lv_isub hx hb dX8_error_7 ?_
  obtain ⟨r_2, h_1, hf⟩ := ob_at hf
  refine qk8_in E hw (mk8_in E.hD h_1) wl743 dX8_error_8 ⟨Nat.le_of_ble_eq_true rfl, Nat.le_of_ble_eq_true rfl⟩ hl.1 (Nat.le_of_ble_eq_true rfl) ⟨Nat.le_refl 0, Nat.le_refl 0⟩ (fun H locs hw => ?_)
  refine lv_if_eq (tgt := 46) hx hb dX8_error_11 (by decide) (fun c_4 => ?_) (fun c_4 => ?_)
  · replace hf := ite_t hf c_4
    refine lv_iconst hx hb dX8_error_46 ic_m1 ?_
    cases hf
    exact retM_i E hw dX8_error_47
  · replace hf := ite_f hf c_4
    refine lv_iload_n hx hb dX8_error_14 rfl (lv_at hl 2 rfl) ?_
    refine lv_iconst hx hb dX8_error_15 ic_0 ?_
    refine lv_aload_n hx hb dX8_error_16 rfl (lv_at hl 0 rfl) ?_
    refine gM_0_6 E hw (E.hts _ wl647) dX8_error_17 ?_
    refine lv_iconst hx hb dX8_error_20 ic_1 ?_
    refine lv_isub hx hb dX8_error_21 ?_
    obtain ⟨r_6, h_5, hf⟩ := ob_at hf
    refine qk8_in E hw (mk8_in E.hD h_5) wl743 dX8_error_22 ⟨Nat.le_of_ble_eq_true rfl, Nat.le_of_ble_eq_true rfl⟩ hl.1 (Nat.le_of_ble_eq_true rfl) ⟨Nat.le_refl 0, Nat.le_refl 0⟩ (fun H locs hw => ?_)
    refine lv_if_eq (tgt := 46) hx hb dX8_error_25 (by decide) (fun c_8 => ?_) (fun c_8 => ?_)
    · replace hf := ite_t hf c_8
      refine lv_iconst hx hb dX8_error_46 ic_m1 ?_
      cases hf
      exact retM_i E hw dX8_error_47
    · replace hf := ite_f hf c_8
      refine lv_aload_n hx hb dX8_error_28 rfl (lv_at hl 0 rfl) ?_
      refine gM_0_10 E hw (E.hts _ wl651) dX8_error_29 ?_
      refine lv_iload_n hx hb dX8_error_32 rfl (lv_at hl 1 rfl) ?_
      obtain ⟨h_v_9, hf⟩ := rdA_at hf
      refine lM_8 E hw h_v_9 dX8_error_33 (fun v_9 ev_9 => ?_)
      replace hf := hf v_9 ev_9
      refine lv_aload_n hx hb dX8_error_34 rfl (lv_at hl 0 rfl) ?_
      refine gM_0_7 E hw (E.hts _ wl648) dX8_error_35 ?_
      refine lv_iload_n hx hb dX8_error_38 rfl (lv_at hl 2 rfl) ?_
      obtain ⟨h_v_10, hf⟩ := rdA_at hf
      refine lM_6 E hw h_v_10 dX8_error_39 (fun v_10 ev_10 => ?_)
      replace hf := hf v_10 ev_10
      obtain ⟨r_12, h_11, hf⟩ := ob_at hf
      refine qk8_errorOf E hw (mk8_errorOf E.hD h_11) wl789 dX8_error_40 ⟨Nat.le_of_ble_eq_true rfl, Nat.le_of_ble_eq_true rfl⟩ hl.1 (Nat.le_of_ble_eq_true rfl) ⟨Nat.le_refl 0, Nat.le_refl 0⟩ (fun H locs hw => ?_)
      refine lv_goto (tgt := 47) hx hb dX8_error_43 (by decide) ?_
      cases hf
      exact retM_i E hw dX8_error_47
theorem qk8_error {p : Program} {l : Launch} {e : Env} {R : Room} {s : State} {m : MethodId} {args : Array Value} {below : List Frame} {meth : Method} {c : Code} {H : Heap} {locs : List Loc} {cells slots : Nat} {Q : State → Prop} {cc : ByteArray} {pc : Nat} {ls : Array Slot} {rest : List Value} {D : va_G} {a : Nat → Nat} {g : Nat → ClassId} {nL : Nat} {own : String} {ret : Option FieldType} {S S1 : SM} {k : Nat} {x1 x2 : Int32} {r : Int32} (E : EM p s m args meth c D a g cc nL own ret) (hw : WM D a g S s H locs) (hM : Met l yX8_error (wsm yX8_error cX8_error 3 (some .int)) (RM k) (PM D a g S [.ref (a 0), .int x1, .int x2]) (QM D a g (some (.int r)) S1) 0 0 (AM a)) {idx : Nat} (hlk : Cond.methodLink own idx yX8_error ∈ wd) (hdg : decode cc pc = .ok (.invokevirtual idx, 3)) (hR : k + 1 ≤ R.frames ∧ 8 + (3 + 11) + 64 * k ≤ R.locals) (hls : ls.size = nL) (hrest : (rest.map fun v => v.category).sum ≤ 8) (hcs : cells ≤ R.cells ∧ slots ≤ R.slots) (kk : ∀ (H1 : Heap) (locs1 : List Loc), WM D a g S1 s H1 locs1 → W p l e R s m args below meth c H1 locs1 cells slots Q (F0 m (pc + 3) ls (.int r :: rest))) : W p l e R s m args below meth c H locs cells slots Q (F0 m pc ls (.int x2 :: .int x1 :: .ref (a 0) :: rest)) :=
  callM_i hw (va_runV (As := [.int x1, .int x2]) (rest := rest) ⟨E.hx, E.hb, E.hml, E.hown, E.hts⟩ hM ⟨cb_of 2 E.hts wl788 wl44 hlk (by decide +kernel) hR, E.hts _ wl786, E.hts _ wl787⟩ ⟨PM_blind, va_recv E.hK hw.1 (ci := 8) (q0 := 0) rfl rfl, PM_pre E.hK E.hN hw.1⟩ rfl rfl hls rfl (lv_room hrest) hdg hcs) kk
/-! X8_whose -/
def k8_whose (F : Nat) (S : SM) (x1 : Int32) : Option (Int32 × SM) :=
  (k8_in F S (x1) ((0 : Int32)) ((S.1 0 9) - ((1 : Int32)))).bind fun r_2 => if r_2 = 0 then (some ((-1 : Int32), S)) else (ob2 (k8_joins F S ) fun r_6 S_7 => (rdA 7 (S_7.1 18) x1).bind fun v_8 => if v_8 = (S_7.1 0 6) then (some ((-1 : Int32), S_7)) else ((rdA 7 (S_7.1 18) x1).bind fun v_10 => some (v_10, S_7)))
set_option maxRecDepth 100000 in
set_option maxHeartbeats 4000000 in
theorem mk8_whose {l : Launch} {D : va_G} {a : Nat → Nat} {g : Nat → ClassId} (hD : ∀ S, va_D (AM a) (wM a g S)) {F : Nat} {S : SM} {x1 : Int32} {out : (Int32 × SM)} (hf : k8_whose F S x1 = some out) : Met l yX8_whose (wsm yX8_whose cX8_whose 2 (some .int)) (RM 6) (PM D a g S [.ref (a 0), .int x1]) (QM D a g (some (.int out.1)) out.2) 0 0 (AM a) := by
  refine Met.ofW (cc := cX8_whose) (maxL := 2) (ret := (some .int)) (by decide) rfl ?_
  intro p e s m args below meth c s₁ B hml hv
  obtain ⟨rfl, hP, hK, hN⟩ := hv
  have hts := atoms_spec (ws := wsm yX8_whose cX8_whose 2 (some .int)) B.pre
  have E : EM p s m _ meth c D a g cX8_whose 2 RX8 (some .int) := ⟨B.exec, B.bytes, B.returns, hml, findClass_of_methodNamed B.named, fun w h => hts w (List.mem_cons_of_mem _ h), hK, hN, hD, B.notSynchronized⟩
  have hx := E.hx
  have hb := E.hb
  have hw : WM D a g S s s.heap [] := ⟨hP, va_S.rf⟩
  have hl := lv_entry ([.ref (a 0), .int x1]) (n := 2) (Nat.le_of_ble_eq_true rfl)
  rw [lg_entry_eq]
  generalize (lg_sl ([.ref (a 0), .int x1]) ++ List.replicate (2 - (lg_sl ([.ref (a 0), .int x1])).length) Slot.unset).toArray = ls at hl ⊢
  have hl : lv_has ls 2 [(0, .ref (a 0)), (1, .int (x1))] := hl
  show W p l e (RM 6) s m _ below meth c s.heap [] 0 0 (MQ below (QM D a g (some (.int out.1)) out.2) _ s 0 0 (AM a)) (F0 m 0 ls [])
  unfold k8_whose at hf
  refine lv_iload_n hx hb dX8_whose_0 rfl (lv_at hl 1 rfl) ?_
  refine lv_iconst hx hb dX8_whose_1 ic_0 ?_
  refine lv_aload_n hx hb dX8_whose_2 rfl (lv_at hl 0 rfl) ?_
  refine gM_0_9 E hw (E.hts _ wl650) dX8_whose_3 ?_
  refine lv_iconst hx hb dX8_whose_6 ic_1 ?_
  refine lv_isub hx hb dX8_whose_7 ?_
  obtain ⟨r_2, h_1, hf⟩ := ob_at hf
  refine qk8_in E hw (mk8_in E.hD h_1) wl743 dX8_whose_8 ⟨Nat.le_of_ble_eq_true rfl, Nat.le_of_ble_eq_true rfl⟩ hl.1 (Nat.le_of_ble_eq_true rfl) ⟨Nat.le_refl 0, Nat.le_refl 0⟩ (fun H locs hw => ?_)
  refine lv_if_ne (tgt := 16) hx hb dX8_whose_11 (by decide) (fun c_4 => ?_) (fun c_4 => ?_)
  · replace hf := ite_f hf c_4
    refine lv_aload_n hx hb dX8_whose_16 rfl (lv_at hl 0 rfl) ?_
    obtain ⟨r_6, S_7, h_5, hf⟩ := ob2_at hf
    refine qk8_joins E hw (mk8_joins E.hD h_5) wl799 dX8_whose_17 ⟨Nat.le_of_ble_eq_true rfl, Nat.le_of_ble_eq_true rfl⟩ hl.1 (Nat.le_of_ble_eq_true rfl) ⟨Nat.le_refl 0, Nat.le_refl 0⟩ (fun H locs hw => ?_)
    refine lv_pop hx hb dX8_whose_20 rfl ?_
    refine lv_aload_n hx hb dX8_whose_21 rfl (lv_at hl 0 rfl) ?_
    refine gM_0_24 E hw (E.hts _ wl665) dX8_whose_22 ?_
    refine lv_iload_n hx hb dX8_whose_25 rfl (lv_at hl 1 rfl) ?_
    obtain ⟨h_v_8, hf⟩ := rdA_at hf
    refine lM_18 E hw h_v_8 dX8_whose_26 (fun v_8 ev_8 => ?_)
    replace hf := hf v_8 ev_8
    refine lv_aload_n hx hb dX8_whose_27 rfl (lv_at hl 0 rfl) ?_
    refine gM_0_6 E hw (E.hts _ wl647) dX8_whose_28 ?_
    refine lv_icmp_ne (tgt := 38) hx hb dX8_whose_31 (by decide) (fun c_9 => ?_) (fun c_9 => ?_)
    · replace hf := ite_f hf c_9
      refine lv_aload_n hx hb dX8_whose_38 rfl (lv_at hl 0 rfl) ?_
      refine gM_0_24 E hw (E.hts _ wl665) dX8_whose_39 ?_
      refine lv_iload_n hx hb dX8_whose_42 rfl (lv_at hl 1 rfl) ?_
      obtain ⟨h_v_10, hf⟩ := rdA_at hf
      refine lM_18 E hw h_v_10 dX8_whose_43 (fun v_10 ev_10 => ?_)
      replace hf := hf v_10 ev_10
      cases hf
      exact retM_i E hw dX8_whose_44
    · replace hf := ite_t hf c_9
      refine lv_iconst hx hb dX8_whose_34 ic_m1 ?_
      refine lv_goto (tgt := 44) hx hb dX8_whose_35 (by decide) ?_
      cases hf
      exact retM_i E hw dX8_whose_44
  · replace hf := ite_t hf c_4
    refine lv_iconst hx hb dX8_whose_14 ic_m1 ?_
    cases hf
    exact retM_i E hw dX8_whose_15
theorem qk8_whose {p : Program} {l : Launch} {e : Env} {R : Room} {s : State} {m : MethodId} {args : Array Value} {below : List Frame} {meth : Method} {c : Code} {H : Heap} {locs : List Loc} {cells slots : Nat} {Q : State → Prop} {cc : ByteArray} {pc : Nat} {ls : Array Slot} {rest : List Value} {D : va_G} {a : Nat → Nat} {g : Nat → ClassId} {nL : Nat} {own : String} {ret : Option FieldType} {S S1 : SM} {k : Nat} {x1 : Int32} {r : Int32} (E : EM p s m args meth c D a g cc nL own ret) (hw : WM D a g S s H locs) (hM : Met l yX8_whose (wsm yX8_whose cX8_whose 2 (some .int)) (RM k) (PM D a g S [.ref (a 0), .int x1]) (QM D a g (some (.int r)) S1) 0 0 (AM a)) {idx : Nat} (hlk : Cond.methodLink own idx yX8_whose ∈ wd) (hdg : decode cc pc = .ok (.invokevirtual idx, 3)) (hR : k + 1 ≤ R.frames ∧ 8 + (2 + 11) + 64 * k ≤ R.locals) (hls : ls.size = nL) (hrest : (rest.map fun v => v.category).sum ≤ 8) (hcs : cells ≤ R.cells ∧ slots ≤ R.slots) (kk : ∀ (H1 : Heap) (locs1 : List Loc), WM D a g S1 s H1 locs1 → W p l e R s m args below meth c H1 locs1 cells slots Q (F0 m (pc + 3) ls (.int r :: rest))) : W p l e R s m args below meth c H locs cells slots Q (F0 m pc ls (.int x1 :: .ref (a 0) :: rest)) :=
  callM_i hw (va_runV (As := [.int x1]) (rest := rest) ⟨E.hx, E.hb, E.hml, E.hown, E.hts⟩ hM ⟨cb_of 1 E.hts wl798 wl44 hlk (by decide +kernel) hR, E.hts _ wl796, E.hts _ wl797⟩ ⟨PM_blind, va_recv E.hK hw.1 (ci := 8) (q0 := 0) rfl rfl, PM_pre E.hK E.hN hw.1⟩ rfl rfl hls rfl (lv_room hrest) hdg hcs) kk
/-! X8_cost -/
def k8_cost (F : Nat) (S : SM) : Option (Int32 × SM) :=
  ob2 (k8_joins F S ) fun r_2 S_3 => some (r_2, S_3)
set_option maxRecDepth 100000 in
set_option maxHeartbeats 4000000 in
theorem mk8_cost {l : Launch} {D : va_G} {a : Nat → Nat} {g : Nat → ClassId} (hD : ∀ S, va_D (AM a) (wM a g S)) {F : Nat} {S : SM} {out : (Int32 × SM)} (hf : k8_cost F S  = some out) : Met l yX8_cost (wsm yX8_cost cX8_cost 1 (some .int)) (RM 6) (PM D a g S [.ref (a 0)]) (QM D a g (some (.int out.1)) out.2) 0 0 (AM a) := by
  refine Met.ofW (cc := cX8_cost) (maxL := 1) (ret := (some .int)) (by decide) rfl ?_
  intro p e s m args below meth c s₁ B hml hv
  obtain ⟨rfl, hP, hK, hN⟩ := hv
  have hts := atoms_spec (ws := wsm yX8_cost cX8_cost 1 (some .int)) B.pre
  have E : EM p s m _ meth c D a g cX8_cost 1 RX8 (some .int) := ⟨B.exec, B.bytes, B.returns, hml, findClass_of_methodNamed B.named, fun w h => hts w (List.mem_cons_of_mem _ h), hK, hN, hD, B.notSynchronized⟩
  have hx := E.hx
  have hb := E.hb
  have hw : WM D a g S s s.heap [] := ⟨hP, va_S.rf⟩
  have hl := lv_entry ([.ref (a 0)]) (n := 1) (Nat.le_of_ble_eq_true rfl)
  rw [lg_entry_eq]
  generalize (lg_sl ([.ref (a 0)]) ++ List.replicate (1 - (lg_sl ([.ref (a 0)])).length) Slot.unset).toArray = ls at hl ⊢
  have hl : lv_has ls 1 [(0, .ref (a 0))] := hl
  show W p l e (RM 6) s m _ below meth c s.heap [] 0 0 (MQ below (QM D a g (some (.int out.1)) out.2) _ s 0 0 (AM a)) (F0 m 0 ls [])
  unfold k8_cost at hf
  refine lv_aload_n hx hb dX8_cost_0 rfl (lv_at hl 0 rfl) ?_
  obtain ⟨r_2, S_3, h_1, hf⟩ := ob2_at hf
  refine qk8_joins E hw (mk8_joins E.hD h_1) wl799 dX8_cost_1 ⟨Nat.le_of_ble_eq_true rfl, Nat.le_of_ble_eq_true rfl⟩ hl.1 (Nat.le_of_ble_eq_true rfl) ⟨Nat.le_refl 0, Nat.le_refl 0⟩ (fun H locs hw => ?_)
  cases hf
  exact retM_i E hw dX8_cost_4
theorem qk8_cost {p : Program} {l : Launch} {e : Env} {R : Room} {s : State} {m : MethodId} {args : Array Value} {below : List Frame} {meth : Method} {c : Code} {H : Heap} {locs : List Loc} {cells slots : Nat} {Q : State → Prop} {cc : ByteArray} {pc : Nat} {ls : Array Slot} {rest : List Value} {D : va_G} {a : Nat → Nat} {g : Nat → ClassId} {nL : Nat} {own : String} {ret : Option FieldType} {S S1 : SM} {k : Nat} {r : Int32} (E : EM p s m args meth c D a g cc nL own ret) (hw : WM D a g S s H locs) (hM : Met l yX8_cost (wsm yX8_cost cX8_cost 1 (some .int)) (RM k) (PM D a g S [.ref (a 0)]) (QM D a g (some (.int r)) S1) 0 0 (AM a)) {idx : Nat} (hlk : Cond.methodLink own idx yX8_cost ∈ wd) (hdg : decode cc pc = .ok (.invokevirtual idx, 3)) (hR : k + 1 ≤ R.frames ∧ 8 + (1 + 11) + 64 * k ≤ R.locals) (hls : ls.size = nL) (hrest : (rest.map fun v => v.category).sum ≤ 8) (hcs : cells ≤ R.cells ∧ slots ≤ R.slots) (kk : ∀ (H1 : Heap) (locs1 : List Loc), WM D a g S1 s H1 locs1 → W p l e R s m args below meth c H1 locs1 cells slots Q (F0 m (pc + 3) ls (.int r :: rest))) : W p l e R s m args below meth c H locs cells slots Q (F0 m pc ls (.ref (a 0) :: rest)) :=
  callM_i hw (va_runV (As := []) (rest := rest) ⟨E.hx, E.hb, E.hml, E.hown, E.hts⟩ hM ⟨cb_of 0 E.hts wl810 wl44 hlk (by decide +kernel) hR, E.hts _ wl808, E.hts _ wl809⟩ ⟨PM_blind, va_recv E.hK hw.1 (ci := 8) (q0 := 0) rfl rfl, PM_pre E.hK E.hN hw.1⟩ rfl rfl hls rfl (lv_room hrest) hdg hcs) kk
/-! X8_terms -/
def k8_terms (F : Nat) (S : SM) (x1 : Int32) (x2 : Int32) : Option (Int32 × SM) :=
  (k8_in F S (x1) ((0 : Int32)) ((30 : Int32))).bind fun r_2 => if r_2 = 0 then (some ((0 : Int32), S)) else ((k8_in F S (x2) ((0 : Int32)) ((100 : Int32))).bind fun r_6 => if r_6 = 0 then (some ((0 : Int32), S)) else (bnd (stM S 0 14 x1) fun S_9 => bnd (stM S_9 0 15 x2) fun S_10 => some ((1 : Int32), S_10)))
set_option maxRecDepth 100000 in
set_option maxHeartbeats 4000000 in
theorem mk8_terms {l : Launch} {D : va_G} {a : Nat → Nat} {g : Nat → ClassId} (hD : ∀ S, va_D (AM a) (wM a g S)) {F : Nat} {S : SM} {x1 x2 : Int32} {out : (Int32 × SM)} (hf : k8_terms F S x1 x2 = some out) : Met l yX8_terms (wsm yX8_terms cX8_terms 3 (some .boolean)) (RM 2) (PM D a g S [.ref (a 0), .int x1, .int x2]) (QM D a g (some (.int out.1)) out.2) 0 0 (AM a) := by
  refine Met.ofW (cc := cX8_terms) (maxL := 3) (ret := (some .boolean)) (by decide) rfl ?_
  intro p e s m args below meth c s₁ B hml hv
  obtain ⟨rfl, hP, hK, hN⟩ := hv
  have hts := atoms_spec (ws := wsm yX8_terms cX8_terms 3 (some .boolean)) B.pre
  have E : EM p s m _ meth c D a g cX8_terms 3 RX8 (some .boolean) := ⟨B.exec, B.bytes, B.returns, hml, findClass_of_methodNamed B.named, fun w h => hts w (List.mem_cons_of_mem _ h), hK, hN, hD, B.notSynchronized⟩
  have hx := E.hx
  have hb := E.hb
  have hw : WM D a g S s s.heap [] := ⟨hP, va_S.rf⟩
  have hl := lv_entry ([.ref (a 0), .int x1, .int x2]) (n := 3) (Nat.le_of_ble_eq_true rfl)
  rw [lg_entry_eq]
  generalize (lg_sl ([.ref (a 0), .int x1, .int x2]) ++ List.replicate (3 - (lg_sl ([.ref (a 0), .int x1, .int x2])).length) Slot.unset).toArray = ls at hl ⊢
  have hl : lv_has ls 3 [(0, .ref (a 0)), (1, .int (x1)), (2, .int (x2))] := hl
  show W p l e (RM 2) s m _ below meth c s.heap [] 0 0 (MQ below (QM D a g (some (.int out.1)) out.2) _ s 0 0 (AM a)) (F0 m 0 ls [])
  unfold k8_terms at hf
  refine lv_iload_n hx hb dX8_terms_0 rfl (lv_at hl 1 rfl) ?_
  refine lv_iconst hx hb dX8_terms_1 ic_0 ?_
  refine lv_bipush hx hb dX8_terms_2 bp_30 ?_
  obtain ⟨r_2, h_1, hf⟩ := ob_at hf
  refine qk8_in E hw (mk8_in E.hD h_1) wl743 dX8_terms_4 ⟨Nat.le_of_ble_eq_true rfl, Nat.le_of_ble_eq_true rfl⟩ hl.1 (Nat.le_of_ble_eq_true rfl) ⟨Nat.le_refl 0, Nat.le_refl 0⟩ (fun H locs hw => ?_)
  refine lv_if_eq (tgt := 20) hx hb dX8_terms_7 (by decide) (fun c_4 => ?_) (fun c_4 => ?_)
  · replace hf := ite_t hf c_4
    refine lv_iconst hx hb dX8_terms_20 ic_0 ?_
    cases hf
    exact retM_z E hw nb0 dX8_terms_21
  · replace hf := ite_f hf c_4
    refine lv_iload_n hx hb dX8_terms_10 rfl (lv_at hl 2 rfl) ?_
    refine lv_iconst hx hb dX8_terms_11 ic_0 ?_
    refine lv_bipush hx hb dX8_terms_12 bp_100 ?_
    obtain ⟨r_6, h_5, hf⟩ := ob_at hf
    refine qk8_in E hw (mk8_in E.hD h_5) wl743 dX8_terms_14 ⟨Nat.le_of_ble_eq_true rfl, Nat.le_of_ble_eq_true rfl⟩ hl.1 (Nat.le_of_ble_eq_true rfl) ⟨Nat.le_refl 0, Nat.le_refl 0⟩ (fun H locs hw => ?_)
    refine lv_if_ne (tgt := 22) hx hb dX8_terms_17 (by decide) (fun c_8 => ?_) (fun c_8 => ?_)
    · replace hf := ite_f hf c_8
      refine lv_aload_n hx hb dX8_terms_22 rfl (lv_at hl 0 rfl) ?_
      refine lv_iload_n hx hb dX8_terms_23 rfl (lv_at hl 1 rfl) ?_
      refine pM_0_14 E hw (E.hts _ wl655) dX8_terms_24 (fun S_9 eS_9 H locs hw => ?_)
      replace hf := bnd_at hf eS_9
      refine lv_aload_n hx hb dX8_terms_27 rfl (lv_at hl 0 rfl) ?_
      refine lv_iload_n hx hb dX8_terms_28 rfl (lv_at hl 2 rfl) ?_
      refine pM_0_15 E hw (E.hts _ wl656) dX8_terms_29 (fun S_10 eS_10 H locs hw => ?_)
      replace hf := bnd_at hf eS_10
      refine lv_iconst hx hb dX8_terms_32 ic_1 ?_
      cases hf
      exact retM_z E hw nb1 dX8_terms_33
    · replace hf := ite_t hf c_8
      refine lv_iconst hx hb dX8_terms_20 ic_0 ?_
      cases hf
      exact retM_z E hw nb0 dX8_terms_21
theorem qk8_terms {p : Program} {l : Launch} {e : Env} {R : Room} {s : State} {m : MethodId} {args : Array Value} {below : List Frame} {meth : Method} {c : Code} {H : Heap} {locs : List Loc} {cells slots : Nat} {Q : State → Prop} {cc : ByteArray} {pc : Nat} {ls : Array Slot} {rest : List Value} {D : va_G} {a : Nat → Nat} {g : Nat → ClassId} {nL : Nat} {own : String} {ret : Option FieldType} {S S1 : SM} {k : Nat} {x1 x2 : Int32} {r : Int32} (E : EM p s m args meth c D a g cc nL own ret) (hw : WM D a g S s H locs) (hM : Met l yX8_terms (wsm yX8_terms cX8_terms 3 (some .boolean)) (RM k) (PM D a g S [.ref (a 0), .int x1, .int x2]) (QM D a g (some (.int r)) S1) 0 0 (AM a)) {idx : Nat} (hlk : Cond.methodLink own idx yX8_terms ∈ wd) (hdg : decode cc pc = .ok (.invokevirtual idx, 3)) (hR : k + 1 ≤ R.frames ∧ 8 + (3 + 11) + 64 * k ≤ R.locals) (hls : ls.size = nL) (hrest : (rest.map fun v => v.category).sum ≤ 8) (hcs : cells ≤ R.cells ∧ slots ≤ R.slots) (kk : ∀ (H1 : Heap) (locs1 : List Loc), WM D a g S1 s H1 locs1 → W p l e R s m args below meth c H1 locs1 cells slots Q (F0 m (pc + 3) ls (.int r :: rest))) : W p l e R s m args below meth c H locs cells slots Q (F0 m pc ls (.int x2 :: .int x1 :: .ref (a 0) :: rest)) :=
  callM_i hw (va_runV (As := [.int x1, .int x2]) (rest := rest) ⟨E.hx, E.hb, E.hml, E.hown, E.hts⟩ hM ⟨cb_of 2 E.hts wl814 wl44 hlk (by decide +kernel) hR, E.hts _ wl812, E.hts _ wl813⟩ ⟨PM_blind, va_recv E.hK hw.1 (ci := 8) (q0 := 0) rfl rfl, PM_pre E.hK E.hN hw.1⟩ rfl rfl hls rfl (lv_room hrest) hdg hcs) kk
/-! X8_charge -/
def k8_charge (F : Nat) (S : SM) (x1 : Int32) (x2 : Int32) : Option (Int32 × SM) :=
  (k8_in F S (x1) ((0 : Int32)) ((S.1 0 6) - ((1 : Int32)))).bind fun r_2 => if r_2 = 0 then (some ((0 : Int32), S)) else ((k8_isCompany F S (x2)).bind fun r_6 => if r_6 = 0 then (some ((0 : Int32), S)) else (ob2 (k8_joins F S ) fun r_10 S_11 => (k8_owes F S_11 (x1) (x2)).bind fun r_13 => some (r_13, S_11)))
set_option maxRecDepth 100000 in
set_option maxHeartbeats 4000000 in
theorem mk8_charge {l : Launch} {D : va_G} {a : Nat → Nat} {g : Nat → ClassId} (hD : ∀ S, va_D (AM a) (wM a g S)) {F : Nat} {S : SM} {x1 x2 : Int32} {out : (Int32 × SM)} (hf : k8_charge F S x1 x2 = some out) : Met l yX8_charge (wsm yX8_charge cX8_charge 3 (some .int)) (RM 6) (PM D a g S [.ref (a 0), .int x1, .int x2]) (QM D a g (some (.int out.1)) out.2) 0 0 (AM a) := by
  refine Met.ofW (cc := cX8_charge) (maxL := 3) (ret := (some .int)) (by decide) rfl ?_
  intro p e s m args below meth c s₁ B hml hv
  obtain ⟨rfl, hP, hK, hN⟩ := hv
  have hts := atoms_spec (ws := wsm yX8_charge cX8_charge 3 (some .int)) B.pre
  have E : EM p s m _ meth c D a g cX8_charge 3 RX8 (some .int) := ⟨B.exec, B.bytes, B.returns, hml, findClass_of_methodNamed B.named, fun w h => hts w (List.mem_cons_of_mem _ h), hK, hN, hD, B.notSynchronized⟩
  have hx := E.hx
  have hb := E.hb
  have hw : WM D a g S s s.heap [] := ⟨hP, va_S.rf⟩
  have hl := lv_entry ([.ref (a 0), .int x1, .int x2]) (n := 3) (Nat.le_of_ble_eq_true rfl)
  rw [lg_entry_eq]
  generalize (lg_sl ([.ref (a 0), .int x1, .int x2]) ++ List.replicate (3 - (lg_sl ([.ref (a 0), .int x1, .int x2])).length) Slot.unset).toArray = ls at hl ⊢
  have hl : lv_has ls 3 [(0, .ref (a 0)), (1, .int (x1)), (2, .int (x2))] := hl
  show W p l e (RM 6) s m _ below meth c s.heap [] 0 0 (MQ below (QM D a g (some (.int out.1)) out.2) _ s 0 0 (AM a)) (F0 m 0 ls [])
  unfold k8_charge at hf
  refine lv_iload_n hx hb dX8_charge_0 rfl (lv_at hl 1 rfl) ?_
  refine lv_iconst hx hb dX8_charge_1 ic_0 ?_
  refine lv_aload_n hx hb dX8_charge_2 rfl (lv_at hl 0 rfl) ?_
  refine gM_0_6 E hw (E.hts _ wl647) dX8_charge_3 ?_
  refine lv_iconst hx hb dX8_charge_6 ic_1 ?_
  refine lv_isub hx hb dX8_charge_7 ?_
  obtain ⟨r_2, h_1, hf⟩ := ob_at hf
  refine qk8_in E hw (mk8_in E.hD h_1) wl743 dX8_charge_8 ⟨Nat.le_of_ble_eq_true rfl, Nat.le_of_ble_eq_true rfl⟩ hl.1 (Nat.le_of_ble_eq_true rfl) ⟨Nat.le_refl 0, Nat.le_refl 0⟩ (fun H locs hw => ?_)
  refine lv_if_eq (tgt := 21) hx hb dX8_charge_11 (by decide) (fun c_4 => ?_) (fun c_4 => ?_)
  · replace hf := ite_t hf c_4
    refine lv_iconst hx hb dX8_charge_21 ic_0 ?_
    cases hf
    exact retM_i E hw dX8_charge_22
  · replace hf := ite_f hf c_4
    refine lv_iload_n hx hb dX8_charge_14 rfl (lv_at hl 2 rfl) ?_
    obtain ⟨r_6, h_5, hf⟩ := ob_at hf
    refine qk8_isCompany E hw (mk8_isCompany E.hD h_5) wl746 dX8_charge_15 ⟨Nat.le_of_ble_eq_true rfl, Nat.le_of_ble_eq_true rfl⟩ hl.1 (Nat.le_of_ble_eq_true rfl) ⟨Nat.le_refl 0, Nat.le_refl 0⟩ (fun H locs hw => ?_)
    refine lv_if_ne (tgt := 23) hx hb dX8_charge_18 (by decide) (fun c_8 => ?_) (fun c_8 => ?_)
    · replace hf := ite_f hf c_8
      refine lv_aload_n hx hb dX8_charge_23 rfl (lv_at hl 0 rfl) ?_
      obtain ⟨r_10, S_11, h_9, hf⟩ := ob2_at hf
      refine qk8_joins E hw (mk8_joins E.hD h_9) wl799 dX8_charge_24 ⟨Nat.le_of_ble_eq_true rfl, Nat.le_of_ble_eq_true rfl⟩ hl.1 (Nat.le_of_ble_eq_true rfl) ⟨Nat.le_refl 0, Nat.le_refl 0⟩ (fun H locs hw => ?_)
      refine lv_pop hx hb dX8_charge_27 rfl ?_
      refine lv_aload_n hx hb dX8_charge_28 rfl (lv_at hl 0 rfl) ?_
      refine lv_iload_n hx hb dX8_charge_29 rfl (lv_at hl 1 rfl) ?_
      refine lv_iload_n hx hb dX8_charge_30 rfl (lv_at hl 2 rfl) ?_
      obtain ⟨r_13, h_12, hf⟩ := ob_at hf
      refine qk8_owes E hw (mk8_owes E.hD h_12) wl819 dX8_charge_31 ⟨Nat.le_of_ble_eq_true rfl, Nat.le_of_ble_eq_true rfl⟩ hl.1 (Nat.le_of_ble_eq_true rfl) ⟨Nat.le_refl 0, Nat.le_refl 0⟩ (fun H locs hw => ?_)
      cases hf
      exact retM_i E hw dX8_charge_34
    · replace hf := ite_t hf c_8
      refine lv_iconst hx hb dX8_charge_21 ic_0 ?_
      cases hf
      exact retM_i E hw dX8_charge_22
theorem qk8_charge {p : Program} {l : Launch} {e : Env} {R : Room} {s : State} {m : MethodId} {args : Array Value} {below : List Frame} {meth : Method} {c : Code} {H : Heap} {locs : List Loc} {cells slots : Nat} {Q : State → Prop} {cc : ByteArray} {pc : Nat} {ls : Array Slot} {rest : List Value} {D : va_G} {a : Nat → Nat} {g : Nat → ClassId} {nL : Nat} {own : String} {ret : Option FieldType} {S S1 : SM} {k : Nat} {x1 x2 : Int32} {r : Int32} (E : EM p s m args meth c D a g cc nL own ret) (hw : WM D a g S s H locs) (hM : Met l yX8_charge (wsm yX8_charge cX8_charge 3 (some .int)) (RM k) (PM D a g S [.ref (a 0), .int x1, .int x2]) (QM D a g (some (.int r)) S1) 0 0 (AM a)) {idx : Nat} (hlk : Cond.methodLink own idx yX8_charge ∈ wd) (hdg : decode cc pc = .ok (.invokevirtual idx, 3)) (hR : k + 1 ≤ R.frames ∧ 8 + (3 + 11) + 64 * k ≤ R.locals) (hls : ls.size = nL) (hrest : (rest.map fun v => v.category).sum ≤ 8) (hcs : cells ≤ R.cells ∧ slots ≤ R.slots) (kk : ∀ (H1 : Heap) (locs1 : List Loc), WM D a g S1 s H1 locs1 → W p l e R s m args below meth c H1 locs1 cells slots Q (F0 m (pc + 3) ls (.int r :: rest))) : W p l e R s m args below meth c H locs cells slots Q (F0 m pc ls (.int x2 :: .int x1 :: .ref (a 0) :: rest)) :=
  callM_i hw (va_runV (As := [.int x1, .int x2]) (rest := rest) ⟨E.hx, E.hb, E.hml, E.hown, E.hts⟩ hM ⟨cb_of 2 E.hts wl818 wl44 hlk (by decide +kernel) hR, E.hts _ wl816, E.hts _ wl817⟩ ⟨PM_blind, va_recv E.hK hw.1 (ci := 8) (q0 := 0) rfl rfl, PM_pre E.hK E.hN hw.1⟩ rfl rfl hls rfl (lv_room hrest) hdg hcs) kk
/-! X8_sumOf -/
def k8_sumOf_B5 (F : Nat) (S : SM) (x1 : Int32) (rec5 : Int64 → Int32 → Option Int64) (x2 : Int64) (x4 : Int32) : Option Int64 :=
  if ((8 : Int32)) ≤ x4 then (some (x2)) else (if ((x1 >>> (x4 &&& 31)) &&& ((1 : Int32))) = ((1 : Int32)) then ((rdA 8 (S.1 19) x4).bind fun v_6 => bnd (x2 + (Int32.toInt64 v_6)) fun x2_7 => bnd (x4 + (1)) fun x4_8 => rec5 (x2_7) (x4_8)) else (bnd (x4 + (1)) fun x4_5 => rec5 (x2) (x4_5)))
def k8_sumOf (F : Nat) (S : SM) (x1 : Int32) : Option Int64 :=
  bnd ((0 : Int64)) fun x2_1 => bnd ((0 : Int32)) fun x4_2 => lpN (fun _ _ => none) (fun rec5 => k8_sumOf_B5 F S (x1) rec5 ) F (x2_1) (x4_2)
set_option maxRecDepth 100000 in
set_option maxHeartbeats 4000000 in
theorem k8_sumOf_b5 {p : Program} {l : Launch} {e : Env} {s : State} {m : MethodId} {args : Array Value} {below : List Frame} {meth : Method} {c : Code} {D : va_G} {a : Nat → Nat} {g : Nat → ClassId} (E : EM p s m args meth c D a g cX8_sumOf 5 RX8 (some .long)) {F : Nat}  (S : SM) (x1 : Int32) {rec5 : Int64 → Int32 → Option Int64} {out : Int64} (hrec5 : ∀ (x2 : Int64) (x4 : Int32) (H : Heap) (locs : List Loc) (ls : Array Slot), rec5 x2 x4 = some out → WM D a g S s H locs → lv_has ls 5 [(0, .ref (a 0)), (1, .int (x1)), (2, .long (x2)), (4, .int (x4))] → W p l e (RM 1) s m args below meth c H locs 0 0 (MQ below (QM D a g (some (.long out)) S) args s 0 0 (AM a)) (F0 m 5 ls []))  (x2 : Int64) (x4 : Int32) (H : Heap) (locs : List Loc) (ls : Array Slot) (hf : k8_sumOf_B5 F S x1 rec5 x2 x4 = some out) (hw : WM D a g S s H locs) (hl : lv_has ls 5 [(0, .ref (a 0)), (1, .int (x1)), (2, .long (x2)), (4, .int (x4))]) : W p l e (RM 1) s m args below meth c H locs 0 0 (MQ below (QM D a g (some (.long out)) S) args s 0 0 (AM a)) (F0 m 5 ls []) := by
  have hx := E.hx
  have hb := E.hb
  unfold k8_sumOf_B5 at hf
  refine lv_iload hx hb dX8_sumOf_5 (lv_at hl 3 rfl) ?_
  refine lv_bipush hx hb dX8_sumOf_7 bp_8 ?_
  refine lv_icmp_ge (tgt := 39) hx hb dX8_sumOf_9 (by decide) (fun c_3 => ?_) (fun c_3 => ?_)
  · replace hf := ite_t hf c_3
    refine lv_lload_n hx hb dX8_sumOf_39 rfl (lv_at hl 2 rfl) ?_
    cases hf
    exact retM_l E hw dX8_sumOf_40
  · replace hf := ite_f hf c_3
    refine lv_iload_n hx hb dX8_sumOf_12 rfl (lv_at hl 1 rfl) ?_
    refine lv_iload hx hb dX8_sumOf_13 (lv_at hl 3 rfl) ?_
    refine lv_ishr hx hb dX8_sumOf_15 ?_
    refine lv_iconst hx hb dX8_sumOf_16 ic_1 ?_
    refine lv_iand hx hb dX8_sumOf_17 ?_
    refine lv_iconst hx hb dX8_sumOf_18 ic_1 ?_
    refine lv_icmp_ne (tgt := 33) hx hb dX8_sumOf_19 (by decide) (fun c_4 => ?_) (fun c_4 => ?_)
    · replace hf := ite_f hf c_4
      obtain ⟨x4_5, ex4_5⟩ : ∃ y : Int32, y = x4 + (1) := ⟨_, rfl⟩
      replace hf := bnd_at hf ex4_5
      refine lv_iinc (v := x4_5) (lv' := [(4, .int (x4_5)), (0, .ref (a 0)), (1, .int (x1)), (2, .long (x2))]) hx hb dX8_sumOf_33 hl (k := 3) rfl (by rw [ex4_5]; rfl) (by decide) rfl (fun ls hl => ?_)
      refine lv_goto (tgt := 5) hx hb dX8_sumOf_36 (by decide) ?_
      exact hrec5 (x2) (x4_5) _ _ ls hf hw (lv_sub hl [1, 2, 3, 0] rfl)
    · replace hf := ite_t hf c_4
      refine lv_lload_n hx hb dX8_sumOf_22 rfl (lv_at hl 2 rfl) ?_
      refine lv_aload_n hx hb dX8_sumOf_23 rfl (lv_at hl 0 rfl) ?_
      refine gM_0_25 E hw (E.hts _ wl666) dX8_sumOf_24 ?_
      refine lv_iload hx hb dX8_sumOf_27 (lv_at hl 3 rfl) ?_
      obtain ⟨h_v_6, hf⟩ := rdA_at hf
      refine lM_19 E hw h_v_6 dX8_sumOf_29 (fun v_6 ev_6 => ?_)
      replace hf := hf v_6 ev_6
      refine lv_i2l (v := Int32.toInt64 v_6) hx hb dX8_sumOf_30 rfl ?_
      refine lv_ladd hx hb dX8_sumOf_31 ?_
      refine lv_topl (fun x2_7 ex2_7 => ?_)
      replace hf := bnd_at hf ex2_7
      refine lv_lstore_n (lv' := [(2, .long (x2_7)), (0, .ref (a 0)), (1, .int (x1)), (4, .int (x4))]) hx hb dX8_sumOf_32 rfl hl (by decide) rfl (fun ls hl => ?_)
      obtain ⟨x4_8, ex4_8⟩ : ∃ y : Int32, y = x4 + (1) := ⟨_, rfl⟩
      replace hf := bnd_at hf ex4_8
      refine lv_iinc (v := x4_8) (lv' := [(4, .int (x4_8)), (2, .long (x2_7)), (0, .ref (a 0)), (1, .int (x1))]) hx hb dX8_sumOf_33 hl (k := 3) rfl (by rw [ex4_8]; rfl) (by decide) rfl (fun ls hl => ?_)
      refine lv_goto (tgt := 5) hx hb dX8_sumOf_36 (by decide) ?_
      exact hrec5 (x2_7) (x4_8) _ _ ls hf hw (lv_sub hl [2, 3, 1, 0] rfl)
theorem k8_sumOf_l5 {p : Program} {l : Launch} {e : Env} {s : State} {m : MethodId} {args : Array Value} {below : List Frame} {meth : Method} {c : Code} {D : va_G} {a : Nat → Nat} {g : Nat → ClassId} (E : EM p s m args meth c D a g cX8_sumOf 5 RX8 (some .long)) {F : Nat}  (S : SM) (x1 : Int32) {out : Int64}  : ∀ (n : Nat) (x2 : Int64) (x4 : Int32) (H : Heap) (locs : List Loc) (ls : Array Slot), lpN (fun _ _ => none) (fun rec5 => k8_sumOf_B5 F S x1 rec5) n x2 x4 = some out → WM D a g S s H locs → lv_has ls 5 [(0, .ref (a 0)), (1, .int (x1)), (2, .long (x2)), (4, .int (x4))] → W p l e (RM 1) s m args below meth c H locs 0 0 (MQ below (QM D a g (some (.long out)) S) args s 0 0 (AM a)) (F0 m 5 ls []) := by
  intro n
  induction n with
  | zero => intro x2 x4 H locs ls hf; cases (show (none : Option Int64) = some out from hf)
  | succ n ih => intro x2 x4 H locs ls hf hw hl; exact k8_sumOf_b5 E (F := F) S x1 ih x2 x4 H locs ls hf hw hl
set_option maxRecDepth 100000 in
set_option maxHeartbeats 4000000 in
theorem mk8_sumOf {l : Launch} {D : va_G} {a : Nat → Nat} {g : Nat → ClassId} (hD : ∀ S, va_D (AM a) (wM a g S)) {F : Nat} {S : SM} {x1 : Int32} {out : Int64} (hf : k8_sumOf F S x1 = some out) : Met l yX8_sumOf (wsm yX8_sumOf cX8_sumOf 5 (some .long)) (RM 1) (PM D a g S [.ref (a 0), .int x1]) (QM D a g (some (.long out)) S) 0 0 (AM a) := by
  refine Met.ofW (cc := cX8_sumOf) (maxL := 5) (ret := (some .long)) (by decide) rfl ?_
  intro p e s m args below meth c s₁ B hml hv
  obtain ⟨rfl, hP, hK, hN⟩ := hv
  have hts := atoms_spec (ws := wsm yX8_sumOf cX8_sumOf 5 (some .long)) B.pre
  have E : EM p s m _ meth c D a g cX8_sumOf 5 RX8 (some .long) := ⟨B.exec, B.bytes, B.returns, hml, findClass_of_methodNamed B.named, fun w h => hts w (List.mem_cons_of_mem _ h), hK, hN, hD, B.notSynchronized⟩
  have hx := E.hx
  have hb := E.hb
  have hw : WM D a g S s s.heap [] := ⟨hP, va_S.rf⟩
  have hl := lv_entry ([.ref (a 0), .int x1]) (n := 5) (Nat.le_of_ble_eq_true rfl)
  rw [lg_entry_eq]
  generalize (lg_sl ([.ref (a 0), .int x1]) ++ List.replicate (5 - (lg_sl ([.ref (a 0), .int x1])).length) Slot.unset).toArray = ls at hl ⊢
  have hl : lv_has ls 5 [(0, .ref (a 0)), (1, .int (x1))] := hl
  show W p l e (RM 1) s m _ below meth c s.heap [] 0 0 (MQ below (QM D a g (some (.long out)) S) _ s 0 0 (AM a)) (F0 m 0 ls [])
  unfold k8_sumOf at hf
  refine lv_lconst (v := 0) hx hb dX8_sumOf_0 (by decide) ?_
  refine lv_topl (fun x2_1 ex2_1 => ?_)
  replace hf := bnd_at hf ex2_1
  refine lv_lstore_n (lv' := [(2, .long (x2_1)), (0, .ref (a 0)), (1, .int (x1))]) hx hb dX8_sumOf_1 rfl hl (by decide) rfl (fun ls hl => ?_)
  refine lv_iconst hx hb dX8_sumOf_2 ic_0 ?_
  refine lv_topi (fun x4_2 ex4_2 => ?_)
  replace hf := bnd_at hf ex4_2
  refine lv_istore (lv' := [(4, .int (x4_2)), (2, .long (x2_1)), (0, .ref (a 0)), (1, .int (x1))]) hx hb dX8_sumOf_3 hl (by decide) rfl (fun ls hl => ?_)
  refine k8_sumOf_l5 E S (x1)  F (x2_1) (x4_2) _ _ ls hf hw (lv_sub hl [2, 3, 1, 0] rfl)
theorem qk8_sumOf {p : Program} {l : Launch} {e : Env} {R : Room} {s : State} {m : MethodId} {args : Array Value} {below : List Frame} {meth : Method} {c : Code} {H : Heap} {locs : List Loc} {cells slots : Nat} {Q : State → Prop} {cc : ByteArray} {pc : Nat} {ls : Array Slot} {rest : List Value} {D : va_G} {a : Nat → Nat} {g : Nat → ClassId} {nL : Nat} {own : String} {ret : Option FieldType} {S S1 : SM} {k : Nat} {x1 : Int32} {r : Int64} (E : EM p s m args meth c D a g cc nL own ret) (hw : WM D a g S s H locs) (hM : Met l yX8_sumOf (wsm yX8_sumOf cX8_sumOf 5 (some .long)) (RM k) (PM D a g S [.ref (a 0), .int x1]) (QM D a g (some (.long r)) S1) 0 0 (AM a)) {idx : Nat} (hlk : Cond.methodLink own idx yX8_sumOf ∈ wd) (hdg : decode cc pc = .ok (.invokevirtual idx, 3)) (hR : k + 1 ≤ R.frames ∧ 8 + (5 + 11) + 64 * k ≤ R.locals) (hls : ls.size = nL) (hrest : (rest.map fun v => v.category).sum ≤ 8) (hcs : cells ≤ R.cells ∧ slots ≤ R.slots) (kk : ∀ (H1 : Heap) (locs1 : List Loc), WM D a g S1 s H1 locs1 → W p l e R s m args below meth c H1 locs1 cells slots Q (F0 m (pc + 3) ls (.long r :: rest))) : W p l e R s m args below meth c H locs cells slots Q (F0 m pc ls (.int x1 :: .ref (a 0) :: rest)) :=
  callM_l hw (va_runV (As := [.int x1]) (rest := rest) ⟨E.hx, E.hb, E.hml, E.hown, E.hts⟩ hM ⟨cb_of 1 E.hts wl843 wl44 hlk (by decide +kernel) hR, E.hts _ wl842, E.hts _ wl29⟩ ⟨PM_blind, va_recv E.hK hw.1 (ci := 8) (q0 := 0) rfl rfl, PM_pre E.hK E.hN hw.1⟩ rfl rfl hls rfl (lv_room hrest) hdg hcs) kk
/-! X8_groups -/
def k8_groups_B4 (F : Nat) (rec4 : SM → Int32 → Int32 → Option (Int32 × SM)) (k46 : SM → Int32 → Option (Int32 × SM)) (S : SM) (x1 : Int32) (x2 : Int32) : Option (Int32 × SM) :=
  if ((8 : Int32)) ≤ x2 then (k46 S (x1)) else (ob2 (k8_balance F S (x2)) fun r_5 S_6 => (ckA 8 x2).bind fun _ => bnd (stM S_6 19 (Int32.toNatClampNeg x2) r_5) fun S_7 => (rdA 8 (S_7.1 19) x2).bind fun v_8 => if v_8 = 0 then (bnd (x1 ||| ((0 : Int32))) fun x1_10 => bnd (x2 + (1)) fun x2_11 => rec4 S_7 (x1_10) (x2_11)) else (bnd (x1 ||| (((1 : Int32)) <<< (x2 &&& 31))) fun x1_12 => bnd (x2 + (1)) fun x2_13 => rec4 S_7 (x1_12) (x2_13)))
def k8_groups_B97 (F : Nat) (x1 : Int32) (x2 : Int32) (rec97 : SM → Int32 → Option (Int32 × SM)) (k178 : SM → Option (Int32 × SM)) (S : SM) (x3 : Int32) : Option (Int32 × SM) :=
  if x2 < x3 then (k178 S) else (if (x3 &&& (x2 ^^^ ((-1 : Int32)))) = 0 then ((k8_sumOf F S (x3)).bind fun r_32 => if (lg_cmp r_32 ((0 : Int64))) = 0 then ((rdA 256 (S.1 20) (x2 &&& (x3 ^^^ ((-1 : Int32))))).bind fun v_36 => if v_36 < 0 then (bnd (x3 + (1)) fun x3_38 => rec97 S (x3_38)) else ((rdA 256 (S.1 20) (x2 &&& (x3 ^^^ ((-1 : Int32))))).bind fun v_39 => (rdA 256 (S.1 20) x2).bind fun v_40 => if (v_39 + ((1 : Int32))) ≤ v_40 then (bnd (x3 + (1)) fun x3_42 => rec97 S (x3_42)) else ((rdA 256 (S.1 20) (x2 &&& (x3 ^^^ ((-1 : Int32))))).bind fun v_43 => (ckA 256 x2).bind fun _ => bnd (stM S 20 (Int32.toNatClampNeg x2) (v_43 + ((1 : Int32)))) fun S_44 => bnd (x3 + (1)) fun x3_45 => rec97 S_44 (x3_45)))) else (bnd (x3 + (1)) fun x3_35 => rec97 S (x3_35))) else (bnd (x3 + (1)) fun x3_30 => rec97 S (x3_30)))
def k8_groups_B48_J69 (F : Nat) (x1 : Int32) (rec48 : SM → Int32 → Option (Int32 × SM)) (S : SM) (x2 : Int32) (s0 : Int32) (s1 : Int32) : Option (Int32 × SM) :=
  (ckA 256 s1).bind fun _ => bnd (stM S 20 (Int32.toNatClampNeg s1) s0) fun S_18 => if x2 = 0 then (bnd (x2 + (1)) fun x2_20 => rec48 S_18 (x2_20)) else (if (x2 &&& (x1 ^^^ ((-1 : Int32)))) = 0 then ((k8_sumOf F S_18 (x2)).bind fun r_24 => if (lg_cmp r_24 ((0 : Int64))) = 0 then (bnd ((1 : Int32)) fun x3_27 => lpN (fun _ _ => none) (fun rec97 => k8_groups_B97 F (x1) (x2) rec97 (fun S_46 => bnd (x2 + (1)) fun x2_47 => rec48 S_46 (x2_47))) F S_18 (x3_27)) else (bnd (x2 + (1)) fun x2_48 => rec48 S_18 (x2_48))) else (bnd (x2 + (1)) fun x2_22 => rec48 S_18 (x2_22)))
def k8_groups_B48 (F : Nat) (x1 : Int32) (rec48 : SM → Int32 → Option (Int32 × SM)) (S : SM) (x2 : Int32) : Option (Int32 × SM) :=
  if ((256 : Int32)) ≤ x2 then (some (x1, S)) else (if x2 = 0 then (k8_groups_B48_J69 F x1 rec48 S (x2) ((0 : Int32)) (x2)) else (k8_groups_B48_J69 F x1 rec48 S (x2) ((-1 : Int32)) (x2)))
def k8_groups (F : Nat) (S : SM) : Option (Int32 × SM) :=
  bnd ((0 : Int32)) fun x1_1 => bnd ((0 : Int32)) fun x2_2 => lpN (fun _ _ _ => none) (fun rec4 => k8_groups_B4 F rec4 (fun S_14 x1_14 => bnd ((0 : Int32)) fun x2_15 => lpN (fun _ _ => none) (fun rec48 => k8_groups_B48 F (x1_14) rec48 ) F S_14 (x2_15))) F S (x1_1) (x2_2)
set_option maxRecDepth 100000 in
set_option maxHeartbeats 4000000 in
theorem k8_groups_b4 {p : Program} {l : Launch} {e : Env} {s : State} {m : MethodId} {args : Array Value} {below : List Frame} {meth : Method} {c : Code} {D : va_G} {a : Nat → Nat} {g : Nat → ClassId} (E : EM p s m args meth c D a g cX8_groups 4 RX8 (some .int)) {F : Nat}  {rec4 : SM → Int32 → Int32 → Option (Int32 × SM)} {k46 : SM → Int32 → Option (Int32 × SM)} {out : (Int32 × SM)} (hrec4 : ∀ (S : SM) (x1 : Int32) (x2 : Int32) (H : Heap) (locs : List Loc) (ls : Array Slot), rec4 S x1 x2 = some out → WM D a g S s H locs → lv_has ls 4 [(0, .ref (a 0)), (1, .int (x1)), (2, .int (x2))] → W p l e (RM 7) s m args below meth c H locs 0 0 (MQ below (QM D a g (some (.int out.1)) out.2) args s 0 0 (AM a)) (F0 m 4 ls [])) (hk46 : ∀ (S : SM) (x1 : Int32) (H : Heap) (locs : List Loc) (ls : Array Slot), k46 S x1 = some out → WM D a g S s H locs → lv_has ls 4 [(0, .ref (a 0)), (1, .int (x1))] → W p l e (RM 7) s m args below meth c H locs 0 0 (MQ below (QM D a g (some (.int out.1)) out.2) args s 0 0 (AM a)) (F0 m 46 ls [])) (S : SM) (x1 : Int32) (x2 : Int32) (H : Heap) (locs : List Loc) (ls : Array Slot) (hf : k8_groups_B4 F rec4 k46 S x1 x2 = some out) (hw : WM D a g S s H locs) (hl : lv_has ls 4 [(0, .ref (a 0)), (1, .int (x1)), (2, .int (x2))]) : W p l e (RM 7) s m args below meth c H locs 0 0 (MQ below (QM D a g (some (.int out.1)) out.2) args s 0 0 (AM a)) (F0 m 4 ls []) := by
  have hx := E.hx
  have hb := E.hb
  unfold k8_groups_B4 at hf
  refine lv_iload_n hx hb dX8_groups_4 rfl (lv_at hl 2 rfl) ?_
  refine lv_bipush hx hb dX8_groups_5 bp_8 ?_
  refine lv_icmp_ge (tgt := 46) hx hb dX8_groups_7 (by decide) (fun c_3 => ?_) (fun c_3 => ?_)
  · replace hf := ite_t hf c_3
    exact hk46 S (x1) _ _ ls hf hw (lv_sub hl [0, 1] rfl)
  · replace hf := ite_f hf c_3
    refine lv_aload_n hx hb dX8_groups_10 rfl (lv_at hl 0 rfl) ?_
    refine gM_0_25 E hw (E.hts _ wl666) dX8_groups_11 ?_
    refine lv_iload_n hx hb dX8_groups_14 rfl (lv_at hl 2 rfl) ?_
    refine lv_aload_n hx hb dX8_groups_15 rfl (lv_at hl 0 rfl) ?_
    refine lv_iload_n hx hb dX8_groups_16 rfl (lv_at hl 2 rfl) ?_
    obtain ⟨r_5, S_6, h_4, hf⟩ := ob2_at hf
    refine qk8_balance E hw (mk8_balance E.hD h_4) wl827 dX8_groups_17 ⟨Nat.le_of_ble_eq_true rfl, Nat.le_of_ble_eq_true rfl⟩ hl.1 (Nat.le_of_ble_eq_true rfl) ⟨Nat.le_refl 0, Nat.le_refl 0⟩ (fun H locs hw => ?_)
    obtain ⟨h_S_7, hf⟩ := ckA_at hf
    refine sM_19 E hw h_S_7 dX8_groups_20 (fun S_7 eS_7 H locs hw => ?_)
    replace hf := bnd_at hf eS_7
    refine lv_iload_n hx hb dX8_groups_21 rfl (lv_at hl 1 rfl) ?_
    refine lv_aload_n hx hb dX8_groups_22 rfl (lv_at hl 0 rfl) ?_
    refine gM_0_25 E hw (E.hts _ wl666) dX8_groups_23 ?_
    refine lv_iload_n hx hb dX8_groups_26 rfl (lv_at hl 2 rfl) ?_
    obtain ⟨h_v_8, hf⟩ := rdA_at hf
    refine lM_19 E hw h_v_8 dX8_groups_27 (fun v_8 ev_8 => ?_)
    replace hf := hf v_8 ev_8
    refine lv_if_eq (tgt := 37) hx hb dX8_groups_28 (by decide) (fun c_9 => ?_) (fun c_9 => ?_)
    · replace hf := ite_t hf c_9
      refine lv_iconst hx hb dX8_groups_37 ic_0 ?_
      refine lv_ior hx hb dX8_groups_38 ?_
      refine lv_topi (fun x1_10 ex1_10 => ?_)
      replace hf := bnd_at hf ex1_10
      refine lv_istore_n (lv' := [(1, .int (x1_10)), (0, .ref (a 0)), (2, .int (x2))]) hx hb dX8_groups_39 rfl hl (by decide) rfl (fun ls hl => ?_)
      obtain ⟨x2_11, ex2_11⟩ : ∃ y : Int32, y = x2 + (1) := ⟨_, rfl⟩
      replace hf := bnd_at hf ex2_11
      refine lv_iinc (v := x2_11) (lv' := [(2, .int (x2_11)), (1, .int (x1_10)), (0, .ref (a 0))]) hx hb dX8_groups_40 hl (k := 2) rfl (by rw [ex2_11]; rfl) (by decide) rfl (fun ls hl => ?_)
      refine lv_goto (tgt := 4) hx hb dX8_groups_43 (by decide) ?_
      exact hrec4 S_7 (x1_10) (x2_11) _ _ ls hf hw (lv_sub hl [2, 1, 0] rfl)
    · replace hf := ite_f hf c_9
      refine lv_iconst hx hb dX8_groups_31 ic_1 ?_
      refine lv_iload_n hx hb dX8_groups_32 rfl (lv_at hl 2 rfl) ?_
      refine lv_ishl hx hb dX8_groups_33 ?_
      refine lv_goto (tgt := 38) hx hb dX8_groups_34 (by decide) ?_
      refine lv_ior hx hb dX8_groups_38 ?_
      refine lv_topi (fun x1_12 ex1_12 => ?_)
      replace hf := bnd_at hf ex1_12
      refine lv_istore_n (lv' := [(1, .int (x1_12)), (0, .ref (a 0)), (2, .int (x2))]) hx hb dX8_groups_39 rfl hl (by decide) rfl (fun ls hl => ?_)
      obtain ⟨x2_13, ex2_13⟩ : ∃ y : Int32, y = x2 + (1) := ⟨_, rfl⟩
      replace hf := bnd_at hf ex2_13
      refine lv_iinc (v := x2_13) (lv' := [(2, .int (x2_13)), (1, .int (x1_12)), (0, .ref (a 0))]) hx hb dX8_groups_40 hl (k := 2) rfl (by rw [ex2_13]; rfl) (by decide) rfl (fun ls hl => ?_)
      refine lv_goto (tgt := 4) hx hb dX8_groups_43 (by decide) ?_
      exact hrec4 S_7 (x1_12) (x2_13) _ _ ls hf hw (lv_sub hl [2, 1, 0] rfl)
theorem k8_groups_l4 {p : Program} {l : Launch} {e : Env} {s : State} {m : MethodId} {args : Array Value} {below : List Frame} {meth : Method} {c : Code} {D : va_G} {a : Nat → Nat} {g : Nat → ClassId} (E : EM p s m args meth c D a g cX8_groups 4 RX8 (some .int)) {F : Nat}  {k46 : SM → Int32 → Option (Int32 × SM)} {out : (Int32 × SM)} (hk46 : ∀ (S : SM) (x1 : Int32) (H : Heap) (locs : List Loc) (ls : Array Slot), k46 S x1 = some out → WM D a g S s H locs → lv_has ls 4 [(0, .ref (a 0)), (1, .int (x1))] → W p l e (RM 7) s m args below meth c H locs 0 0 (MQ below (QM D a g (some (.int out.1)) out.2) args s 0 0 (AM a)) (F0 m 46 ls [])) : ∀ (n : Nat) (S : SM) (x1 : Int32) (x2 : Int32) (H : Heap) (locs : List Loc) (ls : Array Slot), lpN (fun _ _ _ => none) (fun rec4 => k8_groups_B4 F rec4 k46) n S x1 x2 = some out → WM D a g S s H locs → lv_has ls 4 [(0, .ref (a 0)), (1, .int (x1)), (2, .int (x2))] → W p l e (RM 7) s m args below meth c H locs 0 0 (MQ below (QM D a g (some (.int out.1)) out.2) args s 0 0 (AM a)) (F0 m 4 ls []) := by
  intro n
  induction n with
  | zero => intro S x1 x2 H locs ls hf; cases (show (none : Option (Int32 × SM)) = some out from hf)
  | succ n ih => intro S x1 x2 H locs ls hf hw hl; exact k8_groups_b4 E (F := F) ih hk46 S x1 x2 H locs ls hf hw hl
set_option maxRecDepth 100000 in
set_option maxHeartbeats 4000000 in
theorem k8_groups_b97 {p : Program} {l : Launch} {e : Env} {s : State} {m : MethodId} {args : Array Value} {below : List Frame} {meth : Method} {c : Code} {D : va_G} {a : Nat → Nat} {g : Nat → ClassId} (E : EM p s m args meth c D a g cX8_groups 4 RX8 (some .int)) {F : Nat}  (x1 : Int32) (x2 : Int32) {rec97 : SM → Int32 → Option (Int32 × SM)} {k178 : SM → Option (Int32 × SM)} {out : (Int32 × SM)} (hrec97 : ∀ (S : SM) (x3 : Int32) (H : Heap) (locs : List Loc) (ls : Array Slot), rec97 S x3 = some out → WM D a g S s H locs → lv_has ls 4 [(0, .ref (a 0)), (1, .int (x1)), (2, .int (x2)), (3, .int (x3))] → W p l e (RM 7) s m args below meth c H locs 0 0 (MQ below (QM D a g (some (.int out.1)) out.2) args s 0 0 (AM a)) (F0 m 97 ls [])) (hk178 : ∀ (S : SM) (H : Heap) (locs : List Loc) (ls : Array Slot), k178 S = some out → WM D a g S s H locs → lv_has ls 4 [(0, .ref (a 0)), (1, .int (x1)), (2, .int (x2))] → W p l e (RM 7) s m args below meth c H locs 0 0 (MQ below (QM D a g (some (.int out.1)) out.2) args s 0 0 (AM a)) (F0 m 178 ls [])) (S : SM) (x3 : Int32) (H : Heap) (locs : List Loc) (ls : Array Slot) (hf : k8_groups_B97 F x1 x2 rec97 k178 S x3 = some out) (hw : WM D a g S s H locs) (hl : lv_has ls 4 [(0, .ref (a 0)), (1, .int (x1)), (2, .int (x2)), (3, .int (x3))]) : W p l e (RM 7) s m args below meth c H locs 0 0 (MQ below (QM D a g (some (.int out.1)) out.2) args s 0 0 (AM a)) (F0 m 97 ls []) := by
  have hx := E.hx
  have hb := E.hb
  unfold k8_groups_B97 at hf
  refine lv_iload_n hx hb dX8_groups_97 rfl (lv_at hl 3 rfl) ?_
  refine lv_iload_n hx hb dX8_groups_98 rfl (lv_at hl 2 rfl) ?_
  refine lv_icmp_gt (tgt := 178) hx hb dX8_groups_99 (by decide) (fun c_28 => ?_) (fun c_28 => ?_)
  · replace hf := ite_t hf c_28
    exact hk178 S _ _ ls hf hw (lv_sub hl [0, 1, 2] rfl)
  · replace hf := ite_f hf c_28
    refine lv_iload_n hx hb dX8_groups_102 rfl (lv_at hl 3 rfl) ?_
    refine lv_iload_n hx hb dX8_groups_103 rfl (lv_at hl 2 rfl) ?_
    refine lv_iconst hx hb dX8_groups_104 ic_m1 ?_
    refine lv_ixor hx hb dX8_groups_105 ?_
    refine lv_iand hx hb dX8_groups_106 ?_
    refine lv_if_ne (tgt := 172) hx hb dX8_groups_107 (by decide) (fun c_29 => ?_) (fun c_29 => ?_)
    · replace hf := ite_f hf c_29
      obtain ⟨x3_30, ex3_30⟩ : ∃ y : Int32, y = x3 + (1) := ⟨_, rfl⟩
      replace hf := bnd_at hf ex3_30
      refine lv_iinc (v := x3_30) (lv' := [(3, .int (x3_30)), (0, .ref (a 0)), (1, .int (x1)), (2, .int (x2))]) hx hb dX8_groups_172 hl (k := 3) rfl (by rw [ex3_30]; rfl) (by decide) rfl (fun ls hl => ?_)
      refine lv_goto (tgt := 97) hx hb dX8_groups_175 (by decide) ?_
      exact hrec97 S (x3_30) _ _ ls hf hw (lv_sub hl [1, 2, 3, 0] rfl)
    · replace hf := ite_t hf c_29
      refine lv_aload_n hx hb dX8_groups_110 rfl (lv_at hl 0 rfl) ?_
      refine lv_iload_n hx hb dX8_groups_111 rfl (lv_at hl 3 rfl) ?_
      obtain ⟨r_32, h_31, hf⟩ := ob_at hf
      refine qk8_sumOf E hw (mk8_sumOf E.hD h_31) wl840 dX8_groups_112 ⟨Nat.le_of_ble_eq_true rfl, Nat.le_of_ble_eq_true rfl⟩ hl.1 (Nat.le_of_ble_eq_true rfl) ⟨Nat.le_refl 0, Nat.le_refl 0⟩ (fun H locs hw => ?_)
      refine lv_lconst (v := 0) hx hb dX8_groups_115 (by decide) ?_
      refine W.lcmp hx hb dX8_groups_116 ?_
      refine lv_if_ne (tgt := 172) hx hb dX8_groups_117 (by decide) (fun c_34 => ?_) (fun c_34 => ?_)
      · replace hf := ite_f hf c_34
        obtain ⟨x3_35, ex3_35⟩ : ∃ y : Int32, y = x3 + (1) := ⟨_, rfl⟩
        replace hf := bnd_at hf ex3_35
        refine lv_iinc (v := x3_35) (lv' := [(3, .int (x3_35)), (0, .ref (a 0)), (1, .int (x1)), (2, .int (x2))]) hx hb dX8_groups_172 hl (k := 3) rfl (by rw [ex3_35]; rfl) (by decide) rfl (fun ls hl => ?_)
        refine lv_goto (tgt := 97) hx hb dX8_groups_175 (by decide) ?_
        exact hrec97 S (x3_35) _ _ ls hf hw (lv_sub hl [1, 2, 3, 0] rfl)
      · replace hf := ite_t hf c_34
        refine lv_aload_n hx hb dX8_groups_120 rfl (lv_at hl 0 rfl) ?_
        refine gM_0_26 E hw (E.hts _ wl667) dX8_groups_121 ?_
        refine lv_iload_n hx hb dX8_groups_124 rfl (lv_at hl 2 rfl) ?_
        refine lv_iload_n hx hb dX8_groups_125 rfl (lv_at hl 3 rfl) ?_
        refine lv_iconst hx hb dX8_groups_126 ic_m1 ?_
        refine lv_ixor hx hb dX8_groups_127 ?_
        refine lv_iand hx hb dX8_groups_128 ?_
        obtain ⟨h_v_36, hf⟩ := rdA_at hf
        refine lM_20 E hw h_v_36 dX8_groups_129 (fun v_36 ev_36 => ?_)
        replace hf := hf v_36 ev_36
        refine lv_if_lt (tgt := 172) hx hb dX8_groups_130 (by decide) (fun c_37 => ?_) (fun c_37 => ?_)
        · replace hf := ite_t hf c_37
          obtain ⟨x3_38, ex3_38⟩ : ∃ y : Int32, y = x3 + (1) := ⟨_, rfl⟩
          replace hf := bnd_at hf ex3_38
          refine lv_iinc (v := x3_38) (lv' := [(3, .int (x3_38)), (0, .ref (a 0)), (1, .int (x1)), (2, .int (x2))]) hx hb dX8_groups_172 hl (k := 3) rfl (by rw [ex3_38]; rfl) (by decide) rfl (fun ls hl => ?_)
          refine lv_goto (tgt := 97) hx hb dX8_groups_175 (by decide) ?_
          exact hrec97 S (x3_38) _ _ ls hf hw (lv_sub hl [1, 2, 3, 0] rfl)
        · replace hf := ite_f hf c_37
          refine lv_aload_n hx hb dX8_groups_133 rfl (lv_at hl 0 rfl) ?_
          refine gM_0_26 E hw (E.hts _ wl667) dX8_groups_134 ?_
          refine lv_iload_n hx hb dX8_groups_137 rfl (lv_at hl 2 rfl) ?_
          refine lv_iload_n hx hb dX8_groups_138 rfl (lv_at hl 3 rfl) ?_
          refine lv_iconst hx hb dX8_groups_139 ic_m1 ?_
          refine lv_ixor hx hb dX8_groups_140 ?_
          refine lv_iand hx hb dX8_groups_141 ?_
          obtain ⟨h_v_39, hf⟩ := rdA_at hf
          refine lM_20 E hw h_v_39 dX8_groups_142 (fun v_39 ev_39 => ?_)
          replace hf := hf v_39 ev_39
          refine lv_iconst hx hb dX8_groups_143 ic_1 ?_
          refine lv_iadd hx hb dX8_groups_144 ?_
          refine lv_aload_n hx hb dX8_groups_145 rfl (lv_at hl 0 rfl) ?_
          refine gM_0_26 E hw (E.hts _ wl667) dX8_groups_146 ?_
          refine lv_iload_n hx hb dX8_groups_149 rfl (lv_at hl 2 rfl) ?_
          obtain ⟨h_v_40, hf⟩ := rdA_at hf
          refine lM_20 E hw h_v_40 dX8_groups_150 (fun v_40 ev_40 => ?_)
          replace hf := hf v_40 ev_40
          refine lv_icmp_le (tgt := 172) hx hb dX8_groups_151 (by decide) (fun c_41 => ?_) (fun c_41 => ?_)
          · replace hf := ite_t hf c_41
            obtain ⟨x3_42, ex3_42⟩ : ∃ y : Int32, y = x3 + (1) := ⟨_, rfl⟩
            replace hf := bnd_at hf ex3_42
            refine lv_iinc (v := x3_42) (lv' := [(3, .int (x3_42)), (0, .ref (a 0)), (1, .int (x1)), (2, .int (x2))]) hx hb dX8_groups_172 hl (k := 3) rfl (by rw [ex3_42]; rfl) (by decide) rfl (fun ls hl => ?_)
            refine lv_goto (tgt := 97) hx hb dX8_groups_175 (by decide) ?_
            exact hrec97 S (x3_42) _ _ ls hf hw (lv_sub hl [1, 2, 3, 0] rfl)
          · replace hf := ite_f hf c_41
            refine lv_aload_n hx hb dX8_groups_154 rfl (lv_at hl 0 rfl) ?_
            refine gM_0_26 E hw (E.hts _ wl667) dX8_groups_155 ?_
            refine lv_iload_n hx hb dX8_groups_158 rfl (lv_at hl 2 rfl) ?_
            refine lv_aload_n hx hb dX8_groups_159 rfl (lv_at hl 0 rfl) ?_
            refine gM_0_26 E hw (E.hts _ wl667) dX8_groups_160 ?_
            refine lv_iload_n hx hb dX8_groups_163 rfl (lv_at hl 2 rfl) ?_
            refine lv_iload_n hx hb dX8_groups_164 rfl (lv_at hl 3 rfl) ?_
            refine lv_iconst hx hb dX8_groups_165 ic_m1 ?_
            refine lv_ixor hx hb dX8_groups_166 ?_
            refine lv_iand hx hb dX8_groups_167 ?_
            obtain ⟨h_v_43, hf⟩ := rdA_at hf
            refine lM_20 E hw h_v_43 dX8_groups_168 (fun v_43 ev_43 => ?_)
            replace hf := hf v_43 ev_43
            refine lv_iconst hx hb dX8_groups_169 ic_1 ?_
            refine lv_iadd hx hb dX8_groups_170 ?_
            obtain ⟨h_S_44, hf⟩ := ckA_at hf
            refine sM_20 E hw h_S_44 dX8_groups_171 (fun S_44 eS_44 H locs hw => ?_)
            replace hf := bnd_at hf eS_44
            obtain ⟨x3_45, ex3_45⟩ : ∃ y : Int32, y = x3 + (1) := ⟨_, rfl⟩
            replace hf := bnd_at hf ex3_45
            refine lv_iinc (v := x3_45) (lv' := [(3, .int (x3_45)), (0, .ref (a 0)), (1, .int (x1)), (2, .int (x2))]) hx hb dX8_groups_172 hl (k := 3) rfl (by rw [ex3_45]; rfl) (by decide) rfl (fun ls hl => ?_)
            refine lv_goto (tgt := 97) hx hb dX8_groups_175 (by decide) ?_
            exact hrec97 S_44 (x3_45) _ _ ls hf hw (lv_sub hl [1, 2, 3, 0] rfl)
theorem k8_groups_l97 {p : Program} {l : Launch} {e : Env} {s : State} {m : MethodId} {args : Array Value} {below : List Frame} {meth : Method} {c : Code} {D : va_G} {a : Nat → Nat} {g : Nat → ClassId} (E : EM p s m args meth c D a g cX8_groups 4 RX8 (some .int)) {F : Nat}  (x1 : Int32) (x2 : Int32) {k178 : SM → Option (Int32 × SM)} {out : (Int32 × SM)} (hk178 : ∀ (S : SM) (H : Heap) (locs : List Loc) (ls : Array Slot), k178 S = some out → WM D a g S s H locs → lv_has ls 4 [(0, .ref (a 0)), (1, .int (x1)), (2, .int (x2))] → W p l e (RM 7) s m args below meth c H locs 0 0 (MQ below (QM D a g (some (.int out.1)) out.2) args s 0 0 (AM a)) (F0 m 178 ls [])) : ∀ (n : Nat) (S : SM) (x3 : Int32) (H : Heap) (locs : List Loc) (ls : Array Slot), lpN (fun _ _ => none) (fun rec97 => k8_groups_B97 F x1 x2 rec97 k178) n S x3 = some out → WM D a g S s H locs → lv_has ls 4 [(0, .ref (a 0)), (1, .int (x1)), (2, .int (x2)), (3, .int (x3))] → W p l e (RM 7) s m args below meth c H locs 0 0 (MQ below (QM D a g (some (.int out.1)) out.2) args s 0 0 (AM a)) (F0 m 97 ls []) := by
  intro n
  induction n with
  | zero => intro S x3 H locs ls hf; cases (show (none : Option (Int32 × SM)) = some out from hf)
  | succ n ih => intro S x3 H locs ls hf hw hl; exact k8_groups_b97 E (F := F) x1 x2 ih hk178 S x3 H locs ls hf hw hl
set_option maxRecDepth 100000 in
set_option maxHeartbeats 4000000 in
theorem k8_groups_B48_J69_j {p : Program} {l : Launch} {e : Env} {s : State} {m : MethodId} {args : Array Value} {below : List Frame} {meth : Method} {c : Code} {D : va_G} {a : Nat → Nat} {g : Nat → ClassId} (E : EM p s m args meth c D a g cX8_groups 4 RX8 (some .int)) {F : Nat}  (x1 : Int32) {rec48 : SM → Int32 → Option (Int32 × SM)} {out : (Int32 × SM)} (hrec48 : ∀ (S : SM) (x2 : Int32) (H : Heap) (locs : List Loc) (ls : Array Slot), rec48 S x2 = some out → WM D a g S s H locs → lv_has ls 4 [(0, .ref (a 0)), (1, .int (x1)), (2, .int (x2))] → W p l e (RM 7) s m args below meth c H locs 0 0 (MQ below (QM D a g (some (.int out.1)) out.2) args s 0 0 (AM a)) (F0 m 48 ls []))  (S : SM) (x2 : Int32) (s0 : Int32) (s1 : Int32) (H : Heap) (locs : List Loc) (ls : Array Slot) (hf : k8_groups_B48_J69 F x1 rec48 S x2 s0 s1 = some out) (hw : WM D a g S s H locs) (hl : lv_has ls 4 [(0, .ref (a 0)), (1, .int (x1)), (2, .int (x2))]) : W p l e (RM 7) s m args below meth c H locs 0 0 (MQ below (QM D a g (some (.int out.1)) out.2) args s 0 0 (AM a)) (F0 m 69 ls [.int (s0), .int (s1), .ref (a 20)]) := by
  have hx := E.hx
  have hb := E.hb
  unfold k8_groups_B48_J69 at hf
  obtain ⟨h_S_18, hf⟩ := ckA_at hf
  refine sM_20 E hw h_S_18 dX8_groups_69 (fun S_18 eS_18 H locs hw => ?_)
  replace hf := bnd_at hf eS_18
  refine lv_iload_n hx hb dX8_groups_70 rfl (lv_at hl 2 rfl) ?_
  refine lv_if_eq (tgt := 178) hx hb dX8_groups_71 (by decide) (fun c_19 => ?_) (fun c_19 => ?_)
  · replace hf := ite_t hf c_19
    obtain ⟨x2_20, ex2_20⟩ : ∃ y : Int32, y = x2 + (1) := ⟨_, rfl⟩
    replace hf := bnd_at hf ex2_20
    refine lv_iinc (v := x2_20) (lv' := [(2, .int (x2_20)), (0, .ref (a 0)), (1, .int (x1))]) hx hb dX8_groups_178 hl (k := 2) rfl (by rw [ex2_20]; rfl) (by decide) rfl (fun ls hl => ?_)
    refine lv_goto (tgt := 48) hx hb dX8_groups_181 (by decide) ?_
    exact hrec48 S_18 (x2_20) _ _ ls hf hw (lv_sub hl [1, 2, 0] rfl)
  · replace hf := ite_f hf c_19
    refine lv_iload_n hx hb dX8_groups_74 rfl (lv_at hl 2 rfl) ?_
    refine lv_iload_n hx hb dX8_groups_75 rfl (lv_at hl 1 rfl) ?_
    refine lv_iconst hx hb dX8_groups_76 ic_m1 ?_
    refine lv_ixor hx hb dX8_groups_77 ?_
    refine lv_iand hx hb dX8_groups_78 ?_
    refine lv_if_ne (tgt := 178) hx hb dX8_groups_79 (by decide) (fun c_21 => ?_) (fun c_21 => ?_)
    · replace hf := ite_f hf c_21
      obtain ⟨x2_22, ex2_22⟩ : ∃ y : Int32, y = x2 + (1) := ⟨_, rfl⟩
      replace hf := bnd_at hf ex2_22
      refine lv_iinc (v := x2_22) (lv' := [(2, .int (x2_22)), (0, .ref (a 0)), (1, .int (x1))]) hx hb dX8_groups_178 hl (k := 2) rfl (by rw [ex2_22]; rfl) (by decide) rfl (fun ls hl => ?_)
      refine lv_goto (tgt := 48) hx hb dX8_groups_181 (by decide) ?_
      exact hrec48 S_18 (x2_22) _ _ ls hf hw (lv_sub hl [1, 2, 0] rfl)
    · replace hf := ite_t hf c_21
      refine lv_aload_n hx hb dX8_groups_82 rfl (lv_at hl 0 rfl) ?_
      refine lv_iload_n hx hb dX8_groups_83 rfl (lv_at hl 2 rfl) ?_
      obtain ⟨r_24, h_23, hf⟩ := ob_at hf
      refine qk8_sumOf E hw (mk8_sumOf E.hD h_23) wl840 dX8_groups_84 ⟨Nat.le_of_ble_eq_true rfl, Nat.le_of_ble_eq_true rfl⟩ hl.1 (Nat.le_of_ble_eq_true rfl) ⟨Nat.le_refl 0, Nat.le_refl 0⟩ (fun H locs hw => ?_)
      refine lv_lconst (v := 0) hx hb dX8_groups_87 (by decide) ?_
      refine W.lcmp hx hb dX8_groups_88 ?_
      refine lv_if_eq (tgt := 95) hx hb dX8_groups_89 (by decide) (fun c_26 => ?_) (fun c_26 => ?_)
      · replace hf := ite_t hf c_26
        refine lv_iconst hx hb dX8_groups_95 ic_1 ?_
        refine lv_topi (fun x3_27 ex3_27 => ?_)
        replace hf := bnd_at hf ex3_27
        refine lv_istore_n (lv' := [(3, .int (x3_27)), (0, .ref (a 0)), (1, .int (x1)), (2, .int (x2))]) hx hb dX8_groups_96 rfl hl (by decide) rfl (fun ls hl => ?_)
        refine k8_groups_l97 E (x1) (x2) ?_ F S_18 (x3_27) _ _ ls hf hw (lv_sub hl [1, 2, 3, 0] rfl)
        · intro S_46 H locs ls hf hw hl
          obtain ⟨x2_47, ex2_47⟩ : ∃ y : Int32, y = x2 + (1) := ⟨_, rfl⟩
          replace hf := bnd_at hf ex2_47
          refine lv_iinc (v := x2_47) (lv' := [(2, .int (x2_47)), (0, .ref (a 0)), (1, .int (x1))]) hx hb dX8_groups_178 hl (k := 2) rfl (by rw [ex2_47]; rfl) (by decide) rfl (fun ls hl => ?_)
          refine lv_goto (tgt := 48) hx hb dX8_groups_181 (by decide) ?_
          exact hrec48 S_46 (x2_47) _ _ ls hf hw (lv_sub hl [1, 2, 0] rfl)
      · replace hf := ite_f hf c_26
        refine lv_goto (tgt := 178) hx hb dX8_groups_92 (by decide) ?_
        obtain ⟨x2_48, ex2_48⟩ : ∃ y : Int32, y = x2 + (1) := ⟨_, rfl⟩
        replace hf := bnd_at hf ex2_48
        refine lv_iinc (v := x2_48) (lv' := [(2, .int (x2_48)), (0, .ref (a 0)), (1, .int (x1))]) hx hb dX8_groups_178 hl (k := 2) rfl (by rw [ex2_48]; rfl) (by decide) rfl (fun ls hl => ?_)
        refine lv_goto (tgt := 48) hx hb dX8_groups_181 (by decide) ?_
        exact hrec48 S_18 (x2_48) _ _ ls hf hw (lv_sub hl [1, 2, 0] rfl)
set_option maxRecDepth 100000 in
set_option maxHeartbeats 4000000 in
theorem k8_groups_b48 {p : Program} {l : Launch} {e : Env} {s : State} {m : MethodId} {args : Array Value} {below : List Frame} {meth : Method} {c : Code} {D : va_G} {a : Nat → Nat} {g : Nat → ClassId} (E : EM p s m args meth c D a g cX8_groups 4 RX8 (some .int)) {F : Nat}  (x1 : Int32) {rec48 : SM → Int32 → Option (Int32 × SM)} {out : (Int32 × SM)} (hrec48 : ∀ (S : SM) (x2 : Int32) (H : Heap) (locs : List Loc) (ls : Array Slot), rec48 S x2 = some out → WM D a g S s H locs → lv_has ls 4 [(0, .ref (a 0)), (1, .int (x1)), (2, .int (x2))] → W p l e (RM 7) s m args below meth c H locs 0 0 (MQ below (QM D a g (some (.int out.1)) out.2) args s 0 0 (AM a)) (F0 m 48 ls []))  (S : SM) (x2 : Int32) (H : Heap) (locs : List Loc) (ls : Array Slot) (hf : k8_groups_B48 F x1 rec48 S x2 = some out) (hw : WM D a g S s H locs) (hl : lv_has ls 4 [(0, .ref (a 0)), (1, .int (x1)), (2, .int (x2))]) : W p l e (RM 7) s m args below meth c H locs 0 0 (MQ below (QM D a g (some (.int out.1)) out.2) args s 0 0 (AM a)) (F0 m 48 ls []) := by
  have hx := E.hx
  have hb := E.hb
  unfold k8_groups_B48 at hf
  refine lv_iload_n hx hb dX8_groups_48 rfl (lv_at hl 2 rfl) ?_
  refine lv_sipush hx hb dX8_groups_49 sp_256 ?_
  refine lv_icmp_ge (tgt := 184) hx hb dX8_groups_52 (by decide) (fun c_16 => ?_) (fun c_16 => ?_)
  · replace hf := ite_t hf c_16
    refine lv_iload_n hx hb dX8_groups_184 rfl (lv_at hl 1 rfl) ?_
    cases hf
    exact retM_i E hw dX8_groups_185
  · replace hf := ite_f hf c_16
    refine lv_aload_n hx hb dX8_groups_55 rfl (lv_at hl 0 rfl) ?_
    refine gM_0_26 E hw (E.hts _ wl667) dX8_groups_56 ?_
    refine lv_iload_n hx hb dX8_groups_59 rfl (lv_at hl 2 rfl) ?_
    refine lv_iload_n hx hb dX8_groups_60 rfl (lv_at hl 2 rfl) ?_
    refine lv_if_ne (tgt := 68) hx hb dX8_groups_61 (by decide) (fun c_17 => ?_) (fun c_17 => ?_)
    · replace hf := ite_f hf c_17
      refine lv_iconst hx hb dX8_groups_68 ic_m1 ?_
      exact k8_groups_B48_J69_j E x1 hrec48 S (x2) ((-1 : Int32)) (x2) _ _ ls hf hw (lv_sub hl [0, 1, 2] rfl)
    · replace hf := ite_t hf c_17
      refine lv_iconst hx hb dX8_groups_64 ic_0 ?_
      refine lv_goto (tgt := 69) hx hb dX8_groups_65 (by decide) ?_
      exact k8_groups_B48_J69_j E x1 hrec48 S (x2) ((0 : Int32)) (x2) _ _ ls hf hw (lv_sub hl [0, 1, 2] rfl)
theorem k8_groups_l48 {p : Program} {l : Launch} {e : Env} {s : State} {m : MethodId} {args : Array Value} {below : List Frame} {meth : Method} {c : Code} {D : va_G} {a : Nat → Nat} {g : Nat → ClassId} (E : EM p s m args meth c D a g cX8_groups 4 RX8 (some .int)) {F : Nat}  (x1 : Int32) {out : (Int32 × SM)}  : ∀ (n : Nat) (S : SM) (x2 : Int32) (H : Heap) (locs : List Loc) (ls : Array Slot), lpN (fun _ _ => none) (fun rec48 => k8_groups_B48 F x1 rec48) n S x2 = some out → WM D a g S s H locs → lv_has ls 4 [(0, .ref (a 0)), (1, .int (x1)), (2, .int (x2))] → W p l e (RM 7) s m args below meth c H locs 0 0 (MQ below (QM D a g (some (.int out.1)) out.2) args s 0 0 (AM a)) (F0 m 48 ls []) := by
  intro n
  induction n with
  | zero => intro S x2 H locs ls hf; cases (show (none : Option (Int32 × SM)) = some out from hf)
  | succ n ih => intro S x2 H locs ls hf hw hl; exact k8_groups_b48 E (F := F) x1 ih S x2 H locs ls hf hw hl
set_option maxRecDepth 100000 in
set_option maxHeartbeats 4000000 in
theorem mk8_groups {l : Launch} {D : va_G} {a : Nat → Nat} {g : Nat → ClassId} (hD : ∀ S, va_D (AM a) (wM a g S)) {F : Nat} {S : SM} {out : (Int32 × SM)} (hf : k8_groups F S  = some out) : Met l yX8_groups (wsm yX8_groups cX8_groups 4 (some .int)) (RM 7) (PM D a g S [.ref (a 0)]) (QM D a g (some (.int out.1)) out.2) 0 0 (AM a) := by
  refine Met.ofW (cc := cX8_groups) (maxL := 4) (ret := (some .int)) (by decide) rfl ?_
  intro p e s m args below meth c s₁ B hml hv
  obtain ⟨rfl, hP, hK, hN⟩ := hv
  have hts := atoms_spec (ws := wsm yX8_groups cX8_groups 4 (some .int)) B.pre
  have E : EM p s m _ meth c D a g cX8_groups 4 RX8 (some .int) := ⟨B.exec, B.bytes, B.returns, hml, findClass_of_methodNamed B.named, fun w h => hts w (List.mem_cons_of_mem _ h), hK, hN, hD, B.notSynchronized⟩
  have hx := E.hx
  have hb := E.hb
  have hw : WM D a g S s s.heap [] := ⟨hP, va_S.rf⟩
  have hl := lv_entry ([.ref (a 0)]) (n := 4) (Nat.le_of_ble_eq_true rfl)
  rw [lg_entry_eq]
  generalize (lg_sl ([.ref (a 0)]) ++ List.replicate (4 - (lg_sl ([.ref (a 0)])).length) Slot.unset).toArray = ls at hl ⊢
  have hl : lv_has ls 4 [(0, .ref (a 0))] := hl
  show W p l e (RM 7) s m _ below meth c s.heap [] 0 0 (MQ below (QM D a g (some (.int out.1)) out.2) _ s 0 0 (AM a)) (F0 m 0 ls [])
  unfold k8_groups at hf
  refine lv_iconst hx hb dX8_groups_0 ic_0 ?_
  refine lv_topi (fun x1_1 ex1_1 => ?_)
  replace hf := bnd_at hf ex1_1
  refine lv_istore_n (lv' := [(1, .int (x1_1)), (0, .ref (a 0))]) hx hb dX8_groups_1 rfl hl (by decide) rfl (fun ls hl => ?_)
  refine lv_iconst hx hb dX8_groups_2 ic_0 ?_
  refine lv_topi (fun x2_2 ex2_2 => ?_)
  replace hf := bnd_at hf ex2_2
  refine lv_istore_n (lv' := [(2, .int (x2_2)), (1, .int (x1_1)), (0, .ref (a 0))]) hx hb dX8_groups_3 rfl hl (by decide) rfl (fun ls hl => ?_)
  refine k8_groups_l4 E ?_ F S (x1_1) (x2_2) _ _ ls hf hw (lv_sub hl [2, 1, 0] rfl)
  · intro S_14 x1_14 H locs ls hf hw hl
    refine lv_iconst hx hb dX8_groups_46 ic_0 ?_
    refine lv_topi (fun x2_15 ex2_15 => ?_)
    replace hf := bnd_at hf ex2_15
    refine lv_istore_n (lv' := [(2, .int (x2_15)), (0, .ref (a 0)), (1, .int (x1_14))]) hx hb dX8_groups_47 rfl hl (by decide) rfl (fun ls hl => ?_)
    refine k8_groups_l48 E (x1_14)  F S_14 (x2_15) _ _ ls hf hw (lv_sub hl [1, 2, 0] rfl)
theorem qk8_groups {p : Program} {l : Launch} {e : Env} {R : Room} {s : State} {m : MethodId} {args : Array Value} {below : List Frame} {meth : Method} {c : Code} {H : Heap} {locs : List Loc} {cells slots : Nat} {Q : State → Prop} {cc : ByteArray} {pc : Nat} {ls : Array Slot} {rest : List Value} {D : va_G} {a : Nat → Nat} {g : Nat → ClassId} {nL : Nat} {own : String} {ret : Option FieldType} {S S1 : SM} {k : Nat} {r : Int32} (E : EM p s m args meth c D a g cc nL own ret) (hw : WM D a g S s H locs) (hM : Met l yX8_groups (wsm yX8_groups cX8_groups 4 (some .int)) (RM k) (PM D a g S [.ref (a 0)]) (QM D a g (some (.int r)) S1) 0 0 (AM a)) {idx : Nat} (hlk : Cond.methodLink own idx yX8_groups ∈ wd) (hdg : decode cc pc = .ok (.invokevirtual idx, 3)) (hR : k + 1 ≤ R.frames ∧ 8 + (4 + 11) + 64 * k ≤ R.locals) (hls : ls.size = nL) (hrest : (rest.map fun v => v.category).sum ≤ 8) (hcs : cells ≤ R.cells ∧ slots ≤ R.slots) (kk : ∀ (H1 : Heap) (locs1 : List Loc), WM D a g S1 s H1 locs1 → W p l e R s m args below meth c H1 locs1 cells slots Q (F0 m (pc + 3) ls (.int r :: rest))) : W p l e R s m args below meth c H locs cells slots Q (F0 m pc ls (.ref (a 0) :: rest)) :=
  callM_i hw (va_runV (As := []) (rest := rest) ⟨E.hx, E.hb, E.hml, E.hown, E.hts⟩ hM ⟨cb_of 0 E.hts wl839 wl44 hlk (by decide +kernel) hR, E.hts _ wl838, E.hts _ wl28⟩ ⟨PM_blind, va_recv E.hK hw.1 (ci := 8) (q0 := 0) rfl rfl, PM_pre E.hK E.hN hw.1⟩ rfl rfl hls rfl (lv_room hrest) hdg hcs) kk
/-! X8_fewest -/
def k8_fewest_B9 (F : Nat) (S : SM) (x1 : Int32) (rec9 : Int32 → Int32 → Option (Int32 × SM)) (k29 : Int32 → Option (Int32 × SM)) (x2 : Int32) (x3 : Int32) : Option (Int32 × SM) :=
  if ((8 : Int32)) ≤ x3 then (k29 (x2)) else (bnd (x2 + ((x1 >>> (x3 &&& 31)) &&& ((1 : Int32)))) fun x2_8 => bnd (x3 + (1)) fun x3_9 => rec9 (x2_8) (x3_9))
def k8_fewest (F : Nat) (S : SM) : Option (Int32 × SM) :=
  ob2 (k8_groups F S ) fun r_2 S_3 => bnd (r_2) fun x1_4 => bnd ((0 : Int32)) fun x2_5 => bnd ((0 : Int32)) fun x3_6 => lpN (fun _ _ => none) (fun rec9 => k8_fewest_B9 F S_3 (x1_4) rec9 (fun x2_10 => (rdA 256 (S_3.1 20) x1_4).bind fun v_11 => some (x2_10 - v_11, S_3))) F (x2_5) (x3_6)
set_option maxRecDepth 100000 in
set_option maxHeartbeats 4000000 in
theorem k8_fewest_b9 {p : Program} {l : Launch} {e : Env} {s : State} {m : MethodId} {args : Array Value} {below : List Frame} {meth : Method} {c : Code} {D : va_G} {a : Nat → Nat} {g : Nat → ClassId} (E : EM p s m args meth c D a g cX8_fewest 4 RX8 (some .int)) {F : Nat}  (S : SM) (x1 : Int32) {rec9 : Int32 → Int32 → Option (Int32 × SM)} {k29 : Int32 → Option (Int32 × SM)} {out : (Int32 × SM)} (hrec9 : ∀ (x2 : Int32) (x3 : Int32) (H : Heap) (locs : List Loc) (ls : Array Slot), rec9 x2 x3 = some out → WM D a g S s H locs → lv_has ls 4 [(0, .ref (a 0)), (1, .int (x1)), (2, .int (x2)), (3, .int (x3))] → W p l e (RM 8) s m args below meth c H locs 0 0 (MQ below (QM D a g (some (.int out.1)) out.2) args s 0 0 (AM a)) (F0 m 9 ls [])) (hk29 : ∀ (x2 : Int32) (H : Heap) (locs : List Loc) (ls : Array Slot), k29 x2 = some out → WM D a g S s H locs → lv_has ls 4 [(0, .ref (a 0)), (1, .int (x1)), (2, .int (x2))] → W p l e (RM 8) s m args below meth c H locs 0 0 (MQ below (QM D a g (some (.int out.1)) out.2) args s 0 0 (AM a)) (F0 m 29 ls [])) (x2 : Int32) (x3 : Int32) (H : Heap) (locs : List Loc) (ls : Array Slot) (hf : k8_fewest_B9 F S x1 rec9 k29 x2 x3 = some out) (hw : WM D a g S s H locs) (hl : lv_has ls 4 [(0, .ref (a 0)), (1, .int (x1)), (2, .int (x2)), (3, .int (x3))]) : W p l e (RM 8) s m args below meth c H locs 0 0 (MQ below (QM D a g (some (.int out.1)) out.2) args s 0 0 (AM a)) (F0 m 9 ls []) := by
  have hx := E.hx
  have hb := E.hb
  unfold k8_fewest_B9 at hf
  refine lv_iload_n hx hb dX8_fewest_9 rfl (lv_at hl 3 rfl) ?_
  refine lv_bipush hx hb dX8_fewest_10 bp_8 ?_
  refine lv_icmp_ge (tgt := 29) hx hb dX8_fewest_12 (by decide) (fun c_7 => ?_) (fun c_7 => ?_)
  · replace hf := ite_t hf c_7
    exact hk29 (x2) _ _ ls hf hw (lv_sub hl [0, 1, 2] rfl)
  · replace hf := ite_f hf c_7
    refine lv_iload_n hx hb dX8_fewest_15 rfl (lv_at hl 2 rfl) ?_
    refine lv_iload_n hx hb dX8_fewest_16 rfl (lv_at hl 1 rfl) ?_
    refine lv_iload_n hx hb dX8_fewest_17 rfl (lv_at hl 3 rfl) ?_
    refine lv_ishr hx hb dX8_fewest_18 ?_
    refine lv_iconst hx hb dX8_fewest_19 ic_1 ?_
    refine lv_iand hx hb dX8_fewest_20 ?_
    refine lv_iadd hx hb dX8_fewest_21 ?_
    refine lv_topi (fun x2_8 ex2_8 => ?_)
    replace hf := bnd_at hf ex2_8
    refine lv_istore_n (lv' := [(2, .int (x2_8)), (0, .ref (a 0)), (1, .int (x1)), (3, .int (x3))]) hx hb dX8_fewest_22 rfl hl (by decide) rfl (fun ls hl => ?_)
    obtain ⟨x3_9, ex3_9⟩ : ∃ y : Int32, y = x3 + (1) := ⟨_, rfl⟩
    replace hf := bnd_at hf ex3_9
    refine lv_iinc (v := x3_9) (lv' := [(3, .int (x3_9)), (2, .int (x2_8)), (0, .ref (a 0)), (1, .int (x1))]) hx hb dX8_fewest_23 hl (k := 3) rfl (by rw [ex3_9]; rfl) (by decide) rfl (fun ls hl => ?_)
    refine lv_goto (tgt := 9) hx hb dX8_fewest_26 (by decide) ?_
    exact hrec9 (x2_8) (x3_9) _ _ ls hf hw (lv_sub hl [2, 3, 1, 0] rfl)
theorem k8_fewest_l9 {p : Program} {l : Launch} {e : Env} {s : State} {m : MethodId} {args : Array Value} {below : List Frame} {meth : Method} {c : Code} {D : va_G} {a : Nat → Nat} {g : Nat → ClassId} (E : EM p s m args meth c D a g cX8_fewest 4 RX8 (some .int)) {F : Nat}  (S : SM) (x1 : Int32) {k29 : Int32 → Option (Int32 × SM)} {out : (Int32 × SM)} (hk29 : ∀ (x2 : Int32) (H : Heap) (locs : List Loc) (ls : Array Slot), k29 x2 = some out → WM D a g S s H locs → lv_has ls 4 [(0, .ref (a 0)), (1, .int (x1)), (2, .int (x2))] → W p l e (RM 8) s m args below meth c H locs 0 0 (MQ below (QM D a g (some (.int out.1)) out.2) args s 0 0 (AM a)) (F0 m 29 ls [])) : ∀ (n : Nat) (x2 : Int32) (x3 : Int32) (H : Heap) (locs : List Loc) (ls : Array Slot), lpN (fun _ _ => none) (fun rec9 => k8_fewest_B9 F S x1 rec9 k29) n x2 x3 = some out → WM D a g S s H locs → lv_has ls 4 [(0, .ref (a 0)), (1, .int (x1)), (2, .int (x2)), (3, .int (x3))] → W p l e (RM 8) s m args below meth c H locs 0 0 (MQ below (QM D a g (some (.int out.1)) out.2) args s 0 0 (AM a)) (F0 m 9 ls []) := by
  intro n
  induction n with
  | zero => intro x2 x3 H locs ls hf; cases (show (none : Option (Int32 × SM)) = some out from hf)
  | succ n ih => intro x2 x3 H locs ls hf hw hl; exact k8_fewest_b9 E (F := F) S x1 ih hk29 x2 x3 H locs ls hf hw hl
set_option maxRecDepth 100000 in
set_option maxHeartbeats 4000000 in
theorem mk8_fewest {l : Launch} {D : va_G} {a : Nat → Nat} {g : Nat → ClassId} (hD : ∀ S, va_D (AM a) (wM a g S)) {F : Nat} {S : SM} {out : (Int32 × SM)} (hf : k8_fewest F S  = some out) : Met l yX8_fewest (wsm yX8_fewest cX8_fewest 4 (some .int)) (RM 8) (PM D a g S [.ref (a 0)]) (QM D a g (some (.int out.1)) out.2) 0 0 (AM a) := by
  refine Met.ofW (cc := cX8_fewest) (maxL := 4) (ret := (some .int)) (by decide) rfl ?_
  intro p e s m args below meth c s₁ B hml hv
  obtain ⟨rfl, hP, hK, hN⟩ := hv
  have hts := atoms_spec (ws := wsm yX8_fewest cX8_fewest 4 (some .int)) B.pre
  have E : EM p s m _ meth c D a g cX8_fewest 4 RX8 (some .int) := ⟨B.exec, B.bytes, B.returns, hml, findClass_of_methodNamed B.named, fun w h => hts w (List.mem_cons_of_mem _ h), hK, hN, hD, B.notSynchronized⟩
  have hx := E.hx
  have hb := E.hb
  have hw : WM D a g S s s.heap [] := ⟨hP, va_S.rf⟩
  have hl := lv_entry ([.ref (a 0)]) (n := 4) (Nat.le_of_ble_eq_true rfl)
  rw [lg_entry_eq]
  generalize (lg_sl ([.ref (a 0)]) ++ List.replicate (4 - (lg_sl ([.ref (a 0)])).length) Slot.unset).toArray = ls at hl ⊢
  have hl : lv_has ls 4 [(0, .ref (a 0))] := hl
  show W p l e (RM 8) s m _ below meth c s.heap [] 0 0 (MQ below (QM D a g (some (.int out.1)) out.2) _ s 0 0 (AM a)) (F0 m 0 ls [])
  unfold k8_fewest at hf
  refine lv_aload_n hx hb dX8_fewest_0 rfl (lv_at hl 0 rfl) ?_
  obtain ⟨r_2, S_3, h_1, hf⟩ := ob2_at hf
  refine qk8_groups E hw (mk8_groups E.hD h_1) wl836 dX8_fewest_1 ⟨Nat.le_of_ble_eq_true rfl, Nat.le_of_ble_eq_true rfl⟩ hl.1 (Nat.le_of_ble_eq_true rfl) ⟨Nat.le_refl 0, Nat.le_refl 0⟩ (fun H locs hw => ?_)
  refine lv_topi (fun x1_4 ex1_4 => ?_)
  replace hf := bnd_at hf ex1_4
  refine lv_istore_n (lv' := [(1, .int (x1_4)), (0, .ref (a 0))]) hx hb dX8_fewest_4 rfl hl (by decide) rfl (fun ls hl => ?_)
  refine lv_iconst hx hb dX8_fewest_5 ic_0 ?_
  refine lv_topi (fun x2_5 ex2_5 => ?_)
  replace hf := bnd_at hf ex2_5
  refine lv_istore_n (lv' := [(2, .int (x2_5)), (1, .int (x1_4)), (0, .ref (a 0))]) hx hb dX8_fewest_6 rfl hl (by decide) rfl (fun ls hl => ?_)
  refine lv_iconst hx hb dX8_fewest_7 ic_0 ?_
  refine lv_topi (fun x3_6 ex3_6 => ?_)
  replace hf := bnd_at hf ex3_6
  refine lv_istore_n (lv' := [(3, .int (x3_6)), (2, .int (x2_5)), (1, .int (x1_4)), (0, .ref (a 0))]) hx hb dX8_fewest_8 rfl hl (by decide) rfl (fun ls hl => ?_)
  refine k8_fewest_l9 E S_3 (x1_4) ?_ F (x2_5) (x3_6) _ _ ls hf hw (lv_sub hl [3, 2, 1, 0] rfl)
  · intro x2_10 H locs ls hf hw hl
    refine lv_iload_n hx hb dX8_fewest_29 rfl (lv_at hl 2 rfl) ?_
    refine lv_aload_n hx hb dX8_fewest_30 rfl (lv_at hl 0 rfl) ?_
    refine gM_0_26 E hw (E.hts _ wl667) dX8_fewest_31 ?_
    refine lv_iload_n hx hb dX8_fewest_34 rfl (lv_at hl 1 rfl) ?_
    obtain ⟨h_v_11, hf⟩ := rdA_at hf
    refine lM_20 E hw h_v_11 dX8_fewest_35 (fun v_11 ev_11 => ?_)
    replace hf := hf v_11 ev_11
    refine lv_isub hx hb dX8_fewest_36 ?_
    cases hf
    exact retM_i E hw dX8_fewest_37
theorem qk8_fewest {p : Program} {l : Launch} {e : Env} {R : Room} {s : State} {m : MethodId} {args : Array Value} {below : List Frame} {meth : Method} {c : Code} {H : Heap} {locs : List Loc} {cells slots : Nat} {Q : State → Prop} {cc : ByteArray} {pc : Nat} {ls : Array Slot} {rest : List Value} {D : va_G} {a : Nat → Nat} {g : Nat → ClassId} {nL : Nat} {own : String} {ret : Option FieldType} {S S1 : SM} {k : Nat} {r : Int32} (E : EM p s m args meth c D a g cc nL own ret) (hw : WM D a g S s H locs) (hM : Met l yX8_fewest (wsm yX8_fewest cX8_fewest 4 (some .int)) (RM k) (PM D a g S [.ref (a 0)]) (QM D a g (some (.int r)) S1) 0 0 (AM a)) {idx : Nat} (hlk : Cond.methodLink own idx yX8_fewest ∈ wd) (hdg : decode cc pc = .ok (.invokevirtual idx, 3)) (hR : k + 1 ≤ R.frames ∧ 8 + (4 + 11) + 64 * k ≤ R.locals) (hls : ls.size = nL) (hrest : (rest.map fun v => v.category).sum ≤ 8) (hcs : cells ≤ R.cells ∧ slots ≤ R.slots) (kk : ∀ (H1 : Heap) (locs1 : List Loc), WM D a g S1 s H1 locs1 → W p l e R s m args below meth c H1 locs1 cells slots Q (F0 m (pc + 3) ls (.int r :: rest))) : W p l e R s m args below meth c H locs cells slots Q (F0 m pc ls (.ref (a 0) :: rest)) :=
  callM_i hw (va_runV (As := []) (rest := rest) ⟨E.hx, E.hb, E.hml, E.hown, E.hts⟩ hM ⟨cb_of 0 E.hts wl835 wl44 hlk (by decide +kernel) hR, E.hts _ wl833, E.hts _ wl834⟩ ⟨PM_blind, va_recv E.hK hw.1 (ci := 8) (q0 := 0) rfl rfl, PM_pre E.hK E.hN hw.1⟩ rfl rfl hls rfl (lv_room hrest) hdg hcs) kk
/-! X8_group -/
def k8_group_B20 (F : Nat) (S : SM) (x1 : Int32) (x2 : Int32) (rec20 : Int32 → Option (Int32 × SM)) (k34 : Int32 → Option (Int32 × SM)) (x3 : Int32) : Option (Int32 × SM) :=
  if ((x2 >>> (x3 &&& 31)) &&& ((1 : Int32))) = 0 then (bnd (x3 + (1)) fun x3_12 => rec20 (x3_12)) else (k34 (x3))
def k8_group_B37 (F : Nat) (S : SM) (x1 : Int32) (x2 : Int32) (x3 : Int32) (rec37 : Int32 → Option (Int32 × SM)) (k94 : Int32 → Option (Int32 × SM)) (x4 : Int32) : Option (Int32 × SM) :=
  if (x4 &&& (x2 ^^^ ((-1 : Int32)))) = 0 then (if ((x4 >>> (x3 &&& 31)) &&& ((1 : Int32))) = 0 then (bnd (x4 + (1)) fun x4_18 => rec37 (x4_18)) else ((k8_sumOf F S (x4)).bind fun r_20 => if (lg_cmp r_20 ((0 : Int64))) = 0 then ((rdA 256 (S.1 20) (x2 &&& (x4 ^^^ ((-1 : Int32))))).bind fun v_24 => (rdA 256 (S.1 20) x2).bind fun v_25 => if (v_24 + ((1 : Int32))) = v_25 then (k94 (x4)) else (bnd (x4 + (1)) fun x4_27 => rec37 (x4_27))) else (bnd (x4 + (1)) fun x4_23 => rec37 (x4_23)))) else (bnd (x4 + (1)) fun x4_16 => rec37 (x4_16))
def k8_group_B14 (F : Nat) (S : SM) (x1 : Int32) (rec14 : Int32 → Option (Int32 × SM)) (x2 : Int32) : Option (Int32 × SM) :=
  if x2 = 0 then (some ((0 : Int32), S)) else (bnd ((0 : Int32)) fun x3_10 => lpN (fun _ => none) (fun rec20 => k8_group_B20 F S (x1) (x2) rec20 (fun x3_13 => bnd ((1 : Int32)) fun x4_14 => lpN (fun _ => none) (fun rec37 => k8_group_B37 F S (x1) (x2) (x3_13) rec37 (fun x4_28 => if ((x4_28 >>> (x1 &&& 31)) &&& ((1 : Int32))) = ((1 : Int32)) then (some (x4_28, S)) else (bnd (x2 &&& (x4_28 ^^^ ((-1 : Int32)))) fun x2_30 => rec14 (x2_30)))) F (x4_14))) F (x3_10))
def k8_group (F : Nat) (S : SM) (x1 : Int32) : Option (Int32 × SM) :=
  (k8_isCompany F S (x1)).bind fun r_2 => if r_2 = 0 then (some ((0 : Int32), S)) else (ob2 (k8_groups F S ) fun r_6 S_7 => bnd (r_6) fun x2_8 => lpN (fun _ => none) (fun rec14 => k8_group_B14 F S_7 (x1) rec14 ) F (x2_8))
set_option maxRecDepth 100000 in
set_option maxHeartbeats 4000000 in
theorem k8_group_b20 {p : Program} {l : Launch} {e : Env} {s : State} {m : MethodId} {args : Array Value} {below : List Frame} {meth : Method} {c : Code} {D : va_G} {a : Nat → Nat} {g : Nat → ClassId} (E : EM p s m args meth c D a g cX8_group 5 RX8 (some .int)) {F : Nat}  (S : SM) (x1 : Int32) (x2 : Int32) {rec20 : Int32 → Option (Int32 × SM)} {k34 : Int32 → Option (Int32 × SM)} {out : (Int32 × SM)} (hrec20 : ∀ (x3 : Int32) (H : Heap) (locs : List Loc) (ls : Array Slot), rec20 x3 = some out → WM D a g S s H locs → lv_has ls 5 [(0, .ref (a 0)), (1, .int (x1)), (2, .int (x2)), (3, .int (x3))] → W p l e (RM 8) s m args below meth c H locs 0 0 (MQ below (QM D a g (some (.int out.1)) out.2) args s 0 0 (AM a)) (F0 m 20 ls [])) (hk34 : ∀ (x3 : Int32) (H : Heap) (locs : List Loc) (ls : Array Slot), k34 x3 = some out → WM D a g S s H locs → lv_has ls 5 [(0, .ref (a 0)), (1, .int (x1)), (2, .int (x2)), (3, .int (x3))] → W p l e (RM 8) s m args below meth c H locs 0 0 (MQ below (QM D a g (some (.int out.1)) out.2) args s 0 0 (AM a)) (F0 m 34 ls [])) (x3 : Int32) (H : Heap) (locs : List Loc) (ls : Array Slot) (hf : k8_group_B20 F S x1 x2 rec20 k34 x3 = some out) (hw : WM D a g S s H locs) (hl : lv_has ls 5 [(0, .ref (a 0)), (1, .int (x1)), (2, .int (x2)), (3, .int (x3))]) : W p l e (RM 8) s m args below meth c H locs 0 0 (MQ below (QM D a g (some (.int out.1)) out.2) args s 0 0 (AM a)) (F0 m 20 ls []) := by
  have hx := E.hx
  have hb := E.hb
  unfold k8_group_B20 at hf
  refine lv_iload_n hx hb dX8_group_20 rfl (lv_at hl 2 rfl) ?_
  refine lv_iload_n hx hb dX8_group_21 rfl (lv_at hl 3 rfl) ?_
  refine lv_ishr hx hb dX8_group_22 ?_
  refine lv_iconst hx hb dX8_group_23 ic_1 ?_
  refine lv_iand hx hb dX8_group_24 ?_
  refine lv_if_ne (tgt := 34) hx hb dX8_group_25 (by decide) (fun c_11 => ?_) (fun c_11 => ?_)
  · replace hf := ite_f hf c_11
    exact hk34 (x3) _ _ ls hf hw (lv_sub hl [0, 1, 2, 3] rfl)
  · replace hf := ite_t hf c_11
    obtain ⟨x3_12, ex3_12⟩ : ∃ y : Int32, y = x3 + (1) := ⟨_, rfl⟩
    replace hf := bnd_at hf ex3_12
    refine lv_iinc (v := x3_12) (lv' := [(3, .int (x3_12)), (0, .ref (a 0)), (1, .int (x1)), (2, .int (x2))]) hx hb dX8_group_28 hl (k := 3) rfl (by rw [ex3_12]; rfl) (by decide) rfl (fun ls hl => ?_)
    refine lv_goto (tgt := 20) hx hb dX8_group_31 (by decide) ?_
    exact hrec20 (x3_12) _ _ ls hf hw (lv_sub hl [1, 2, 3, 0] rfl)
theorem k8_group_l20 {p : Program} {l : Launch} {e : Env} {s : State} {m : MethodId} {args : Array Value} {below : List Frame} {meth : Method} {c : Code} {D : va_G} {a : Nat → Nat} {g : Nat → ClassId} (E : EM p s m args meth c D a g cX8_group 5 RX8 (some .int)) {F : Nat}  (S : SM) (x1 : Int32) (x2 : Int32) {k34 : Int32 → Option (Int32 × SM)} {out : (Int32 × SM)} (hk34 : ∀ (x3 : Int32) (H : Heap) (locs : List Loc) (ls : Array Slot), k34 x3 = some out → WM D a g S s H locs → lv_has ls 5 [(0, .ref (a 0)), (1, .int (x1)), (2, .int (x2)), (3, .int (x3))] → W p l e (RM 8) s m args below meth c H locs 0 0 (MQ below (QM D a g (some (.int out.1)) out.2) args s 0 0 (AM a)) (F0 m 34 ls [])) : ∀ (n : Nat) (x3 : Int32) (H : Heap) (locs : List Loc) (ls : Array Slot), lpN (fun _ => none) (fun rec20 => k8_group_B20 F S x1 x2 rec20 k34) n x3 = some out → WM D a g S s H locs → lv_has ls 5 [(0, .ref (a 0)), (1, .int (x1)), (2, .int (x2)), (3, .int (x3))] → W p l e (RM 8) s m args below meth c H locs 0 0 (MQ below (QM D a g (some (.int out.1)) out.2) args s 0 0 (AM a)) (F0 m 20 ls []) := by
  intro n
  induction n with
  | zero => intro x3 H locs ls hf; cases (show (none : Option (Int32 × SM)) = some out from hf)
  | succ n ih => intro x3 H locs ls hf hw hl; exact k8_group_b20 E (F := F) S x1 x2 ih hk34 x3 H locs ls hf hw hl
set_option maxRecDepth 100000 in
set_option maxHeartbeats 4000000 in
theorem k8_group_b37 {p : Program} {l : Launch} {e : Env} {s : State} {m : MethodId} {args : Array Value} {below : List Frame} {meth : Method} {c : Code} {D : va_G} {a : Nat → Nat} {g : Nat → ClassId} (E : EM p s m args meth c D a g cX8_group 5 RX8 (some .int)) {F : Nat}  (S : SM) (x1 : Int32) (x2 : Int32) (x3 : Int32) {rec37 : Int32 → Option (Int32 × SM)} {k94 : Int32 → Option (Int32 × SM)} {out : (Int32 × SM)} (hrec37 : ∀ (x4 : Int32) (H : Heap) (locs : List Loc) (ls : Array Slot), rec37 x4 = some out → WM D a g S s H locs → lv_has ls 5 [(0, .ref (a 0)), (1, .int (x1)), (2, .int (x2)), (3, .int (x3)), (4, .int (x4))] → W p l e (RM 8) s m args below meth c H locs 0 0 (MQ below (QM D a g (some (.int out.1)) out.2) args s 0 0 (AM a)) (F0 m 37 ls [])) (hk94 : ∀ (x4 : Int32) (H : Heap) (locs : List Loc) (ls : Array Slot), k94 x4 = some out → WM D a g S s H locs → lv_has ls 5 [(0, .ref (a 0)), (1, .int (x1)), (2, .int (x2)), (4, .int (x4))] → W p l e (RM 8) s m args below meth c H locs 0 0 (MQ below (QM D a g (some (.int out.1)) out.2) args s 0 0 (AM a)) (F0 m 94 ls [])) (x4 : Int32) (H : Heap) (locs : List Loc) (ls : Array Slot) (hf : k8_group_B37 F S x1 x2 x3 rec37 k94 x4 = some out) (hw : WM D a g S s H locs) (hl : lv_has ls 5 [(0, .ref (a 0)), (1, .int (x1)), (2, .int (x2)), (3, .int (x3)), (4, .int (x4))]) : W p l e (RM 8) s m args below meth c H locs 0 0 (MQ below (QM D a g (some (.int out.1)) out.2) args s 0 0 (AM a)) (F0 m 37 ls []) := by
  have hx := E.hx
  have hb := E.hb
  unfold k8_group_B37 at hf
  refine lv_iload hx hb dX8_group_37 (lv_at hl 4 rfl) ?_
  refine lv_iload_n hx hb dX8_group_39 rfl (lv_at hl 2 rfl) ?_
  refine lv_iconst hx hb dX8_group_40 ic_m1 ?_
  refine lv_ixor hx hb dX8_group_41 ?_
  refine lv_iand hx hb dX8_group_42 ?_
  refine lv_if_ne (tgt := 88) hx hb dX8_group_43 (by decide) (fun c_15 => ?_) (fun c_15 => ?_)
  · replace hf := ite_f hf c_15
    obtain ⟨x4_16, ex4_16⟩ : ∃ y : Int32, y = x4 + (1) := ⟨_, rfl⟩
    replace hf := bnd_at hf ex4_16
    refine lv_iinc (v := x4_16) (lv' := [(4, .int (x4_16)), (0, .ref (a 0)), (1, .int (x1)), (2, .int (x2)), (3, .int (x3))]) hx hb dX8_group_88 hl (k := 4) rfl (by rw [ex4_16]; rfl) (by decide) rfl (fun ls hl => ?_)
    refine lv_goto (tgt := 37) hx hb dX8_group_91 (by decide) ?_
    exact hrec37 (x4_16) _ _ ls hf hw (lv_sub hl [1, 2, 3, 4, 0] rfl)
  · replace hf := ite_t hf c_15
    refine lv_iload hx hb dX8_group_46 (lv_at hl 4 rfl) ?_
    refine lv_iload_n hx hb dX8_group_48 rfl (lv_at hl 3 rfl) ?_
    refine lv_ishr hx hb dX8_group_49 ?_
    refine lv_iconst hx hb dX8_group_50 ic_1 ?_
    refine lv_iand hx hb dX8_group_51 ?_
    refine lv_if_eq (tgt := 88) hx hb dX8_group_52 (by decide) (fun c_17 => ?_) (fun c_17 => ?_)
    · replace hf := ite_t hf c_17
      obtain ⟨x4_18, ex4_18⟩ : ∃ y : Int32, y = x4 + (1) := ⟨_, rfl⟩
      replace hf := bnd_at hf ex4_18
      refine lv_iinc (v := x4_18) (lv' := [(4, .int (x4_18)), (0, .ref (a 0)), (1, .int (x1)), (2, .int (x2)), (3, .int (x3))]) hx hb dX8_group_88 hl (k := 4) rfl (by rw [ex4_18]; rfl) (by decide) rfl (fun ls hl => ?_)
      refine lv_goto (tgt := 37) hx hb dX8_group_91 (by decide) ?_
      exact hrec37 (x4_18) _ _ ls hf hw (lv_sub hl [1, 2, 3, 4, 0] rfl)
    · replace hf := ite_f hf c_17
      refine lv_aload_n hx hb dX8_group_55 rfl (lv_at hl 0 rfl) ?_
      refine lv_iload hx hb dX8_group_56 (lv_at hl 4 rfl) ?_
      obtain ⟨r_20, h_19, hf⟩ := ob_at hf
      refine qk8_sumOf E hw (mk8_sumOf E.hD h_19) wl840 dX8_group_58 ⟨Nat.le_of_ble_eq_true rfl, Nat.le_of_ble_eq_true rfl⟩ hl.1 (Nat.le_of_ble_eq_true rfl) ⟨Nat.le_refl 0, Nat.le_refl 0⟩ (fun H locs hw => ?_)
      refine lv_lconst (v := 0) hx hb dX8_group_61 (by decide) ?_
      refine W.lcmp hx hb dX8_group_62 ?_
      refine lv_if_ne (tgt := 88) hx hb dX8_group_63 (by decide) (fun c_22 => ?_) (fun c_22 => ?_)
      · replace hf := ite_f hf c_22
        obtain ⟨x4_23, ex4_23⟩ : ∃ y : Int32, y = x4 + (1) := ⟨_, rfl⟩
        replace hf := bnd_at hf ex4_23
        refine lv_iinc (v := x4_23) (lv' := [(4, .int (x4_23)), (0, .ref (a 0)), (1, .int (x1)), (2, .int (x2)), (3, .int (x3))]) hx hb dX8_group_88 hl (k := 4) rfl (by rw [ex4_23]; rfl) (by decide) rfl (fun ls hl => ?_)
        refine lv_goto (tgt := 37) hx hb dX8_group_91 (by decide) ?_
        exact hrec37 (x4_23) _ _ ls hf hw (lv_sub hl [1, 2, 3, 4, 0] rfl)
      · replace hf := ite_t hf c_22
        refine lv_aload_n hx hb dX8_group_66 rfl (lv_at hl 0 rfl) ?_
        refine gM_0_26 E hw (E.hts _ wl667) dX8_group_67 ?_
        refine lv_iload_n hx hb dX8_group_70 rfl (lv_at hl 2 rfl) ?_
        refine lv_iload hx hb dX8_group_71 (lv_at hl 4 rfl) ?_
        refine lv_iconst hx hb dX8_group_73 ic_m1 ?_
        refine lv_ixor hx hb dX8_group_74 ?_
        refine lv_iand hx hb dX8_group_75 ?_
        obtain ⟨h_v_24, hf⟩ := rdA_at hf
        refine lM_20 E hw h_v_24 dX8_group_76 (fun v_24 ev_24 => ?_)
        replace hf := hf v_24 ev_24
        refine lv_iconst hx hb dX8_group_77 ic_1 ?_
        refine lv_iadd hx hb dX8_group_78 ?_
        refine lv_aload_n hx hb dX8_group_79 rfl (lv_at hl 0 rfl) ?_
        refine gM_0_26 E hw (E.hts _ wl667) dX8_group_80 ?_
        refine lv_iload_n hx hb dX8_group_83 rfl (lv_at hl 2 rfl) ?_
        obtain ⟨h_v_25, hf⟩ := rdA_at hf
        refine lM_20 E hw h_v_25 dX8_group_84 (fun v_25 ev_25 => ?_)
        replace hf := hf v_25 ev_25
        refine lv_icmp_eq (tgt := 94) hx hb dX8_group_85 (by decide) (fun c_26 => ?_) (fun c_26 => ?_)
        · replace hf := ite_t hf c_26
          exact hk94 (x4) _ _ ls hf hw (lv_sub hl [0, 1, 2, 4] rfl)
        · replace hf := ite_f hf c_26
          obtain ⟨x4_27, ex4_27⟩ : ∃ y : Int32, y = x4 + (1) := ⟨_, rfl⟩
          replace hf := bnd_at hf ex4_27
          refine lv_iinc (v := x4_27) (lv' := [(4, .int (x4_27)), (0, .ref (a 0)), (1, .int (x1)), (2, .int (x2)), (3, .int (x3))]) hx hb dX8_group_88 hl (k := 4) rfl (by rw [ex4_27]; rfl) (by decide) rfl (fun ls hl => ?_)
          refine lv_goto (tgt := 37) hx hb dX8_group_91 (by decide) ?_
          exact hrec37 (x4_27) _ _ ls hf hw (lv_sub hl [1, 2, 3, 4, 0] rfl)
theorem k8_group_l37 {p : Program} {l : Launch} {e : Env} {s : State} {m : MethodId} {args : Array Value} {below : List Frame} {meth : Method} {c : Code} {D : va_G} {a : Nat → Nat} {g : Nat → ClassId} (E : EM p s m args meth c D a g cX8_group 5 RX8 (some .int)) {F : Nat}  (S : SM) (x1 : Int32) (x2 : Int32) (x3 : Int32) {k94 : Int32 → Option (Int32 × SM)} {out : (Int32 × SM)} (hk94 : ∀ (x4 : Int32) (H : Heap) (locs : List Loc) (ls : Array Slot), k94 x4 = some out → WM D a g S s H locs → lv_has ls 5 [(0, .ref (a 0)), (1, .int (x1)), (2, .int (x2)), (4, .int (x4))] → W p l e (RM 8) s m args below meth c H locs 0 0 (MQ below (QM D a g (some (.int out.1)) out.2) args s 0 0 (AM a)) (F0 m 94 ls [])) : ∀ (n : Nat) (x4 : Int32) (H : Heap) (locs : List Loc) (ls : Array Slot), lpN (fun _ => none) (fun rec37 => k8_group_B37 F S x1 x2 x3 rec37 k94) n x4 = some out → WM D a g S s H locs → lv_has ls 5 [(0, .ref (a 0)), (1, .int (x1)), (2, .int (x2)), (3, .int (x3)), (4, .int (x4))] → W p l e (RM 8) s m args below meth c H locs 0 0 (MQ below (QM D a g (some (.int out.1)) out.2) args s 0 0 (AM a)) (F0 m 37 ls []) := by
  intro n
  induction n with
  | zero => intro x4 H locs ls hf; cases (show (none : Option (Int32 × SM)) = some out from hf)
  | succ n ih => intro x4 H locs ls hf hw hl; exact k8_group_b37 E (F := F) S x1 x2 x3 ih hk94 x4 H locs ls hf hw hl
set_option maxRecDepth 100000 in
set_option maxHeartbeats 4000000 in
theorem k8_group_b14 {p : Program} {l : Launch} {e : Env} {s : State} {m : MethodId} {args : Array Value} {below : List Frame} {meth : Method} {c : Code} {D : va_G} {a : Nat → Nat} {g : Nat → ClassId} (E : EM p s m args meth c D a g cX8_group 5 RX8 (some .int)) {F : Nat}  (S : SM) (x1 : Int32) {rec14 : Int32 → Option (Int32 × SM)} {out : (Int32 × SM)} (hrec14 : ∀ (x2 : Int32) (H : Heap) (locs : List Loc) (ls : Array Slot), rec14 x2 = some out → WM D a g S s H locs → lv_has ls 5 [(0, .ref (a 0)), (1, .int (x1)), (2, .int (x2))] → W p l e (RM 8) s m args below meth c H locs 0 0 (MQ below (QM D a g (some (.int out.1)) out.2) args s 0 0 (AM a)) (F0 m 14 ls []))  (x2 : Int32) (H : Heap) (locs : List Loc) (ls : Array Slot) (hf : k8_group_B14 F S x1 rec14 x2 = some out) (hw : WM D a g S s H locs) (hl : lv_has ls 5 [(0, .ref (a 0)), (1, .int (x1)), (2, .int (x2))]) : W p l e (RM 8) s m args below meth c H locs 0 0 (MQ below (QM D a g (some (.int out.1)) out.2) args s 0 0 (AM a)) (F0 m 14 ls []) := by
  have hx := E.hx
  have hb := E.hb
  unfold k8_group_B14 at hf
  refine lv_iload_n hx hb dX8_group_14 rfl (lv_at hl 2 rfl) ?_
  refine lv_if_eq (tgt := 117) hx hb dX8_group_15 (by decide) (fun c_9 => ?_) (fun c_9 => ?_)
  · replace hf := ite_t hf c_9
    refine lv_iconst hx hb dX8_group_117 ic_0 ?_
    cases hf
    exact retM_i E hw dX8_group_118
  · replace hf := ite_f hf c_9
    refine lv_iconst hx hb dX8_group_18 ic_0 ?_
    refine lv_topi (fun x3_10 ex3_10 => ?_)
    replace hf := bnd_at hf ex3_10
    refine lv_istore_n (lv' := [(3, .int (x3_10)), (0, .ref (a 0)), (1, .int (x1)), (2, .int (x2))]) hx hb dX8_group_19 rfl hl (by decide) rfl (fun ls hl => ?_)
    refine k8_group_l20 E S (x1) (x2) ?_ F (x3_10) _ _ ls hf hw (lv_sub hl [1, 2, 3, 0] rfl)
    · intro x3_13 H locs ls hf hw hl
      refine lv_iconst hx hb dX8_group_34 ic_1 ?_
      refine lv_topi (fun x4_14 ex4_14 => ?_)
      replace hf := bnd_at hf ex4_14
      refine lv_istore (lv' := [(4, .int (x4_14)), (0, .ref (a 0)), (1, .int (x1)), (2, .int (x2)), (3, .int (x3_13))]) hx hb dX8_group_35 hl (by decide) rfl (fun ls hl => ?_)
      refine k8_group_l37 E S (x1) (x2) (x3_13) ?_ F (x4_14) _ _ ls hf hw (lv_sub hl [1, 2, 3, 4, 0] rfl)
      · intro x4_28 H locs ls hf hw hl
        refine lv_iload hx hb dX8_group_94 (lv_at hl 3 rfl) ?_
        refine lv_iload_n hx hb dX8_group_96 rfl (lv_at hl 1 rfl) ?_
        refine lv_ishr hx hb dX8_group_97 ?_
        refine lv_iconst hx hb dX8_group_98 ic_1 ?_
        refine lv_iand hx hb dX8_group_99 ?_
        refine lv_iconst hx hb dX8_group_100 ic_1 ?_
        refine lv_icmp_ne (tgt := 107) hx hb dX8_group_101 (by decide) (fun c_29 => ?_) (fun c_29 => ?_)
        · replace hf := ite_f hf c_29
          refine lv_iload_n hx hb dX8_group_107 rfl (lv_at hl 2 rfl) ?_
          refine lv_iload hx hb dX8_group_108 (lv_at hl 3 rfl) ?_
          refine lv_iconst hx hb dX8_group_110 ic_m1 ?_
          refine lv_ixor hx hb dX8_group_111 ?_
          refine lv_iand hx hb dX8_group_112 ?_
          refine lv_topi (fun x2_30 ex2_30 => ?_)
          replace hf := bnd_at hf ex2_30
          refine lv_istore_n (lv' := [(2, .int (x2_30)), (0, .ref (a 0)), (1, .int (x1)), (4, .int (x4_28))]) hx hb dX8_group_113 rfl hl (by decide) rfl (fun ls hl => ?_)
          refine lv_goto (tgt := 14) hx hb dX8_group_114 (by decide) ?_
          exact hrec14 (x2_30) _ _ ls hf hw (lv_sub hl [1, 2, 0] rfl)
        · replace hf := ite_t hf c_29
          refine lv_iload hx hb dX8_group_104 (lv_at hl 3 rfl) ?_
          cases hf
          exact retM_i E hw dX8_group_106
theorem k8_group_l14 {p : Program} {l : Launch} {e : Env} {s : State} {m : MethodId} {args : Array Value} {below : List Frame} {meth : Method} {c : Code} {D : va_G} {a : Nat → Nat} {g : Nat → ClassId} (E : EM p s m args meth c D a g cX8_group 5 RX8 (some .int)) {F : Nat}  (S : SM) (x1 : Int32) {out : (Int32 × SM)}  : ∀ (n : Nat) (x2 : Int32) (H : Heap) (locs : List Loc) (ls : Array Slot), lpN (fun _ => none) (fun rec14 => k8_group_B14 F S x1 rec14) n x2 = some out → WM D a g S s H locs → lv_has ls 5 [(0, .ref (a 0)), (1, .int (x1)), (2, .int (x2))] → W p l e (RM 8) s m args below meth c H locs 0 0 (MQ below (QM D a g (some (.int out.1)) out.2) args s 0 0 (AM a)) (F0 m 14 ls []) := by
  intro n
  induction n with
  | zero => intro x2 H locs ls hf; cases (show (none : Option (Int32 × SM)) = some out from hf)
  | succ n ih => intro x2 H locs ls hf hw hl; exact k8_group_b14 E (F := F) S x1 ih x2 H locs ls hf hw hl
set_option maxRecDepth 100000 in
set_option maxHeartbeats 4000000 in
theorem mk8_group {l : Launch} {D : va_G} {a : Nat → Nat} {g : Nat → ClassId} (hD : ∀ S, va_D (AM a) (wM a g S)) {F : Nat} {S : SM} {x1 : Int32} {out : (Int32 × SM)} (hf : k8_group F S x1 = some out) : Met l yX8_group (wsm yX8_group cX8_group 5 (some .int)) (RM 8) (PM D a g S [.ref (a 0), .int x1]) (QM D a g (some (.int out.1)) out.2) 0 0 (AM a) := by
  refine Met.ofW (cc := cX8_group) (maxL := 5) (ret := (some .int)) (by decide) rfl ?_
  intro p e s m args below meth c s₁ B hml hv
  obtain ⟨rfl, hP, hK, hN⟩ := hv
  have hts := atoms_spec (ws := wsm yX8_group cX8_group 5 (some .int)) B.pre
  have E : EM p s m _ meth c D a g cX8_group 5 RX8 (some .int) := ⟨B.exec, B.bytes, B.returns, hml, findClass_of_methodNamed B.named, fun w h => hts w (List.mem_cons_of_mem _ h), hK, hN, hD, B.notSynchronized⟩
  have hx := E.hx
  have hb := E.hb
  have hw : WM D a g S s s.heap [] := ⟨hP, va_S.rf⟩
  have hl := lv_entry ([.ref (a 0), .int x1]) (n := 5) (Nat.le_of_ble_eq_true rfl)
  rw [lg_entry_eq]
  generalize (lg_sl ([.ref (a 0), .int x1]) ++ List.replicate (5 - (lg_sl ([.ref (a 0), .int x1])).length) Slot.unset).toArray = ls at hl ⊢
  have hl : lv_has ls 5 [(0, .ref (a 0)), (1, .int (x1))] := hl
  show W p l e (RM 8) s m _ below meth c s.heap [] 0 0 (MQ below (QM D a g (some (.int out.1)) out.2) _ s 0 0 (AM a)) (F0 m 0 ls [])
  unfold k8_group at hf
  refine lv_iload_n hx hb dX8_group_0 rfl (lv_at hl 1 rfl) ?_
  obtain ⟨r_2, h_1, hf⟩ := ob_at hf
  refine qk8_isCompany E hw (mk8_isCompany E.hD h_1) wl746 dX8_group_1 ⟨Nat.le_of_ble_eq_true rfl, Nat.le_of_ble_eq_true rfl⟩ hl.1 (Nat.le_of_ble_eq_true rfl) ⟨Nat.le_refl 0, Nat.le_refl 0⟩ (fun H locs hw => ?_)
  refine lv_if_ne (tgt := 9) hx hb dX8_group_4 (by decide) (fun c_4 => ?_) (fun c_4 => ?_)
  · replace hf := ite_f hf c_4
    refine lv_aload_n hx hb dX8_group_9 rfl (lv_at hl 0 rfl) ?_
    obtain ⟨r_6, S_7, h_5, hf⟩ := ob2_at hf
    refine qk8_groups E hw (mk8_groups E.hD h_5) wl836 dX8_group_10 ⟨Nat.le_of_ble_eq_true rfl, Nat.le_of_ble_eq_true rfl⟩ hl.1 (Nat.le_of_ble_eq_true rfl) ⟨Nat.le_refl 0, Nat.le_refl 0⟩ (fun H locs hw => ?_)
    refine lv_topi (fun x2_8 ex2_8 => ?_)
    replace hf := bnd_at hf ex2_8
    refine lv_istore_n (lv' := [(2, .int (x2_8)), (0, .ref (a 0)), (1, .int (x1))]) hx hb dX8_group_13 rfl hl (by decide) rfl (fun ls hl => ?_)
    refine k8_group_l14 E S_7 (x1)  F (x2_8) _ _ ls hf hw (lv_sub hl [1, 2, 0] rfl)
  · replace hf := ite_t hf c_4
    refine lv_iconst hx hb dX8_group_7 ic_0 ?_
    cases hf
    exact retM_i E hw dX8_group_8
theorem qk8_group {p : Program} {l : Launch} {e : Env} {R : Room} {s : State} {m : MethodId} {args : Array Value} {below : List Frame} {meth : Method} {c : Code} {H : Heap} {locs : List Loc} {cells slots : Nat} {Q : State → Prop} {cc : ByteArray} {pc : Nat} {ls : Array Slot} {rest : List Value} {D : va_G} {a : Nat → Nat} {g : Nat → ClassId} {nL : Nat} {own : String} {ret : Option FieldType} {S S1 : SM} {k : Nat} {x1 : Int32} {r : Int32} (E : EM p s m args meth c D a g cc nL own ret) (hw : WM D a g S s H locs) (hM : Met l yX8_group (wsm yX8_group cX8_group 5 (some .int)) (RM k) (PM D a g S [.ref (a 0), .int x1]) (QM D a g (some (.int r)) S1) 0 0 (AM a)) {idx : Nat} (hlk : Cond.methodLink own idx yX8_group ∈ wd) (hdg : decode cc pc = .ok (.invokevirtual idx, 3)) (hR : k + 1 ≤ R.frames ∧ 8 + (5 + 11) + 64 * k ≤ R.locals) (hls : ls.size = nL) (hrest : (rest.map fun v => v.category).sum ≤ 8) (hcs : cells ≤ R.cells ∧ slots ≤ R.slots) (kk : ∀ (H1 : Heap) (locs1 : List Loc), WM D a g S1 s H1 locs1 → W p l e R s m args below meth c H1 locs1 cells slots Q (F0 m (pc + 3) ls (.int r :: rest))) : W p l e R s m args below meth c H locs cells slots Q (F0 m pc ls (.int x1 :: .ref (a 0) :: rest)) :=
  callM_i hw (va_runV (As := [.int x1]) (rest := rest) ⟨E.hx, E.hb, E.hml, E.hown, E.hts⟩ hM ⟨cb_of 1 E.hts wl847 wl44 hlk (by decide +kernel) hR, E.hts _ wl845, E.hts _ wl846⟩ ⟨PM_blind, va_recv E.hK hw.1 (ci := 8) (q0 := 0) rfl rfl, PM_pre E.hK E.hN hw.1⟩ rfl rfl hls rfl (lv_room hrest) hdg hcs) kk
/-! X8_empties -/
def k8_empties (F : Nat) (S : SM) (x1 : Int32) (x2 : Int32) (x3 : Int32) : Option (Int32 × SM) :=
  (k8_isJunction F S (x1)).bind fun r_2 => if r_2 = 0 then (some ((0 : Int32), S)) else ((k8_in F S (x2) ((0 : Int32)) ((9 : Int32))).bind fun r_6 => if r_6 = 0 then (some ((0 : Int32), S)) else ((k8_in F S (x3) ((0 : Int32)) ((9 : Int32))).bind fun r_10 => if r_10 = 0 then (some ((0 : Int32), S)) else ((ckA 12 x1).bind fun _ => bnd (stM S 13 (Int32.toNatClampNeg x1) x2) fun S_13 => (ckA 12 x1).bind fun _ => bnd (stM S_13 14 (Int32.toNatClampNeg x1) x3) fun S_14 => some ((1 : Int32), S_14))))
set_option maxRecDepth 100000 in
set_option maxHeartbeats 4000000 in
theorem mk8_empties {l : Launch} {D : va_G} {a : Nat → Nat} {g : Nat → ClassId} (hD : ∀ S, va_D (AM a) (wM a g S)) {F : Nat} {S : SM} {x1 x2 x3 : Int32} {out : (Int32 × SM)} (hf : k8_empties F S x1 x2 x3 = some out) : Met l yX8_empties (wsm yX8_empties cX8_empties 4 (some .boolean)) (RM 3) (PM D a g S [.ref (a 0), .int x1, .int x2, .int x3]) (QM D a g (some (.int out.1)) out.2) 0 0 (AM a) := by
  refine Met.ofW (cc := cX8_empties) (maxL := 4) (ret := (some .boolean)) (by decide) rfl ?_
  intro p e s m args below meth c s₁ B hml hv
  obtain ⟨rfl, hP, hK, hN⟩ := hv
  have hts := atoms_spec (ws := wsm yX8_empties cX8_empties 4 (some .boolean)) B.pre
  have E : EM p s m _ meth c D a g cX8_empties 4 RX8 (some .boolean) := ⟨B.exec, B.bytes, B.returns, hml, findClass_of_methodNamed B.named, fun w h => hts w (List.mem_cons_of_mem _ h), hK, hN, hD, B.notSynchronized⟩
  have hx := E.hx
  have hb := E.hb
  have hw : WM D a g S s s.heap [] := ⟨hP, va_S.rf⟩
  have hl := lv_entry ([.ref (a 0), .int x1, .int x2, .int x3]) (n := 4) (Nat.le_of_ble_eq_true rfl)
  rw [lg_entry_eq]
  generalize (lg_sl ([.ref (a 0), .int x1, .int x2, .int x3]) ++ List.replicate (4 - (lg_sl ([.ref (a 0), .int x1, .int x2, .int x3])).length) Slot.unset).toArray = ls at hl ⊢
  have hl : lv_has ls 4 [(0, .ref (a 0)), (1, .int (x1)), (2, .int (x2)), (3, .int (x3))] := hl
  show W p l e (RM 3) s m _ below meth c s.heap [] 0 0 (MQ below (QM D a g (some (.int out.1)) out.2) _ s 0 0 (AM a)) (F0 m 0 ls [])
  unfold k8_empties at hf
  refine lv_iload_n hx hb dX8_empties_0 rfl (lv_at hl 1 rfl) ?_
  obtain ⟨r_2, h_1, hf⟩ := ob_at hf
  refine qk8_isJunction E hw (mk8_isJunction E.hD h_1) wl740 dX8_empties_1 ⟨Nat.le_of_ble_eq_true rfl, Nat.le_of_ble_eq_true rfl⟩ hl.1 (Nat.le_of_ble_eq_true rfl) ⟨Nat.le_refl 0, Nat.le_refl 0⟩ (fun H locs hw => ?_)
  refine lv_if_eq (tgt := 27) hx hb dX8_empties_4 (by decide) (fun c_4 => ?_) (fun c_4 => ?_)
  · replace hf := ite_t hf c_4
    refine lv_iconst hx hb dX8_empties_27 ic_0 ?_
    cases hf
    exact retM_z E hw nb0 dX8_empties_28
  · replace hf := ite_f hf c_4
    refine lv_iload_n hx hb dX8_empties_7 rfl (lv_at hl 2 rfl) ?_
    refine lv_iconst hx hb dX8_empties_8 ic_0 ?_
    refine lv_bipush hx hb dX8_empties_9 bp_9 ?_
    obtain ⟨r_6, h_5, hf⟩ := ob_at hf
    refine qk8_in E hw (mk8_in E.hD h_5) wl743 dX8_empties_11 ⟨Nat.le_of_ble_eq_true rfl, Nat.le_of_ble_eq_true rfl⟩ hl.1 (Nat.le_of_ble_eq_true rfl) ⟨Nat.le_refl 0, Nat.le_refl 0⟩ (fun H locs hw => ?_)
    refine lv_if_eq (tgt := 27) hx hb dX8_empties_14 (by decide) (fun c_8 => ?_) (fun c_8 => ?_)
    · replace hf := ite_t hf c_8
      refine lv_iconst hx hb dX8_empties_27 ic_0 ?_
      cases hf
      exact retM_z E hw nb0 dX8_empties_28
    · replace hf := ite_f hf c_8
      refine lv_iload_n hx hb dX8_empties_17 rfl (lv_at hl 3 rfl) ?_
      refine lv_iconst hx hb dX8_empties_18 ic_0 ?_
      refine lv_bipush hx hb dX8_empties_19 bp_9 ?_
      obtain ⟨r_10, h_9, hf⟩ := ob_at hf
      refine qk8_in E hw (mk8_in E.hD h_9) wl743 dX8_empties_21 ⟨Nat.le_of_ble_eq_true rfl, Nat.le_of_ble_eq_true rfl⟩ hl.1 (Nat.le_of_ble_eq_true rfl) ⟨Nat.le_refl 0, Nat.le_refl 0⟩ (fun H locs hw => ?_)
      refine lv_if_ne (tgt := 29) hx hb dX8_empties_24 (by decide) (fun c_12 => ?_) (fun c_12 => ?_)
      · replace hf := ite_f hf c_12
        refine lv_aload_n hx hb dX8_empties_29 rfl (lv_at hl 0 rfl) ?_
        refine gM_0_18 E hw (E.hts _ wl659) dX8_empties_30 ?_
        refine lv_iload_n hx hb dX8_empties_33 rfl (lv_at hl 1 rfl) ?_
        refine lv_iload_n hx hb dX8_empties_34 rfl (lv_at hl 2 rfl) ?_
        obtain ⟨h_S_13, hf⟩ := ckA_at hf
        refine sM_13 E hw h_S_13 dX8_empties_35 (fun S_13 eS_13 H locs hw => ?_)
        replace hf := bnd_at hf eS_13
        refine lv_aload_n hx hb dX8_empties_36 rfl (lv_at hl 0 rfl) ?_
        refine gM_0_19 E hw (E.hts _ wl660) dX8_empties_37 ?_
        refine lv_iload_n hx hb dX8_empties_40 rfl (lv_at hl 1 rfl) ?_
        refine lv_iload_n hx hb dX8_empties_41 rfl (lv_at hl 3 rfl) ?_
        obtain ⟨h_S_14, hf⟩ := ckA_at hf
        refine sM_14 E hw h_S_14 dX8_empties_42 (fun S_14 eS_14 H locs hw => ?_)
        replace hf := bnd_at hf eS_14
        refine lv_iconst hx hb dX8_empties_43 ic_1 ?_
        cases hf
        exact retM_z E hw nb1 dX8_empties_44
      · replace hf := ite_t hf c_12
        refine lv_iconst hx hb dX8_empties_27 ic_0 ?_
        cases hf
        exact retM_z E hw nb0 dX8_empties_28
theorem qk8_empties {p : Program} {l : Launch} {e : Env} {R : Room} {s : State} {m : MethodId} {args : Array Value} {below : List Frame} {meth : Method} {c : Code} {H : Heap} {locs : List Loc} {cells slots : Nat} {Q : State → Prop} {cc : ByteArray} {pc : Nat} {ls : Array Slot} {rest : List Value} {D : va_G} {a : Nat → Nat} {g : Nat → ClassId} {nL : Nat} {own : String} {ret : Option FieldType} {S S1 : SM} {k : Nat} {x1 x2 x3 : Int32} {r : Int32} (E : EM p s m args meth c D a g cc nL own ret) (hw : WM D a g S s H locs) (hM : Met l yX8_empties (wsm yX8_empties cX8_empties 4 (some .boolean)) (RM k) (PM D a g S [.ref (a 0), .int x1, .int x2, .int x3]) (QM D a g (some (.int r)) S1) 0 0 (AM a)) {idx : Nat} (hlk : Cond.methodLink own idx yX8_empties ∈ wd) (hdg : decode cc pc = .ok (.invokevirtual idx, 3)) (hR : k + 1 ≤ R.frames ∧ 8 + (4 + 11) + 64 * k ≤ R.locals) (hls : ls.size = nL) (hrest : (rest.map fun v => v.category).sum ≤ 8) (hcs : cells ≤ R.cells ∧ slots ≤ R.slots) (kk : ∀ (H1 : Heap) (locs1 : List Loc), WM D a g S1 s H1 locs1 → W p l e R s m args below meth c H1 locs1 cells slots Q (F0 m (pc + 3) ls (.int r :: rest))) : W p l e R s m args below meth c H locs cells slots Q (F0 m pc ls (.int x3 :: .int x2 :: .int x1 :: .ref (a 0) :: rest)) :=
  callM_i hw (va_runV (As := [.int x1, .int x2, .int x3]) (rest := rest) ⟨E.hx, E.hb, E.hml, E.hown, E.hts⟩ hM ⟨cb_of 3 E.hts wl851 wl44 hlk (by decide +kernel) hR, E.hts _ wl849, E.hts _ wl850⟩ ⟨PM_blind, va_recv E.hK hw.1 (ci := 8) (q0 := 0) rfl rfl, PM_pre E.hK E.hN hw.1⟩ rfl rfl hls rfl (lv_room hrest) hdg hcs) kk

/-! X3_measureReach -/
def k3_measureReach_B2 (F : Nat) (rec2 : SS → Int32 → Option SS) (k42 : SS → Option SS) (S : SS) (x1 : Int32) : Option SS :=
  if ((12 : Int32)) ≤ x1 then (k42 S) else ((rdA 12 (S 31) x1).bind fun v_3 => if v_3 ≤ 0 then ((ckA 12 x1).bind fun _ => bnd (st S 33 (Int32.toNatClampNeg x1) ((1000000 : Int32))) fun S_5 => (ckA 12 x1).bind fun _ => bnd (st S_5 34 (Int32.toNatClampNeg x1) ((-1 : Int32))) fun S_6 => bnd (x1 + (1)) fun x1_7 => rec2 S_6 (x1_7)) else ((ckA 12 x1).bind fun _ => bnd (st S 33 (Int32.toNatClampNeg x1) ((0 : Int32))) fun S_8 => (ckA 12 x1).bind fun _ => bnd (st S_8 34 (Int32.toNatClampNeg x1) ((-1 : Int32))) fun S_9 => bnd (x1 + (1)) fun x1_10 => rec2 S_9 (x1_10)))
def k3_measureReach_B60 (F : Nat) (x2 : Int32) (rec60 : SS → Int32 → Int32 → Option SS) (k93 : SS → Int32 → Option SS) (S : SS) (x1 : Int32) (x3 : Int32) : Option SS :=
  if ((12 : Int32)) ≤ x3 then (k93 S (x1)) else ((rdA 12 (S 33) x3).bind fun v_19 => if ((1000000 : Int32)) ≤ v_19 then (bnd (x3 + (1)) fun x3_21 => rec60 S (x1) (x3_21)) else (ob2 (k3_stepFrom F S (x3)) fun r_23 S_24 => if r_23 = 0 then (bnd (x3 + (1)) fun x3_26 => rec60 S_24 (x1) (x3_26)) else (bnd ((1 : Int32)) fun x1_27 => bnd (x3 + (1)) fun x3_28 => rec60 S_24 (x1_27) (x3_28))))
def k3_measureReach_B46 (F : Nat) (rec46 : SS → Int32 → Int32 → Option SS) (S : SS) (x1 : Int32) (x2 : Int32) : Option SS :=
  if ((12 : Int32)) ≤ x2 then (some S) else (if x1 = 0 then (some S) else (bnd ((0 : Int32)) fun x1_16 => bnd ((0 : Int32)) fun x3_17 => lpN (fun _ _ _ => none) (fun rec60 => k3_measureReach_B60 F (x2) rec60 (fun S_29 x1_29 => bnd (x2 + (1)) fun x2_30 => rec46 S_29 (x1_29) (x2_30))) F S (x1_16) (x3_17)))
def k3_measureReach (F : Nat) (S : SS) : Option SS :=
  bnd ((0 : Int32)) fun x1_1 => lpN (fun _ _ => none) (fun rec2 => k3_measureReach_B2 F rec2 (fun S_11 => bnd ((1 : Int32)) fun x1_12 => bnd ((0 : Int32)) fun x2_13 => lpN (fun _ _ _ => none) (fun rec46 => k3_measureReach_B46 F rec46 ) F S_11 (x1_12) (x2_13))) F S (x1_1)
set_option maxRecDepth 100000 in
set_option maxHeartbeats 4000000 in
theorem k3_measureReach_b2 {p : Program} {l : Launch} {e : Env} {s : State} {m : MethodId} {args : Array Value} {below : List Frame} {meth : Method} {c : Code} {D : va_G} {a : Nat → Nat} {g : Nat → ClassId} (E : EK p s m args meth c D a g cX3_measureReach 4 RX3 none) {F : Nat}  {rec2 : SS → Int32 → Option SS} {k42 : SS → Option SS} {out : SS} (hrec2 : ∀ (S : SS) (x1 : Int32) (H : Heap) (locs : List Loc) (ls : Array Slot), rec2 S x1 = some out → WK D a g S s H locs → lv_has ls 4 [(0, .ref (a 7)), (1, .int (x1))] → W p l e (RM 4) s m args below meth c H locs 0 0 (MQ below (QK D a g none out) args s 0 0 (AK a)) (F0 m 2 ls [])) (hk42 : ∀ (S : SS) (H : Heap) (locs : List Loc) (ls : Array Slot), k42 S = some out → WK D a g S s H locs → lv_has ls 4 [(0, .ref (a 7))] → W p l e (RM 4) s m args below meth c H locs 0 0 (MQ below (QK D a g none out) args s 0 0 (AK a)) (F0 m 42 ls [])) (S : SS) (x1 : Int32) (H : Heap) (locs : List Loc) (ls : Array Slot) (hf : k3_measureReach_B2 F rec2 k42 S x1 = some out) (hw : WK D a g S s H locs) (hl : lv_has ls 4 [(0, .ref (a 7)), (1, .int (x1))]) : W p l e (RM 4) s m args below meth c H locs 0 0 (MQ below (QK D a g none out) args s 0 0 (AK a)) (F0 m 2 ls []) := by
  have hx := E.hx
  have hb := E.hb
  unfold k3_measureReach_B2 at hf
  refine lv_iload_n hx hb dX3_measureReach_2 rfl (lv_at hl 1 rfl) ?_
  refine lv_bipush hx hb dX3_measureReach_3 bp_12 ?_
  refine lv_icmp_ge (tgt := 42) hx hb dX3_measureReach_5 (by decide) (fun c_2 => ?_) (fun c_2 => ?_)
  · replace hf := ite_t hf c_2
    exact hk42 S _ _ ls hf hw (lv_sub hl [0] rfl)
  · replace hf := ite_f hf c_2
    refine lv_aload_n hx hb dX3_measureReach_8 rfl (lv_at hl 0 rfl) ?_
    refine gK_7_7 E hw (E.hts _ wl248) dX3_measureReach_9 ?_
    refine lv_iload_n hx hb dX3_measureReach_12 rfl (lv_at hl 1 rfl) ?_
    refine lv_aload_n hx hb dX3_measureReach_13 rfl (lv_at hl 0 rfl) ?_
    refine gK_7_5 E hw (E.hts _ wl246) dX3_measureReach_14 ?_
    refine lv_iload_n hx hb dX3_measureReach_17 rfl (lv_at hl 1 rfl) ?_
    obtain ⟨h_v_3, hf⟩ := rdA_at hf
    refine lK_31 E hw h_v_3 dX3_measureReach_18 (fun v_3 ev_3 => ?_)
    replace hf := hf v_3 ev_3
    refine lv_if_le (tgt := 26) hx hb dX3_measureReach_19 (by decide) (fun c_4 => ?_) (fun c_4 => ?_)
    · replace hf := ite_t hf c_4
      refine lv_ldc hx hb E.hown (E.hts _ wl592) dX3_measureReach_26 ?_
      obtain ⟨h_S_5, hf⟩ := ckA_at hf
      refine sK_33 E hw h_S_5 dX3_measureReach_28 (fun S_5 eS_5 H locs hw => ?_)
      replace hf := bnd_at hf eS_5
      refine lv_aload_n hx hb dX3_measureReach_29 rfl (lv_at hl 0 rfl) ?_
      refine gK_7_8 E hw (E.hts _ wl249) dX3_measureReach_30 ?_
      refine lv_iload_n hx hb dX3_measureReach_33 rfl (lv_at hl 1 rfl) ?_
      refine lv_iconst hx hb dX3_measureReach_34 ic_m1 ?_
      obtain ⟨h_S_6, hf⟩ := ckA_at hf
      refine sK_34 E hw h_S_6 dX3_measureReach_35 (fun S_6 eS_6 H locs hw => ?_)
      replace hf := bnd_at hf eS_6
      obtain ⟨x1_7, ex1_7⟩ : ∃ y : Int32, y = x1 + (1) := ⟨_, rfl⟩
      replace hf := bnd_at hf ex1_7
      refine lv_iinc (v := x1_7) (lv' := [(1, .int (x1_7)), (0, .ref (a 7))]) hx hb dX3_measureReach_36 hl (k := 1) rfl (by rw [ex1_7]; rfl) (by decide) rfl (fun ls hl => ?_)
      refine lv_goto (tgt := 2) hx hb dX3_measureReach_39 (by decide) ?_
      exact hrec2 S_6 (x1_7) _ _ ls hf hw (lv_sub hl [1, 0] rfl)
    · replace hf := ite_f hf c_4
      refine lv_iconst hx hb dX3_measureReach_22 ic_0 ?_
      refine lv_goto (tgt := 28) hx hb dX3_measureReach_23 (by decide) ?_
      obtain ⟨h_S_8, hf⟩ := ckA_at hf
      refine sK_33 E hw h_S_8 dX3_measureReach_28 (fun S_8 eS_8 H locs hw => ?_)
      replace hf := bnd_at hf eS_8
      refine lv_aload_n hx hb dX3_measureReach_29 rfl (lv_at hl 0 rfl) ?_
      refine gK_7_8 E hw (E.hts _ wl249) dX3_measureReach_30 ?_
      refine lv_iload_n hx hb dX3_measureReach_33 rfl (lv_at hl 1 rfl) ?_
      refine lv_iconst hx hb dX3_measureReach_34 ic_m1 ?_
      obtain ⟨h_S_9, hf⟩ := ckA_at hf
      refine sK_34 E hw h_S_9 dX3_measureReach_35 (fun S_9 eS_9 H locs hw => ?_)
      replace hf := bnd_at hf eS_9
      obtain ⟨x1_10, ex1_10⟩ : ∃ y : Int32, y = x1 + (1) := ⟨_, rfl⟩
      replace hf := bnd_at hf ex1_10
      refine lv_iinc (v := x1_10) (lv' := [(1, .int (x1_10)), (0, .ref (a 7))]) hx hb dX3_measureReach_36 hl (k := 1) rfl (by rw [ex1_10]; rfl) (by decide) rfl (fun ls hl => ?_)
      refine lv_goto (tgt := 2) hx hb dX3_measureReach_39 (by decide) ?_
      exact hrec2 S_9 (x1_10) _ _ ls hf hw (lv_sub hl [1, 0] rfl)
theorem k3_measureReach_l2 {p : Program} {l : Launch} {e : Env} {s : State} {m : MethodId} {args : Array Value} {below : List Frame} {meth : Method} {c : Code} {D : va_G} {a : Nat → Nat} {g : Nat → ClassId} (E : EK p s m args meth c D a g cX3_measureReach 4 RX3 none) {F : Nat}  {k42 : SS → Option SS} {out : SS} (hk42 : ∀ (S : SS) (H : Heap) (locs : List Loc) (ls : Array Slot), k42 S = some out → WK D a g S s H locs → lv_has ls 4 [(0, .ref (a 7))] → W p l e (RM 4) s m args below meth c H locs 0 0 (MQ below (QK D a g none out) args s 0 0 (AK a)) (F0 m 42 ls [])) : ∀ (n : Nat) (S : SS) (x1 : Int32) (H : Heap) (locs : List Loc) (ls : Array Slot), lpN (fun _ _ => none) (fun rec2 => k3_measureReach_B2 F rec2 k42) n S x1 = some out → WK D a g S s H locs → lv_has ls 4 [(0, .ref (a 7)), (1, .int (x1))] → W p l e (RM 4) s m args below meth c H locs 0 0 (MQ below (QK D a g none out) args s 0 0 (AK a)) (F0 m 2 ls []) := by
  intro n
  induction n with
  | zero => intro S x1 H locs ls hf; cases (show (none : Option SS) = some out from hf)
  | succ n ih => intro S x1 H locs ls hf hw hl; exact k3_measureReach_b2 E (F := F) ih hk42 S x1 H locs ls hf hw hl
set_option maxRecDepth 100000 in
set_option maxHeartbeats 4000000 in
theorem k3_measureReach_b60 {p : Program} {l : Launch} {e : Env} {s : State} {m : MethodId} {args : Array Value} {below : List Frame} {meth : Method} {c : Code} {D : va_G} {a : Nat → Nat} {g : Nat → ClassId} (E : EK p s m args meth c D a g cX3_measureReach 4 RX3 none) {F : Nat}  (x2 : Int32) {rec60 : SS → Int32 → Int32 → Option SS} {k93 : SS → Int32 → Option SS} {out : SS} (hrec60 : ∀ (S : SS) (x1 : Int32) (x3 : Int32) (H : Heap) (locs : List Loc) (ls : Array Slot), rec60 S x1 x3 = some out → WK D a g S s H locs → lv_has ls 4 [(0, .ref (a 7)), (1, .int (x1)), (2, .int (x2)), (3, .int (x3))] → W p l e (RM 4) s m args below meth c H locs 0 0 (MQ below (QK D a g none out) args s 0 0 (AK a)) (F0 m 60 ls [])) (hk93 : ∀ (S : SS) (x1 : Int32) (H : Heap) (locs : List Loc) (ls : Array Slot), k93 S x1 = some out → WK D a g S s H locs → lv_has ls 4 [(0, .ref (a 7)), (1, .int (x1)), (2, .int (x2))] → W p l e (RM 4) s m args below meth c H locs 0 0 (MQ below (QK D a g none out) args s 0 0 (AK a)) (F0 m 93 ls [])) (S : SS) (x1 : Int32) (x3 : Int32) (H : Heap) (locs : List Loc) (ls : Array Slot) (hf : k3_measureReach_B60 F x2 rec60 k93 S x1 x3 = some out) (hw : WK D a g S s H locs) (hl : lv_has ls 4 [(0, .ref (a 7)), (1, .int (x1)), (2, .int (x2)), (3, .int (x3))]) : W p l e (RM 4) s m args below meth c H locs 0 0 (MQ below (QK D a g none out) args s 0 0 (AK a)) (F0 m 60 ls []) := by
  have hx := E.hx
  have hb := E.hb
  unfold k3_measureReach_B60 at hf
  refine lv_iload_n hx hb dX3_measureReach_60 rfl (lv_at hl 3 rfl) ?_
  refine lv_bipush hx hb dX3_measureReach_61 bp_12 ?_
  refine lv_icmp_ge (tgt := 93) hx hb dX3_measureReach_63 (by decide) (fun c_18 => ?_) (fun c_18 => ?_)
  · replace hf := ite_t hf c_18
    exact hk93 S (x1) _ _ ls hf hw (lv_sub hl [0, 1, 2] rfl)
  · replace hf := ite_f hf c_18
    refine lv_aload_n hx hb dX3_measureReach_66 rfl (lv_at hl 0 rfl) ?_
    refine gK_7_7 E hw (E.hts _ wl248) dX3_measureReach_67 ?_
    refine lv_iload_n hx hb dX3_measureReach_70 rfl (lv_at hl 3 rfl) ?_
    obtain ⟨h_v_19, hf⟩ := rdA_at hf
    refine lK_33 E hw h_v_19 dX3_measureReach_71 (fun v_19 ev_19 => ?_)
    replace hf := hf v_19 ev_19
    refine lv_ldc hx hb E.hown (E.hts _ wl592) dX3_measureReach_72 ?_
    refine lv_icmp_ge (tgt := 87) hx hb dX3_measureReach_74 (by decide) (fun c_20 => ?_) (fun c_20 => ?_)
    · replace hf := ite_t hf c_20
      obtain ⟨x3_21, ex3_21⟩ : ∃ y : Int32, y = x3 + (1) := ⟨_, rfl⟩
      replace hf := bnd_at hf ex3_21
      refine lv_iinc (v := x3_21) (lv' := [(3, .int (x3_21)), (0, .ref (a 7)), (1, .int (x1)), (2, .int (x2))]) hx hb dX3_measureReach_87 hl (k := 3) rfl (by rw [ex3_21]; rfl) (by decide) rfl (fun ls hl => ?_)
      refine lv_goto (tgt := 60) hx hb dX3_measureReach_90 (by decide) ?_
      exact hrec60 S (x1) (x3_21) _ _ ls hf hw (lv_sub hl [1, 2, 3, 0] rfl)
    · replace hf := ite_f hf c_20
      refine lv_aload_n hx hb dX3_measureReach_77 rfl (lv_at hl 0 rfl) ?_
      refine lv_iload_n hx hb dX3_measureReach_78 rfl (lv_at hl 3 rfl) ?_
      obtain ⟨r_23, S_24, h_22, hf⟩ := ob2_at hf
      refine qk3_stepFrom E hw (mk3_stepFrom E.hD h_22) wl593 dX3_measureReach_79 ⟨Nat.le_of_ble_eq_true rfl, Nat.le_of_ble_eq_true rfl⟩ hl.1 (Nat.le_of_ble_eq_true rfl) ⟨Nat.le_refl 0, Nat.le_refl 0⟩ (fun H locs hw => ?_)
      refine lv_if_eq (tgt := 87) hx hb dX3_measureReach_82 (by decide) (fun c_25 => ?_) (fun c_25 => ?_)
      · replace hf := ite_t hf c_25
        obtain ⟨x3_26, ex3_26⟩ : ∃ y : Int32, y = x3 + (1) := ⟨_, rfl⟩
        replace hf := bnd_at hf ex3_26
        refine lv_iinc (v := x3_26) (lv' := [(3, .int (x3_26)), (0, .ref (a 7)), (1, .int (x1)), (2, .int (x2))]) hx hb dX3_measureReach_87 hl (k := 3) rfl (by rw [ex3_26]; rfl) (by decide) rfl (fun ls hl => ?_)
        refine lv_goto (tgt := 60) hx hb dX3_measureReach_90 (by decide) ?_
        exact hrec60 S_24 (x1) (x3_26) _ _ ls hf hw (lv_sub hl [1, 2, 3, 0] rfl)
      · replace hf := ite_f hf c_25
        refine lv_iconst hx hb dX3_measureReach_85 ic_1 ?_
        refine lv_topi (fun x1_27 ex1_27 => ?_)
        replace hf := bnd_at hf ex1_27
        refine lv_istore_n (lv' := [(1, .int (x1_27)), (0, .ref (a 7)), (2, .int (x2)), (3, .int (x3))]) hx hb dX3_measureReach_86 rfl hl (by decide) rfl (fun ls hl => ?_)
        obtain ⟨x3_28, ex3_28⟩ : ∃ y : Int32, y = x3 + (1) := ⟨_, rfl⟩
        replace hf := bnd_at hf ex3_28
        refine lv_iinc (v := x3_28) (lv' := [(3, .int (x3_28)), (1, .int (x1_27)), (0, .ref (a 7)), (2, .int (x2))]) hx hb dX3_measureReach_87 hl (k := 3) rfl (by rw [ex3_28]; rfl) (by decide) rfl (fun ls hl => ?_)
        refine lv_goto (tgt := 60) hx hb dX3_measureReach_90 (by decide) ?_
        exact hrec60 S_24 (x1_27) (x3_28) _ _ ls hf hw (lv_sub hl [2, 1, 3, 0] rfl)
theorem k3_measureReach_l60 {p : Program} {l : Launch} {e : Env} {s : State} {m : MethodId} {args : Array Value} {below : List Frame} {meth : Method} {c : Code} {D : va_G} {a : Nat → Nat} {g : Nat → ClassId} (E : EK p s m args meth c D a g cX3_measureReach 4 RX3 none) {F : Nat}  (x2 : Int32) {k93 : SS → Int32 → Option SS} {out : SS} (hk93 : ∀ (S : SS) (x1 : Int32) (H : Heap) (locs : List Loc) (ls : Array Slot), k93 S x1 = some out → WK D a g S s H locs → lv_has ls 4 [(0, .ref (a 7)), (1, .int (x1)), (2, .int (x2))] → W p l e (RM 4) s m args below meth c H locs 0 0 (MQ below (QK D a g none out) args s 0 0 (AK a)) (F0 m 93 ls [])) : ∀ (n : Nat) (S : SS) (x1 : Int32) (x3 : Int32) (H : Heap) (locs : List Loc) (ls : Array Slot), lpN (fun _ _ _ => none) (fun rec60 => k3_measureReach_B60 F x2 rec60 k93) n S x1 x3 = some out → WK D a g S s H locs → lv_has ls 4 [(0, .ref (a 7)), (1, .int (x1)), (2, .int (x2)), (3, .int (x3))] → W p l e (RM 4) s m args below meth c H locs 0 0 (MQ below (QK D a g none out) args s 0 0 (AK a)) (F0 m 60 ls []) := by
  intro n
  induction n with
  | zero => intro S x1 x3 H locs ls hf; cases (show (none : Option SS) = some out from hf)
  | succ n ih => intro S x1 x3 H locs ls hf hw hl; exact k3_measureReach_b60 E (F := F) x2 ih hk93 S x1 x3 H locs ls hf hw hl
set_option maxRecDepth 100000 in
set_option maxHeartbeats 4000000 in
theorem k3_measureReach_b46 {p : Program} {l : Launch} {e : Env} {s : State} {m : MethodId} {args : Array Value} {below : List Frame} {meth : Method} {c : Code} {D : va_G} {a : Nat → Nat} {g : Nat → ClassId} (E : EK p s m args meth c D a g cX3_measureReach 4 RX3 none) {F : Nat}  {rec46 : SS → Int32 → Int32 → Option SS} {out : SS} (hrec46 : ∀ (S : SS) (x1 : Int32) (x2 : Int32) (H : Heap) (locs : List Loc) (ls : Array Slot), rec46 S x1 x2 = some out → WK D a g S s H locs → lv_has ls 4 [(0, .ref (a 7)), (1, .int (x1)), (2, .int (x2))] → W p l e (RM 4) s m args below meth c H locs 0 0 (MQ below (QK D a g none out) args s 0 0 (AK a)) (F0 m 46 ls []))  (S : SS) (x1 : Int32) (x2 : Int32) (H : Heap) (locs : List Loc) (ls : Array Slot) (hf : k3_measureReach_B46 F rec46 S x1 x2 = some out) (hw : WK D a g S s H locs) (hl : lv_has ls 4 [(0, .ref (a 7)), (1, .int (x1)), (2, .int (x2))]) : W p l e (RM 4) s m args below meth c H locs 0 0 (MQ below (QK D a g none out) args s 0 0 (AK a)) (F0 m 46 ls []) := by
  have hx := E.hx
  have hb := E.hb
  unfold k3_measureReach_B46 at hf
  refine lv_iload_n hx hb dX3_measureReach_46 rfl (lv_at hl 2 rfl) ?_
  refine lv_bipush hx hb dX3_measureReach_47 bp_12 ?_
  refine lv_icmp_ge (tgt := 99) hx hb dX3_measureReach_49 (by decide) (fun c_14 => ?_) (fun c_14 => ?_)
  · replace hf := ite_t hf c_14
    cases hf
    exact retK_v E hw dX3_measureReach_99
  · replace hf := ite_f hf c_14
    refine lv_iload_n hx hb dX3_measureReach_52 rfl (lv_at hl 1 rfl) ?_
    refine lv_if_eq (tgt := 99) hx hb dX3_measureReach_53 (by decide) (fun c_15 => ?_) (fun c_15 => ?_)
    · replace hf := ite_t hf c_15
      cases hf
      exact retK_v E hw dX3_measureReach_99
    · replace hf := ite_f hf c_15
      refine lv_iconst hx hb dX3_measureReach_56 ic_0 ?_
      refine lv_topi (fun x1_16 ex1_16 => ?_)
      replace hf := bnd_at hf ex1_16
      refine lv_istore_n (lv' := [(1, .int (x1_16)), (0, .ref (a 7)), (2, .int (x2))]) hx hb dX3_measureReach_57 rfl hl (by decide) rfl (fun ls hl => ?_)
      refine lv_iconst hx hb dX3_measureReach_58 ic_0 ?_
      refine lv_topi (fun x3_17 ex3_17 => ?_)
      replace hf := bnd_at hf ex3_17
      refine lv_istore_n (lv' := [(3, .int (x3_17)), (1, .int (x1_16)), (0, .ref (a 7)), (2, .int (x2))]) hx hb dX3_measureReach_59 rfl hl (by decide) rfl (fun ls hl => ?_)
      refine k3_measureReach_l60 E (x2) ?_ F S (x1_16) (x3_17) _ _ ls hf hw (lv_sub hl [2, 1, 3, 0] rfl)
      · intro S_29 x1_29 H locs ls hf hw hl
        obtain ⟨x2_30, ex2_30⟩ : ∃ y : Int32, y = x2 + (1) := ⟨_, rfl⟩
        replace hf := bnd_at hf ex2_30
        refine lv_iinc (v := x2_30) (lv' := [(2, .int (x2_30)), (0, .ref (a 7)), (1, .int (x1_29))]) hx hb dX3_measureReach_93 hl (k := 2) rfl (by rw [ex2_30]; rfl) (by decide) rfl (fun ls hl => ?_)
        refine lv_goto (tgt := 46) hx hb dX3_measureReach_96 (by decide) ?_
        exact hrec46 S_29 (x1_29) (x2_30) _ _ ls hf hw (lv_sub hl [1, 2, 0] rfl)
theorem k3_measureReach_l46 {p : Program} {l : Launch} {e : Env} {s : State} {m : MethodId} {args : Array Value} {below : List Frame} {meth : Method} {c : Code} {D : va_G} {a : Nat → Nat} {g : Nat → ClassId} (E : EK p s m args meth c D a g cX3_measureReach 4 RX3 none) {F : Nat}  {out : SS}  : ∀ (n : Nat) (S : SS) (x1 : Int32) (x2 : Int32) (H : Heap) (locs : List Loc) (ls : Array Slot), lpN (fun _ _ _ => none) (fun rec46 => k3_measureReach_B46 F rec46) n S x1 x2 = some out → WK D a g S s H locs → lv_has ls 4 [(0, .ref (a 7)), (1, .int (x1)), (2, .int (x2))] → W p l e (RM 4) s m args below meth c H locs 0 0 (MQ below (QK D a g none out) args s 0 0 (AK a)) (F0 m 46 ls []) := by
  intro n
  induction n with
  | zero => intro S x1 x2 H locs ls hf; cases (show (none : Option SS) = some out from hf)
  | succ n ih => intro S x1 x2 H locs ls hf hw hl; exact k3_measureReach_b46 E (F := F) ih S x1 x2 H locs ls hf hw hl
set_option maxRecDepth 100000 in
set_option maxHeartbeats 4000000 in
theorem mk3_measureReach {l : Launch} {D : va_G} {a : Nat → Nat} {g : Nat → ClassId} (hD : ∀ S, va_D (AK a) (wK a g S)) {F : Nat} {S : SS} {out : SS} (hf : k3_measureReach F S  = some out) : Met l yX3_measureReach (wsm yX3_measureReach cX3_measureReach 4 none) (RM 4) (PK D a g S [.ref (a 7)]) (QK D a g none out) 0 0 (AK a) := by
  refine Met.ofW (cc := cX3_measureReach) (maxL := 4) (ret := none) (by decide) rfl ?_
  intro p e s m args below meth c s₁ B hml hv
  obtain ⟨rfl, hP, hK, hN⟩ := hv
  have hts := atoms_spec (ws := wsm yX3_measureReach cX3_measureReach 4 none) B.pre
  have E : EK p s m _ meth c D a g cX3_measureReach 4 RX3 none := ⟨B.exec, B.bytes, B.returns, hml, findClass_of_methodNamed B.named, fun w h => hts w (List.mem_cons_of_mem _ h), hK, hN, hD, B.notSynchronized⟩
  have hx := E.hx
  have hb := E.hb
  have hw : WK D a g S s s.heap [] := ⟨hP, va_S.rf⟩
  have hl := lv_entry ([.ref (a 7)]) (n := 4) (Nat.le_of_ble_eq_true rfl)
  rw [lg_entry_eq]
  generalize (lg_sl ([.ref (a 7)]) ++ List.replicate (4 - (lg_sl ([.ref (a 7)])).length) Slot.unset).toArray = ls at hl ⊢
  have hl : lv_has ls 4 [(0, .ref (a 7))] := hl
  show W p l e (RM 4) s m _ below meth c s.heap [] 0 0 (MQ below (QK D a g none out) _ s 0 0 (AK a)) (F0 m 0 ls [])
  unfold k3_measureReach at hf
  refine lv_iconst hx hb dX3_measureReach_0 ic_0 ?_
  refine lv_topi (fun x1_1 ex1_1 => ?_)
  replace hf := bnd_at hf ex1_1
  refine lv_istore_n (lv' := [(1, .int (x1_1)), (0, .ref (a 7))]) hx hb dX3_measureReach_1 rfl hl (by decide) rfl (fun ls hl => ?_)
  refine k3_measureReach_l2 E ?_ F S (x1_1) _ _ ls hf hw (lv_sub hl [1, 0] rfl)
  · intro S_11 H locs ls hf hw hl
    refine lv_iconst hx hb dX3_measureReach_42 ic_1 ?_
    refine lv_topi (fun x1_12 ex1_12 => ?_)
    replace hf := bnd_at hf ex1_12
    refine lv_istore_n (lv' := [(1, .int (x1_12)), (0, .ref (a 7))]) hx hb dX3_measureReach_43 rfl hl (by decide) rfl (fun ls hl => ?_)
    refine lv_iconst hx hb dX3_measureReach_44 ic_0 ?_
    refine lv_topi (fun x2_13 ex2_13 => ?_)
    replace hf := bnd_at hf ex2_13
    refine lv_istore_n (lv' := [(2, .int (x2_13)), (1, .int (x1_12)), (0, .ref (a 7))]) hx hb dX3_measureReach_45 rfl hl (by decide) rfl (fun ls hl => ?_)
    refine k3_measureReach_l46 E  F S_11 (x1_12) (x2_13) _ _ ls hf hw (lv_sub hl [2, 1, 0] rfl)
theorem qk3_measureReach {p : Program} {l : Launch} {e : Env} {R : Room} {s : State} {m : MethodId} {args : Array Value} {below : List Frame} {meth : Method} {c : Code} {H : Heap} {locs : List Loc} {cells slots : Nat} {Q : State → Prop} {cc : ByteArray} {pc : Nat} {ls : Array Slot} {rest : List Value} {D : va_G} {a : Nat → Nat} {g : Nat → ClassId} {nL : Nat} {own : String} {ret : Option FieldType} {S S1 : SS} {k : Nat} (E : EK p s m args meth c D a g cc nL own ret) (hw : WK D a g S s H locs) (hM : Met l yX3_measureReach (wsm yX3_measureReach cX3_measureReach 4 none) (RM k) (PK D a g S [.ref (a 7)]) (QK D a g none S1) 0 0 (AK a)) {idx : Nat} (hlk : Cond.methodLink own idx yX3_measureReach ∈ wd) (hdg : decode cc pc = .ok (.invokevirtual idx, 3)) (hR : k + 1 ≤ R.frames ∧ 8 + (4 + 11) + 64 * k ≤ R.locals) (hls : ls.size = nL) (hrest : (rest.map fun v => v.category).sum ≤ 8) (hcs : cells ≤ R.cells ∧ slots ≤ R.slots) (kk : ∀ (H1 : Heap) (locs1 : List Loc), WK D a g S1 s H1 locs1 → W p l e R s m args below meth c H1 locs1 cells slots Q (F0 m (pc + 3) ls (rest))) : W p l e R s m args below meth c H locs cells slots Q (F0 m pc ls (.ref (a 7) :: rest)) :=
  callK_v hw (va_runV (As := []) (rest := rest) ⟨E.hx, E.hb, E.hml, E.hown, E.hts⟩ hM ⟨cb_of 0 E.hts wl591 wl43 hlk (by decide +kernel) hR, E.hts _ wl590, E.hts _ wl14⟩ ⟨PK_blind, va_recv E.hK hw.1 (ci := 3) (q0 := 7) rfl rfl, PK_pre E.hK E.hN hw.1⟩ rfl rfl hls rfl (lv_room hrest) hdg hcs) kk
/-! X3_nearestGoal -/
def k3_nearestGoal_B7 (F : Nat) (S : SS) (rec7 : Int32 → Int32 → Int32 → Option Int32) (x1 : Int32) (x2 : Int32) (x3 : Int32) : Option Int32 :=
  if ((12 : Int32)) ≤ x3 then (some (x1)) else ((rdA 12 (S 31) x3).bind fun v_5 => if (0 : Int32) ≤ v_5 then (bnd (x3 + (1)) fun x3_7 => rec7 (x1) (x2) (x3_7)) else ((rdA 12 (S 33) x3).bind fun v_8 => if x2 ≤ v_8 then (bnd (x3 + (1)) fun x3_10 => rec7 (x1) (x2) (x3_10)) else (bnd (x3) fun x1_11 => (rdA 12 (S 33) x3).bind fun v_12 => bnd (v_12) fun x2_13 => bnd (x3 + (1)) fun x3_14 => rec7 (x1_11) (x2_13) (x3_14))))
def k3_nearestGoal (F : Nat) (S : SS) : Option Int32 :=
  bnd ((-1 : Int32)) fun x1_1 => bnd ((1000000 : Int32)) fun x2_2 => bnd ((0 : Int32)) fun x3_3 => lpN (fun _ _ _ => none) (fun rec7 => k3_nearestGoal_B7 F S rec7 ) F (x1_1) (x2_2) (x3_3)
set_option maxRecDepth 100000 in
set_option maxHeartbeats 4000000 in
theorem k3_nearestGoal_b7 {p : Program} {l : Launch} {e : Env} {s : State} {m : MethodId} {args : Array Value} {below : List Frame} {meth : Method} {c : Code} {D : va_G} {a : Nat → Nat} {g : Nat → ClassId} (E : EK p s m args meth c D a g cX3_nearestGoal 4 RX3 (some .int)) {F : Nat}  (S : SS) {rec7 : Int32 → Int32 → Int32 → Option Int32} {out : Int32} (hrec7 : ∀ (x1 : Int32) (x2 : Int32) (x3 : Int32) (H : Heap) (locs : List Loc) (ls : Array Slot), rec7 x1 x2 x3 = some out → WK D a g S s H locs → lv_has ls 4 [(0, .ref (a 7)), (1, .int (x1)), (2, .int (x2)), (3, .int (x3))] → W p l e (RM 1) s m args below meth c H locs 0 0 (MQ below (QK D a g (some (.int out)) S) args s 0 0 (AK a)) (F0 m 7 ls []))  (x1 : Int32) (x2 : Int32) (x3 : Int32) (H : Heap) (locs : List Loc) (ls : Array Slot) (hf : k3_nearestGoal_B7 F S rec7 x1 x2 x3 = some out) (hw : WK D a g S s H locs) (hl : lv_has ls 4 [(0, .ref (a 7)), (1, .int (x1)), (2, .int (x2)), (3, .int (x3))]) : W p l e (RM 1) s m args below meth c H locs 0 0 (MQ below (QK D a g (some (.int out)) S) args s 0 0 (AK a)) (F0 m 7 ls []) := by
  have hx := E.hx
  have hb := E.hb
  unfold k3_nearestGoal_B7 at hf
  refine lv_iload_n hx hb dX3_nearestGoal_7 rfl (lv_at hl 3 rfl) ?_
  refine lv_bipush hx hb dX3_nearestGoal_8 bp_12 ?_
  refine lv_icmp_ge (tgt := 47) hx hb dX3_nearestGoal_10 (by decide) (fun c_4 => ?_) (fun c_4 => ?_)
  · replace hf := ite_t hf c_4
    refine lv_iload_n hx hb dX3_nearestGoal_47 rfl (lv_at hl 1 rfl) ?_
    cases hf
    exact retK_i E hw dX3_nearestGoal_48
  · replace hf := ite_f hf c_4
    refine lv_aload_n hx hb dX3_nearestGoal_13 rfl (lv_at hl 0 rfl) ?_
    refine gK_7_5 E hw (E.hts _ wl246) dX3_nearestGoal_14 ?_
    refine lv_iload_n hx hb dX3_nearestGoal_17 rfl (lv_at hl 3 rfl) ?_
    obtain ⟨h_v_5, hf⟩ := rdA_at hf
    refine lK_31 E hw h_v_5 dX3_nearestGoal_18 (fun v_5 ev_5 => ?_)
    replace hf := hf v_5 ev_5
    refine lv_if_ge (tgt := 41) hx hb dX3_nearestGoal_19 (by decide) (fun c_6 => ?_) (fun c_6 => ?_)
    · replace hf := ite_t hf c_6
      obtain ⟨x3_7, ex3_7⟩ : ∃ y : Int32, y = x3 + (1) := ⟨_, rfl⟩
      replace hf := bnd_at hf ex3_7
      refine lv_iinc (v := x3_7) (lv' := [(3, .int (x3_7)), (0, .ref (a 7)), (1, .int (x1)), (2, .int (x2))]) hx hb dX3_nearestGoal_41 hl (k := 3) rfl (by rw [ex3_7]; rfl) (by decide) rfl (fun ls hl => ?_)
      refine lv_goto (tgt := 7) hx hb dX3_nearestGoal_44 (by decide) ?_
      exact hrec7 (x1) (x2) (x3_7) _ _ ls hf hw (lv_sub hl [1, 2, 3, 0] rfl)
    · replace hf := ite_f hf c_6
      refine lv_aload_n hx hb dX3_nearestGoal_22 rfl (lv_at hl 0 rfl) ?_
      refine gK_7_7 E hw (E.hts _ wl248) dX3_nearestGoal_23 ?_
      refine lv_iload_n hx hb dX3_nearestGoal_26 rfl (lv_at hl 3 rfl) ?_
      obtain ⟨h_v_8, hf⟩ := rdA_at hf
      refine lK_33 E hw h_v_8 dX3_nearestGoal_27 (fun v_8 ev_8 => ?_)
      replace hf := hf v_8 ev_8
      refine lv_iload_n hx hb dX3_nearestGoal_28 rfl (lv_at hl 2 rfl) ?_
      refine lv_icmp_ge (tgt := 41) hx hb dX3_nearestGoal_29 (by decide) (fun c_9 => ?_) (fun c_9 => ?_)
      · replace hf := ite_t hf c_9
        obtain ⟨x3_10, ex3_10⟩ : ∃ y : Int32, y = x3 + (1) := ⟨_, rfl⟩
        replace hf := bnd_at hf ex3_10
        refine lv_iinc (v := x3_10) (lv' := [(3, .int (x3_10)), (0, .ref (a 7)), (1, .int (x1)), (2, .int (x2))]) hx hb dX3_nearestGoal_41 hl (k := 3) rfl (by rw [ex3_10]; rfl) (by decide) rfl (fun ls hl => ?_)
        refine lv_goto (tgt := 7) hx hb dX3_nearestGoal_44 (by decide) ?_
        exact hrec7 (x1) (x2) (x3_10) _ _ ls hf hw (lv_sub hl [1, 2, 3, 0] rfl)
      · replace hf := ite_f hf c_9
        refine lv_iload_n hx hb dX3_nearestGoal_32 rfl (lv_at hl 3 rfl) ?_
        refine lv_topi (fun x1_11 ex1_11 => ?_)
        replace hf := bnd_at hf ex1_11
        refine lv_istore_n (lv' := [(1, .int (x1_11)), (0, .ref (a 7)), (2, .int (x2)), (3, .int (x3))]) hx hb dX3_nearestGoal_33 rfl hl (by decide) rfl (fun ls hl => ?_)
        refine lv_aload_n hx hb dX3_nearestGoal_34 rfl (lv_at hl 1 rfl) ?_
        refine gK_7_7 E hw (E.hts _ wl248) dX3_nearestGoal_35 ?_
        refine lv_iload_n hx hb dX3_nearestGoal_38 rfl (lv_at hl 3 rfl) ?_
        obtain ⟨h_v_12, hf⟩ := rdA_at hf
        refine lK_33 E hw h_v_12 dX3_nearestGoal_39 (fun v_12 ev_12 => ?_)
        replace hf := hf v_12 ev_12
        refine lv_topi (fun x2_13 ex2_13 => ?_)
        replace hf := bnd_at hf ex2_13
        refine lv_istore_n (lv' := [(2, .int (x2_13)), (1, .int (x1_11)), (0, .ref (a 7)), (3, .int (x3))]) hx hb dX3_nearestGoal_40 rfl hl (by decide) rfl (fun ls hl => ?_)
        obtain ⟨x3_14, ex3_14⟩ : ∃ y : Int32, y = x3 + (1) := ⟨_, rfl⟩
        replace hf := bnd_at hf ex3_14
        refine lv_iinc (v := x3_14) (lv' := [(3, .int (x3_14)), (2, .int (x2_13)), (1, .int (x1_11)), (0, .ref (a 7))]) hx hb dX3_nearestGoal_41 hl (k := 3) rfl (by rw [ex3_14]; rfl) (by decide) rfl (fun ls hl => ?_)
        refine lv_goto (tgt := 7) hx hb dX3_nearestGoal_44 (by decide) ?_
        exact hrec7 (x1_11) (x2_13) (x3_14) _ _ ls hf hw (lv_sub hl [3, 2, 1, 0] rfl)
theorem k3_nearestGoal_l7 {p : Program} {l : Launch} {e : Env} {s : State} {m : MethodId} {args : Array Value} {below : List Frame} {meth : Method} {c : Code} {D : va_G} {a : Nat → Nat} {g : Nat → ClassId} (E : EK p s m args meth c D a g cX3_nearestGoal 4 RX3 (some .int)) {F : Nat}  (S : SS) {out : Int32}  : ∀ (n : Nat) (x1 : Int32) (x2 : Int32) (x3 : Int32) (H : Heap) (locs : List Loc) (ls : Array Slot), lpN (fun _ _ _ => none) (fun rec7 => k3_nearestGoal_B7 F S rec7) n x1 x2 x3 = some out → WK D a g S s H locs → lv_has ls 4 [(0, .ref (a 7)), (1, .int (x1)), (2, .int (x2)), (3, .int (x3))] → W p l e (RM 1) s m args below meth c H locs 0 0 (MQ below (QK D a g (some (.int out)) S) args s 0 0 (AK a)) (F0 m 7 ls []) := by
  intro n
  induction n with
  | zero => intro x1 x2 x3 H locs ls hf; cases (show (none : Option Int32) = some out from hf)
  | succ n ih => intro x1 x2 x3 H locs ls hf hw hl; exact k3_nearestGoal_b7 E (F := F) S ih x1 x2 x3 H locs ls hf hw hl
set_option maxRecDepth 100000 in
set_option maxHeartbeats 4000000 in
theorem mk3_nearestGoal {l : Launch} {D : va_G} {a : Nat → Nat} {g : Nat → ClassId} (hD : ∀ S, va_D (AK a) (wK a g S)) {F : Nat} {S : SS} {out : Int32} (hf : k3_nearestGoal F S  = some out) : Met l yX3_nearestGoal (wsm yX3_nearestGoal cX3_nearestGoal 4 (some .int)) (RM 1) (PK D a g S [.ref (a 7)]) (QK D a g (some (.int out)) S) 0 0 (AK a) := by
  refine Met.ofW (cc := cX3_nearestGoal) (maxL := 4) (ret := (some .int)) (by decide) rfl ?_
  intro p e s m args below meth c s₁ B hml hv
  obtain ⟨rfl, hP, hK, hN⟩ := hv
  have hts := atoms_spec (ws := wsm yX3_nearestGoal cX3_nearestGoal 4 (some .int)) B.pre
  have E : EK p s m _ meth c D a g cX3_nearestGoal 4 RX3 (some .int) := ⟨B.exec, B.bytes, B.returns, hml, findClass_of_methodNamed B.named, fun w h => hts w (List.mem_cons_of_mem _ h), hK, hN, hD, B.notSynchronized⟩
  have hx := E.hx
  have hb := E.hb
  have hw : WK D a g S s s.heap [] := ⟨hP, va_S.rf⟩
  have hl := lv_entry ([.ref (a 7)]) (n := 4) (Nat.le_of_ble_eq_true rfl)
  rw [lg_entry_eq]
  generalize (lg_sl ([.ref (a 7)]) ++ List.replicate (4 - (lg_sl ([.ref (a 7)])).length) Slot.unset).toArray = ls at hl ⊢
  have hl : lv_has ls 4 [(0, .ref (a 7))] := hl
  show W p l e (RM 1) s m _ below meth c s.heap [] 0 0 (MQ below (QK D a g (some (.int out)) S) _ s 0 0 (AK a)) (F0 m 0 ls [])
  unfold k3_nearestGoal at hf
  refine lv_iconst hx hb dX3_nearestGoal_0 ic_m1 ?_
  refine lv_topi (fun x1_1 ex1_1 => ?_)
  replace hf := bnd_at hf ex1_1
  refine lv_istore_n (lv' := [(1, .int (x1_1)), (0, .ref (a 7))]) hx hb dX3_nearestGoal_1 rfl hl (by decide) rfl (fun ls hl => ?_)
  refine lv_ldc hx hb E.hown (E.hts _ wl592) dX3_nearestGoal_2 ?_
  refine lv_topi (fun x2_2 ex2_2 => ?_)
  replace hf := bnd_at hf ex2_2
  refine lv_istore_n (lv' := [(2, .int (x2_2)), (1, .int (x1_1)), (0, .ref (a 7))]) hx hb dX3_nearestGoal_4 rfl hl (by decide) rfl (fun ls hl => ?_)
  refine lv_iconst hx hb dX3_nearestGoal_5 ic_0 ?_
  refine lv_topi (fun x3_3 ex3_3 => ?_)
  replace hf := bnd_at hf ex3_3
  refine lv_istore_n (lv' := [(3, .int (x3_3)), (2, .int (x2_2)), (1, .int (x1_1)), (0, .ref (a 7))]) hx hb dX3_nearestGoal_6 rfl hl (by decide) rfl (fun ls hl => ?_)
  refine k3_nearestGoal_l7 E S  F (x1_1) (x2_2) (x3_3) _ _ ls hf hw (lv_sub hl [3, 2, 1, 0] rfl)
theorem qk3_nearestGoal {p : Program} {l : Launch} {e : Env} {R : Room} {s : State} {m : MethodId} {args : Array Value} {below : List Frame} {meth : Method} {c : Code} {H : Heap} {locs : List Loc} {cells slots : Nat} {Q : State → Prop} {cc : ByteArray} {pc : Nat} {ls : Array Slot} {rest : List Value} {D : va_G} {a : Nat → Nat} {g : Nat → ClassId} {nL : Nat} {own : String} {ret : Option FieldType} {S S1 : SS} {k : Nat} {r : Int32} (E : EK p s m args meth c D a g cc nL own ret) (hw : WK D a g S s H locs) (hM : Met l yX3_nearestGoal (wsm yX3_nearestGoal cX3_nearestGoal 4 (some .int)) (RM k) (PK D a g S [.ref (a 7)]) (QK D a g (some (.int r)) S1) 0 0 (AK a)) {idx : Nat} (hlk : Cond.methodLink own idx yX3_nearestGoal ∈ wd) (hdg : decode cc pc = .ok (.invokevirtual idx, 3)) (hR : k + 1 ≤ R.frames ∧ 8 + (4 + 11) + 64 * k ≤ R.locals) (hls : ls.size = nL) (hrest : (rest.map fun v => v.category).sum ≤ 8) (hcs : cells ≤ R.cells ∧ slots ≤ R.slots) (kk : ∀ (H1 : Heap) (locs1 : List Loc), WK D a g S1 s H1 locs1 → W p l e R s m args below meth c H1 locs1 cells slots Q (F0 m (pc + 3) ls (.int r :: rest))) : W p l e R s m args below meth c H locs cells slots Q (F0 m pc ls (.ref (a 7) :: rest)) :=
  callK_i hw (va_runV (As := []) (rest := rest) ⟨E.hx, E.hb, E.hml, E.hown, E.hts⟩ hM ⟨cb_of 0 E.hts wl612 wl43 hlk (by decide +kernel) hR, E.hts _ wl611, E.hts _ wl19⟩ ⟨PK_blind, va_recv E.hK hw.1 (ci := 3) (q0 := 7) rfl rfl, PK_pre E.hK E.hN hw.1⟩ rfl rfl hls rfl (lv_room hrest) hdg hcs) kk
/-! X3_amountTo -/
def k3_amountTo_B13 (F : Nat) (S : SS) (rec13 : Int32 → Int32 → Int32 → Option Int32) (k72 : Int32 → Int32 → Option Int32) (x2 : Int32) (x3 : Int32) (x4 : Int32) : Option Int32 :=
  if ((12 : Int32)) ≤ x4 then (k72 (x2) (x3)) else ((rdA 12 (S 34) x3).bind fun v_6 => if v_6 = ((-1 : Int32)) then (k72 (x2) (x3)) else ((k3_isGiver F S (x3)).bind fun r_9 => if r_9 = 0 then ((rdA 12 (S 34) x3).bind fun v_12 => bnd (v_12) fun x3_13 => bnd (x4 + (1)) fun x4_14 => rec13 (x2) (x3_13) (x4_14)) else ((rdA 12 (S 34) x3).bind fun v_15 => (rdA 144 (S 32) ((x3 * ((12 : Int32))) + v_15)).bind fun v_16 => bnd (if v_16 < x2 then v_16 else x2) fun x2_17 => (rdA 12 (S 34) x3).bind fun v_18 => bnd (v_18) fun x3_19 => bnd (x4 + (1)) fun x4_20 => rec13 (x2_17) (x3_19) (x4_20))))
def k3_amountTo_J72 (F : Nat) (S : SS) (x2 : Int32) (x3 : Int32) : Option Int32 :=
  (rdA 12 (S 31) x3).bind fun v_22 => some (if v_22 < x2 then v_22 else x2)
def k3_amountTo (F : Nat) (S : SS) (x1 : Int32) : Option Int32 :=
  (rdA 12 (S 31) x1).bind fun v_1 => bnd (-v_1) fun x2_2 => bnd (x1) fun x3_3 => bnd ((0 : Int32)) fun x4_4 => lpN (fun _ _ _ => none) (fun rec13 => k3_amountTo_B13 F S rec13 (fun x2_21 x3_21 => k3_amountTo_J72 F S (x2_21) (x3_21))) F (x2_2) (x3_3) (x4_4)
set_option maxRecDepth 100000 in
set_option maxHeartbeats 4000000 in
theorem k3_amountTo_b13 {p : Program} {l : Launch} {e : Env} {s : State} {m : MethodId} {args : Array Value} {below : List Frame} {meth : Method} {c : Code} {D : va_G} {a : Nat → Nat} {g : Nat → ClassId} (E : EK p s m args meth c D a g cX3_amountTo 5 RX3 (some .int)) {F : Nat}  (S : SS) {rec13 : Int32 → Int32 → Int32 → Option Int32} {k72 : Int32 → Int32 → Option Int32} {out : Int32} (hrec13 : ∀ (x2 : Int32) (x3 : Int32) (x4 : Int32) (H : Heap) (locs : List Loc) (ls : Array Slot), rec13 x2 x3 x4 = some out → WK D a g S s H locs → lv_has ls 5 [(0, .ref (a 7)), (2, .int (x2)), (3, .int (x3)), (4, .int (x4))] → W p l e (RM 2) s m args below meth c H locs 0 0 (MQ below (QK D a g (some (.int out)) S) args s 0 0 (AK a)) (F0 m 13 ls [])) (hk72 : ∀ (x2 : Int32) (x3 : Int32) (H : Heap) (locs : List Loc) (ls : Array Slot), k72 x2 x3 = some out → WK D a g S s H locs → lv_has ls 5 [(0, .ref (a 7)), (2, .int (x2)), (3, .int (x3))] → W p l e (RM 2) s m args below meth c H locs 0 0 (MQ below (QK D a g (some (.int out)) S) args s 0 0 (AK a)) (F0 m 72 ls [])) (x2 : Int32) (x3 : Int32) (x4 : Int32) (H : Heap) (locs : List Loc) (ls : Array Slot) (hf : k3_amountTo_B13 F S rec13 k72 x2 x3 x4 = some out) (hw : WK D a g S s H locs) (hl : lv_has ls 5 [(0, .ref (a 7)), (2, .int (x2)), (3, .int (x3)), (4, .int (x4))]) : W p l e (RM 2) s m args below meth c H locs 0 0 (MQ below (QK D a g (some (.int out)) S) args s 0 0 (AK a)) (F0 m 13 ls []) := by
  have hx := E.hx
  have hb := E.hb
  unfold k3_amountTo_B13 at hf
  refine lv_iload hx hb dX3_amountTo_13 (lv_at hl 3 rfl) ?_
  refine lv_bipush hx hb dX3_amountTo_15 bp_12 ?_
  refine lv_icmp_ge (tgt := 72) hx hb dX3_amountTo_17 (by decide) (fun c_5 => ?_) (fun c_5 => ?_)
  · replace hf := ite_t hf c_5
    exact hk72 (x2) (x3) _ _ ls hf hw (lv_sub hl [0, 1, 2] rfl)
  · replace hf := ite_f hf c_5
    refine lv_aload_n hx hb dX3_amountTo_20 rfl (lv_at hl 0 rfl) ?_
    refine gK_7_8 E hw (E.hts _ wl249) dX3_amountTo_21 ?_
    refine lv_iload_n hx hb dX3_amountTo_24 rfl (lv_at hl 2 rfl) ?_
    obtain ⟨h_v_6, hf⟩ := rdA_at hf
    refine lK_34 E hw h_v_6 dX3_amountTo_25 (fun v_6 ev_6 => ?_)
    replace hf := hf v_6 ev_6
    refine lv_iconst hx hb dX3_amountTo_26 ic_m1 ?_
    refine lv_icmp_eq (tgt := 72) hx hb dX3_amountTo_27 (by decide) (fun c_7 => ?_) (fun c_7 => ?_)
    · replace hf := ite_t hf c_7
      exact hk72 (x2) (x3) _ _ ls hf hw (lv_sub hl [0, 1, 2] rfl)
    · replace hf := ite_f hf c_7
      refine lv_aload_n hx hb dX3_amountTo_30 rfl (lv_at hl 0 rfl) ?_
      refine lv_iload_n hx hb dX3_amountTo_31 rfl (lv_at hl 2 rfl) ?_
      obtain ⟨r_9, h_8, hf⟩ := ob_at hf
      refine qk3_isGiver E hw (mk3_isGiver E.hD h_8) wl601 dX3_amountTo_32 ⟨Nat.le_of_ble_eq_true rfl, Nat.le_of_ble_eq_true rfl⟩ hl.1 (Nat.le_of_ble_eq_true rfl) ⟨Nat.le_refl 0, Nat.le_refl 0⟩ (fun H locs hw => ?_)
      refine lv_if_eq (tgt := 59) hx hb dX3_amountTo_35 (by decide) (fun c_11 => ?_) (fun c_11 => ?_)
      · replace hf := ite_t hf c_11
        refine lv_aload_n hx hb dX3_amountTo_59 rfl (lv_at hl 0 rfl) ?_
        refine gK_7_8 E hw (E.hts _ wl249) dX3_amountTo_60 ?_
        refine lv_iload_n hx hb dX3_amountTo_63 rfl (lv_at hl 2 rfl) ?_
        obtain ⟨h_v_12, hf⟩ := rdA_at hf
        refine lK_34 E hw h_v_12 dX3_amountTo_64 (fun v_12 ev_12 => ?_)
        replace hf := hf v_12 ev_12
        refine lv_topi (fun x3_13 ex3_13 => ?_)
        replace hf := bnd_at hf ex3_13
        refine lv_istore_n (lv' := [(3, .int (x3_13)), (0, .ref (a 7)), (2, .int (x2)), (4, .int (x4))]) hx hb dX3_amountTo_65 rfl hl (by decide) rfl (fun ls hl => ?_)
        obtain ⟨x4_14, ex4_14⟩ : ∃ y : Int32, y = x4 + (1) := ⟨_, rfl⟩
        replace hf := bnd_at hf ex4_14
        refine lv_iinc (v := x4_14) (lv' := [(4, .int (x4_14)), (3, .int (x3_13)), (0, .ref (a 7)), (2, .int (x2))]) hx hb dX3_amountTo_66 hl (k := 3) rfl (by rw [ex4_14]; rfl) (by decide) rfl (fun ls hl => ?_)
        refine lv_goto (tgt := 13) hx hb dX3_amountTo_69 (by decide) ?_
        exact hrec13 (x2) (x3_13) (x4_14) _ _ ls hf hw (lv_sub hl [2, 3, 1, 0] rfl)
      · replace hf := ite_f hf c_11
        refine lv_iload_n hx hb dX3_amountTo_38 rfl (lv_at hl 1 rfl) ?_
        refine lv_aload_n hx hb dX3_amountTo_39 rfl (lv_at hl 0 rfl) ?_
        refine gK_7_6 E hw (E.hts _ wl247) dX3_amountTo_40 ?_
        refine lv_iload_n hx hb dX3_amountTo_43 rfl (lv_at hl 2 rfl) ?_
        refine lv_bipush hx hb dX3_amountTo_44 bp_12 ?_
        refine lv_imul hx hb dX3_amountTo_46 ?_
        refine lv_aload_n hx hb dX3_amountTo_47 rfl (lv_at hl 0 rfl) ?_
        refine gK_7_8 E hw (E.hts _ wl249) dX3_amountTo_48 ?_
        refine lv_iload_n hx hb dX3_amountTo_51 rfl (lv_at hl 2 rfl) ?_
        obtain ⟨h_v_15, hf⟩ := rdA_at hf
        refine lK_34 E hw h_v_15 dX3_amountTo_52 (fun v_15 ev_15 => ?_)
        replace hf := hf v_15 ev_15
        refine lv_iadd hx hb dX3_amountTo_53 ?_
        obtain ⟨h_v_16, hf⟩ := rdA_at hf
        refine lK_32 E hw h_v_16 dX3_amountTo_54 (fun v_16 ev_16 => ?_)
        replace hf := hf v_16 ev_16
        refine va_mmin hx hb (by rw [E.hml]; exact hl.1.symm) E.hown (E.hts _ wl583) (E.hts _ wl325) (E.hts _ wl45) (E.hts _ wl326) (Nat.le_of_ble_eq_true rfl) (Nat.le_of_ble_eq_true rfl) (Nat.le_refl 0) (Nat.le_refl 0) dX3_amountTo_55 ?_
        refine lv_topi (fun x2_17 ex2_17 => ?_)
        replace hf := bnd_at hf ex2_17
        refine lv_istore_n (lv' := [(2, .int (x2_17)), (0, .ref (a 7)), (3, .int (x3)), (4, .int (x4))]) hx hb dX3_amountTo_58 rfl hl (by decide) rfl (fun ls hl => ?_)
        refine lv_aload_n hx hb dX3_amountTo_59 rfl (lv_at hl 1 rfl) ?_
        refine gK_7_8 E hw (E.hts _ wl249) dX3_amountTo_60 ?_
        refine lv_iload_n hx hb dX3_amountTo_63 rfl (lv_at hl 2 rfl) ?_
        obtain ⟨h_v_18, hf⟩ := rdA_at hf
        refine lK_34 E hw h_v_18 dX3_amountTo_64 (fun v_18 ev_18 => ?_)
        replace hf := hf v_18 ev_18
        refine lv_topi (fun x3_19 ex3_19 => ?_)
        replace hf := bnd_at hf ex3_19
        refine lv_istore_n (lv' := [(3, .int (x3_19)), (2, .int (x2_17)), (0, .ref (a 7)), (4, .int (x4))]) hx hb dX3_amountTo_65 rfl hl (by decide) rfl (fun ls hl => ?_)
        obtain ⟨x4_20, ex4_20⟩ : ∃ y : Int32, y = x4 + (1) := ⟨_, rfl⟩
        replace hf := bnd_at hf ex4_20
        refine lv_iinc (v := x4_20) (lv' := [(4, .int (x4_20)), (3, .int (x3_19)), (2, .int (x2_17)), (0, .ref (a 7))]) hx hb dX3_amountTo_66 hl (k := 3) rfl (by rw [ex4_20]; rfl) (by decide) rfl (fun ls hl => ?_)
        refine lv_goto (tgt := 13) hx hb dX3_amountTo_69 (by decide) ?_
        exact hrec13 (x2_17) (x3_19) (x4_20) _ _ ls hf hw (lv_sub hl [3, 2, 1, 0] rfl)
theorem k3_amountTo_l13 {p : Program} {l : Launch} {e : Env} {s : State} {m : MethodId} {args : Array Value} {below : List Frame} {meth : Method} {c : Code} {D : va_G} {a : Nat → Nat} {g : Nat → ClassId} (E : EK p s m args meth c D a g cX3_amountTo 5 RX3 (some .int)) {F : Nat}  (S : SS) {k72 : Int32 → Int32 → Option Int32} {out : Int32} (hk72 : ∀ (x2 : Int32) (x3 : Int32) (H : Heap) (locs : List Loc) (ls : Array Slot), k72 x2 x3 = some out → WK D a g S s H locs → lv_has ls 5 [(0, .ref (a 7)), (2, .int (x2)), (3, .int (x3))] → W p l e (RM 2) s m args below meth c H locs 0 0 (MQ below (QK D a g (some (.int out)) S) args s 0 0 (AK a)) (F0 m 72 ls [])) : ∀ (n : Nat) (x2 : Int32) (x3 : Int32) (x4 : Int32) (H : Heap) (locs : List Loc) (ls : Array Slot), lpN (fun _ _ _ => none) (fun rec13 => k3_amountTo_B13 F S rec13 k72) n x2 x3 x4 = some out → WK D a g S s H locs → lv_has ls 5 [(0, .ref (a 7)), (2, .int (x2)), (3, .int (x3)), (4, .int (x4))] → W p l e (RM 2) s m args below meth c H locs 0 0 (MQ below (QK D a g (some (.int out)) S) args s 0 0 (AK a)) (F0 m 13 ls []) := by
  intro n
  induction n with
  | zero => intro x2 x3 x4 H locs ls hf; cases (show (none : Option Int32) = some out from hf)
  | succ n ih => intro x2 x3 x4 H locs ls hf hw hl; exact k3_amountTo_b13 E (F := F) S ih hk72 x2 x3 x4 H locs ls hf hw hl
set_option maxRecDepth 100000 in
set_option maxHeartbeats 4000000 in
theorem k3_amountTo_J72_j {p : Program} {l : Launch} {e : Env} {s : State} {m : MethodId} {args : Array Value} {below : List Frame} {meth : Method} {c : Code} {D : va_G} {a : Nat → Nat} {g : Nat → ClassId} (E : EK p s m args meth c D a g cX3_amountTo 5 RX3 (some .int)) {F : Nat}  {out : Int32} (S : SS) (x2 : Int32) (x3 : Int32) (H : Heap) (locs : List Loc) (ls : Array Slot) (hf : k3_amountTo_J72 F S x2 x3 = some out) (hw : WK D a g S s H locs) (hl : lv_has ls 5 [(0, .ref (a 7)), (2, .int (x2)), (3, .int (x3))]) : W p l e (RM 2) s m args below meth c H locs 0 0 (MQ below (QK D a g (some (.int out)) S) args s 0 0 (AK a)) (F0 m 72 ls []) := by
  have hx := E.hx
  have hb := E.hb
  unfold k3_amountTo_J72 at hf
  refine lv_iload_n hx hb dX3_amountTo_72 rfl (lv_at hl 1 rfl) ?_
  refine lv_aload_n hx hb dX3_amountTo_73 rfl (lv_at hl 0 rfl) ?_
  refine gK_7_5 E hw (E.hts _ wl246) dX3_amountTo_74 ?_
  refine lv_iload_n hx hb dX3_amountTo_77 rfl (lv_at hl 2 rfl) ?_
  obtain ⟨h_v_22, hf⟩ := rdA_at hf
  refine lK_31 E hw h_v_22 dX3_amountTo_78 (fun v_22 ev_22 => ?_)
  replace hf := hf v_22 ev_22
  refine va_mmin hx hb (by rw [E.hml]; exact hl.1.symm) E.hown (E.hts _ wl583) (E.hts _ wl325) (E.hts _ wl45) (E.hts _ wl326) (Nat.le_of_ble_eq_true rfl) (Nat.le_of_ble_eq_true rfl) (Nat.le_refl 0) (Nat.le_refl 0) dX3_amountTo_79 ?_
  cases hf
  exact retK_i E hw dX3_amountTo_82
set_option maxRecDepth 100000 in
set_option maxHeartbeats 4000000 in
theorem mk3_amountTo {l : Launch} {D : va_G} {a : Nat → Nat} {g : Nat → ClassId} (hD : ∀ S, va_D (AK a) (wK a g S)) {F : Nat} {S : SS} {x1 : Int32} {out : Int32} (hf : k3_amountTo F S x1 = some out) : Met l yX3_amountTo (wsm yX3_amountTo cX3_amountTo 5 (some .int)) (RM 2) (PK D a g S [.ref (a 7), .int x1]) (QK D a g (some (.int out)) S) 0 0 (AK a) := by
  refine Met.ofW (cc := cX3_amountTo) (maxL := 5) (ret := (some .int)) (by decide) rfl ?_
  intro p e s m args below meth c s₁ B hml hv
  obtain ⟨rfl, hP, hK, hN⟩ := hv
  have hts := atoms_spec (ws := wsm yX3_amountTo cX3_amountTo 5 (some .int)) B.pre
  have E : EK p s m _ meth c D a g cX3_amountTo 5 RX3 (some .int) := ⟨B.exec, B.bytes, B.returns, hml, findClass_of_methodNamed B.named, fun w h => hts w (List.mem_cons_of_mem _ h), hK, hN, hD, B.notSynchronized⟩
  have hx := E.hx
  have hb := E.hb
  have hw : WK D a g S s s.heap [] := ⟨hP, va_S.rf⟩
  have hl := lv_entry ([.ref (a 7), .int x1]) (n := 5) (Nat.le_of_ble_eq_true rfl)
  rw [lg_entry_eq]
  generalize (lg_sl ([.ref (a 7), .int x1]) ++ List.replicate (5 - (lg_sl ([.ref (a 7), .int x1])).length) Slot.unset).toArray = ls at hl ⊢
  have hl : lv_has ls 5 [(0, .ref (a 7)), (1, .int (x1))] := hl
  show W p l e (RM 2) s m _ below meth c s.heap [] 0 0 (MQ below (QK D a g (some (.int out)) S) _ s 0 0 (AK a)) (F0 m 0 ls [])
  unfold k3_amountTo at hf
  refine lv_aload_n hx hb dX3_amountTo_0 rfl (lv_at hl 0 rfl) ?_
  refine gK_7_5 E hw (E.hts _ wl246) dX3_amountTo_1 ?_
  refine lv_iload_n hx hb dX3_amountTo_4 rfl (lv_at hl 1 rfl) ?_
  obtain ⟨h_v_1, hf⟩ := rdA_at hf
  refine lK_31 E hw h_v_1 dX3_amountTo_5 (fun v_1 ev_1 => ?_)
  replace hf := hf v_1 ev_1
  refine lv_ineg hx hb dX3_amountTo_6 ?_
  refine lv_topi (fun x2_2 ex2_2 => ?_)
  replace hf := bnd_at hf ex2_2
  refine lv_istore_n (lv' := [(2, .int (x2_2)), (0, .ref (a 7)), (1, .int (x1))]) hx hb dX3_amountTo_7 rfl hl (by decide) rfl (fun ls hl => ?_)
  refine lv_iload_n hx hb dX3_amountTo_8 rfl (lv_at hl 2 rfl) ?_
  refine lv_topi (fun x3_3 ex3_3 => ?_)
  replace hf := bnd_at hf ex3_3
  refine lv_istore_n (lv' := [(3, .int (x3_3)), (2, .int (x2_2)), (0, .ref (a 7)), (1, .int (x1))]) hx hb dX3_amountTo_9 rfl hl (by decide) rfl (fun ls hl => ?_)
  refine lv_iconst hx hb dX3_amountTo_10 ic_0 ?_
  refine lv_topi (fun x4_4 ex4_4 => ?_)
  replace hf := bnd_at hf ex4_4
  refine lv_istore (lv' := [(4, .int (x4_4)), (3, .int (x3_3)), (2, .int (x2_2)), (0, .ref (a 7)), (1, .int (x1))]) hx hb dX3_amountTo_11 hl (by decide) rfl (fun ls hl => ?_)
  refine k3_amountTo_l13 E S ?_ F (x2_2) (x3_3) (x4_4) _ _ ls hf hw (lv_sub hl [3, 2, 1, 0] rfl)
  · intro x2_21 x3_21 H locs ls hf hw hl
    exact k3_amountTo_J72_j E S (x2_21) (x3_21) _ _ ls hf hw (lv_sub hl [0, 1, 2] rfl)
theorem qk3_amountTo {p : Program} {l : Launch} {e : Env} {R : Room} {s : State} {m : MethodId} {args : Array Value} {below : List Frame} {meth : Method} {c : Code} {H : Heap} {locs : List Loc} {cells slots : Nat} {Q : State → Prop} {cc : ByteArray} {pc : Nat} {ls : Array Slot} {rest : List Value} {D : va_G} {a : Nat → Nat} {g : Nat → ClassId} {nL : Nat} {own : String} {ret : Option FieldType} {S S1 : SS} {k : Nat} {x1 : Int32} {r : Int32} (E : EK p s m args meth c D a g cc nL own ret) (hw : WK D a g S s H locs) (hM : Met l yX3_amountTo (wsm yX3_amountTo cX3_amountTo 5 (some .int)) (RM k) (PK D a g S [.ref (a 7), .int x1]) (QK D a g (some (.int r)) S1) 0 0 (AK a)) {idx : Nat} (hlk : Cond.methodLink own idx yX3_amountTo ∈ wd) (hdg : decode cc pc = .ok (.invokevirtual idx, 3)) (hR : k + 1 ≤ R.frames ∧ 8 + (5 + 11) + 64 * k ≤ R.locals) (hls : ls.size = nL) (hrest : (rest.map fun v => v.category).sum ≤ 8) (hcs : cells ≤ R.cells ∧ slots ≤ R.slots) (kk : ∀ (H1 : Heap) (locs1 : List Loc), WK D a g S1 s H1 locs1 → W p l e R s m args below meth c H1 locs1 cells slots Q (F0 m (pc + 3) ls (.int r :: rest))) : W p l e R s m args below meth c H locs cells slots Q (F0 m pc ls (.int x1 :: .ref (a 7) :: rest)) :=
  callK_i hw (va_runV (As := [.int x1]) (rest := rest) ⟨E.hx, E.hb, E.hml, E.hown, E.hts⟩ hM ⟨cb_of 1 E.hts wl616 wl43 hlk (by decide +kernel) hR, E.hts _ wl615, E.hts _ wl20⟩ ⟨PK_blind, va_recv E.hK hw.1 (ci := 3) (q0 := 7) rfl rfl, PK_pre E.hK E.hN hw.1⟩ rfl rfl hls rfl (lv_room hrest) hdg hcs) kk
/-! X3_moveTo -/
def k3_moveTo_B5 (F : Nat) (x1 : Int32) (x2 : Int32) (rec5 : SS → Int32 → Int32 → Option SS) (k82 : SS → Int32 → Option SS) (S : SS) (x3 : Int32) (x4 : Int32) : Option SS :=
  if ((12 : Int32)) ≤ x4 then (k82 S (x3)) else ((rdA 12 (S 34) x3).bind fun v_4 => if v_4 = ((-1 : Int32)) then (k82 S (x3)) else ((rdA 12 (S 34) x3).bind fun v_6 => bnd (v_6) fun x5_7 => (k3_isGiver F S (x3)).bind fun r_9 => if r_9 = 0 then ((rdA 144 (S 32) ((x5_7 * ((12 : Int32))) + x3)).bind fun v_12 => (ckA 144 ((x5_7 * ((12 : Int32))) + x3)).bind fun _ => bnd (st S 32 (Int32.toNatClampNeg ((x5_7 * ((12 : Int32))) + x3)) (v_12 + x2)) fun S_13 => bnd (x5_7) fun x3_14 => bnd (x4 + (1)) fun x4_15 => rec5 S_13 (x3_14) (x4_15)) else ((rdA 144 (S 32) ((x3 * ((12 : Int32))) + x5_7)).bind fun v_16 => (ckA 144 ((x3 * ((12 : Int32))) + x5_7)).bind fun _ => bnd (st S 32 (Int32.toNatClampNeg ((x3 * ((12 : Int32))) + x5_7)) (v_16 - x2)) fun S_17 => bnd (x5_7) fun x3_18 => bnd (x4 + (1)) fun x4_19 => rec5 S_17 (x3_18) (x4_19))))
def k3_moveTo_J82 (F : Nat) (S : SS) (x1 : Int32) (x2 : Int32) (x3 : Int32) : Option SS :=
  (rdA 12 (S 31) x3).bind fun v_21 => (ckA 12 x3).bind fun _ => bnd (st S 31 (Int32.toNatClampNeg x3) (v_21 - x2)) fun S_22 => (rdA 12 (S_22 31) x1).bind fun v_23 => (ckA 12 x1).bind fun _ => bnd (st S_22 31 (Int32.toNatClampNeg x1) (v_23 + x2)) fun S_24 => some S_24
def k3_moveTo (F : Nat) (S : SS) (x1 : Int32) (x2 : Int32) : Option SS :=
  bnd (x1) fun x3_1 => bnd ((0 : Int32)) fun x4_2 => lpN (fun _ _ _ => none) (fun rec5 => k3_moveTo_B5 F (x1) (x2) rec5 (fun S_20 x3_20 => k3_moveTo_J82 F S_20 (x1) (x2) (x3_20))) F S (x3_1) (x4_2)
set_option maxRecDepth 100000 in
set_option maxHeartbeats 4000000 in
theorem k3_moveTo_b5 {p : Program} {l : Launch} {e : Env} {s : State} {m : MethodId} {args : Array Value} {below : List Frame} {meth : Method} {c : Code} {D : va_G} {a : Nat → Nat} {g : Nat → ClassId} (E : EK p s m args meth c D a g cX3_moveTo 6 RX3 none) {F : Nat}  (x1 : Int32) (x2 : Int32) {rec5 : SS → Int32 → Int32 → Option SS} {k82 : SS → Int32 → Option SS} {out : SS} (hrec5 : ∀ (S : SS) (x3 : Int32) (x4 : Int32) (H : Heap) (locs : List Loc) (ls : Array Slot), rec5 S x3 x4 = some out → WK D a g S s H locs → lv_has ls 6 [(0, .ref (a 7)), (1, .int (x1)), (2, .int (x2)), (3, .int (x3)), (4, .int (x4))] → W p l e (RM 2) s m args below meth c H locs 0 0 (MQ below (QK D a g none out) args s 0 0 (AK a)) (F0 m 5 ls [])) (hk82 : ∀ (S : SS) (x3 : Int32) (H : Heap) (locs : List Loc) (ls : Array Slot), k82 S x3 = some out → WK D a g S s H locs → lv_has ls 6 [(0, .ref (a 7)), (1, .int (x1)), (2, .int (x2)), (3, .int (x3))] → W p l e (RM 2) s m args below meth c H locs 0 0 (MQ below (QK D a g none out) args s 0 0 (AK a)) (F0 m 82 ls [])) (S : SS) (x3 : Int32) (x4 : Int32) (H : Heap) (locs : List Loc) (ls : Array Slot) (hf : k3_moveTo_B5 F x1 x2 rec5 k82 S x3 x4 = some out) (hw : WK D a g S s H locs) (hl : lv_has ls 6 [(0, .ref (a 7)), (1, .int (x1)), (2, .int (x2)), (3, .int (x3)), (4, .int (x4))]) : W p l e (RM 2) s m args below meth c H locs 0 0 (MQ below (QK D a g none out) args s 0 0 (AK a)) (F0 m 5 ls []) := by
  have hx := E.hx
  have hb := E.hb
  unfold k3_moveTo_B5 at hf
  refine lv_iload hx hb dX3_moveTo_5 (lv_at hl 4 rfl) ?_
  refine lv_bipush hx hb dX3_moveTo_7 bp_12 ?_
  refine lv_icmp_ge (tgt := 82) hx hb dX3_moveTo_9 (by decide) (fun c_3 => ?_) (fun c_3 => ?_)
  · replace hf := ite_t hf c_3
    exact hk82 S (x3) _ _ ls hf hw (lv_sub hl [0, 1, 2, 3] rfl)
  · replace hf := ite_f hf c_3
    refine lv_aload_n hx hb dX3_moveTo_12 rfl (lv_at hl 0 rfl) ?_
    refine gK_7_8 E hw (E.hts _ wl249) dX3_moveTo_13 ?_
    refine lv_iload_n hx hb dX3_moveTo_16 rfl (lv_at hl 3 rfl) ?_
    obtain ⟨h_v_4, hf⟩ := rdA_at hf
    refine lK_34 E hw h_v_4 dX3_moveTo_17 (fun v_4 ev_4 => ?_)
    replace hf := hf v_4 ev_4
    refine lv_iconst hx hb dX3_moveTo_18 ic_m1 ?_
    refine lv_icmp_eq (tgt := 82) hx hb dX3_moveTo_19 (by decide) (fun c_5 => ?_) (fun c_5 => ?_)
    · replace hf := ite_t hf c_5
      exact hk82 S (x3) _ _ ls hf hw (lv_sub hl [0, 1, 2, 3] rfl)
    · replace hf := ite_f hf c_5
      refine lv_aload_n hx hb dX3_moveTo_22 rfl (lv_at hl 0 rfl) ?_
      refine gK_7_8 E hw (E.hts _ wl249) dX3_moveTo_23 ?_
      refine lv_iload_n hx hb dX3_moveTo_26 rfl (lv_at hl 3 rfl) ?_
      obtain ⟨h_v_6, hf⟩ := rdA_at hf
      refine lK_34 E hw h_v_6 dX3_moveTo_27 (fun v_6 ev_6 => ?_)
      replace hf := hf v_6 ev_6
      refine lv_topi (fun x5_7 ex5_7 => ?_)
      replace hf := bnd_at hf ex5_7
      refine lv_istore (lv' := [(5, .int (x5_7)), (0, .ref (a 7)), (1, .int (x1)), (2, .int (x2)), (3, .int (x3)), (4, .int (x4))]) hx hb dX3_moveTo_28 hl (by decide) rfl (fun ls hl => ?_)
      refine lv_aload_n hx hb dX3_moveTo_30 rfl (lv_at hl 1 rfl) ?_
      refine lv_iload_n hx hb dX3_moveTo_31 rfl (lv_at hl 4 rfl) ?_
      obtain ⟨r_9, h_8, hf⟩ := ob_at hf
      refine qk3_isGiver E hw (mk3_isGiver E.hD h_8) wl601 dX3_moveTo_32 ⟨Nat.le_of_ble_eq_true rfl, Nat.le_of_ble_eq_true rfl⟩ hl.1 (Nat.le_of_ble_eq_true rfl) ⟨Nat.le_refl 0, Nat.le_refl 0⟩ (fun H locs hw => ?_)
      refine lv_if_eq (tgt := 57) hx hb dX3_moveTo_35 (by decide) (fun c_11 => ?_) (fun c_11 => ?_)
      · replace hf := ite_t hf c_11
        refine lv_aload_n hx hb dX3_moveTo_57 rfl (lv_at hl 1 rfl) ?_
        refine gK_7_6 E hw (E.hts _ wl247) dX3_moveTo_58 ?_
        refine lv_iload hx hb dX3_moveTo_61 (lv_at hl 0 rfl) ?_
        refine lv_bipush hx hb dX3_moveTo_63 bp_12 ?_
        refine lv_imul hx hb dX3_moveTo_65 ?_
        refine lv_iload_n hx hb dX3_moveTo_66 rfl (lv_at hl 4 rfl) ?_
        refine lv_iadd hx hb dX3_moveTo_67 ?_
        refine lv_dup2_11 hx hb dX3_moveTo_68 rfl rfl ?_
        obtain ⟨h_v_12, hf⟩ := rdA_at hf
        refine lK_32 E hw h_v_12 dX3_moveTo_69 (fun v_12 ev_12 => ?_)
        replace hf := hf v_12 ev_12
        refine lv_iload_n hx hb dX3_moveTo_70 rfl (lv_at hl 3 rfl) ?_
        refine lv_iadd hx hb dX3_moveTo_71 ?_
        obtain ⟨h_S_13, hf⟩ := ckA_at hf
        refine sK_32 E hw h_S_13 dX3_moveTo_72 (fun S_13 eS_13 H locs hw => ?_)
        replace hf := bnd_at hf eS_13
        refine lv_iload hx hb dX3_moveTo_73 (lv_at hl 0 rfl) ?_
        refine lv_topi (fun x3_14 ex3_14 => ?_)
        replace hf := bnd_at hf ex3_14
        refine lv_istore_n (lv' := [(3, .int (x3_14)), (5, .int (x5_7)), (0, .ref (a 7)), (1, .int (x1)), (2, .int (x2)), (4, .int (x4))]) hx hb dX3_moveTo_75 rfl hl (by decide) rfl (fun ls hl => ?_)
        obtain ⟨x4_15, ex4_15⟩ : ∃ y : Int32, y = x4 + (1) := ⟨_, rfl⟩
        replace hf := bnd_at hf ex4_15
        refine lv_iinc (v := x4_15) (lv' := [(4, .int (x4_15)), (3, .int (x3_14)), (5, .int (x5_7)), (0, .ref (a 7)), (1, .int (x1)), (2, .int (x2))]) hx hb dX3_moveTo_76 hl (k := 5) rfl (by rw [ex4_15]; rfl) (by decide) rfl (fun ls hl => ?_)
        refine lv_goto (tgt := 5) hx hb dX3_moveTo_79 (by decide) ?_
        exact hrec5 S_13 (x3_14) (x4_15) _ _ ls hf hw (lv_sub hl [3, 4, 5, 1, 0] rfl)
      · replace hf := ite_f hf c_11
        refine lv_aload_n hx hb dX3_moveTo_38 rfl (lv_at hl 1 rfl) ?_
        refine gK_7_6 E hw (E.hts _ wl247) dX3_moveTo_39 ?_
        refine lv_iload_n hx hb dX3_moveTo_42 rfl (lv_at hl 4 rfl) ?_
        refine lv_bipush hx hb dX3_moveTo_43 bp_12 ?_
        refine lv_imul hx hb dX3_moveTo_45 ?_
        refine lv_iload hx hb dX3_moveTo_46 (lv_at hl 0 rfl) ?_
        refine lv_iadd hx hb dX3_moveTo_48 ?_
        refine lv_dup2_11 hx hb dX3_moveTo_49 rfl rfl ?_
        obtain ⟨h_v_16, hf⟩ := rdA_at hf
        refine lK_32 E hw h_v_16 dX3_moveTo_50 (fun v_16 ev_16 => ?_)
        replace hf := hf v_16 ev_16
        refine lv_iload_n hx hb dX3_moveTo_51 rfl (lv_at hl 3 rfl) ?_
        refine lv_isub hx hb dX3_moveTo_52 ?_
        obtain ⟨h_S_17, hf⟩ := ckA_at hf
        refine sK_32 E hw h_S_17 dX3_moveTo_53 (fun S_17 eS_17 H locs hw => ?_)
        replace hf := bnd_at hf eS_17
        refine lv_goto (tgt := 73) hx hb dX3_moveTo_54 (by decide) ?_
        refine lv_iload hx hb dX3_moveTo_73 (lv_at hl 0 rfl) ?_
        refine lv_topi (fun x3_18 ex3_18 => ?_)
        replace hf := bnd_at hf ex3_18
        refine lv_istore_n (lv' := [(3, .int (x3_18)), (5, .int (x5_7)), (0, .ref (a 7)), (1, .int (x1)), (2, .int (x2)), (4, .int (x4))]) hx hb dX3_moveTo_75 rfl hl (by decide) rfl (fun ls hl => ?_)
        obtain ⟨x4_19, ex4_19⟩ : ∃ y : Int32, y = x4 + (1) := ⟨_, rfl⟩
        replace hf := bnd_at hf ex4_19
        refine lv_iinc (v := x4_19) (lv' := [(4, .int (x4_19)), (3, .int (x3_18)), (5, .int (x5_7)), (0, .ref (a 7)), (1, .int (x1)), (2, .int (x2))]) hx hb dX3_moveTo_76 hl (k := 5) rfl (by rw [ex4_19]; rfl) (by decide) rfl (fun ls hl => ?_)
        refine lv_goto (tgt := 5) hx hb dX3_moveTo_79 (by decide) ?_
        exact hrec5 S_17 (x3_18) (x4_19) _ _ ls hf hw (lv_sub hl [3, 4, 5, 1, 0] rfl)
theorem k3_moveTo_l5 {p : Program} {l : Launch} {e : Env} {s : State} {m : MethodId} {args : Array Value} {below : List Frame} {meth : Method} {c : Code} {D : va_G} {a : Nat → Nat} {g : Nat → ClassId} (E : EK p s m args meth c D a g cX3_moveTo 6 RX3 none) {F : Nat}  (x1 : Int32) (x2 : Int32) {k82 : SS → Int32 → Option SS} {out : SS} (hk82 : ∀ (S : SS) (x3 : Int32) (H : Heap) (locs : List Loc) (ls : Array Slot), k82 S x3 = some out → WK D a g S s H locs → lv_has ls 6 [(0, .ref (a 7)), (1, .int (x1)), (2, .int (x2)), (3, .int (x3))] → W p l e (RM 2) s m args below meth c H locs 0 0 (MQ below (QK D a g none out) args s 0 0 (AK a)) (F0 m 82 ls [])) : ∀ (n : Nat) (S : SS) (x3 : Int32) (x4 : Int32) (H : Heap) (locs : List Loc) (ls : Array Slot), lpN (fun _ _ _ => none) (fun rec5 => k3_moveTo_B5 F x1 x2 rec5 k82) n S x3 x4 = some out → WK D a g S s H locs → lv_has ls 6 [(0, .ref (a 7)), (1, .int (x1)), (2, .int (x2)), (3, .int (x3)), (4, .int (x4))] → W p l e (RM 2) s m args below meth c H locs 0 0 (MQ below (QK D a g none out) args s 0 0 (AK a)) (F0 m 5 ls []) := by
  intro n
  induction n with
  | zero => intro S x3 x4 H locs ls hf; cases (show (none : Option SS) = some out from hf)
  | succ n ih => intro S x3 x4 H locs ls hf hw hl; exact k3_moveTo_b5 E (F := F) x1 x2 ih hk82 S x3 x4 H locs ls hf hw hl
set_option maxRecDepth 100000 in
set_option maxHeartbeats 4000000 in
theorem k3_moveTo_J82_j {p : Program} {l : Launch} {e : Env} {s : State} {m : MethodId} {args : Array Value} {below : List Frame} {meth : Method} {c : Code} {D : va_G} {a : Nat → Nat} {g : Nat → ClassId} (E : EK p s m args meth c D a g cX3_moveTo 6 RX3 none) {F : Nat}  {out : SS} (S : SS) (x1 : Int32) (x2 : Int32) (x3 : Int32) (H : Heap) (locs : List Loc) (ls : Array Slot) (hf : k3_moveTo_J82 F S x1 x2 x3 = some out) (hw : WK D a g S s H locs) (hl : lv_has ls 6 [(0, .ref (a 7)), (1, .int (x1)), (2, .int (x2)), (3, .int (x3))]) : W p l e (RM 2) s m args below meth c H locs 0 0 (MQ below (QK D a g none out) args s 0 0 (AK a)) (F0 m 82 ls []) := by
  have hx := E.hx
  have hb := E.hb
  unfold k3_moveTo_J82 at hf
  refine lv_aload_n hx hb dX3_moveTo_82 rfl (lv_at hl 0 rfl) ?_
  refine gK_7_5 E hw (E.hts _ wl246) dX3_moveTo_83 ?_
  refine lv_iload_n hx hb dX3_moveTo_86 rfl (lv_at hl 3 rfl) ?_
  refine lv_dup2_11 hx hb dX3_moveTo_87 rfl rfl ?_
  obtain ⟨h_v_21, hf⟩ := rdA_at hf
  refine lK_31 E hw h_v_21 dX3_moveTo_88 (fun v_21 ev_21 => ?_)
  replace hf := hf v_21 ev_21
  refine lv_iload_n hx hb dX3_moveTo_89 rfl (lv_at hl 2 rfl) ?_
  refine lv_isub hx hb dX3_moveTo_90 ?_
  obtain ⟨h_S_22, hf⟩ := ckA_at hf
  refine sK_31 E hw h_S_22 dX3_moveTo_91 (fun S_22 eS_22 H locs hw => ?_)
  replace hf := bnd_at hf eS_22
  refine lv_aload_n hx hb dX3_moveTo_92 rfl (lv_at hl 0 rfl) ?_
  refine gK_7_5 E hw (E.hts _ wl246) dX3_moveTo_93 ?_
  refine lv_iload_n hx hb dX3_moveTo_96 rfl (lv_at hl 1 rfl) ?_
  refine lv_dup2_11 hx hb dX3_moveTo_97 rfl rfl ?_
  obtain ⟨h_v_23, hf⟩ := rdA_at hf
  refine lK_31 E hw h_v_23 dX3_moveTo_98 (fun v_23 ev_23 => ?_)
  replace hf := hf v_23 ev_23
  refine lv_iload_n hx hb dX3_moveTo_99 rfl (lv_at hl 2 rfl) ?_
  refine lv_iadd hx hb dX3_moveTo_100 ?_
  obtain ⟨h_S_24, hf⟩ := ckA_at hf
  refine sK_31 E hw h_S_24 dX3_moveTo_101 (fun S_24 eS_24 H locs hw => ?_)
  replace hf := bnd_at hf eS_24
  cases hf
  exact retK_v E hw dX3_moveTo_102
set_option maxRecDepth 100000 in
set_option maxHeartbeats 4000000 in
theorem mk3_moveTo {l : Launch} {D : va_G} {a : Nat → Nat} {g : Nat → ClassId} (hD : ∀ S, va_D (AK a) (wK a g S)) {F : Nat} {S : SS} {x1 x2 : Int32} {out : SS} (hf : k3_moveTo F S x1 x2 = some out) : Met l yX3_moveTo (wsm yX3_moveTo cX3_moveTo 6 none) (RM 2) (PK D a g S [.ref (a 7), .int x1, .int x2]) (QK D a g none out) 0 0 (AK a) := by
  refine Met.ofW (cc := cX3_moveTo) (maxL := 6) (ret := none) (by decide) rfl ?_
  intro p e s m args below meth c s₁ B hml hv
  obtain ⟨rfl, hP, hK, hN⟩ := hv
  have hts := atoms_spec (ws := wsm yX3_moveTo cX3_moveTo 6 none) B.pre
  have E : EK p s m _ meth c D a g cX3_moveTo 6 RX3 none := ⟨B.exec, B.bytes, B.returns, hml, findClass_of_methodNamed B.named, fun w h => hts w (List.mem_cons_of_mem _ h), hK, hN, hD, B.notSynchronized⟩
  have hx := E.hx
  have hb := E.hb
  have hw : WK D a g S s s.heap [] := ⟨hP, va_S.rf⟩
  have hl := lv_entry ([.ref (a 7), .int x1, .int x2]) (n := 6) (Nat.le_of_ble_eq_true rfl)
  rw [lg_entry_eq]
  generalize (lg_sl ([.ref (a 7), .int x1, .int x2]) ++ List.replicate (6 - (lg_sl ([.ref (a 7), .int x1, .int x2])).length) Slot.unset).toArray = ls at hl ⊢
  have hl : lv_has ls 6 [(0, .ref (a 7)), (1, .int (x1)), (2, .int (x2))] := hl
  show W p l e (RM 2) s m _ below meth c s.heap [] 0 0 (MQ below (QK D a g none out) _ s 0 0 (AK a)) (F0 m 0 ls [])
  unfold k3_moveTo at hf
  refine lv_iload_n hx hb dX3_moveTo_0 rfl (lv_at hl 1 rfl) ?_
  refine lv_topi (fun x3_1 ex3_1 => ?_)
  replace hf := bnd_at hf ex3_1
  refine lv_istore_n (lv' := [(3, .int (x3_1)), (0, .ref (a 7)), (1, .int (x1)), (2, .int (x2))]) hx hb dX3_moveTo_1 rfl hl (by decide) rfl (fun ls hl => ?_)
  refine lv_iconst hx hb dX3_moveTo_2 ic_0 ?_
  refine lv_topi (fun x4_2 ex4_2 => ?_)
  replace hf := bnd_at hf ex4_2
  refine lv_istore (lv' := [(4, .int (x4_2)), (3, .int (x3_1)), (0, .ref (a 7)), (1, .int (x1)), (2, .int (x2))]) hx hb dX3_moveTo_3 hl (by decide) rfl (fun ls hl => ?_)
  refine k3_moveTo_l5 E (x1) (x2) ?_ F S (x3_1) (x4_2) _ _ ls hf hw (lv_sub hl [2, 3, 4, 1, 0] rfl)
  · intro S_20 x3_20 H locs ls hf hw hl
    exact k3_moveTo_J82_j E S_20 (x1) (x2) (x3_20) _ _ ls hf hw (lv_sub hl [0, 1, 2, 3] rfl)
theorem qk3_moveTo {p : Program} {l : Launch} {e : Env} {R : Room} {s : State} {m : MethodId} {args : Array Value} {below : List Frame} {meth : Method} {c : Code} {H : Heap} {locs : List Loc} {cells slots : Nat} {Q : State → Prop} {cc : ByteArray} {pc : Nat} {ls : Array Slot} {rest : List Value} {D : va_G} {a : Nat → Nat} {g : Nat → ClassId} {nL : Nat} {own : String} {ret : Option FieldType} {S S1 : SS} {k : Nat} {x1 x2 : Int32} (E : EK p s m args meth c D a g cc nL own ret) (hw : WK D a g S s H locs) (hM : Met l yX3_moveTo (wsm yX3_moveTo cX3_moveTo 6 none) (RM k) (PK D a g S [.ref (a 7), .int x1, .int x2]) (QK D a g none S1) 0 0 (AK a)) {idx : Nat} (hlk : Cond.methodLink own idx yX3_moveTo ∈ wd) (hdg : decode cc pc = .ok (.invokevirtual idx, 3)) (hR : k + 1 ≤ R.frames ∧ 8 + (6 + 11) + 64 * k ≤ R.locals) (hls : ls.size = nL) (hrest : (rest.map fun v => v.category).sum ≤ 8) (hcs : cells ≤ R.cells ∧ slots ≤ R.slots) (kk : ∀ (H1 : Heap) (locs1 : List Loc), WK D a g S1 s H1 locs1 → W p l e R s m args below meth c H1 locs1 cells slots Q (F0 m (pc + 3) ls (rest))) : W p l e R s m args below meth c H locs cells slots Q (F0 m pc ls (.int x2 :: .int x1 :: .ref (a 7) :: rest)) :=
  callK_v hw (va_runV (As := [.int x1, .int x2]) (rest := rest) ⟨E.hx, E.hb, E.hml, E.hown, E.hts⟩ hM ⟨cb_of 2 E.hts wl620 wl43 hlk (by decide +kernel) hR, E.hts _ wl619, E.hts _ wl21⟩ ⟨PK_blind, va_recv E.hK hw.1 (ci := 3) (q0 := 7) rfl rfl, PK_pre E.hK E.hN hw.1⟩ rfl rfl hls rfl (lv_room hrest) hdg hcs) kk
/-! X3_leadMore -/
def k3_leadMore (F : Nat) (S : SS) : Option (Int32 × SS) :=
  (k3_measureReach F S ).bind fun S_3 => (k3_nearestGoal F S_3 ).bind fun r_5 => bnd (r_5) fun x1_7 => if x1_7 = ((-1 : Int32)) then (some ((0 : Int32), S_3)) else ((k3_amountTo F S_3 (x1_7)).bind fun r_10 => bnd (r_10) fun x2_12 => if (0 : Int32) < x2_12 then ((k3_moveTo F S_3 (x1_7) (x2_12)).bind fun S_16 => bnd (st S_16 7 2 ((S_16 7 2) + x2_12)) fun S_17 => (rdA 12 (S_17 33) x1_7).bind fun v_18 => bnd (st S_17 7 3 ((S_17 7 3) + (x2_12 * v_18))) fun S_19 => some ((1 : Int32), S_19)) else (some ((0 : Int32), S_3)))
set_option maxRecDepth 100000 in
set_option maxHeartbeats 4000000 in
theorem mk3_leadMore {l : Launch} {D : va_G} {a : Nat → Nat} {g : Nat → ClassId} (hD : ∀ S, va_D (AK a) (wK a g S)) {F : Nat} {S : SS} {out : (Int32 × SS)} (hf : k3_leadMore F S  = some out) : Met l yX3_leadMore (wsm yX3_leadMore cX3_leadMore 3 (some .boolean)) (RM 5) (PK D a g S [.ref (a 7)]) (QK D a g (some (.int out.1)) out.2) 0 0 (AK a) := by
  refine Met.ofW (cc := cX3_leadMore) (maxL := 3) (ret := (some .boolean)) (by decide) rfl ?_
  intro p e s m args below meth c s₁ B hml hv
  obtain ⟨rfl, hP, hK, hN⟩ := hv
  have hts := atoms_spec (ws := wsm yX3_leadMore cX3_leadMore 3 (some .boolean)) B.pre
  have E : EK p s m _ meth c D a g cX3_leadMore 3 RX3 (some .boolean) := ⟨B.exec, B.bytes, B.returns, hml, findClass_of_methodNamed B.named, fun w h => hts w (List.mem_cons_of_mem _ h), hK, hN, hD, B.notSynchronized⟩
  have hx := E.hx
  have hb := E.hb
  have hw : WK D a g S s s.heap [] := ⟨hP, va_S.rf⟩
  have hl := lv_entry ([.ref (a 7)]) (n := 3) (Nat.le_of_ble_eq_true rfl)
  rw [lg_entry_eq]
  generalize (lg_sl ([.ref (a 7)]) ++ List.replicate (3 - (lg_sl ([.ref (a 7)])).length) Slot.unset).toArray = ls at hl ⊢
  have hl : lv_has ls 3 [(0, .ref (a 7))] := hl
  show W p l e (RM 5) s m _ below meth c s.heap [] 0 0 (MQ below (QK D a g (some (.int out.1)) out.2) _ s 0 0 (AK a)) (F0 m 0 ls [])
  unfold k3_leadMore at hf
  refine lv_aload_n hx hb dX3_leadMore_0 rfl (lv_at hl 0 rfl) ?_
  obtain ⟨S_3, h_1, hf⟩ := ob_at hf
  refine qk3_measureReach E hw (mk3_measureReach E.hD h_1) wl588 dX3_leadMore_1 ⟨Nat.le_of_ble_eq_true rfl, Nat.le_of_ble_eq_true rfl⟩ hl.1 (Nat.le_of_ble_eq_true rfl) ⟨Nat.le_refl 0, Nat.le_refl 0⟩ (fun H locs hw => ?_)
  refine lv_aload_n hx hb dX3_leadMore_4 rfl (lv_at hl 0 rfl) ?_
  obtain ⟨r_5, h_4, hf⟩ := ob_at hf
  refine qk3_nearestGoal E hw (mk3_nearestGoal E.hD h_4) wl609 dX3_leadMore_5 ⟨Nat.le_of_ble_eq_true rfl, Nat.le_of_ble_eq_true rfl⟩ hl.1 (Nat.le_of_ble_eq_true rfl) ⟨Nat.le_refl 0, Nat.le_refl 0⟩ (fun H locs hw => ?_)
  refine lv_topi (fun x1_7 ex1_7 => ?_)
  replace hf := bnd_at hf ex1_7
  refine lv_istore_n (lv' := [(1, .int (x1_7)), (0, .ref (a 7))]) hx hb dX3_leadMore_8 rfl hl (by decide) rfl (fun ls hl => ?_)
  refine lv_iload_n hx hb dX3_leadMore_9 rfl (lv_at hl 0 rfl) ?_
  refine lv_iconst hx hb dX3_leadMore_10 ic_m1 ?_
  refine lv_icmp_ne (tgt := 16) hx hb dX3_leadMore_11 (by decide) (fun c_8 => ?_) (fun c_8 => ?_)
  · replace hf := ite_f hf c_8
    refine lv_aload_n hx hb dX3_leadMore_16 rfl (lv_at hl 1 rfl) ?_
    refine lv_iload_n hx hb dX3_leadMore_17 rfl (lv_at hl 0 rfl) ?_
    obtain ⟨r_10, h_9, hf⟩ := ob_at hf
    refine qk3_amountTo E hw (mk3_amountTo E.hD h_9) wl613 dX3_leadMore_18 ⟨Nat.le_of_ble_eq_true rfl, Nat.le_of_ble_eq_true rfl⟩ hl.1 (Nat.le_of_ble_eq_true rfl) ⟨Nat.le_refl 0, Nat.le_refl 0⟩ (fun H locs hw => ?_)
    refine lv_topi (fun x2_12 ex2_12 => ?_)
    replace hf := bnd_at hf ex2_12
    refine lv_istore_n (lv' := [(2, .int (x2_12)), (1, .int (x1_7)), (0, .ref (a 7))]) hx hb dX3_leadMore_21 rfl hl (by decide) rfl (fun ls hl => ?_)
    refine lv_iload_n hx hb dX3_leadMore_22 rfl (lv_at hl 0 rfl) ?_
    refine lv_if_gt (tgt := 28) hx hb dX3_leadMore_23 (by decide) (fun c_13 => ?_) (fun c_13 => ?_)
    · replace hf := ite_t hf c_13
      refine lv_aload_n hx hb dX3_leadMore_28 rfl (lv_at hl 2 rfl) ?_
      refine lv_iload_n hx hb dX3_leadMore_29 rfl (lv_at hl 1 rfl) ?_
      refine lv_iload_n hx hb dX3_leadMore_30 rfl (lv_at hl 0 rfl) ?_
      obtain ⟨S_16, h_14, hf⟩ := ob_at hf
      refine qk3_moveTo E hw (mk3_moveTo E.hD h_14) wl617 dX3_leadMore_31 ⟨Nat.le_of_ble_eq_true rfl, Nat.le_of_ble_eq_true rfl⟩ hl.1 (Nat.le_of_ble_eq_true rfl) ⟨Nat.le_refl 0, Nat.le_refl 0⟩ (fun H locs hw => ?_)
      refine lv_aload_n hx hb dX3_leadMore_34 rfl (lv_at hl 2 rfl) ?_
      refine lv_dup hx hb dX3_leadMore_35 rfl ?_
      refine gK_7_2 E hw (E.hts _ wl241) dX3_leadMore_36 ?_
      refine lv_iload_n hx hb dX3_leadMore_39 rfl (lv_at hl 0 rfl) ?_
      refine lv_iadd hx hb dX3_leadMore_40 ?_
      refine pK_7_2 E hw (E.hts _ wl241) dX3_leadMore_41 (fun S_17 eS_17 H locs hw => ?_)
      replace hf := bnd_at hf eS_17
      refine lv_aload_n hx hb dX3_leadMore_44 rfl (lv_at hl 2 rfl) ?_
      refine lv_dup hx hb dX3_leadMore_45 rfl ?_
      refine gK_7_3 E hw (E.hts _ wl243) dX3_leadMore_46 ?_
      refine lv_iload_n hx hb dX3_leadMore_49 rfl (lv_at hl 0 rfl) ?_
      refine lv_aload_n hx hb dX3_leadMore_50 rfl (lv_at hl 2 rfl) ?_
      refine gK_7_7 E hw (E.hts _ wl248) dX3_leadMore_51 ?_
      refine lv_iload_n hx hb dX3_leadMore_54 rfl (lv_at hl 1 rfl) ?_
      obtain ⟨h_v_18, hf⟩ := rdA_at hf
      refine lK_33 E hw h_v_18 dX3_leadMore_55 (fun v_18 ev_18 => ?_)
      replace hf := hf v_18 ev_18
      refine lv_imul hx hb dX3_leadMore_56 ?_
      refine lv_iadd hx hb dX3_leadMore_57 ?_
      refine pK_7_3 E hw (E.hts _ wl243) dX3_leadMore_58 (fun S_19 eS_19 H locs hw => ?_)
      replace hf := bnd_at hf eS_19
      refine lv_iconst hx hb dX3_leadMore_61 ic_1 ?_
      cases hf
      exact retK_z E hw nb1 dX3_leadMore_62
    · replace hf := ite_f hf c_13
      refine lv_iconst hx hb dX3_leadMore_26 ic_0 ?_
      cases hf
      exact retK_z E hw nb0 dX3_leadMore_27
  · replace hf := ite_t hf c_8
    refine lv_iconst hx hb dX3_leadMore_14 ic_0 ?_
    cases hf
    exact retK_z E hw nb0 dX3_leadMore_15
theorem qk3_leadMore {p : Program} {l : Launch} {e : Env} {R : Room} {s : State} {m : MethodId} {args : Array Value} {below : List Frame} {meth : Method} {c : Code} {H : Heap} {locs : List Loc} {cells slots : Nat} {Q : State → Prop} {cc : ByteArray} {pc : Nat} {ls : Array Slot} {rest : List Value} {D : va_G} {a : Nat → Nat} {g : Nat → ClassId} {nL : Nat} {own : String} {ret : Option FieldType} {S S1 : SS} {k : Nat} {r : Int32} (E : EK p s m args meth c D a g cc nL own ret) (hw : WK D a g S s H locs) (hM : Met l yX3_leadMore (wsm yX3_leadMore cX3_leadMore 3 (some .boolean)) (RM k) (PK D a g S [.ref (a 7)]) (QK D a g (some (.int r)) S1) 0 0 (AK a)) {idx : Nat} (hlk : Cond.methodLink own idx yX3_leadMore ∈ wd) (hdg : decode cc pc = .ok (.invokevirtual idx, 3)) (hR : k + 1 ≤ R.frames ∧ 8 + (3 + 11) + 64 * k ≤ R.locals) (hls : ls.size = nL) (hrest : (rest.map fun v => v.category).sum ≤ 8) (hcs : cells ≤ R.cells ∧ slots ≤ R.slots) (kk : ∀ (H1 : Heap) (locs1 : List Loc), WK D a g S1 s H1 locs1 → W p l e R s m args below meth c H1 locs1 cells slots Q (F0 m (pc + 3) ls (.int r :: rest))) : W p l e R s m args below meth c H locs cells slots Q (F0 m pc ls (.ref (a 7) :: rest)) :=
  callK_i hw (va_runV (As := []) (rest := rest) ⟨E.hx, E.hb, E.hml, E.hown, E.hts⟩ hM ⟨cb_of 0 E.hts wl587 wl43 hlk (by decide +kernel) hR, E.hts _ wl586, E.hts _ wl13⟩ ⟨PK_blind, va_recv E.hK hw.1 (ci := 3) (q0 := 7) rfl rfl, PK_pre E.hK E.hN hw.1⟩ rfl rfl hls rfl (lv_room hrest) hdg hcs) kk
/-! X3_solve -/
def k3_solve_B14 (F : Nat) (rec14 : SS → Int32 → Option SS) (S : SS) (x1 : Int32) : Option SS :=
  if ((108 : Int32)) ≤ x1 then (bnd (st S 7 9 ((1 : Int32))) fun S_7 => some S_7) else (ob2 (k3_leadMore F S ) fun r_9 S_10 => if r_9 = 0 then (bnd (st S_10 7 9 ((1 : Int32))) fun S_12 => some S_12) else (bnd (x1 + (1)) fun x1_13 => rec14 S_10 (x1_13)))
def k3_solve (F : Nat) (S : SS) : Option SS :=
  if (S 7 9) = 0 then ((k3_stayAtHome F S ).bind fun S_4 => bnd ((0 : Int32)) fun x1_5 => lpN (fun _ _ => none) (fun rec14 => k3_solve_B14 F rec14 ) F S_4 (x1_5)) else (some S)
set_option maxRecDepth 100000 in
set_option maxHeartbeats 4000000 in
theorem k3_solve_b14 {p : Program} {l : Launch} {e : Env} {s : State} {m : MethodId} {args : Array Value} {below : List Frame} {meth : Method} {c : Code} {D : va_G} {a : Nat → Nat} {g : Nat → ClassId} (E : EK p s m args meth c D a g cX3_solve 2 RX3 none) {F : Nat}  {rec14 : SS → Int32 → Option SS} {out : SS} (hrec14 : ∀ (S : SS) (x1 : Int32) (H : Heap) (locs : List Loc) (ls : Array Slot), rec14 S x1 = some out → WK D a g S s H locs → lv_has ls 2 [(0, .ref (a 7)), (1, .int (x1))] → W p l e (RM 6) s m args below meth c H locs 0 0 (MQ below (QK D a g none out) args s 0 0 (AK a)) (F0 m 14 ls []))  (S : SS) (x1 : Int32) (H : Heap) (locs : List Loc) (ls : Array Slot) (hf : k3_solve_B14 F rec14 S x1 = some out) (hw : WK D a g S s H locs) (hl : lv_has ls 2 [(0, .ref (a 7)), (1, .int (x1))]) : W p l e (RM 6) s m args below meth c H locs 0 0 (MQ below (QK D a g none out) args s 0 0 (AK a)) (F0 m 14 ls []) := by
  have hx := E.hx
  have hb := E.hb
  unfold k3_solve_B14 at hf
  refine lv_iload_n hx hb dX3_solve_14 rfl (lv_at hl 1 rfl) ?_
  refine lv_bipush hx hb dX3_solve_15 bp_108 ?_
  refine lv_icmp_ge (tgt := 33) hx hb dX3_solve_17 (by decide) (fun c_6 => ?_) (fun c_6 => ?_)
  · replace hf := ite_t hf c_6
    refine lv_aload_n hx hb dX3_solve_33 rfl (lv_at hl 0 rfl) ?_
    refine lv_iconst hx hb dX3_solve_34 ic_1 ?_
    refine pK_7_9 E hw nb1 fb1 (E.hts _ wl250) dX3_solve_35 (fun S_7 eS_7 H locs hw => ?_)
    replace hf := bnd_at hf eS_7
    cases hf
    exact retK_v E hw dX3_solve_38
  · replace hf := ite_f hf c_6
    refine lv_aload_n hx hb dX3_solve_20 rfl (lv_at hl 0 rfl) ?_
    obtain ⟨r_9, S_10, h_8, hf⟩ := ob2_at hf
    refine qk3_leadMore E hw (mk3_leadMore E.hD h_8) wl584 dX3_solve_21 ⟨Nat.le_of_ble_eq_true rfl, Nat.le_of_ble_eq_true rfl⟩ hl.1 (Nat.le_of_ble_eq_true rfl) ⟨Nat.le_refl 0, Nat.le_refl 0⟩ (fun H locs hw => ?_)
    refine lv_if_eq (tgt := 33) hx hb dX3_solve_24 (by decide) (fun c_11 => ?_) (fun c_11 => ?_)
    · replace hf := ite_t hf c_11
      refine lv_aload_n hx hb dX3_solve_33 rfl (lv_at hl 0 rfl) ?_
      refine lv_iconst hx hb dX3_solve_34 ic_1 ?_
      refine pK_7_9 E hw nb1 fb1 (E.hts _ wl250) dX3_solve_35 (fun S_12 eS_12 H locs hw => ?_)
      replace hf := bnd_at hf eS_12
      cases hf
      exact retK_v E hw dX3_solve_38
    · replace hf := ite_f hf c_11
      obtain ⟨x1_13, ex1_13⟩ : ∃ y : Int32, y = x1 + (1) := ⟨_, rfl⟩
      replace hf := bnd_at hf ex1_13
      refine lv_iinc (v := x1_13) (lv' := [(1, .int (x1_13)), (0, .ref (a 7))]) hx hb dX3_solve_27 hl (k := 1) rfl (by rw [ex1_13]; rfl) (by decide) rfl (fun ls hl => ?_)
      refine lv_goto (tgt := 14) hx hb dX3_solve_30 (by decide) ?_
      exact hrec14 S_10 (x1_13) _ _ ls hf hw (lv_sub hl [1, 0] rfl)
theorem k3_solve_l14 {p : Program} {l : Launch} {e : Env} {s : State} {m : MethodId} {args : Array Value} {below : List Frame} {meth : Method} {c : Code} {D : va_G} {a : Nat → Nat} {g : Nat → ClassId} (E : EK p s m args meth c D a g cX3_solve 2 RX3 none) {F : Nat}  {out : SS}  : ∀ (n : Nat) (S : SS) (x1 : Int32) (H : Heap) (locs : List Loc) (ls : Array Slot), lpN (fun _ _ => none) (fun rec14 => k3_solve_B14 F rec14) n S x1 = some out → WK D a g S s H locs → lv_has ls 2 [(0, .ref (a 7)), (1, .int (x1))] → W p l e (RM 6) s m args below meth c H locs 0 0 (MQ below (QK D a g none out) args s 0 0 (AK a)) (F0 m 14 ls []) := by
  intro n
  induction n with
  | zero => intro S x1 H locs ls hf; cases (show (none : Option SS) = some out from hf)
  | succ n ih => intro S x1 H locs ls hf hw hl; exact k3_solve_b14 E (F := F) ih S x1 H locs ls hf hw hl
set_option maxRecDepth 100000 in
set_option maxHeartbeats 4000000 in
theorem mk3_solve {l : Launch} {D : va_G} {a : Nat → Nat} {g : Nat → ClassId} (hD : ∀ S, va_D (AK a) (wK a g S)) {F : Nat} {S : SS} {out : SS} (hf : k3_solve F S  = some out) : Met l yX3_solve (wsm yX3_solve cX3_solve 2 none) (RM 6) (PK D a g S [.ref (a 7)]) (QK D a g none out) 0 0 (AK a) := by
  refine Met.ofW (cc := cX3_solve) (maxL := 2) (ret := none) (by decide) rfl ?_
  intro p e s m args below meth c s₁ B hml hv
  obtain ⟨rfl, hP, hK, hN⟩ := hv
  have hts := atoms_spec (ws := wsm yX3_solve cX3_solve 2 none) B.pre
  have E : EK p s m _ meth c D a g cX3_solve 2 RX3 none := ⟨B.exec, B.bytes, B.returns, hml, findClass_of_methodNamed B.named, fun w h => hts w (List.mem_cons_of_mem _ h), hK, hN, hD, B.notSynchronized⟩
  have hx := E.hx
  have hb := E.hb
  have hw : WK D a g S s s.heap [] := ⟨hP, va_S.rf⟩
  have hl := lv_entry ([.ref (a 7)]) (n := 2) (Nat.le_of_ble_eq_true rfl)
  rw [lg_entry_eq]
  generalize (lg_sl ([.ref (a 7)]) ++ List.replicate (2 - (lg_sl ([.ref (a 7)])).length) Slot.unset).toArray = ls at hl ⊢
  have hl : lv_has ls 2 [(0, .ref (a 7))] := hl
  show W p l e (RM 6) s m _ below meth c s.heap [] 0 0 (MQ below (QK D a g none out) _ s 0 0 (AK a)) (F0 m 0 ls [])
  unfold k3_solve at hf
  refine lv_aload_n hx hb dX3_solve_0 rfl (lv_at hl 0 rfl) ?_
  refine gK_7_9 E hw (E.hts _ wl250) dX3_solve_1 ?_
  refine lv_if_eq (tgt := 8) hx hb dX3_solve_4 (by decide) (fun c_1 => ?_) (fun c_1 => ?_)
  · replace hf := ite_t hf c_1
    refine lv_aload_n hx hb dX3_solve_8 rfl (lv_at hl 0 rfl) ?_
    obtain ⟨S_4, h_2, hf⟩ := ob_at hf
    refine qk3_stayAtHome E hw (mk3_stayAtHome E.hD h_2) wl578 dX3_solve_9 ⟨Nat.le_of_ble_eq_true rfl, Nat.le_of_ble_eq_true rfl⟩ hl.1 (Nat.le_of_ble_eq_true rfl) ⟨Nat.le_refl 0, Nat.le_refl 0⟩ (fun H locs hw => ?_)
    refine lv_iconst hx hb dX3_solve_12 ic_0 ?_
    refine lv_topi (fun x1_5 ex1_5 => ?_)
    replace hf := bnd_at hf ex1_5
    refine lv_istore_n (lv' := [(1, .int (x1_5)), (0, .ref (a 7))]) hx hb dX3_solve_13 rfl hl (by decide) rfl (fun ls hl => ?_)
    refine k3_solve_l14 E  F S_4 (x1_5) _ _ ls hf hw (lv_sub hl [1, 0] rfl)
  · replace hf := ite_f hf c_1
    cases hf
    exact retK_v E hw dX3_solve_7
theorem qk3_solve {p : Program} {l : Launch} {e : Env} {R : Room} {s : State} {m : MethodId} {args : Array Value} {below : List Frame} {meth : Method} {c : Code} {H : Heap} {locs : List Loc} {cells slots : Nat} {Q : State → Prop} {cc : ByteArray} {pc : Nat} {ls : Array Slot} {rest : List Value} {D : va_G} {a : Nat → Nat} {g : Nat → ClassId} {nL : Nat} {own : String} {ret : Option FieldType} {S S1 : SS} {k : Nat} (E : EK p s m args meth c D a g cc nL own ret) (hw : WK D a g S s H locs) (hM : Met l yX3_solve (wsm yX3_solve cX3_solve 2 none) (RM k) (PK D a g S [.ref (a 7)]) (QK D a g none S1) 0 0 (AK a)) {idx : Nat} (hlk : Cond.methodLink own idx yX3_solve ∈ wd) (hdg : decode cc pc = .ok (.invokevirtual idx, 3)) (hR : k + 1 ≤ R.frames ∧ 8 + (2 + 11) + 64 * k ≤ R.locals) (hls : ls.size = nL) (hrest : (rest.map fun v => v.category).sum ≤ 8) (hcs : cells ≤ R.cells ∧ slots ≤ R.slots) (kk : ∀ (H1 : Heap) (locs1 : List Loc), WK D a g S1 s H1 locs1 → W p l e R s m args below meth c H1 locs1 cells slots Q (F0 m (pc + 3) ls (rest))) : W p l e R s m args below meth c H locs cells slots Q (F0 m pc ls (.ref (a 7) :: rest)) :=
  callK_v hw (va_runV (As := []) (rest := rest) ⟨E.hx, E.hb, E.hml, E.hown, E.hts⟩ hM ⟨cb_of 0 E.hts wl577 wl43 hlk (by decide +kernel) hR, E.hts _ wl575, E.hts _ wl576⟩ ⟨PK_blind, va_recv E.hK hw.1 (ci := 3) (q0 := 7) rfl rfl, PK_pre E.hK E.hN hw.1⟩ rfl rfl hls rfl (lv_room hrest) hdg hcs) kk
/-! X7_met -/
def k7_met (F : Nat) (S : SS) : Option (Int32 × SS) :=
  (k3_solve F S ).bind fun S_3 => some (S_3 7 2, S_3)
set_option maxRecDepth 100000 in
set_option maxHeartbeats 4000000 in
theorem mk7_met {l : Launch} {D : va_G} {a : Nat → Nat} {g : Nat → ClassId} (hD : ∀ S, va_D (AK a) (wK a g S)) {F : Nat} {S : SS} {out : (Int32 × SS)} (hf : k7_met F S  = some out) : Met l yX7_met (wsm yX7_met cX7_met 1 (some .int)) (RM 7) (PK D a g S [.ref (a 0)]) (QK D a g (some (.int out.1)) out.2) 0 0 (AK a) := by
  refine Met.ofW (cc := cX7_met) (maxL := 1) (ret := (some .int)) (by decide) rfl ?_
  intro p e s m args below meth c s₁ B hml hv
  obtain ⟨rfl, hP, hK, hN⟩ := hv
  have hts := atoms_spec (ws := wsm yX7_met cX7_met 1 (some .int)) B.pre
  have E : EK p s m _ meth c D a g cX7_met 1 RX7 (some .int) := ⟨B.exec, B.bytes, B.returns, hml, findClass_of_methodNamed B.named, fun w h => hts w (List.mem_cons_of_mem _ h), hK, hN, hD, B.notSynchronized⟩
  have hx := E.hx
  have hb := E.hb
  have hw : WK D a g S s s.heap [] := ⟨hP, va_S.rf⟩
  have hl := lv_entry ([.ref (a 0)]) (n := 1) (Nat.le_of_ble_eq_true rfl)
  rw [lg_entry_eq]
  generalize (lg_sl ([.ref (a 0)]) ++ List.replicate (1 - (lg_sl ([.ref (a 0)])).length) Slot.unset).toArray = ls at hl ⊢
  have hl : lv_has ls 1 [(0, .ref (a 0))] := hl
  show W p l e (RM 7) s m _ below meth c s.heap [] 0 0 (MQ below (QK D a g (some (.int out.1)) out.2) _ s 0 0 (AK a)) (F0 m 0 ls [])
  unfold k7_met at hf
  refine lv_aload_n hx hb dX7_met_0 rfl (lv_at hl 0 rfl) ?_
  refine gK_0_6 E hw (E.hts _ wl278) dX7_met_1 ?_
  obtain ⟨S_3, h_1, hf⟩ := ob_at hf
  refine qk3_solve E hw (mk3_solve E.hD h_1) wl574 dX7_met_4 ⟨Nat.le_of_ble_eq_true rfl, Nat.le_of_ble_eq_true rfl⟩ hl.1 (Nat.le_of_ble_eq_true rfl) ⟨Nat.le_refl 0, Nat.le_refl 0⟩ (fun H locs hw => ?_)
  refine lv_aload_n hx hb dX7_met_7 rfl (lv_at hl 0 rfl) ?_
  refine gK_0_6 E hw (E.hts _ wl278) dX7_met_8 ?_
  refine gK_7_2 E hw (E.hts _ wl242) dX7_met_11 ?_
  cases hf
  exact retK_i E hw dX7_met_14
theorem qk7_met {p : Program} {l : Launch} {e : Env} {R : Room} {s : State} {m : MethodId} {args : Array Value} {below : List Frame} {meth : Method} {c : Code} {H : Heap} {locs : List Loc} {cells slots : Nat} {Q : State → Prop} {cc : ByteArray} {pc : Nat} {ls : Array Slot} {rest : List Value} {D : va_G} {a : Nat → Nat} {g : Nat → ClassId} {nL : Nat} {own : String} {ret : Option FieldType} {S S1 : SS} {k : Nat} {r : Int32} (E : EK p s m args meth c D a g cc nL own ret) (hw : WK D a g S s H locs) (hM : Met l yX7_met (wsm yX7_met cX7_met 1 (some .int)) (RM k) (PK D a g S [.ref (a 0)]) (QK D a g (some (.int r)) S1) 0 0 (AK a)) {idx : Nat} (hlk : Cond.methodLink own idx yX7_met ∈ wd) (hdg : decode cc pc = .ok (.invokevirtual idx, 3)) (hR : k + 1 ≤ R.frames ∧ 8 + (1 + 11) + 64 * k ≤ R.locals) (hls : ls.size = nL) (hrest : (rest.map fun v => v.category).sum ≤ 8) (hcs : cells ≤ R.cells ∧ slots ≤ R.slots) (kk : ∀ (H1 : Heap) (locs1 : List Loc), WK D a g S1 s H1 locs1 → W p l e R s m args below meth c H1 locs1 cells slots Q (F0 m (pc + 3) ls (.int r :: rest))) : W p l e R s m args below meth c H locs cells slots Q (F0 m pc ls (.ref (a 0) :: rest)) :=
  callK_i hw (va_runV (As := []) (rest := rest) ⟨E.hx, E.hb, E.hml, E.hown, E.hts⟩ hM ⟨cb_of 0 E.hts wl573 wl35 hlk (by decide +kernel) hR, E.hts _ wl571, E.hts _ wl572⟩ ⟨PK_blind, va_recv E.hK hw.1 (ci := 7) (q0 := 0) rfl rfl, PK_pre E.hK E.hN hw.1⟩ rfl rfl hls rfl (lv_room hrest) hdg hcs) kk
/-! X7_led -/
def k7_led (F : Nat) (S : SS) : Option (Int32 × SS) :=
  (k3_solve F S ).bind fun S_3 => some (S_3 7 3, S_3)
set_option maxRecDepth 100000 in
set_option maxHeartbeats 4000000 in
theorem mk7_led {l : Launch} {D : va_G} {a : Nat → Nat} {g : Nat → ClassId} (hD : ∀ S, va_D (AK a) (wK a g S)) {F : Nat} {S : SS} {out : (Int32 × SS)} (hf : k7_led F S  = some out) : Met l yX7_led (wsm yX7_led cX7_led 1 (some .int)) (RM 7) (PK D a g S [.ref (a 0)]) (QK D a g (some (.int out.1)) out.2) 0 0 (AK a) := by
  refine Met.ofW (cc := cX7_led) (maxL := 1) (ret := (some .int)) (by decide) rfl ?_
  intro p e s m args below meth c s₁ B hml hv
  obtain ⟨rfl, hP, hK, hN⟩ := hv
  have hts := atoms_spec (ws := wsm yX7_led cX7_led 1 (some .int)) B.pre
  have E : EK p s m _ meth c D a g cX7_led 1 RX7 (some .int) := ⟨B.exec, B.bytes, B.returns, hml, findClass_of_methodNamed B.named, fun w h => hts w (List.mem_cons_of_mem _ h), hK, hN, hD, B.notSynchronized⟩
  have hx := E.hx
  have hb := E.hb
  have hw : WK D a g S s s.heap [] := ⟨hP, va_S.rf⟩
  have hl := lv_entry ([.ref (a 0)]) (n := 1) (Nat.le_of_ble_eq_true rfl)
  rw [lg_entry_eq]
  generalize (lg_sl ([.ref (a 0)]) ++ List.replicate (1 - (lg_sl ([.ref (a 0)])).length) Slot.unset).toArray = ls at hl ⊢
  have hl : lv_has ls 1 [(0, .ref (a 0))] := hl
  show W p l e (RM 7) s m _ below meth c s.heap [] 0 0 (MQ below (QK D a g (some (.int out.1)) out.2) _ s 0 0 (AK a)) (F0 m 0 ls [])
  unfold k7_led at hf
  refine lv_aload_n hx hb dX7_led_0 rfl (lv_at hl 0 rfl) ?_
  refine gK_0_6 E hw (E.hts _ wl278) dX7_led_1 ?_
  obtain ⟨S_3, h_1, hf⟩ := ob_at hf
  refine qk3_solve E hw (mk3_solve E.hD h_1) wl574 dX7_led_4 ⟨Nat.le_of_ble_eq_true rfl, Nat.le_of_ble_eq_true rfl⟩ hl.1 (Nat.le_of_ble_eq_true rfl) ⟨Nat.le_refl 0, Nat.le_refl 0⟩ (fun H locs hw => ?_)
  refine lv_aload_n hx hb dX7_led_7 rfl (lv_at hl 0 rfl) ?_
  refine gK_0_6 E hw (E.hts _ wl278) dX7_led_8 ?_
  refine gK_7_3 E hw (E.hts _ wl244) dX7_led_11 ?_
  cases hf
  exact retK_i E hw dX7_led_14
theorem qk7_led {p : Program} {l : Launch} {e : Env} {R : Room} {s : State} {m : MethodId} {args : Array Value} {below : List Frame} {meth : Method} {c : Code} {H : Heap} {locs : List Loc} {cells slots : Nat} {Q : State → Prop} {cc : ByteArray} {pc : Nat} {ls : Array Slot} {rest : List Value} {D : va_G} {a : Nat → Nat} {g : Nat → ClassId} {nL : Nat} {own : String} {ret : Option FieldType} {S S1 : SS} {k : Nat} {r : Int32} (E : EK p s m args meth c D a g cc nL own ret) (hw : WK D a g S s H locs) (hM : Met l yX7_led (wsm yX7_led cX7_led 1 (some .int)) (RM k) (PK D a g S [.ref (a 0)]) (QK D a g (some (.int r)) S1) 0 0 (AK a)) {idx : Nat} (hlk : Cond.methodLink own idx yX7_led ∈ wd) (hdg : decode cc pc = .ok (.invokevirtual idx, 3)) (hR : k + 1 ≤ R.frames ∧ 8 + (1 + 11) + 64 * k ≤ R.locals) (hls : ls.size = nL) (hrest : (rest.map fun v => v.category).sum ≤ 8) (hcs : cells ≤ R.cells ∧ slots ≤ R.slots) (kk : ∀ (H1 : Heap) (locs1 : List Loc), WK D a g S1 s H1 locs1 → W p l e R s m args below meth c H1 locs1 cells slots Q (F0 m (pc + 3) ls (.int r :: rest))) : W p l e R s m args below meth c H locs cells slots Q (F0 m pc ls (.ref (a 0) :: rest)) :=
  callK_i hw (va_runV (As := []) (rest := rest) ⟨E.hx, E.hb, E.hml, E.hown, E.hts⟩ hM ⟨cb_of 0 E.hts wl624 wl35 hlk (by decide +kernel) hR, E.hts _ wl622, E.hts _ wl623⟩ ⟨PK_blind, va_recv E.hK hw.1 (ci := 7) (q0 := 0) rfl rfl, PK_pre E.hK E.hN hw.1⟩ rfl rfl hls rfl (lv_room hrest) hdg hcs) kk
/-! X7_sumOf[30] -/
def k7_sumOf_30_B4 (F : Nat) (S : SS) (rec4 : Int32 → Int32 → Option Int32) (x1 : Int32) (x2 : Int32) : Option Int32 :=
  if ((12 : Int32)) ≤ x2 then (some (x1)) else ((rdA 12 (S 30) x2).bind fun v_4 => bnd (x1 + v_4) fun x1_5 => bnd (x2 + (1)) fun x2_6 => rec4 (x1_5) (x2_6))
def k7_sumOf_30 (F : Nat) (S : SS) : Option Int32 :=
  bnd ((0 : Int32)) fun x1_1 => bnd ((0 : Int32)) fun x2_2 => lpN (fun _ _ => none) (fun rec4 => k7_sumOf_30_B4 F S rec4 ) F (x1_1) (x2_2)
set_option maxRecDepth 100000 in
set_option maxHeartbeats 4000000 in
theorem k7_sumOf_30_b4 {p : Program} {l : Launch} {e : Env} {s : State} {m : MethodId} {args : Array Value} {below : List Frame} {meth : Method} {c : Code} {D : va_G} {a : Nat → Nat} {g : Nat → ClassId} (E : EK p s m args meth c D a g cX7_sumOf 3 RX7 (some .int)) {F : Nat}  (S : SS) {rec4 : Int32 → Int32 → Option Int32} {out : Int32} (hrec4 : ∀ (x1 : Int32) (x2 : Int32) (H : Heap) (locs : List Loc) (ls : Array Slot), rec4 x1 x2 = some out → WK D a g S s H locs → lv_has ls 3 [(0, .ref (a 30)), (1, .int (x1)), (2, .int (x2))] → W p l e (RM 1) s m args below meth c H locs 0 0 (MQ below (QK D a g (some (.int out)) S) args s 0 0 (AK a)) (F0 m 4 ls []))  (x1 : Int32) (x2 : Int32) (H : Heap) (locs : List Loc) (ls : Array Slot) (hf : k7_sumOf_30_B4 F S rec4 x1 x2 = some out) (hw : WK D a g S s H locs) (hl : lv_has ls 3 [(0, .ref (a 30)), (1, .int (x1)), (2, .int (x2))]) : W p l e (RM 1) s m args below meth c H locs 0 0 (MQ below (QK D a g (some (.int out)) S) args s 0 0 (AK a)) (F0 m 4 ls []) := by
  have hx := E.hx
  have hb := E.hb
  unfold k7_sumOf_30_B4 at hf
  refine lv_iload_n hx hb dX7_sumOf_4 rfl (lv_at hl 2 rfl) ?_
  refine lv_aload_n hx hb dX7_sumOf_5 rfl (lv_at hl 0 rfl) ?_
  refine va_alen hx hb E.hK hw.1 30 22 rfl rfl (v := 12) rfl dX7_sumOf_6 ?_
  refine lv_icmp_ge (tgt := 22) hx hb dX7_sumOf_7 (by decide) (fun c_3 => ?_) (fun c_3 => ?_)
  · replace hf := ite_t hf c_3
    refine lv_iload_n hx hb dX7_sumOf_22 rfl (lv_at hl 1 rfl) ?_
    cases hf
    exact retK_i E hw dX7_sumOf_23
  · replace hf := ite_f hf c_3
    refine lv_iload_n hx hb dX7_sumOf_10 rfl (lv_at hl 1 rfl) ?_
    refine lv_aload_n hx hb dX7_sumOf_11 rfl (lv_at hl 0 rfl) ?_
    refine lv_iload_n hx hb dX7_sumOf_12 rfl (lv_at hl 2 rfl) ?_
    obtain ⟨h_v_4, hf⟩ := rdA_at hf
    refine lK_30 E hw h_v_4 dX7_sumOf_13 (fun v_4 ev_4 => ?_)
    replace hf := hf v_4 ev_4
    refine lv_iadd hx hb dX7_sumOf_14 ?_
    refine lv_topi (fun x1_5 ex1_5 => ?_)
    replace hf := bnd_at hf ex1_5
    refine lv_istore_n (lv' := [(1, .int (x1_5)), (0, .ref (a 30)), (2, .int (x2))]) hx hb dX7_sumOf_15 rfl hl (by decide) rfl (fun ls hl => ?_)
    obtain ⟨x2_6, ex2_6⟩ : ∃ y : Int32, y = x2 + (1) := ⟨_, rfl⟩
    replace hf := bnd_at hf ex2_6
    refine lv_iinc (v := x2_6) (lv' := [(2, .int (x2_6)), (1, .int (x1_5)), (0, .ref (a 30))]) hx hb dX7_sumOf_16 hl (k := 2) rfl (by rw [ex2_6]; rfl) (by decide) rfl (fun ls hl => ?_)
    refine lv_goto (tgt := 4) hx hb dX7_sumOf_19 (by decide) ?_
    exact hrec4 (x1_5) (x2_6) _ _ ls hf hw (lv_sub hl [2, 1, 0] rfl)
theorem k7_sumOf_30_l4 {p : Program} {l : Launch} {e : Env} {s : State} {m : MethodId} {args : Array Value} {below : List Frame} {meth : Method} {c : Code} {D : va_G} {a : Nat → Nat} {g : Nat → ClassId} (E : EK p s m args meth c D a g cX7_sumOf 3 RX7 (some .int)) {F : Nat}  (S : SS) {out : Int32}  : ∀ (n : Nat) (x1 : Int32) (x2 : Int32) (H : Heap) (locs : List Loc) (ls : Array Slot), lpN (fun _ _ => none) (fun rec4 => k7_sumOf_30_B4 F S rec4) n x1 x2 = some out → WK D a g S s H locs → lv_has ls 3 [(0, .ref (a 30)), (1, .int (x1)), (2, .int (x2))] → W p l e (RM 1) s m args below meth c H locs 0 0 (MQ below (QK D a g (some (.int out)) S) args s 0 0 (AK a)) (F0 m 4 ls []) := by
  intro n
  induction n with
  | zero => intro x1 x2 H locs ls hf; cases (show (none : Option Int32) = some out from hf)
  | succ n ih => intro x1 x2 H locs ls hf hw hl; exact k7_sumOf_30_b4 E (F := F) S ih x1 x2 H locs ls hf hw hl
set_option maxRecDepth 100000 in
set_option maxHeartbeats 4000000 in
theorem mk7_sumOf_30 {l : Launch} {D : va_G} {a : Nat → Nat} {g : Nat → ClassId} (hD : ∀ S, va_D (AK a) (wK a g S)) {F : Nat} {S : SS} {out : Int32} (hf : k7_sumOf_30 F S  = some out) : Met l yX7_sumOf (wsm yX7_sumOf cX7_sumOf 3 (some .int)) (RM 1) (PK D a g S [.ref (a 30)]) (QK D a g (some (.int out)) S) 0 0 (AK a) := by
  refine Met.ofW (cc := cX7_sumOf) (maxL := 3) (ret := (some .int)) (by decide) rfl ?_
  intro p e s m args below meth c s₁ B hml hv
  obtain ⟨rfl, hP, hK, hN⟩ := hv
  have hts := atoms_spec (ws := wsm yX7_sumOf cX7_sumOf 3 (some .int)) B.pre
  have E : EK p s m _ meth c D a g cX7_sumOf 3 RX7 (some .int) := ⟨B.exec, B.bytes, B.returns, hml, findClass_of_methodNamed B.named, fun w h => hts w (List.mem_cons_of_mem _ h), hK, hN, hD, B.notSynchronized⟩
  have hx := E.hx
  have hb := E.hb
  have hw : WK D a g S s s.heap [] := ⟨hP, va_S.rf⟩
  have hl := lv_entry ([.ref (a 30)]) (n := 3) (Nat.le_of_ble_eq_true rfl)
  rw [lg_entry_eq]
  generalize (lg_sl ([.ref (a 30)]) ++ List.replicate (3 - (lg_sl ([.ref (a 30)])).length) Slot.unset).toArray = ls at hl ⊢
  have hl : lv_has ls 3 [(0, .ref (a 30))] := hl
  show W p l e (RM 1) s m _ below meth c s.heap [] 0 0 (MQ below (QK D a g (some (.int out)) S) _ s 0 0 (AK a)) (F0 m 0 ls [])
  unfold k7_sumOf_30 at hf
  refine lv_iconst hx hb dX7_sumOf_0 ic_0 ?_
  refine lv_topi (fun x1_1 ex1_1 => ?_)
  replace hf := bnd_at hf ex1_1
  refine lv_istore_n (lv' := [(1, .int (x1_1)), (0, .ref (a 30))]) hx hb dX7_sumOf_1 rfl hl (by decide) rfl (fun ls hl => ?_)
  refine lv_iconst hx hb dX7_sumOf_2 ic_0 ?_
  refine lv_topi (fun x2_2 ex2_2 => ?_)
  replace hf := bnd_at hf ex2_2
  refine lv_istore_n (lv' := [(2, .int (x2_2)), (1, .int (x1_1)), (0, .ref (a 30))]) hx hb dX7_sumOf_3 rfl hl (by decide) rfl (fun ls hl => ?_)
  refine k7_sumOf_30_l4 E S  F (x1_1) (x2_2) _ _ ls hf hw (lv_sub hl [2, 1, 0] rfl)
theorem qk7_sumOf_30 {p : Program} {l : Launch} {e : Env} {R : Room} {s : State} {m : MethodId} {args : Array Value} {below : List Frame} {meth : Method} {c : Code} {H : Heap} {locs : List Loc} {cells slots : Nat} {Q : State → Prop} {cc : ByteArray} {pc : Nat} {ls : Array Slot} {rest : List Value} {D : va_G} {a : Nat → Nat} {g : Nat → ClassId} {nL : Nat} {own : String} {ret : Option FieldType} {S S1 : SS} {k : Nat} {r : Int32} (E : EK p s m args meth c D a g cc nL own ret) (hw : WK D a g S s H locs) (hM : Met l yX7_sumOf (wsm yX7_sumOf cX7_sumOf 3 (some .int)) (RM k) (PK D a g S [.ref (a 30)]) (QK D a g (some (.int r)) S1) 0 0 (AK a)) {idx : Nat} (hlk : Cond.methodLink own idx yX7_sumOf ∈ wd) (hdg : decode cc pc = .ok (.invokestatic idx, 3)) (hR : k + 1 ≤ R.frames ∧ 8 + (3 + 11) + 64 * k ≤ R.locals) (hls : ls.size = nL) (hrest : (rest.map fun v => v.category).sum ≤ 8) (hcs : cells ≤ R.cells ∧ slots ≤ R.slots) (kk : ∀ (H1 : Heap) (locs1 : List Loc), WK D a g S1 s H1 locs1 → W p l e R s m args below meth c H1 locs1 cells slots Q (F0 m (pc + 3) ls (.int r :: rest))) : W p l e R s m args below meth c H locs cells slots Q (F0 m pc ls (.ref (a 30) :: rest)) :=
  callK_i hw (va_runS (As := [.ref (a 30)]) (rest := rest) ⟨E.hx, E.hb, E.hml, E.hown, E.hts⟩ hM ⟨cb_of 1 E.hts wl381 wl35 hlk (by decide +kernel) hR, E.hts _ wl380⟩ ⟨PK_blind, PK_pre E.hK E.hN hw.1⟩ rfl rfl hls rfl (lv_room hrest) hdg hcs) kk
/-! X7_sumOf[29] -/
def k7_sumOf_29_B4 (F : Nat) (S : SS) (rec4 : Int32 → Int32 → Option Int32) (x1 : Int32) (x2 : Int32) : Option Int32 :=
  if ((12 : Int32)) ≤ x2 then (some (x1)) else ((rdA 12 (S 29) x2).bind fun v_4 => bnd (x1 + v_4) fun x1_5 => bnd (x2 + (1)) fun x2_6 => rec4 (x1_5) (x2_6))
def k7_sumOf_29 (F : Nat) (S : SS) : Option Int32 :=
  bnd ((0 : Int32)) fun x1_1 => bnd ((0 : Int32)) fun x2_2 => lpN (fun _ _ => none) (fun rec4 => k7_sumOf_29_B4 F S rec4 ) F (x1_1) (x2_2)
set_option maxRecDepth 100000 in
set_option maxHeartbeats 4000000 in
theorem k7_sumOf_29_b4 {p : Program} {l : Launch} {e : Env} {s : State} {m : MethodId} {args : Array Value} {below : List Frame} {meth : Method} {c : Code} {D : va_G} {a : Nat → Nat} {g : Nat → ClassId} (E : EK p s m args meth c D a g cX7_sumOf 3 RX7 (some .int)) {F : Nat}  (S : SS) {rec4 : Int32 → Int32 → Option Int32} {out : Int32} (hrec4 : ∀ (x1 : Int32) (x2 : Int32) (H : Heap) (locs : List Loc) (ls : Array Slot), rec4 x1 x2 = some out → WK D a g S s H locs → lv_has ls 3 [(0, .ref (a 29)), (1, .int (x1)), (2, .int (x2))] → W p l e (RM 1) s m args below meth c H locs 0 0 (MQ below (QK D a g (some (.int out)) S) args s 0 0 (AK a)) (F0 m 4 ls []))  (x1 : Int32) (x2 : Int32) (H : Heap) (locs : List Loc) (ls : Array Slot) (hf : k7_sumOf_29_B4 F S rec4 x1 x2 = some out) (hw : WK D a g S s H locs) (hl : lv_has ls 3 [(0, .ref (a 29)), (1, .int (x1)), (2, .int (x2))]) : W p l e (RM 1) s m args below meth c H locs 0 0 (MQ below (QK D a g (some (.int out)) S) args s 0 0 (AK a)) (F0 m 4 ls []) := by
  have hx := E.hx
  have hb := E.hb
  unfold k7_sumOf_29_B4 at hf
  refine lv_iload_n hx hb dX7_sumOf_4 rfl (lv_at hl 2 rfl) ?_
  refine lv_aload_n hx hb dX7_sumOf_5 rfl (lv_at hl 0 rfl) ?_
  refine va_alen hx hb E.hK hw.1 29 21 rfl rfl (v := 12) rfl dX7_sumOf_6 ?_
  refine lv_icmp_ge (tgt := 22) hx hb dX7_sumOf_7 (by decide) (fun c_3 => ?_) (fun c_3 => ?_)
  · replace hf := ite_t hf c_3
    refine lv_iload_n hx hb dX7_sumOf_22 rfl (lv_at hl 1 rfl) ?_
    cases hf
    exact retK_i E hw dX7_sumOf_23
  · replace hf := ite_f hf c_3
    refine lv_iload_n hx hb dX7_sumOf_10 rfl (lv_at hl 1 rfl) ?_
    refine lv_aload_n hx hb dX7_sumOf_11 rfl (lv_at hl 0 rfl) ?_
    refine lv_iload_n hx hb dX7_sumOf_12 rfl (lv_at hl 2 rfl) ?_
    obtain ⟨h_v_4, hf⟩ := rdA_at hf
    refine lK_29 E hw h_v_4 dX7_sumOf_13 (fun v_4 ev_4 => ?_)
    replace hf := hf v_4 ev_4
    refine lv_iadd hx hb dX7_sumOf_14 ?_
    refine lv_topi (fun x1_5 ex1_5 => ?_)
    replace hf := bnd_at hf ex1_5
    refine lv_istore_n (lv' := [(1, .int (x1_5)), (0, .ref (a 29)), (2, .int (x2))]) hx hb dX7_sumOf_15 rfl hl (by decide) rfl (fun ls hl => ?_)
    obtain ⟨x2_6, ex2_6⟩ : ∃ y : Int32, y = x2 + (1) := ⟨_, rfl⟩
    replace hf := bnd_at hf ex2_6
    refine lv_iinc (v := x2_6) (lv' := [(2, .int (x2_6)), (1, .int (x1_5)), (0, .ref (a 29))]) hx hb dX7_sumOf_16 hl (k := 2) rfl (by rw [ex2_6]; rfl) (by decide) rfl (fun ls hl => ?_)
    refine lv_goto (tgt := 4) hx hb dX7_sumOf_19 (by decide) ?_
    exact hrec4 (x1_5) (x2_6) _ _ ls hf hw (lv_sub hl [2, 1, 0] rfl)
theorem k7_sumOf_29_l4 {p : Program} {l : Launch} {e : Env} {s : State} {m : MethodId} {args : Array Value} {below : List Frame} {meth : Method} {c : Code} {D : va_G} {a : Nat → Nat} {g : Nat → ClassId} (E : EK p s m args meth c D a g cX7_sumOf 3 RX7 (some .int)) {F : Nat}  (S : SS) {out : Int32}  : ∀ (n : Nat) (x1 : Int32) (x2 : Int32) (H : Heap) (locs : List Loc) (ls : Array Slot), lpN (fun _ _ => none) (fun rec4 => k7_sumOf_29_B4 F S rec4) n x1 x2 = some out → WK D a g S s H locs → lv_has ls 3 [(0, .ref (a 29)), (1, .int (x1)), (2, .int (x2))] → W p l e (RM 1) s m args below meth c H locs 0 0 (MQ below (QK D a g (some (.int out)) S) args s 0 0 (AK a)) (F0 m 4 ls []) := by
  intro n
  induction n with
  | zero => intro x1 x2 H locs ls hf; cases (show (none : Option Int32) = some out from hf)
  | succ n ih => intro x1 x2 H locs ls hf hw hl; exact k7_sumOf_29_b4 E (F := F) S ih x1 x2 H locs ls hf hw hl
set_option maxRecDepth 100000 in
set_option maxHeartbeats 4000000 in
theorem mk7_sumOf_29 {l : Launch} {D : va_G} {a : Nat → Nat} {g : Nat → ClassId} (hD : ∀ S, va_D (AK a) (wK a g S)) {F : Nat} {S : SS} {out : Int32} (hf : k7_sumOf_29 F S  = some out) : Met l yX7_sumOf (wsm yX7_sumOf cX7_sumOf 3 (some .int)) (RM 1) (PK D a g S [.ref (a 29)]) (QK D a g (some (.int out)) S) 0 0 (AK a) := by
  refine Met.ofW (cc := cX7_sumOf) (maxL := 3) (ret := (some .int)) (by decide) rfl ?_
  intro p e s m args below meth c s₁ B hml hv
  obtain ⟨rfl, hP, hK, hN⟩ := hv
  have hts := atoms_spec (ws := wsm yX7_sumOf cX7_sumOf 3 (some .int)) B.pre
  have E : EK p s m _ meth c D a g cX7_sumOf 3 RX7 (some .int) := ⟨B.exec, B.bytes, B.returns, hml, findClass_of_methodNamed B.named, fun w h => hts w (List.mem_cons_of_mem _ h), hK, hN, hD, B.notSynchronized⟩
  have hx := E.hx
  have hb := E.hb
  have hw : WK D a g S s s.heap [] := ⟨hP, va_S.rf⟩
  have hl := lv_entry ([.ref (a 29)]) (n := 3) (Nat.le_of_ble_eq_true rfl)
  rw [lg_entry_eq]
  generalize (lg_sl ([.ref (a 29)]) ++ List.replicate (3 - (lg_sl ([.ref (a 29)])).length) Slot.unset).toArray = ls at hl ⊢
  have hl : lv_has ls 3 [(0, .ref (a 29))] := hl
  show W p l e (RM 1) s m _ below meth c s.heap [] 0 0 (MQ below (QK D a g (some (.int out)) S) _ s 0 0 (AK a)) (F0 m 0 ls [])
  unfold k7_sumOf_29 at hf
  refine lv_iconst hx hb dX7_sumOf_0 ic_0 ?_
  refine lv_topi (fun x1_1 ex1_1 => ?_)
  replace hf := bnd_at hf ex1_1
  refine lv_istore_n (lv' := [(1, .int (x1_1)), (0, .ref (a 29))]) hx hb dX7_sumOf_1 rfl hl (by decide) rfl (fun ls hl => ?_)
  refine lv_iconst hx hb dX7_sumOf_2 ic_0 ?_
  refine lv_topi (fun x2_2 ex2_2 => ?_)
  replace hf := bnd_at hf ex2_2
  refine lv_istore_n (lv' := [(2, .int (x2_2)), (1, .int (x1_1)), (0, .ref (a 29))]) hx hb dX7_sumOf_3 rfl hl (by decide) rfl (fun ls hl => ?_)
  refine k7_sumOf_29_l4 E S  F (x1_1) (x2_2) _ _ ls hf hw (lv_sub hl [2, 1, 0] rfl)
theorem qk7_sumOf_29 {p : Program} {l : Launch} {e : Env} {R : Room} {s : State} {m : MethodId} {args : Array Value} {below : List Frame} {meth : Method} {c : Code} {H : Heap} {locs : List Loc} {cells slots : Nat} {Q : State → Prop} {cc : ByteArray} {pc : Nat} {ls : Array Slot} {rest : List Value} {D : va_G} {a : Nat → Nat} {g : Nat → ClassId} {nL : Nat} {own : String} {ret : Option FieldType} {S S1 : SS} {k : Nat} {r : Int32} (E : EK p s m args meth c D a g cc nL own ret) (hw : WK D a g S s H locs) (hM : Met l yX7_sumOf (wsm yX7_sumOf cX7_sumOf 3 (some .int)) (RM k) (PK D a g S [.ref (a 29)]) (QK D a g (some (.int r)) S1) 0 0 (AK a)) {idx : Nat} (hlk : Cond.methodLink own idx yX7_sumOf ∈ wd) (hdg : decode cc pc = .ok (.invokestatic idx, 3)) (hR : k + 1 ≤ R.frames ∧ 8 + (3 + 11) + 64 * k ≤ R.locals) (hls : ls.size = nL) (hrest : (rest.map fun v => v.category).sum ≤ 8) (hcs : cells ≤ R.cells ∧ slots ≤ R.slots) (kk : ∀ (H1 : Heap) (locs1 : List Loc), WK D a g S1 s H1 locs1 → W p l e R s m args below meth c H1 locs1 cells slots Q (F0 m (pc + 3) ls (.int r :: rest))) : W p l e R s m args below meth c H locs cells slots Q (F0 m pc ls (.ref (a 29) :: rest)) :=
  callK_i hw (va_runS (As := [.ref (a 29)]) (rest := rest) ⟨E.hx, E.hb, E.hml, E.hown, E.hts⟩ hM ⟨cb_of 1 E.hts wl381 wl35 hlk (by decide +kernel) hR, E.hts _ wl380⟩ ⟨PK_blind, PK_pre E.hK E.hN hw.1⟩ rfl rfl hls rfl (lv_room hrest) hdg hcs) kk
/-! X7_count -/
def k7_count (F : Nat) (S : SS) (x1 : Int32) : Option Int32 :=
  if x1 = 0 then (some (S 1 5)) else (if x1 = 1 then (some (S 3 2)) else (if x1 = 2 then (some (S 3 7)) else (if x1 = 3 then (some (S 0 9)) else (if x1 = 4 then ((k7_sumOf_29 F S ).bind fun r_6 => some (r_6)) else (if x1 = 5 then ((k7_sumOf_30 F S ).bind fun r_10 => some (r_10)) else (some ((-1 : Int32))))))))
set_option maxRecDepth 100000 in
set_option maxHeartbeats 4000000 in
theorem mk7_count {l : Launch} {D : va_G} {a : Nat → Nat} {g : Nat → ClassId} (hD : ∀ S, va_D (AK a) (wK a g S)) {F : Nat} {S : SS} {x1 : Int32} {out : Int32} (hf : k7_count F S x1 = some out) : Met l yX7_count (wsm yX7_count cX7_count 2 (some .int)) (RM 2) (PK D a g S [.ref (a 0), .int x1]) (QK D a g (some (.int out)) S) 0 0 (AK a) := by
  refine Met.ofW (cc := cX7_count) (maxL := 2) (ret := (some .int)) (by decide) rfl ?_
  intro p e s m args below meth c s₁ B hml hv
  obtain ⟨rfl, hP, hK, hN⟩ := hv
  have hts := atoms_spec (ws := wsm yX7_count cX7_count 2 (some .int)) B.pre
  have E : EK p s m _ meth c D a g cX7_count 2 RX7 (some .int) := ⟨B.exec, B.bytes, B.returns, hml, findClass_of_methodNamed B.named, fun w h => hts w (List.mem_cons_of_mem _ h), hK, hN, hD, B.notSynchronized⟩
  have hx := E.hx
  have hb := E.hb
  have hw : WK D a g S s s.heap [] := ⟨hP, va_S.rf⟩
  have hl := lv_entry ([.ref (a 0), .int x1]) (n := 2) (Nat.le_of_ble_eq_true rfl)
  rw [lg_entry_eq]
  generalize (lg_sl ([.ref (a 0), .int x1]) ++ List.replicate (2 - (lg_sl ([.ref (a 0), .int x1])).length) Slot.unset).toArray = ls at hl ⊢
  have hl : lv_has ls 2 [(0, .ref (a 0)), (1, .int (x1))] := hl
  show W p l e (RM 2) s m _ below meth c s.heap [] 0 0 (MQ below (QK D a g (some (.int out)) S) _ s 0 0 (AK a)) (F0 m 0 ls [])
  unfold k7_count at hf
  refine lv_iload_n hx hb dX7_count_0 rfl (lv_at hl 1 rfl) ?_
  by_cases c_1 : x1 = 0
  · replace hf := ite_t hf c_1
    refine lv_tableIn (tgt := 40) hx hb dX7_count_1 (by rw [c_1]; decide) (by rw [c_1]; decide) (by rw [c_1]; rfl) (by decide) ?_
    refine lv_aload_n hx hb dX7_count_40 rfl (lv_at hl 0 rfl) ?_
    refine gK_0_0 E hw (E.hts _ wl272) dX7_count_41 ?_
    refine gK_1_5 E hw (E.hts _ wl76) dX7_count_44 ?_
    cases hf
    exact retK_i E hw dX7_count_47
  · replace hf := ite_f hf c_1
    by_cases c_2 : x1 = 1
    · replace hf := ite_t hf c_2
      refine lv_tableIn (tgt := 48) hx hb dX7_count_1 (by rw [c_2]; decide) (by rw [c_2]; decide) (by rw [c_2]; rfl) (by decide) ?_
      refine lv_aload_n hx hb dX7_count_48 rfl (lv_at hl 0 rfl) ?_
      refine gK_0_2 E hw (E.hts _ wl274) dX7_count_49 ?_
      refine gK_3_2 E hw (E.hts _ wl130) dX7_count_52 ?_
      cases hf
      exact retK_i E hw dX7_count_55
    · replace hf := ite_f hf c_2
      by_cases c_3 : x1 = 2
      · replace hf := ite_t hf c_3
        refine lv_tableIn (tgt := 56) hx hb dX7_count_1 (by rw [c_3]; decide) (by rw [c_3]; decide) (by rw [c_3]; rfl) (by decide) ?_
        refine lv_aload_n hx hb dX7_count_56 rfl (lv_at hl 0 rfl) ?_
        refine gK_0_2 E hw (E.hts _ wl274) dX7_count_57 ?_
        refine gK_3_7 E hw (E.hts _ wl143) dX7_count_60 ?_
        cases hf
        exact retK_i E hw dX7_count_63
      · replace hf := ite_f hf c_3
        by_cases c_4 : x1 = 3
        · replace hf := ite_t hf c_4
          refine lv_tableIn (tgt := 64) hx hb dX7_count_1 (by rw [c_4]; decide) (by rw [c_4]; decide) (by rw [c_4]; rfl) (by decide) ?_
          refine lv_aload_n hx hb dX7_count_64 rfl (lv_at hl 0 rfl) ?_
          refine gK_0_9 E hw (E.hts _ wl281) dX7_count_65 ?_
          cases hf
          exact retK_i E hw dX7_count_68
        · replace hf := ite_f hf c_4
          by_cases c_8 : x1 = 4
          · replace hf := ite_t hf c_8
            refine lv_tableIn (tgt := 69) hx hb dX7_count_1 (by rw [c_8]; decide) (by rw [c_8]; decide) (by rw [c_8]; rfl) (by decide) ?_
            refine lv_aload_n hx hb dX7_count_69 rfl (lv_at hl 0 rfl) ?_
            refine gK_0_6 E hw (E.hts _ wl278) dX7_count_70 ?_
            refine gK_7_0 E hw (E.hts _ wl238) dX7_count_73 ?_
            obtain ⟨r_6, h_5, hf⟩ := ob_at hf
            refine qk7_sumOf_29 E hw (mk7_sumOf_29 E.hD h_5) wl629 dX7_count_76 ⟨Nat.le_of_ble_eq_true rfl, Nat.le_of_ble_eq_true rfl⟩ hl.1 (Nat.le_of_ble_eq_true rfl) ⟨Nat.le_refl 0, Nat.le_refl 0⟩ (fun H locs hw => ?_)
            cases hf
            exact retK_i E hw dX7_count_79
          · replace hf := ite_f hf c_8
            by_cases c_12 : x1 = 5
            · replace hf := ite_t hf c_12
              refine lv_tableIn (tgt := 80) hx hb dX7_count_1 (by rw [c_12]; decide) (by rw [c_12]; decide) (by rw [c_12]; rfl) (by decide) ?_
              refine lv_aload_n hx hb dX7_count_80 rfl (lv_at hl 0 rfl) ?_
              refine gK_0_6 E hw (E.hts _ wl278) dX7_count_81 ?_
              refine gK_7_1 E hw (E.hts _ wl240) dX7_count_84 ?_
              obtain ⟨r_10, h_9, hf⟩ := ob_at hf
              refine qk7_sumOf_30 E hw (mk7_sumOf_30 E.hD h_9) wl629 dX7_count_87 ⟨Nat.le_of_ble_eq_true rfl, Nat.le_of_ble_eq_true rfl⟩ hl.1 (Nat.le_of_ble_eq_true rfl) ⟨Nat.le_refl 0, Nat.le_refl 0⟩ (fun H locs hw => ?_)
              cases hf
              exact retK_i E hw dX7_count_90
            · replace hf := ite_f hf c_12
              refine lv_tableOut (tgt := 91) hx hb dX7_count_1 (sw_out5 c_1 c_2 c_3 c_4 c_8 c_12) (by decide) ?_
              refine lv_iconst hx hb dX7_count_91 ic_m1 ?_
              cases hf
              exact retK_i E hw dX7_count_92
theorem qk7_count {p : Program} {l : Launch} {e : Env} {R : Room} {s : State} {m : MethodId} {args : Array Value} {below : List Frame} {meth : Method} {c : Code} {H : Heap} {locs : List Loc} {cells slots : Nat} {Q : State → Prop} {cc : ByteArray} {pc : Nat} {ls : Array Slot} {rest : List Value} {D : va_G} {a : Nat → Nat} {g : Nat → ClassId} {nL : Nat} {own : String} {ret : Option FieldType} {S S1 : SS} {k : Nat} {x1 : Int32} {r : Int32} (E : EK p s m args meth c D a g cc nL own ret) (hw : WK D a g S s H locs) (hM : Met l yX7_count (wsm yX7_count cX7_count 2 (some .int)) (RM k) (PK D a g S [.ref (a 0), .int x1]) (QK D a g (some (.int r)) S1) 0 0 (AK a)) {idx : Nat} (hlk : Cond.methodLink own idx yX7_count ∈ wd) (hdg : decode cc pc = .ok (.invokevirtual idx, 3)) (hR : k + 1 ≤ R.frames ∧ 8 + (2 + 11) + 64 * k ≤ R.locals) (hls : ls.size = nL) (hrest : (rest.map fun v => v.category).sum ≤ 8) (hcs : cells ≤ R.cells ∧ slots ≤ R.slots) (kk : ∀ (H1 : Heap) (locs1 : List Loc), WK D a g S1 s H1 locs1 → W p l e R s m args below meth c H1 locs1 cells slots Q (F0 m (pc + 3) ls (.int r :: rest))) : W p l e R s m args below meth c H locs cells slots Q (F0 m pc ls (.int x1 :: .ref (a 0) :: rest)) :=
  callK_i hw (va_runV (As := [.int x1]) (rest := rest) ⟨E.hx, E.hb, E.hml, E.hown, E.hts⟩ hM ⟨cb_of 1 E.hts wl628 wl35 hlk (by decide +kernel) hR, E.hts _ wl626, E.hts _ wl627⟩ ⟨PK_blind, va_recv E.hK hw.1 (ci := 7) (q0 := 0) rfl rfl, PK_pre E.hK E.hN hw.1⟩ rfl rfl hls rfl (lv_room hrest) hdg hcs) kk
/-! X8_reckons -/
def k8_reckons_B2 (F : Nat) (rec2 : SM → Int32 → Option SM) (k34 : SM → Option SM) (S : SM) (x1 : Int32) : Option SM :=
  if ((144 : Int32)) ≤ x1 then (k34 S) else (if (x1 - x1 / ((13 : Int32)) * ((13 : Int32))) = 0 then ((ckA 144 x1).bind fun _ => bnd (stM S 5 (Int32.toNatClampNeg x1) ((0 : Int32))) fun S_6 => bnd (x1 + (1)) fun x1_7 => rec2 S_6 (x1_7)) else ((ckA 144 x1).bind fun _ => bnd (stM S 5 (Int32.toNatClampNeg x1) ((1000000 : Int32))) fun S_4 => bnd (x1 + (1)) fun x1_5 => rec2 S_4 (x1_5)))
def k8_reckons_B54_J133 (F : Nat) (x2 : Int32) (rec54 : SM → Int32 → Int32 → Option SM) (k186 : SM → Int32 → Option SM) (S : SM) (x1 : Int32) (x3 : Int32) (x4 : Int32) (x5 : Int32) : Option SM :=
  (rdA 144 (S.1 5) x4).bind fun v_24 => (rdA 24 (S.1 4) x2).bind fun v_25 => (rdA 144 (S.1 5) x5).bind fun v_26 => if v_26 ≤ (v_24 + v_25) then (bnd (x3 + (1)) fun x3_28 => rec54 S (x1) (x3_28)) else ((rdA 144 (S.1 5) x4).bind fun v_29 => (rdA 24 (S.1 4) x2).bind fun v_30 => (ckA 144 x5).bind fun _ => bnd (stM S 5 (Int32.toNatClampNeg x5) (v_29 + v_30)) fun S_31 => bnd ((1 : Int32)) fun x1_32 => bnd (x3 + (1)) fun x3_33 => rec54 S_31 (x1_32) (x3_33))
def k8_reckons_B54 (F : Nat) (x2 : Int32) (rec54 : SM → Int32 → Int32 → Option SM) (k186 : SM → Int32 → Option SM) (S : SM) (x1 : Int32) (x3 : Int32) : Option SM :=
  if ((12 : Int32)) ≤ x3 then (k186 S (x1)) else ((rdA 24 (S.1 1) x2).bind fun v_16 => bnd ((((12 : Int32)) * v_16) + x3) fun x4_17 => (rdA 24 (S.1 2) x2).bind fun v_18 => bnd ((((12 : Int32)) * v_18) + x3) fun x5_19 => (rdA 144 (S.1 5) x5_19).bind fun v_20 => (rdA 24 (S.1 4) x2).bind fun v_21 => (rdA 144 (S.1 5) x4_17).bind fun v_22 => if v_22 ≤ (v_20 + v_21) then (k8_reckons_B54_J133 F x2 rec54 k186 S (x1) (x3) (x4_17) (x5_19)) else ((rdA 144 (S.1 5) x5_19).bind fun v_34 => (rdA 24 (S.1 4) x2).bind fun v_35 => (ckA 144 x4_17).bind fun _ => bnd (stM S 5 (Int32.toNatClampNeg x4_17) (v_34 + v_35)) fun S_36 => bnd ((1 : Int32)) fun x1_37 => k8_reckons_B54_J133 F x2 rec54 k186 S_36 (x1_37) (x3) (x4_17) (x5_19)))
def k8_reckons_B44 (F : Nat) (rec44 : SM → Int32 → Int32 → Option SM) (k192 : SM → Int32 → Option SM) (S : SM) (x1 : Int32) (x2 : Int32) : Option SM :=
  if (S.1 0 0) ≤ x2 then (k192 S (x1)) else (bnd ((0 : Int32)) fun x3_14 => lpN (fun _ _ _ => none) (fun rec54 => k8_reckons_B54 F (x2) rec54 (fun S_38 x1_38 => bnd (x2 + (1)) fun x2_39 => rec44 S_38 (x1_38) (x2_39))) F S (x1) (x3_14))
def k8_reckons_B36 (F : Nat) (rec36 : SM → Int32 → Option SM) (S : SM) (x1 : Int32) : Option SM :=
  if x1 = 0 then (some S) else (bnd ((0 : Int32)) fun x1_11 => bnd ((0 : Int32)) fun x2_12 => lpN (fun _ _ _ => none) (fun rec44 => k8_reckons_B44 F rec44 (fun S_40 x1_40 => rec36 S_40 (x1_40))) F S (x1_11) (x2_12))
def k8_reckons (F : Nat) (S : SM) : Option SM :=
  bnd ((0 : Int32)) fun x1_1 => lpN (fun _ _ => none) (fun rec2 => k8_reckons_B2 F rec2 (fun S_8 => bnd ((1 : Int32)) fun x1_9 => lpN (fun _ _ => none) (fun rec36 => k8_reckons_B36 F rec36 ) F S_8 (x1_9))) F S (x1_1)
set_option maxRecDepth 100000 in
set_option maxHeartbeats 4000000 in
theorem k8_reckons_b2 {p : Program} {l : Launch} {e : Env} {s : State} {m : MethodId} {args : Array Value} {below : List Frame} {meth : Method} {c : Code} {D : va_G} {a : Nat → Nat} {g : Nat → ClassId} (E : EM p s m args meth c D a g cX8_reckons 6 RX8 none) {F : Nat}  {rec2 : SM → Int32 → Option SM} {k34 : SM → Option SM} {out : SM} (hrec2 : ∀ (S : SM) (x1 : Int32) (H : Heap) (locs : List Loc) (ls : Array Slot), rec2 S x1 = some out → WM D a g S s H locs → lv_has ls 6 [(0, .ref (a 0)), (1, .int (x1))] → W p l e (RM 1) s m args below meth c H locs 0 0 (MQ below (QM D a g none out) args s 0 0 (AM a)) (F0 m 2 ls [])) (hk34 : ∀ (S : SM) (H : Heap) (locs : List Loc) (ls : Array Slot), k34 S = some out → WM D a g S s H locs → lv_has ls 6 [(0, .ref (a 0))] → W p l e (RM 1) s m args below meth c H locs 0 0 (MQ below (QM D a g none out) args s 0 0 (AM a)) (F0 m 34 ls [])) (S : SM) (x1 : Int32) (H : Heap) (locs : List Loc) (ls : Array Slot) (hf : k8_reckons_B2 F rec2 k34 S x1 = some out) (hw : WM D a g S s H locs) (hl : lv_has ls 6 [(0, .ref (a 0)), (1, .int (x1))]) : W p l e (RM 1) s m args below meth c H locs 0 0 (MQ below (QM D a g none out) args s 0 0 (AM a)) (F0 m 2 ls []) := by
  have hx := E.hx
  have hb := E.hb
  unfold k8_reckons_B2 at hf
  refine lv_iload_n hx hb dX8_reckons_2 rfl (lv_at hl 1 rfl) ?_
  refine lv_sipush hx hb dX8_reckons_3 sp_144 ?_
  refine lv_icmp_ge (tgt := 34) hx hb dX8_reckons_6 (by decide) (fun c_2 => ?_) (fun c_2 => ?_)
  · replace hf := ite_t hf c_2
    exact hk34 S _ _ ls hf hw (lv_sub hl [0] rfl)
  · replace hf := ite_f hf c_2
    refine lv_aload_n hx hb dX8_reckons_9 rfl (lv_at hl 0 rfl) ?_
    refine gM_0_5 E hw (E.hts _ wl646) dX8_reckons_10 ?_
    refine lv_iload_n hx hb dX8_reckons_13 rfl (lv_at hl 1 rfl) ?_
    refine lv_iload_n hx hb dX8_reckons_14 rfl (lv_at hl 1 rfl) ?_
    refine lv_bipush hx hb dX8_reckons_15 bp_13 ?_
    refine lv_irem hx hb dX8_reckons_17 (by decide) ?_
    refine lv_if_ne (tgt := 25) hx hb dX8_reckons_18 (by decide) (fun c_3 => ?_) (fun c_3 => ?_)
    · replace hf := ite_f hf c_3
      refine lv_ldc hx hb E.hown (E.hts _ wl640) dX8_reckons_25 ?_
      obtain ⟨h_S_4, hf⟩ := ckA_at hf
      refine sM_5 E hw h_S_4 dX8_reckons_27 (fun S_4 eS_4 H locs hw => ?_)
      replace hf := bnd_at hf eS_4
      obtain ⟨x1_5, ex1_5⟩ : ∃ y : Int32, y = x1 + (1) := ⟨_, rfl⟩
      replace hf := bnd_at hf ex1_5
      refine lv_iinc (v := x1_5) (lv' := [(1, .int (x1_5)), (0, .ref (a 0))]) hx hb dX8_reckons_28 hl (k := 1) rfl (by rw [ex1_5]; rfl) (by decide) rfl (fun ls hl => ?_)
      refine lv_goto (tgt := 2) hx hb dX8_reckons_31 (by decide) ?_
      exact hrec2 S_4 (x1_5) _ _ ls hf hw (lv_sub hl [1, 0] rfl)
    · replace hf := ite_t hf c_3
      refine lv_iconst hx hb dX8_reckons_21 ic_0 ?_
      refine lv_goto (tgt := 27) hx hb dX8_reckons_22 (by decide) ?_
      obtain ⟨h_S_6, hf⟩ := ckA_at hf
      refine sM_5 E hw h_S_6 dX8_reckons_27 (fun S_6 eS_6 H locs hw => ?_)
      replace hf := bnd_at hf eS_6
      obtain ⟨x1_7, ex1_7⟩ : ∃ y : Int32, y = x1 + (1) := ⟨_, rfl⟩
      replace hf := bnd_at hf ex1_7
      refine lv_iinc (v := x1_7) (lv' := [(1, .int (x1_7)), (0, .ref (a 0))]) hx hb dX8_reckons_28 hl (k := 1) rfl (by rw [ex1_7]; rfl) (by decide) rfl (fun ls hl => ?_)
      refine lv_goto (tgt := 2) hx hb dX8_reckons_31 (by decide) ?_
      exact hrec2 S_6 (x1_7) _ _ ls hf hw (lv_sub hl [1, 0] rfl)
theorem k8_reckons_l2 {p : Program} {l : Launch} {e : Env} {s : State} {m : MethodId} {args : Array Value} {below : List Frame} {meth : Method} {c : Code} {D : va_G} {a : Nat → Nat} {g : Nat → ClassId} (E : EM p s m args meth c D a g cX8_reckons 6 RX8 none) {F : Nat}  {k34 : SM → Option SM} {out : SM} (hk34 : ∀ (S : SM) (H : Heap) (locs : List Loc) (ls : Array Slot), k34 S = some out → WM D a g S s H locs → lv_has ls 6 [(0, .ref (a 0))] → W p l e (RM 1) s m args below meth c H locs 0 0 (MQ below (QM D a g none out) args s 0 0 (AM a)) (F0 m 34 ls [])) : ∀ (n : Nat) (S : SM) (x1 : Int32) (H : Heap) (locs : List Loc) (ls : Array Slot), lpN (fun _ _ => none) (fun rec2 => k8_reckons_B2 F rec2 k34) n S x1 = some out → WM D a g S s H locs → lv_has ls 6 [(0, .ref (a 0)), (1, .int (x1))] → W p l e (RM 1) s m args below meth c H locs 0 0 (MQ below (QM D a g none out) args s 0 0 (AM a)) (F0 m 2 ls []) := by
  intro n
  induction n with
  | zero => intro S x1 H locs ls hf; cases (show (none : Option SM) = some out from hf)
  | succ n ih => intro S x1 H locs ls hf hw hl; exact k8_reckons_b2 E (F := F) ih hk34 S x1 H locs ls hf hw hl
set_option maxRecDepth 100000 in
set_option maxHeartbeats 4000000 in
theorem k8_reckons_B54_J133_j {p : Program} {l : Launch} {e : Env} {s : State} {m : MethodId} {args : Array Value} {below : List Frame} {meth : Method} {c : Code} {D : va_G} {a : Nat → Nat} {g : Nat → ClassId} (E : EM p s m args meth c D a g cX8_reckons 6 RX8 none) {F : Nat}  (x2 : Int32) {rec54 : SM → Int32 → Int32 → Option SM} {k186 : SM → Int32 → Option SM} {out : SM} (hrec54 : ∀ (S : SM) (x1 : Int32) (x3 : Int32) (H : Heap) (locs : List Loc) (ls : Array Slot), rec54 S x1 x3 = some out → WM D a g S s H locs → lv_has ls 6 [(0, .ref (a 0)), (1, .int (x1)), (2, .int (x2)), (3, .int (x3))] → W p l e (RM 1) s m args below meth c H locs 0 0 (MQ below (QM D a g none out) args s 0 0 (AM a)) (F0 m 54 ls [])) (hk186 : ∀ (S : SM) (x1 : Int32) (H : Heap) (locs : List Loc) (ls : Array Slot), k186 S x1 = some out → WM D a g S s H locs → lv_has ls 6 [(0, .ref (a 0)), (1, .int (x1)), (2, .int (x2))] → W p l e (RM 1) s m args below meth c H locs 0 0 (MQ below (QM D a g none out) args s 0 0 (AM a)) (F0 m 186 ls [])) (S : SM) (x1 : Int32) (x3 : Int32) (x4 : Int32) (x5 : Int32) (H : Heap) (locs : List Loc) (ls : Array Slot) (hf : k8_reckons_B54_J133 F x2 rec54 k186 S x1 x3 x4 x5 = some out) (hw : WM D a g S s H locs) (hl : lv_has ls 6 [(0, .ref (a 0)), (1, .int (x1)), (2, .int (x2)), (3, .int (x3)), (4, .int (x4)), (5, .int (x5))]) : W p l e (RM 1) s m args below meth c H locs 0 0 (MQ below (QM D a g none out) args s 0 0 (AM a)) (F0 m 133 ls []) := by
  have hx := E.hx
  have hb := E.hb
  unfold k8_reckons_B54_J133 at hf
  refine lv_aload_n hx hb dX8_reckons_133 rfl (lv_at hl 0 rfl) ?_
  refine gM_0_5 E hw (E.hts _ wl646) dX8_reckons_134 ?_
  refine lv_iload hx hb dX8_reckons_137 (lv_at hl 4 rfl) ?_
  obtain ⟨h_v_24, hf⟩ := rdA_at hf
  refine lM_5 E hw h_v_24 dX8_reckons_139 (fun v_24 ev_24 => ?_)
  replace hf := hf v_24 ev_24
  refine lv_aload_n hx hb dX8_reckons_140 rfl (lv_at hl 0 rfl) ?_
  refine gM_0_4 E hw (E.hts _ wl645) dX8_reckons_141 ?_
  refine lv_iload_n hx hb dX8_reckons_144 rfl (lv_at hl 2 rfl) ?_
  obtain ⟨h_v_25, hf⟩ := rdA_at hf
  refine lM_4 E hw h_v_25 dX8_reckons_145 (fun v_25 ev_25 => ?_)
  replace hf := hf v_25 ev_25
  refine lv_iadd hx hb dX8_reckons_146 ?_
  refine lv_aload_n hx hb dX8_reckons_147 rfl (lv_at hl 0 rfl) ?_
  refine gM_0_5 E hw (E.hts _ wl646) dX8_reckons_148 ?_
  refine lv_iload hx hb dX8_reckons_151 (lv_at hl 5 rfl) ?_
  obtain ⟨h_v_26, hf⟩ := rdA_at hf
  refine lM_5 E hw h_v_26 dX8_reckons_153 (fun v_26 ev_26 => ?_)
  replace hf := hf v_26 ev_26
  refine lv_icmp_ge (tgt := 180) hx hb dX8_reckons_154 (by decide) (fun c_27 => ?_) (fun c_27 => ?_)
  · replace hf := ite_t hf c_27
    obtain ⟨x3_28, ex3_28⟩ : ∃ y : Int32, y = x3 + (1) := ⟨_, rfl⟩
    replace hf := bnd_at hf ex3_28
    refine lv_iinc (v := x3_28) (lv' := [(3, .int (x3_28)), (0, .ref (a 0)), (1, .int (x1)), (2, .int (x2)), (4, .int (x4)), (5, .int (x5))]) hx hb dX8_reckons_180 hl (k := 3) rfl (by rw [ex3_28]; rfl) (by decide) rfl (fun ls hl => ?_)
    refine lv_goto (tgt := 54) hx hb dX8_reckons_183 (by decide) ?_
    exact hrec54 S (x1) (x3_28) _ _ ls hf hw (lv_sub hl [1, 2, 3, 0] rfl)
  · replace hf := ite_f hf c_27
    refine lv_aload_n hx hb dX8_reckons_157 rfl (lv_at hl 0 rfl) ?_
    refine gM_0_5 E hw (E.hts _ wl646) dX8_reckons_158 ?_
    refine lv_iload hx hb dX8_reckons_161 (lv_at hl 5 rfl) ?_
    refine lv_aload_n hx hb dX8_reckons_163 rfl (lv_at hl 0 rfl) ?_
    refine gM_0_5 E hw (E.hts _ wl646) dX8_reckons_164 ?_
    refine lv_iload hx hb dX8_reckons_167 (lv_at hl 4 rfl) ?_
    obtain ⟨h_v_29, hf⟩ := rdA_at hf
    refine lM_5 E hw h_v_29 dX8_reckons_169 (fun v_29 ev_29 => ?_)
    replace hf := hf v_29 ev_29
    refine lv_aload_n hx hb dX8_reckons_170 rfl (lv_at hl 0 rfl) ?_
    refine gM_0_4 E hw (E.hts _ wl645) dX8_reckons_171 ?_
    refine lv_iload_n hx hb dX8_reckons_174 rfl (lv_at hl 2 rfl) ?_
    obtain ⟨h_v_30, hf⟩ := rdA_at hf
    refine lM_4 E hw h_v_30 dX8_reckons_175 (fun v_30 ev_30 => ?_)
    replace hf := hf v_30 ev_30
    refine lv_iadd hx hb dX8_reckons_176 ?_
    obtain ⟨h_S_31, hf⟩ := ckA_at hf
    refine sM_5 E hw h_S_31 dX8_reckons_177 (fun S_31 eS_31 H locs hw => ?_)
    replace hf := bnd_at hf eS_31
    refine lv_iconst hx hb dX8_reckons_178 ic_1 ?_
    refine lv_topi (fun x1_32 ex1_32 => ?_)
    replace hf := bnd_at hf ex1_32
    refine lv_istore_n (lv' := [(1, .int (x1_32)), (0, .ref (a 0)), (2, .int (x2)), (3, .int (x3)), (4, .int (x4)), (5, .int (x5))]) hx hb dX8_reckons_179 rfl hl (by decide) rfl (fun ls hl => ?_)
    obtain ⟨x3_33, ex3_33⟩ : ∃ y : Int32, y = x3 + (1) := ⟨_, rfl⟩
    replace hf := bnd_at hf ex3_33
    refine lv_iinc (v := x3_33) (lv' := [(3, .int (x3_33)), (1, .int (x1_32)), (0, .ref (a 0)), (2, .int (x2)), (4, .int (x4)), (5, .int (x5))]) hx hb dX8_reckons_180 hl (k := 3) rfl (by rw [ex3_33]; rfl) (by decide) rfl (fun ls hl => ?_)
    refine lv_goto (tgt := 54) hx hb dX8_reckons_183 (by decide) ?_
    exact hrec54 S_31 (x1_32) (x3_33) _ _ ls hf hw (lv_sub hl [2, 1, 3, 0] rfl)
set_option maxRecDepth 100000 in
set_option maxHeartbeats 4000000 in
theorem k8_reckons_b54 {p : Program} {l : Launch} {e : Env} {s : State} {m : MethodId} {args : Array Value} {below : List Frame} {meth : Method} {c : Code} {D : va_G} {a : Nat → Nat} {g : Nat → ClassId} (E : EM p s m args meth c D a g cX8_reckons 6 RX8 none) {F : Nat}  (x2 : Int32) {rec54 : SM → Int32 → Int32 → Option SM} {k186 : SM → Int32 → Option SM} {out : SM} (hrec54 : ∀ (S : SM) (x1 : Int32) (x3 : Int32) (H : Heap) (locs : List Loc) (ls : Array Slot), rec54 S x1 x3 = some out → WM D a g S s H locs → lv_has ls 6 [(0, .ref (a 0)), (1, .int (x1)), (2, .int (x2)), (3, .int (x3))] → W p l e (RM 1) s m args below meth c H locs 0 0 (MQ below (QM D a g none out) args s 0 0 (AM a)) (F0 m 54 ls [])) (hk186 : ∀ (S : SM) (x1 : Int32) (H : Heap) (locs : List Loc) (ls : Array Slot), k186 S x1 = some out → WM D a g S s H locs → lv_has ls 6 [(0, .ref (a 0)), (1, .int (x1)), (2, .int (x2))] → W p l e (RM 1) s m args below meth c H locs 0 0 (MQ below (QM D a g none out) args s 0 0 (AM a)) (F0 m 186 ls [])) (S : SM) (x1 : Int32) (x3 : Int32) (H : Heap) (locs : List Loc) (ls : Array Slot) (hf : k8_reckons_B54 F x2 rec54 k186 S x1 x3 = some out) (hw : WM D a g S s H locs) (hl : lv_has ls 6 [(0, .ref (a 0)), (1, .int (x1)), (2, .int (x2)), (3, .int (x3))]) : W p l e (RM 1) s m args below meth c H locs 0 0 (MQ below (QM D a g none out) args s 0 0 (AM a)) (F0 m 54 ls []) := by
  have hx := E.hx
  have hb := E.hb
  unfold k8_reckons_B54 at hf
  refine lv_iload_n hx hb dX8_reckons_54 rfl (lv_at hl 3 rfl) ?_
  refine lv_bipush hx hb dX8_reckons_55 bp_12 ?_
  refine lv_icmp_ge (tgt := 186) hx hb dX8_reckons_57 (by decide) (fun c_15 => ?_) (fun c_15 => ?_)
  · replace hf := ite_t hf c_15
    exact hk186 S (x1) _ _ ls hf hw (lv_sub hl [0, 1, 2] rfl)
  · replace hf := ite_f hf c_15
    refine lv_bipush hx hb dX8_reckons_60 bp_12 ?_
    refine lv_aload_n hx hb dX8_reckons_62 rfl (lv_at hl 0 rfl) ?_
    refine gM_0_1 E hw (E.hts _ wl642) dX8_reckons_63 ?_
    refine lv_iload_n hx hb dX8_reckons_66 rfl (lv_at hl 2 rfl) ?_
    obtain ⟨h_v_16, hf⟩ := rdA_at hf
    refine lM_1 E hw h_v_16 dX8_reckons_67 (fun v_16 ev_16 => ?_)
    replace hf := hf v_16 ev_16
    refine lv_imul hx hb dX8_reckons_68 ?_
    refine lv_iload_n hx hb dX8_reckons_69 rfl (lv_at hl 3 rfl) ?_
    refine lv_iadd hx hb dX8_reckons_70 ?_
    refine lv_topi (fun x4_17 ex4_17 => ?_)
    replace hf := bnd_at hf ex4_17
    refine lv_istore (lv' := [(4, .int (x4_17)), (0, .ref (a 0)), (1, .int (x1)), (2, .int (x2)), (3, .int (x3))]) hx hb dX8_reckons_71 hl (by decide) rfl (fun ls hl => ?_)
    refine lv_bipush hx hb dX8_reckons_73 bp_12 ?_
    refine lv_aload_n hx hb dX8_reckons_75 rfl (lv_at hl 1 rfl) ?_
    refine gM_0_2 E hw (E.hts _ wl643) dX8_reckons_76 ?_
    refine lv_iload_n hx hb dX8_reckons_79 rfl (lv_at hl 3 rfl) ?_
    obtain ⟨h_v_18, hf⟩ := rdA_at hf
    refine lM_2 E hw h_v_18 dX8_reckons_80 (fun v_18 ev_18 => ?_)
    replace hf := hf v_18 ev_18
    refine lv_imul hx hb dX8_reckons_81 ?_
    refine lv_iload_n hx hb dX8_reckons_82 rfl (lv_at hl 4 rfl) ?_
    refine lv_iadd hx hb dX8_reckons_83 ?_
    refine lv_topi (fun x5_19 ex5_19 => ?_)
    replace hf := bnd_at hf ex5_19
    refine lv_istore (lv' := [(5, .int (x5_19)), (4, .int (x4_17)), (0, .ref (a 0)), (1, .int (x1)), (2, .int (x2)), (3, .int (x3))]) hx hb dX8_reckons_84 hl (by decide) rfl (fun ls hl => ?_)
    refine lv_aload_n hx hb dX8_reckons_86 rfl (lv_at hl 2 rfl) ?_
    refine gM_0_5 E hw (E.hts _ wl646) dX8_reckons_87 ?_
    refine lv_iload hx hb dX8_reckons_90 (lv_at hl 0 rfl) ?_
    obtain ⟨h_v_20, hf⟩ := rdA_at hf
    refine lM_5 E hw h_v_20 dX8_reckons_92 (fun v_20 ev_20 => ?_)
    replace hf := hf v_20 ev_20
    refine lv_aload_n hx hb dX8_reckons_93 rfl (lv_at hl 2 rfl) ?_
    refine gM_0_4 E hw (E.hts _ wl645) dX8_reckons_94 ?_
    refine lv_iload_n hx hb dX8_reckons_97 rfl (lv_at hl 4 rfl) ?_
    obtain ⟨h_v_21, hf⟩ := rdA_at hf
    refine lM_4 E hw h_v_21 dX8_reckons_98 (fun v_21 ev_21 => ?_)
    replace hf := hf v_21 ev_21
    refine lv_iadd hx hb dX8_reckons_99 ?_
    refine lv_aload_n hx hb dX8_reckons_100 rfl (lv_at hl 2 rfl) ?_
    refine gM_0_5 E hw (E.hts _ wl646) dX8_reckons_101 ?_
    refine lv_iload hx hb dX8_reckons_104 (lv_at hl 1 rfl) ?_
    obtain ⟨h_v_22, hf⟩ := rdA_at hf
    refine lM_5 E hw h_v_22 dX8_reckons_106 (fun v_22 ev_22 => ?_)
    replace hf := hf v_22 ev_22
    refine lv_icmp_ge (tgt := 133) hx hb dX8_reckons_107 (by decide) (fun c_23 => ?_) (fun c_23 => ?_)
    · replace hf := ite_t hf c_23
      exact k8_reckons_B54_J133_j E x2 hrec54 hk186 S (x1) (x3) (x4_17) (x5_19) _ _ ls hf hw (lv_sub hl [2, 3, 4, 5, 1, 0] rfl)
    · replace hf := ite_f hf c_23
      refine lv_aload_n hx hb dX8_reckons_110 rfl (lv_at hl 2 rfl) ?_
      refine gM_0_5 E hw (E.hts _ wl646) dX8_reckons_111 ?_
      refine lv_iload hx hb dX8_reckons_114 (lv_at hl 1 rfl) ?_
      refine lv_aload_n hx hb dX8_reckons_116 rfl (lv_at hl 2 rfl) ?_
      refine gM_0_5 E hw (E.hts _ wl646) dX8_reckons_117 ?_
      refine lv_iload hx hb dX8_reckons_120 (lv_at hl 0 rfl) ?_
      obtain ⟨h_v_34, hf⟩ := rdA_at hf
      refine lM_5 E hw h_v_34 dX8_reckons_122 (fun v_34 ev_34 => ?_)
      replace hf := hf v_34 ev_34
      refine lv_aload_n hx hb dX8_reckons_123 rfl (lv_at hl 2 rfl) ?_
      refine gM_0_4 E hw (E.hts _ wl645) dX8_reckons_124 ?_
      refine lv_iload_n hx hb dX8_reckons_127 rfl (lv_at hl 4 rfl) ?_
      obtain ⟨h_v_35, hf⟩ := rdA_at hf
      refine lM_4 E hw h_v_35 dX8_reckons_128 (fun v_35 ev_35 => ?_)
      replace hf := hf v_35 ev_35
      refine lv_iadd hx hb dX8_reckons_129 ?_
      obtain ⟨h_S_36, hf⟩ := ckA_at hf
      refine sM_5 E hw h_S_36 dX8_reckons_130 (fun S_36 eS_36 H locs hw => ?_)
      replace hf := bnd_at hf eS_36
      refine lv_iconst hx hb dX8_reckons_131 ic_1 ?_
      refine lv_topi (fun x1_37 ex1_37 => ?_)
      replace hf := bnd_at hf ex1_37
      refine lv_istore_n (lv' := [(1, .int (x1_37)), (5, .int (x5_19)), (4, .int (x4_17)), (0, .ref (a 0)), (2, .int (x2)), (3, .int (x3))]) hx hb dX8_reckons_132 rfl hl (by decide) rfl (fun ls hl => ?_)
      exact k8_reckons_B54_J133_j E x2 hrec54 hk186 S_36 (x1_37) (x3) (x4_17) (x5_19) _ _ ls hf hw (lv_sub hl [3, 0, 4, 5, 2, 1] rfl)
theorem k8_reckons_l54 {p : Program} {l : Launch} {e : Env} {s : State} {m : MethodId} {args : Array Value} {below : List Frame} {meth : Method} {c : Code} {D : va_G} {a : Nat → Nat} {g : Nat → ClassId} (E : EM p s m args meth c D a g cX8_reckons 6 RX8 none) {F : Nat}  (x2 : Int32) {k186 : SM → Int32 → Option SM} {out : SM} (hk186 : ∀ (S : SM) (x1 : Int32) (H : Heap) (locs : List Loc) (ls : Array Slot), k186 S x1 = some out → WM D a g S s H locs → lv_has ls 6 [(0, .ref (a 0)), (1, .int (x1)), (2, .int (x2))] → W p l e (RM 1) s m args below meth c H locs 0 0 (MQ below (QM D a g none out) args s 0 0 (AM a)) (F0 m 186 ls [])) : ∀ (n : Nat) (S : SM) (x1 : Int32) (x3 : Int32) (H : Heap) (locs : List Loc) (ls : Array Slot), lpN (fun _ _ _ => none) (fun rec54 => k8_reckons_B54 F x2 rec54 k186) n S x1 x3 = some out → WM D a g S s H locs → lv_has ls 6 [(0, .ref (a 0)), (1, .int (x1)), (2, .int (x2)), (3, .int (x3))] → W p l e (RM 1) s m args below meth c H locs 0 0 (MQ below (QM D a g none out) args s 0 0 (AM a)) (F0 m 54 ls []) := by
  intro n
  induction n with
  | zero => intro S x1 x3 H locs ls hf; cases (show (none : Option SM) = some out from hf)
  | succ n ih => intro S x1 x3 H locs ls hf hw hl; exact k8_reckons_b54 E (F := F) x2 ih hk186 S x1 x3 H locs ls hf hw hl
set_option maxRecDepth 100000 in
set_option maxHeartbeats 4000000 in
theorem k8_reckons_b44 {p : Program} {l : Launch} {e : Env} {s : State} {m : MethodId} {args : Array Value} {below : List Frame} {meth : Method} {c : Code} {D : va_G} {a : Nat → Nat} {g : Nat → ClassId} (E : EM p s m args meth c D a g cX8_reckons 6 RX8 none) {F : Nat}  {rec44 : SM → Int32 → Int32 → Option SM} {k192 : SM → Int32 → Option SM} {out : SM} (hrec44 : ∀ (S : SM) (x1 : Int32) (x2 : Int32) (H : Heap) (locs : List Loc) (ls : Array Slot), rec44 S x1 x2 = some out → WM D a g S s H locs → lv_has ls 6 [(0, .ref (a 0)), (1, .int (x1)), (2, .int (x2))] → W p l e (RM 1) s m args below meth c H locs 0 0 (MQ below (QM D a g none out) args s 0 0 (AM a)) (F0 m 44 ls [])) (hk192 : ∀ (S : SM) (x1 : Int32) (H : Heap) (locs : List Loc) (ls : Array Slot), k192 S x1 = some out → WM D a g S s H locs → lv_has ls 6 [(0, .ref (a 0)), (1, .int (x1))] → W p l e (RM 1) s m args below meth c H locs 0 0 (MQ below (QM D a g none out) args s 0 0 (AM a)) (F0 m 192 ls [])) (S : SM) (x1 : Int32) (x2 : Int32) (H : Heap) (locs : List Loc) (ls : Array Slot) (hf : k8_reckons_B44 F rec44 k192 S x1 x2 = some out) (hw : WM D a g S s H locs) (hl : lv_has ls 6 [(0, .ref (a 0)), (1, .int (x1)), (2, .int (x2))]) : W p l e (RM 1) s m args below meth c H locs 0 0 (MQ below (QM D a g none out) args s 0 0 (AM a)) (F0 m 44 ls []) := by
  have hx := E.hx
  have hb := E.hb
  unfold k8_reckons_B44 at hf
  refine lv_iload_n hx hb dX8_reckons_44 rfl (lv_at hl 2 rfl) ?_
  refine lv_aload_n hx hb dX8_reckons_45 rfl (lv_at hl 0 rfl) ?_
  refine gM_0_0 E hw (E.hts _ wl641) dX8_reckons_46 ?_
  refine lv_icmp_ge (tgt := 192) hx hb dX8_reckons_49 (by decide) (fun c_13 => ?_) (fun c_13 => ?_)
  · replace hf := ite_t hf c_13
    exact hk192 S (x1) _ _ ls hf hw (lv_sub hl [0, 1] rfl)
  · replace hf := ite_f hf c_13
    refine lv_iconst hx hb dX8_reckons_52 ic_0 ?_
    refine lv_topi (fun x3_14 ex3_14 => ?_)
    replace hf := bnd_at hf ex3_14
    refine lv_istore_n (lv' := [(3, .int (x3_14)), (0, .ref (a 0)), (1, .int (x1)), (2, .int (x2))]) hx hb dX8_reckons_53 rfl hl (by decide) rfl (fun ls hl => ?_)
    refine k8_reckons_l54 E (x2) ?_ F S (x1) (x3_14) _ _ ls hf hw (lv_sub hl [1, 2, 3, 0] rfl)
    · intro S_38 x1_38 H locs ls hf hw hl
      obtain ⟨x2_39, ex2_39⟩ : ∃ y : Int32, y = x2 + (1) := ⟨_, rfl⟩
      replace hf := bnd_at hf ex2_39
      refine lv_iinc (v := x2_39) (lv' := [(2, .int (x2_39)), (0, .ref (a 0)), (1, .int (x1_38))]) hx hb dX8_reckons_186 hl (k := 2) rfl (by rw [ex2_39]; rfl) (by decide) rfl (fun ls hl => ?_)
      refine lv_goto (tgt := 44) hx hb dX8_reckons_189 (by decide) ?_
      exact hrec44 S_38 (x1_38) (x2_39) _ _ ls hf hw (lv_sub hl [1, 2, 0] rfl)
theorem k8_reckons_l44 {p : Program} {l : Launch} {e : Env} {s : State} {m : MethodId} {args : Array Value} {below : List Frame} {meth : Method} {c : Code} {D : va_G} {a : Nat → Nat} {g : Nat → ClassId} (E : EM p s m args meth c D a g cX8_reckons 6 RX8 none) {F : Nat}  {k192 : SM → Int32 → Option SM} {out : SM} (hk192 : ∀ (S : SM) (x1 : Int32) (H : Heap) (locs : List Loc) (ls : Array Slot), k192 S x1 = some out → WM D a g S s H locs → lv_has ls 6 [(0, .ref (a 0)), (1, .int (x1))] → W p l e (RM 1) s m args below meth c H locs 0 0 (MQ below (QM D a g none out) args s 0 0 (AM a)) (F0 m 192 ls [])) : ∀ (n : Nat) (S : SM) (x1 : Int32) (x2 : Int32) (H : Heap) (locs : List Loc) (ls : Array Slot), lpN (fun _ _ _ => none) (fun rec44 => k8_reckons_B44 F rec44 k192) n S x1 x2 = some out → WM D a g S s H locs → lv_has ls 6 [(0, .ref (a 0)), (1, .int (x1)), (2, .int (x2))] → W p l e (RM 1) s m args below meth c H locs 0 0 (MQ below (QM D a g none out) args s 0 0 (AM a)) (F0 m 44 ls []) := by
  intro n
  induction n with
  | zero => intro S x1 x2 H locs ls hf; cases (show (none : Option SM) = some out from hf)
  | succ n ih => intro S x1 x2 H locs ls hf hw hl; exact k8_reckons_b44 E (F := F) ih hk192 S x1 x2 H locs ls hf hw hl
set_option maxRecDepth 100000 in
set_option maxHeartbeats 4000000 in
theorem k8_reckons_b36 {p : Program} {l : Launch} {e : Env} {s : State} {m : MethodId} {args : Array Value} {below : List Frame} {meth : Method} {c : Code} {D : va_G} {a : Nat → Nat} {g : Nat → ClassId} (E : EM p s m args meth c D a g cX8_reckons 6 RX8 none) {F : Nat}  {rec36 : SM → Int32 → Option SM} {out : SM} (hrec36 : ∀ (S : SM) (x1 : Int32) (H : Heap) (locs : List Loc) (ls : Array Slot), rec36 S x1 = some out → WM D a g S s H locs → lv_has ls 6 [(0, .ref (a 0)), (1, .int (x1))] → W p l e (RM 1) s m args below meth c H locs 0 0 (MQ below (QM D a g none out) args s 0 0 (AM a)) (F0 m 36 ls []))  (S : SM) (x1 : Int32) (H : Heap) (locs : List Loc) (ls : Array Slot) (hf : k8_reckons_B36 F rec36 S x1 = some out) (hw : WM D a g S s H locs) (hl : lv_has ls 6 [(0, .ref (a 0)), (1, .int (x1))]) : W p l e (RM 1) s m args below meth c H locs 0 0 (MQ below (QM D a g none out) args s 0 0 (AM a)) (F0 m 36 ls []) := by
  have hx := E.hx
  have hb := E.hb
  unfold k8_reckons_B36 at hf
  refine lv_iload_n hx hb dX8_reckons_36 rfl (lv_at hl 1 rfl) ?_
  refine lv_if_eq (tgt := 195) hx hb dX8_reckons_37 (by decide) (fun c_10 => ?_) (fun c_10 => ?_)
  · replace hf := ite_t hf c_10
    cases hf
    exact retM_v E hw dX8_reckons_195
  · replace hf := ite_f hf c_10
    refine lv_iconst hx hb dX8_reckons_40 ic_0 ?_
    refine lv_topi (fun x1_11 ex1_11 => ?_)
    replace hf := bnd_at hf ex1_11
    refine lv_istore_n (lv' := [(1, .int (x1_11)), (0, .ref (a 0))]) hx hb dX8_reckons_41 rfl hl (by decide) rfl (fun ls hl => ?_)
    refine lv_iconst hx hb dX8_reckons_42 ic_0 ?_
    refine lv_topi (fun x2_12 ex2_12 => ?_)
    replace hf := bnd_at hf ex2_12
    refine lv_istore_n (lv' := [(2, .int (x2_12)), (1, .int (x1_11)), (0, .ref (a 0))]) hx hb dX8_reckons_43 rfl hl (by decide) rfl (fun ls hl => ?_)
    refine k8_reckons_l44 E ?_ F S (x1_11) (x2_12) _ _ ls hf hw (lv_sub hl [2, 1, 0] rfl)
    · intro S_40 x1_40 H locs ls hf hw hl
      refine lv_goto (tgt := 36) hx hb dX8_reckons_192 (by decide) ?_
      exact hrec36 S_40 (x1_40) _ _ ls hf hw (lv_sub hl [0, 1] rfl)
theorem k8_reckons_l36 {p : Program} {l : Launch} {e : Env} {s : State} {m : MethodId} {args : Array Value} {below : List Frame} {meth : Method} {c : Code} {D : va_G} {a : Nat → Nat} {g : Nat → ClassId} (E : EM p s m args meth c D a g cX8_reckons 6 RX8 none) {F : Nat}  {out : SM}  : ∀ (n : Nat) (S : SM) (x1 : Int32) (H : Heap) (locs : List Loc) (ls : Array Slot), lpN (fun _ _ => none) (fun rec36 => k8_reckons_B36 F rec36) n S x1 = some out → WM D a g S s H locs → lv_has ls 6 [(0, .ref (a 0)), (1, .int (x1))] → W p l e (RM 1) s m args below meth c H locs 0 0 (MQ below (QM D a g none out) args s 0 0 (AM a)) (F0 m 36 ls []) := by
  intro n
  induction n with
  | zero => intro S x1 H locs ls hf; cases (show (none : Option SM) = some out from hf)
  | succ n ih => intro S x1 H locs ls hf hw hl; exact k8_reckons_b36 E (F := F) ih S x1 H locs ls hf hw hl
set_option maxRecDepth 100000 in
set_option maxHeartbeats 4000000 in
theorem mk8_reckons {l : Launch} {D : va_G} {a : Nat → Nat} {g : Nat → ClassId} (hD : ∀ S, va_D (AM a) (wM a g S)) {F : Nat} {S : SM} {out : SM} (hf : k8_reckons F S  = some out) : Met l yX8_reckons (wsm yX8_reckons cX8_reckons 6 none) (RM 1) (PM D a g S [.ref (a 0)]) (QM D a g none out) 0 0 (AM a) := by
  refine Met.ofW (cc := cX8_reckons) (maxL := 6) (ret := none) (by decide) rfl ?_
  intro p e s m args below meth c s₁ B hml hv
  obtain ⟨rfl, hP, hK, hN⟩ := hv
  have hts := atoms_spec (ws := wsm yX8_reckons cX8_reckons 6 none) B.pre
  have E : EM p s m _ meth c D a g cX8_reckons 6 RX8 none := ⟨B.exec, B.bytes, B.returns, hml, findClass_of_methodNamed B.named, fun w h => hts w (List.mem_cons_of_mem _ h), hK, hN, hD, B.notSynchronized⟩
  have hx := E.hx
  have hb := E.hb
  have hw : WM D a g S s s.heap [] := ⟨hP, va_S.rf⟩
  have hl := lv_entry ([.ref (a 0)]) (n := 6) (Nat.le_of_ble_eq_true rfl)
  rw [lg_entry_eq]
  generalize (lg_sl ([.ref (a 0)]) ++ List.replicate (6 - (lg_sl ([.ref (a 0)])).length) Slot.unset).toArray = ls at hl ⊢
  have hl : lv_has ls 6 [(0, .ref (a 0))] := hl
  show W p l e (RM 1) s m _ below meth c s.heap [] 0 0 (MQ below (QM D a g none out) _ s 0 0 (AM a)) (F0 m 0 ls [])
  unfold k8_reckons at hf
  refine lv_iconst hx hb dX8_reckons_0 ic_0 ?_
  refine lv_topi (fun x1_1 ex1_1 => ?_)
  replace hf := bnd_at hf ex1_1
  refine lv_istore_n (lv' := [(1, .int (x1_1)), (0, .ref (a 0))]) hx hb dX8_reckons_1 rfl hl (by decide) rfl (fun ls hl => ?_)
  refine k8_reckons_l2 E ?_ F S (x1_1) _ _ ls hf hw (lv_sub hl [1, 0] rfl)
  · intro S_8 H locs ls hf hw hl
    refine lv_iconst hx hb dX8_reckons_34 ic_1 ?_
    refine lv_topi (fun x1_9 ex1_9 => ?_)
    replace hf := bnd_at hf ex1_9
    refine lv_istore_n (lv' := [(1, .int (x1_9)), (0, .ref (a 0))]) hx hb dX8_reckons_35 rfl hl (by decide) rfl (fun ls hl => ?_)
    refine k8_reckons_l36 E  F S_8 (x1_9) _ _ ls hf hw (lv_sub hl [1, 0] rfl)
theorem qk8_reckons {p : Program} {l : Launch} {e : Env} {R : Room} {s : State} {m : MethodId} {args : Array Value} {below : List Frame} {meth : Method} {c : Code} {H : Heap} {locs : List Loc} {cells slots : Nat} {Q : State → Prop} {cc : ByteArray} {pc : Nat} {ls : Array Slot} {rest : List Value} {D : va_G} {a : Nat → Nat} {g : Nat → ClassId} {nL : Nat} {own : String} {ret : Option FieldType} {S S1 : SM} {k : Nat} (E : EM p s m args meth c D a g cc nL own ret) (hw : WM D a g S s H locs) (hM : Met l yX8_reckons (wsm yX8_reckons cX8_reckons 6 none) (RM k) (PM D a g S [.ref (a 0)]) (QM D a g none S1) 0 0 (AM a)) {idx : Nat} (hlk : Cond.methodLink own idx yX8_reckons ∈ wd) (hdg : decode cc pc = .ok (.invokevirtual idx, 3)) (hR : k + 1 ≤ R.frames ∧ 8 + (6 + 11) + 64 * k ≤ R.locals) (hls : ls.size = nL) (hrest : (rest.map fun v => v.category).sum ≤ 8) (hcs : cells ≤ R.cells ∧ slots ≤ R.slots) (kk : ∀ (H1 : Heap) (locs1 : List Loc), WM D a g S1 s H1 locs1 → W p l e R s m args below meth c H1 locs1 cells slots Q (F0 m (pc + 3) ls (rest))) : W p l e R s m args below meth c H locs cells slots Q (F0 m pc ls (.ref (a 0) :: rest)) :=
  callM_v hw (va_runV (As := []) (rest := rest) ⟨E.hx, E.hb, E.hml, E.hown, E.hts⟩ hM ⟨cb_of 0 E.hts wl639 wl44 hlk (by decide +kernel) hR, E.hts _ wl638, E.hts _ wl22⟩ ⟨PM_blind, va_recv E.hK hw.1 (ci := 8) (q0 := 0) rfl rfl, PM_pre E.hK E.hN hw.1⟩ rfl rfl hls rfl (lv_room hrest) hdg hcs) kk

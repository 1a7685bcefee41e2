theorem qk2_searchFrom {p : Program} {l : Launch} {e : Env} {R : Room} {s : State} {m : MethodId} {args : Array Value} {below : List Frame} {meth : Method} {c : Code} {H : Heap} {locs : List Loc} {cells slots : Nat} {Q : State → Prop} {cc : ByteArray} {pc : Nat} {ls : Array Slot} {rest : List Value} {D : va_G} {a : Nat → Nat} {g : Nat → ClassId} {nL : Nat} {own : String} {ret : Option FieldType} {S S1 : SS} {k : Nat} {x1 x2 : Int32} (E : EK p s m args meth c D a g cc nL own ret) (hw : WK D a g S s H locs) (hM : Met l yX2_searchFrom (wsm yX2_searchFrom cX2_searchFrom 6 none) (RM k) (PK D a g S [.ref (a 4), .int x1, .int x2]) (QK D a g none S1) 0 0 (AK a)) {idx : Nat} (hlk : Cond.methodLink own idx yX2_searchFrom ∈ wd) (hdg : decode cc pc = .ok (.invokestatic idx, 3)) (hR : k + 1 ≤ R.frames ∧ 8 + (6 + 11) + 64 * k ≤ R.locals) (hls : ls.size = nL) (hrest : (rest.map fun v => v.category).sum ≤ 8) (hcs : cells ≤ R.cells ∧ slots ≤ R.slots) (kk : ∀ (H1 : Heap) (locs1 : List Loc), WK D a g S1 s H1 locs1 → W p l e R s m args below meth c H1 locs1 cells slots Q (F0 m (pc + 3) ls (rest))) : W p l e R s m args below meth c H locs cells slots Q (F0 m pc ls (.int x2 :: .int x1 :: .ref (a 4) :: rest)) :=
  callK_v hw (va_runS (As := [.ref (a 4), .int x1, .int x2]) (rest := rest) ⟨E.hx, E.hb, E.hml, E.hown, E.hts⟩ hM ⟨cb_of 3 E.hts wl437 wl40 hlk (by decide +kernel) hR, E.hts _ wl436⟩ ⟨PK_blind, PK_pre E.hK E.hN hw.1⟩ rfl rfl hls rfl (lv_room hrest) hdg hcs) kk
/-! X2_searchFrom[4] -/
def k2_searchFrom_B46 (F : Nat) (recf : SS → Int32 → Int32 → Option SS) (x1 : Int32) (x2 : Int32) (rec46 : SS → Int32 → Option SS) (k136 : SS → Option SS) (S : SS) (x3 : Int32) : Option SS :=
  if (S 3 2) ≤ x3 then (k136 S) else ((rdA 28 (S 22) ((x1 * ((4 : Int32))) + x3)).bind fun v_7 => bnd (v_7) fun x4_8 => if ((2 : Int32)) < x4_8 then (bnd (x3 + (1)) fun x3_10 => rec46 S (x3_10)) else ((rdA 4 (S 25) x3).bind fun v_11 => (k2_isInTime F S (v_11) (x1)).bind fun r_13 => if r_13 = 0 then (bnd (x3 + (1)) fun x3_16 => rec46 S (x3_16)) else ((rdA 4 (S 25) x3).bind fun v_17 => bnd (v_17) fun x5_18 => (ckA 4 x3).bind fun _ => bnd (st S 25 (Int32.toNatClampNeg x3) x1) fun S_19 => (ckA 7 x1).bind fun _ => bnd (st S_19 24 (Int32.toNatClampNeg x1) x3) fun S_20 => (recf S_20 (x1 + ((1 : Int32))) (x2 + x4_8)).bind fun S_23 => (ckA 4 x3).bind fun _ => bnd (st S_23 25 (Int32.toNatClampNeg x3) x5_18) fun S_24 => bnd (x3 + (1)) fun x3_25 => rec46 S_24 (x3_25))))
def k2_searchFrom_R (F : Nat) (recf : SS → Int32 → Int32 → Option SS) (S : SS) (x1 : Int32) (x2 : Int32) : Option SS :=
  if (S 3 7) < x1 then (some S) else ((rdA 8 (S 23) x1).bind fun v_2 => if (x2 + v_2) < (S 4 7) then (if x1 = (S 3 7) then ((k2_keep F S (x2)).bind fun S_33 => some S_33) else (bnd ((0 : Int32)) fun x3_5 => lpN (fun _ _ => none) (fun rec46 => k2_searchFrom_B46 F recf (x1) (x2) rec46 (fun S_26 => (ckA 7 x1).bind fun _ => bnd (st S_26 24 (Int32.toNatClampNeg x1) ((-1 : Int32))) fun S_27 => (recf S_27 (x1 + ((1 : Int32))) (x2 + ((3 : Int32)))).bind fun S_30 => some S_30)) F S (x3_5))) else (some S))
def k2_searchFrom (F : Nat) (d : Nat) : SS → Int32 → Int32 → Option SS := lpN (fun _ _ _ => none) (fun recf => k2_searchFrom_R F recf) d
set_option maxRecDepth 100000 in
set_option maxHeartbeats 4000000 in
theorem k2_searchFrom_b46 {p : Program} {l : Launch} {e : Env} {s : State} {m : MethodId} {args : Array Value} {below : List Frame} {meth : Method} {c : Code} {D : va_G} {a : Nat → Nat} {g : Nat → ClassId} (E : EK p s m args meth c D a g cX2_searchFrom 6 RX2 none) {F : Nat} {d : Nat} {recf : SS → Int32 → Int32 → Option SS} (hrecf : ∀ (S : SS) (x1 x2 : Int32) (out : SS), recf S x1 x2 = some out → Met l yX2_searchFrom (wsm yX2_searchFrom cX2_searchFrom 6 none) (RM (2 + d)) (PK D a g S [.ref (a 4), .int x1, .int x2]) (QK D a g none out) 0 0 (AK a)) (x1 : Int32) (x2 : Int32) {rec46 : SS → Int32 → Option SS} {k136 : SS → Option SS} {out : SS} (hrec46 : ∀ (S : SS) (x3 : Int32) (H : Heap) (locs : List Loc) (ls : Array Slot), rec46 S x3 = some out → WK D a g S s H locs → lv_has ls 6 [(0, .ref (a 4)), (1, .int (x1)), (2, .int (x2)), (3, .int (x3))] → W p l e (RM (2 + (d + 1))) s m args below meth c H locs 0 0 (MQ below (QK D a g none out) args s 0 0 (AK a)) (F0 m 46 ls [])) (hk136 : ∀ (S : SS) (H : Heap) (locs : List Loc) (ls : Array Slot), k136 S = some out → WK D a g S s H locs → lv_has ls 6 [(0, .ref (a 4)), (1, .int (x1)), (2, .int (x2))] → W p l e (RM (2 + (d + 1))) s m args below meth c H locs 0 0 (MQ below (QK D a g none out) args s 0 0 (AK a)) (F0 m 136 ls [])) (S : SS) (x3 : Int32) (H : Heap) (locs : List Loc) (ls : Array Slot) (hf : k2_searchFrom_B46 F recf x1 x2 rec46 k136 S x3 = some out) (hw : WK D a g S s H locs) (hl : lv_has ls 6 [(0, .ref (a 4)), (1, .int (x1)), (2, .int (x2)), (3, .int (x3))]) : W p l e (RM (2 + (d + 1))) s m args below meth c H locs 0 0 (MQ below (QK D a g none out) args s 0 0 (AK a)) (F0 m 46 ls []) := by
  have hx := E.hx
  have hb := E.hb
  unfold k2_searchFrom_B46 at hf
  refine lv_iload_n hx hb dX2_searchFrom_46 rfl (lv_at hl 3 rfl) ?_
  refine lv_aload_n hx hb dX2_searchFrom_47 rfl (lv_at hl 0 rfl) ?_
  refine gK_4_1 E hw (E.hts _ wl168) dX2_searchFrom_48 ?_
  refine gK_3_2 E hw (E.hts _ wl129) dX2_searchFrom_51 ?_
  refine lv_icmp_ge (tgt := 136) hx hb dX2_searchFrom_54 (by decide) (fun c_6 => ?_) (fun c_6 => ?_)
  · replace hf := ite_t hf c_6
    exact hk136 S _ _ ls hf hw (lv_sub hl [0, 1, 2] rfl)
  · replace hf := ite_f hf c_6
    refine lv_aload_n hx hb dX2_searchFrom_57 rfl (lv_at hl 0 rfl) ?_
    refine gK_4_2 E hw (E.hts _ wl169) dX2_searchFrom_58 ?_
    refine lv_iload_n hx hb dX2_searchFrom_61 rfl (lv_at hl 1 rfl) ?_
    refine lv_iconst hx hb dX2_searchFrom_62 ic_4 ?_
    refine lv_imul hx hb dX2_searchFrom_63 ?_
    refine lv_iload_n hx hb dX2_searchFrom_64 rfl (lv_at hl 3 rfl) ?_
    refine lv_iadd hx hb dX2_searchFrom_65 ?_
    obtain ⟨h_v_7, hf⟩ := rdA_at hf
    refine lK_22 E hw h_v_7 dX2_searchFrom_66 (fun v_7 ev_7 => ?_)
    replace hf := hf v_7 ev_7
    refine lv_topi (fun x4_8 ex4_8 => ?_)
    replace hf := bnd_at hf ex4_8
    refine lv_istore (lv' := [(4, .int (x4_8)), (0, .ref (a 4)), (1, .int (x1)), (2, .int (x2)), (3, .int (x3))]) hx hb dX2_searchFrom_67 hl (by decide) rfl (fun ls hl => ?_)
    refine lv_iload hx hb dX2_searchFrom_69 (lv_at hl 0 rfl) ?_
    refine lv_iconst hx hb dX2_searchFrom_71 ic_2 ?_
    refine lv_icmp_gt (tgt := 130) hx hb dX2_searchFrom_72 (by decide) (fun c_9 => ?_) (fun c_9 => ?_)
    · replace hf := ite_t hf c_9
      obtain ⟨x3_10, ex3_10⟩ : ∃ y : Int32, y = x3 + (1) := ⟨_, rfl⟩
      replace hf := bnd_at hf ex3_10
      refine lv_iinc (v := x3_10) (lv' := [(3, .int (x3_10)), (4, .int (x4_8)), (0, .ref (a 4)), (1, .int (x1)), (2, .int (x2))]) hx hb dX2_searchFrom_130 hl (k := 4) rfl (by rw [ex3_10]; rfl) (by decide) rfl (fun ls hl => ?_)
      refine lv_goto (tgt := 46) hx hb dX2_searchFrom_133 (by decide) ?_
      exact hrec46 S (x3_10) _ _ ls hf hw (lv_sub hl [2, 3, 4, 0] rfl)
    · replace hf := ite_f hf c_9
      refine lv_aload_n hx hb dX2_searchFrom_75 rfl (lv_at hl 1 rfl) ?_
      refine lv_aload_n hx hb dX2_searchFrom_76 rfl (lv_at hl 1 rfl) ?_
      refine gK_4_5 E hw (E.hts _ wl172) dX2_searchFrom_77 ?_
      refine lv_iload_n hx hb dX2_searchFrom_80 rfl (lv_at hl 4 rfl) ?_
      obtain ⟨h_v_11, hf⟩ := rdA_at hf
      refine lK_25 E hw h_v_11 dX2_searchFrom_81 (fun v_11 ev_11 => ?_)
      replace hf := hf v_11 ev_11
      refine lv_iload_n hx hb dX2_searchFrom_82 rfl (lv_at hl 2 rfl) ?_
      obtain ⟨r_13, h_12, hf⟩ := ob_at hf
      refine qk2_isInTime E hw (mk2_isInTime E.hD h_12) wl445 dX2_searchFrom_83 (by refine ⟨?_, ?_⟩ <;> (simp only [RM]; omega)) hl.1 (Nat.le_of_ble_eq_true rfl) ⟨Nat.le_refl 0, Nat.le_refl 0⟩ (fun H locs hw => ?_)
      refine lv_if_eq (tgt := 130) hx hb dX2_searchFrom_86 (by decide) (fun c_15 => ?_) (fun c_15 => ?_)
      · replace hf := ite_t hf c_15
        obtain ⟨x3_16, ex3_16⟩ : ∃ y : Int32, y = x3 + (1) := ⟨_, rfl⟩
        replace hf := bnd_at hf ex3_16
        refine lv_iinc (v := x3_16) (lv' := [(3, .int (x3_16)), (4, .int (x4_8)), (0, .ref (a 4)), (1, .int (x1)), (2, .int (x2))]) hx hb dX2_searchFrom_130 hl (k := 4) rfl (by rw [ex3_16]; rfl) (by decide) rfl (fun ls hl => ?_)
        refine lv_goto (tgt := 46) hx hb dX2_searchFrom_133 (by decide) ?_
        exact hrec46 S (x3_16) _ _ ls hf hw (lv_sub hl [2, 3, 4, 0] rfl)
      · replace hf := ite_f hf c_15
        refine lv_aload_n hx hb dX2_searchFrom_89 rfl (lv_at hl 1 rfl) ?_
        refine gK_4_5 E hw (E.hts _ wl172) dX2_searchFrom_90 ?_
        refine lv_iload_n hx hb dX2_searchFrom_93 rfl (lv_at hl 4 rfl) ?_
        obtain ⟨h_v_17, hf⟩ := rdA_at hf
        refine lK_25 E hw h_v_17 dX2_searchFrom_94 (fun v_17 ev_17 => ?_)
        replace hf := hf v_17 ev_17
        refine lv_topi (fun x5_18 ex5_18 => ?_)
        replace hf := bnd_at hf ex5_18
        refine lv_istore (lv' := [(5, .int (x5_18)), (4, .int (x4_8)), (0, .ref (a 4)), (1, .int (x1)), (2, .int (x2)), (3, .int (x3))]) hx hb dX2_searchFrom_95 hl (by decide) rfl (fun ls hl => ?_)
        refine lv_aload_n hx hb dX2_searchFrom_97 rfl (lv_at hl 2 rfl) ?_
        refine gK_4_5 E hw (E.hts _ wl172) dX2_searchFrom_98 ?_
        refine lv_iload_n hx hb dX2_searchFrom_101 rfl (lv_at hl 5 rfl) ?_
        refine lv_iload_n hx hb dX2_searchFrom_102 rfl (lv_at hl 3 rfl) ?_
        obtain ⟨h_S_19, hf⟩ := ckA_at hf
        refine sK_25 E hw h_S_19 dX2_searchFrom_103 (fun S_19 eS_19 H locs hw => ?_)
        replace hf := bnd_at hf eS_19
        refine lv_aload_n hx hb dX2_searchFrom_104 rfl (lv_at hl 2 rfl) ?_
        refine gK_4_4 E hw (E.hts _ wl171) dX2_searchFrom_105 ?_
        refine lv_iload_n hx hb dX2_searchFrom_108 rfl (lv_at hl 3 rfl) ?_
        refine lv_iload_n hx hb dX2_searchFrom_109 rfl (lv_at hl 5 rfl) ?_
        obtain ⟨h_S_20, hf⟩ := ckA_at hf
        refine sK_24 E hw h_S_20 dX2_searchFrom_110 (fun S_20 eS_20 H locs hw => ?_)
        replace hf := bnd_at hf eS_20
        refine lv_aload_n hx hb dX2_searchFrom_111 rfl (lv_at hl 2 rfl) ?_
        refine lv_iload_n hx hb dX2_searchFrom_112 rfl (lv_at hl 3 rfl) ?_
        refine lv_iconst hx hb dX2_searchFrom_113 ic_1 ?_
        refine lv_iadd hx hb dX2_searchFrom_114 ?_
        refine lv_iload_n hx hb dX2_searchFrom_115 rfl (lv_at hl 4 rfl) ?_
        refine lv_iload hx hb dX2_searchFrom_116 (lv_at hl 1 rfl) ?_
        refine lv_iadd hx hb dX2_searchFrom_118 ?_
        obtain ⟨S_23, h_21, hf⟩ := ob_at hf
        refine qk2_searchFrom E hw (hrecf _ _ _ _ h_21) wl435 dX2_searchFrom_119 (by refine ⟨?_, ?_⟩ <;> (simp only [RM]; omega)) hl.1 (Nat.le_of_ble_eq_true rfl) ⟨Nat.le_refl 0, Nat.le_refl 0⟩ (fun H locs hw => ?_)
        refine lv_aload_n hx hb dX2_searchFrom_122 rfl (lv_at hl 2 rfl) ?_
        refine gK_4_5 E hw (E.hts _ wl172) dX2_searchFrom_123 ?_
        refine lv_iload_n hx hb dX2_searchFrom_126 rfl (lv_at hl 5 rfl) ?_
        refine lv_iload hx hb dX2_searchFrom_127 (lv_at hl 0 rfl) ?_
        obtain ⟨h_S_24, hf⟩ := ckA_at hf
        refine sK_25 E hw h_S_24 dX2_searchFrom_129 (fun S_24 eS_24 H locs hw => ?_)
        replace hf := bnd_at hf eS_24
        obtain ⟨x3_25, ex3_25⟩ : ∃ y : Int32, y = x3 + (1) := ⟨_, rfl⟩
        replace hf := bnd_at hf ex3_25
        refine lv_iinc (v := x3_25) (lv' := [(3, .int (x3_25)), (5, .int (x5_18)), (4, .int (x4_8)), (0, .ref (a 4)), (1, .int (x1)), (2, .int (x2))]) hx hb dX2_searchFrom_130 hl (k := 5) rfl (by rw [ex3_25]; rfl) (by decide) rfl (fun ls hl => ?_)
        refine lv_goto (tgt := 46) hx hb dX2_searchFrom_133 (by decide) ?_
        exact hrec46 S_24 (x3_25) _ _ ls hf hw (lv_sub hl [3, 4, 5, 0] rfl)
theorem k2_searchFrom_l46 {p : Program} {l : Launch} {e : Env} {s : State} {m : MethodId} {args : Array Value} {below : List Frame} {meth : Method} {c : Code} {D : va_G} {a : Nat → Nat} {g : Nat → ClassId} (E : EK p s m args meth c D a g cX2_searchFrom 6 RX2 none) {F : Nat} {d : Nat} {recf : SS → Int32 → Int32 → Option SS} (hrecf : ∀ (S : SS) (x1 x2 : Int32) (out : SS), recf S x1 x2 = some out → Met l yX2_searchFrom (wsm yX2_searchFrom cX2_searchFrom 6 none) (RM (2 + d)) (PK D a g S [.ref (a 4), .int x1, .int x2]) (QK D a g none out) 0 0 (AK a)) (x1 : Int32) (x2 : Int32) {k136 : SS → Option SS} {out : SS} (hk136 : ∀ (S : SS) (H : Heap) (locs : List Loc) (ls : Array Slot), k136 S = some out → WK D a g S s H locs → lv_has ls 6 [(0, .ref (a 4)), (1, .int (x1)), (2, .int (x2))] → W p l e (RM (2 + (d + 1))) s m args below meth c H locs 0 0 (MQ below (QK D a g none out) args s 0 0 (AK a)) (F0 m 136 ls [])) : ∀ (n : Nat) (S : SS) (x3 : Int32) (H : Heap) (locs : List Loc) (ls : Array Slot), lpN (fun _ _ => none) (fun rec46 => k2_searchFrom_B46 F recf x1 x2 rec46 k136) n S x3 = some out → WK D a g S s H locs → lv_has ls 6 [(0, .ref (a 4)), (1, .int (x1)), (2, .int (x2)), (3, .int (x3))] → W p l e (RM (2 + (d + 1))) s m args below meth c H locs 0 0 (MQ below (QK D a g none out) args s 0 0 (AK a)) (F0 m 46 ls []) := by
  intro n
  induction n with
  | zero => intro S x3 H locs ls hf; cases (show (none : Option SS) = some out from hf)
  | succ n ih => intro S x3 H locs ls hf hw hl; exact k2_searchFrom_b46 E (F := F) hrecf x1 x2 ih hk136 S x3 H locs ls hf hw hl
set_option maxRecDepth 100000 in
set_option maxHeartbeats 4000000 in
theorem mk2_searchFrom_R {l : Launch} {D : va_G} {a : Nat → Nat} {g : Nat → ClassId} (hD : ∀ S, va_D (AK a) (wK a g S)) {F : Nat} {d : Nat} {recf : SS → Int32 → Int32 → Option SS} (hrecf : ∀ (S : SS) (x1 x2 : Int32) (out : SS), recf S x1 x2 = some out → Met l yX2_searchFrom (wsm yX2_searchFrom cX2_searchFrom 6 none) (RM (2 + d)) (PK D a g S [.ref (a 4), .int x1, .int x2]) (QK D a g none out) 0 0 (AK a)) {S : SS} {x1 x2 : Int32} {out : SS} (hf : k2_searchFrom_R F recf S x1 x2 = some out) : Met l yX2_searchFrom (wsm yX2_searchFrom cX2_searchFrom 6 none) (RM (2 + (d + 1))) (PK D a g S [.ref (a 4), .int x1, .int x2]) (QK D a g none out) 0 0 (AK a) := by
  refine Met.ofW (cc := cX2_searchFrom) (maxL := 6) (ret := none) (by decide) rfl ?_
  intro p e s m args below meth c s₁ B hml hv
  obtain ⟨rfl, hP, hK, hN⟩ := hv
  have hts := atoms_spec (ws := wsm yX2_searchFrom cX2_searchFrom 6 none) B.pre
  have E : EK p s m _ meth c D a g cX2_searchFrom 6 RX2 none := ⟨B.exec, B.bytes, B.returns, hml, findClass_of_methodNamed B.named, fun w h => hts w (List.mem_cons_of_mem _ h), hK, hN, hD, B.notSynchronized⟩
  have hx := E.hx
  have hb := E.hb
  have hw : WK D a g S s s.heap [] := ⟨hP, va_S.rf⟩
  have hl := lv_entry ([.ref (a 4), .int x1, .int x2]) (n := 6) (Nat.le_of_ble_eq_true rfl)
  rw [lg_entry_eq]
  generalize (lg_sl ([.ref (a 4), .int x1, .int x2]) ++ List.replicate (6 - (lg_sl ([.ref (a 4), .int x1, .int x2])).length) Slot.unset).toArray = ls at hl ⊢
  have hl : lv_has ls 6 [(0, .ref (a 4)), (1, .int (x1)), (2, .int (x2))] := hl
  show W p l e (RM (2 + (d + 1))) s m _ below meth c s.heap [] 0 0 (MQ below (QK D a g none out) _ s 0 0 (AK a)) (F0 m 0 ls [])
  unfold k2_searchFrom_R at hf
  refine lv_iload_n hx hb dX2_searchFrom_0 rfl (lv_at hl 1 rfl) ?_
  refine lv_aload_n hx hb dX2_searchFrom_1 rfl (lv_at hl 0 rfl) ?_
  refine gK_4_1 E hw (E.hts _ wl168) dX2_searchFrom_2 ?_
  refine gK_3_7 E hw (E.hts _ wl142) dX2_searchFrom_5 ?_
  refine lv_icmp_gt (tgt := 26) hx hb dX2_searchFrom_8 (by decide) (fun c_1 => ?_) (fun c_1 => ?_)
  · replace hf := ite_t hf c_1
    cases hf
    exact retK_v E hw dX2_searchFrom_26
  · replace hf := ite_f hf c_1
    refine lv_iload_n hx hb dX2_searchFrom_11 rfl (lv_at hl 2 rfl) ?_
    refine lv_aload_n hx hb dX2_searchFrom_12 rfl (lv_at hl 0 rfl) ?_
    refine gK_4_3 E hw (E.hts _ wl170) dX2_searchFrom_13 ?_
    refine lv_iload_n hx hb dX2_searchFrom_16 rfl (lv_at hl 1 rfl) ?_
    obtain ⟨h_v_2, hf⟩ := rdA_at hf
    refine lK_23 E hw h_v_2 dX2_searchFrom_17 (fun v_2 ev_2 => ?_)
    replace hf := hf v_2 ev_2
    refine lv_iadd hx hb dX2_searchFrom_18 ?_
    refine lv_aload_n hx hb dX2_searchFrom_19 rfl (lv_at hl 0 rfl) ?_
    refine gK_4_7 E hw (E.hts _ wl175) dX2_searchFrom_20 ?_
    refine lv_icmp_lt (tgt := 27) hx hb dX2_searchFrom_23 (by decide) (fun c_3 => ?_) (fun c_3 => ?_)
    · replace hf := ite_t hf c_3
      refine lv_iload_n hx hb dX2_searchFrom_27 rfl (lv_at hl 1 rfl) ?_
      refine lv_aload_n hx hb dX2_searchFrom_28 rfl (lv_at hl 0 rfl) ?_
      refine gK_4_1 E hw (E.hts _ wl168) dX2_searchFrom_29 ?_
      refine gK_3_7 E hw (E.hts _ wl142) dX2_searchFrom_32 ?_
      refine lv_icmp_ne (tgt := 44) hx hb dX2_searchFrom_35 (by decide) (fun c_4 => ?_) (fun c_4 => ?_)
      · replace hf := ite_f hf c_4
        refine lv_iconst hx hb dX2_searchFrom_44 ic_0 ?_
        refine lv_topi (fun x3_5 ex3_5 => ?_)
        replace hf := bnd_at hf ex3_5
        refine lv_istore_n (lv' := [(3, .int (x3_5)), (0, .ref (a 4)), (1, .int (x1)), (2, .int (x2))]) hx hb dX2_searchFrom_45 rfl hl (by decide) rfl (fun ls hl => ?_)
        refine k2_searchFrom_l46 E hrecf (x1) (x2) ?_ F S (x3_5) _ _ ls hf hw (lv_sub hl [1, 2, 3, 0] rfl)
        · intro S_26 H locs ls hf hw hl
          refine lv_aload_n hx hb dX2_searchFrom_136 rfl (lv_at hl 0 rfl) ?_
          refine gK_4_4 E hw (E.hts _ wl171) dX2_searchFrom_137 ?_
          refine lv_iload_n hx hb dX2_searchFrom_140 rfl (lv_at hl 1 rfl) ?_
          refine lv_iconst hx hb dX2_searchFrom_141 ic_m1 ?_
          obtain ⟨h_S_27, hf⟩ := ckA_at hf
          refine sK_24 E hw h_S_27 dX2_searchFrom_142 (fun S_27 eS_27 H locs hw => ?_)
          replace hf := bnd_at hf eS_27
          refine lv_aload_n hx hb dX2_searchFrom_143 rfl (lv_at hl 0 rfl) ?_
          refine lv_iload_n hx hb dX2_searchFrom_144 rfl (lv_at hl 1 rfl) ?_
          refine lv_iconst hx hb dX2_searchFrom_145 ic_1 ?_
          refine lv_iadd hx hb dX2_searchFrom_146 ?_
          refine lv_iload_n hx hb dX2_searchFrom_147 rfl (lv_at hl 2 rfl) ?_
          refine lv_iconst hx hb dX2_searchFrom_148 ic_3 ?_
          refine lv_iadd hx hb dX2_searchFrom_149 ?_
          obtain ⟨S_30, h_28, hf⟩ := ob_at hf
          refine qk2_searchFrom E hw (hrecf _ _ _ _ h_28) wl435 dX2_searchFrom_150 (by refine ⟨?_, ?_⟩ <;> (simp only [RM]; omega)) hl.1 (Nat.le_of_ble_eq_true rfl) ⟨Nat.le_refl 0, Nat.le_refl 0⟩ (fun H locs hw => ?_)
          cases hf
          exact retK_v E hw dX2_searchFrom_153
      · replace hf := ite_t hf c_4
        refine lv_aload_n hx hb dX2_searchFrom_38 rfl (lv_at hl 0 rfl) ?_
        refine lv_iload_n hx hb dX2_searchFrom_39 rfl (lv_at hl 2 rfl) ?_
        obtain ⟨S_33, h_31, hf⟩ := ob_at hf
        refine qk2_keep E hw (mk2_keep E.hD h_31) wl438 dX2_searchFrom_40 (by refine ⟨?_, ?_⟩ <;> (simp only [RM]; omega)) hl.1 (Nat.le_of_ble_eq_true rfl) ⟨Nat.le_refl 0, Nat.le_refl 0⟩ (fun H locs hw => ?_)
        cases hf
        exact retK_v E hw dX2_searchFrom_43
    · replace hf := ite_f hf c_3
      cases hf
      exact retK_v E hw dX2_searchFrom_26
theorem mk2_searchFrom {l : Launch} {D : va_G} {a : Nat → Nat} {g : Nat → ClassId} (hD : ∀ S, va_D (AK a) (wK a g S)) {F : Nat} : ∀ (d : Nat) (S : SS) (x1 x2 : Int32) (out : SS), k2_searchFrom F d S x1 x2 = some out → Met l yX2_searchFrom (wsm yX2_searchFrom cX2_searchFrom 6 none) (RM (2 + d)) (PK D a g S [.ref (a 4), .int x1, .int x2]) (QK D a g none out) 0 0 (AK a) := by
  intro d
  induction d with
  | zero => intro S x1 x2 out hf; cases (show (none : Option SS) = some out from hf)
  | succ d ih => intro S x1 x2 out hf; exact mk2_searchFrom_R hD ih (F := F) hf
/-! X2_solve -/
def k2_solve (F : Nat) (S : SS) : Option SS :=
  if (S 4 8) = 0 then ((k2_measureErrors F S ).bind fun S_4 => (k7_fill_25 F S_4 ((-1 : Int32))).bind fun S_7 => bnd (st S_7 4 7 (((S_7 3 7) * ((3 : Int32))) + ((1 : Int32)))) fun S_8 => (k2_searchFrom F 9 S_8 ((0 : Int32)) ((0 : Int32))).bind fun S_11 => bnd (st S_11 4 8 ((1 : Int32))) fun S_12 => some S_12) else (some S)
set_option maxRecDepth 100000 in
set_option maxHeartbeats 4000000 in
theorem mk2_solve {l : Launch} {D : va_G} {a : Nat → Nat} {g : Nat → ClassId} (hD : ∀ S, va_D (AK a) (wK a g S)) {F : Nat} {S : SS} {out : SS} (hf : k2_solve F S  = some out) : Met l yX2_solve (wsm yX2_solve cX2_solve 1 none) (RM 12) (PK D a g S [.ref (a 4)]) (QK D a g none out) 0 0 (AK a) := by
  refine Met.ofW (cc := cX2_solve) (maxL := 1) (ret := none) (by decide) rfl ?_
  intro p e s m args below meth c s₁ B hml hv
  obtain ⟨rfl, hP, hK, hN⟩ := hv
  have hts := atoms_spec (ws := wsm yX2_solve cX2_solve 1 none) B.pre
  have E : EK p s m _ meth c D a g cX2_solve 1 RX2 none := ⟨B.exec, B.bytes, B.returns, hml, findClass_of_methodNamed B.named, fun w h => hts w (List.mem_cons_of_mem _ h), hK, hN, hD, B.notSynchronized⟩
  have hx := E.hx
  have hb := E.hb
  have hw : WK D a g S s s.heap [] := ⟨hP, va_S.rf⟩
  have hl := lv_entry ([.ref (a 4)]) (n := 1) (Nat.le_of_ble_eq_true rfl)
  rw [lg_entry_eq]
  generalize (lg_sl ([.ref (a 4)]) ++ List.replicate (1 - (lg_sl ([.ref (a 4)])).length) Slot.unset).toArray = ls at hl ⊢
  have hl : lv_has ls 1 [(0, .ref (a 4))] := hl
  show W p l e (RM 12) s m _ below meth c s.heap [] 0 0 (MQ below (QK D a g none out) _ s 0 0 (AK a)) (F0 m 0 ls [])
  unfold k2_solve at hf
  refine lv_aload_n hx hb dX2_solve_0 rfl (lv_at hl 0 rfl) ?_
  refine gK_4_8 E hw (E.hts _ wl176) dX2_solve_1 ?_
  refine lv_if_eq (tgt := 8) hx hb dX2_solve_4 (by decide) (fun c_1 => ?_) (fun c_1 => ?_)
  · replace hf := ite_t hf c_1
    refine lv_aload_n hx hb dX2_solve_8 rfl (lv_at hl 0 rfl) ?_
    obtain ⟨S_4, h_2, hf⟩ := ob_at hf
    refine qk2_measureErrors E hw (mk2_measureErrors E.hD h_2) wl426 dX2_solve_9 ⟨Nat.le_of_ble_eq_true rfl, Nat.le_of_ble_eq_true rfl⟩ hl.1 (Nat.le_of_ble_eq_true rfl) ⟨Nat.le_refl 0, Nat.le_refl 0⟩ (fun H locs hw => ?_)
    refine lv_aload_n hx hb dX2_solve_12 rfl (lv_at hl 0 rfl) ?_
    refine gK_4_5 E hw (E.hts _ wl172) dX2_solve_13 ?_
    refine lv_iconst hx hb dX2_solve_16 ic_m1 ?_
    obtain ⟨S_7, h_5, hf⟩ := ob_at hf
    refine qk7_fill_25 E hw (mk7_fill_25 E.hD h_5) wl434 dX2_solve_17 ⟨Nat.le_of_ble_eq_true rfl, Nat.le_of_ble_eq_true rfl⟩ hl.1 (Nat.le_of_ble_eq_true rfl) ⟨Nat.le_refl 0, Nat.le_refl 0⟩ (fun H locs hw => ?_)
    refine lv_aload_n hx hb dX2_solve_20 rfl (lv_at hl 0 rfl) ?_
    refine lv_aload_n hx hb dX2_solve_21 rfl (lv_at hl 0 rfl) ?_
    refine gK_4_1 E hw (E.hts _ wl168) dX2_solve_22 ?_
    refine gK_3_7 E hw (E.hts _ wl142) dX2_solve_25 ?_
    refine lv_iconst hx hb dX2_solve_28 ic_3 ?_
    refine lv_imul hx hb dX2_solve_29 ?_
    refine lv_iconst hx hb dX2_solve_30 ic_1 ?_
    refine lv_iadd hx hb dX2_solve_31 ?_
    refine pK_4_7 E hw (E.hts _ wl175) dX2_solve_32 (fun S_8 eS_8 H locs hw => ?_)
    replace hf := bnd_at hf eS_8
    refine lv_aload_n hx hb dX2_solve_35 rfl (lv_at hl 0 rfl) ?_
    refine lv_iconst hx hb dX2_solve_36 ic_0 ?_
    refine lv_iconst hx hb dX2_solve_37 ic_0 ?_
    obtain ⟨S_11, h_9, hf⟩ := ob_at hf
    refine qk2_searchFrom E hw (mk2_searchFrom E.hD 9 _ _ _ _ h_9) wl435 dX2_solve_38 ⟨Nat.le_of_ble_eq_true rfl, Nat.le_of_ble_eq_true rfl⟩ hl.1 (Nat.le_of_ble_eq_true rfl) ⟨Nat.le_refl 0, Nat.le_refl 0⟩ (fun H locs hw => ?_)
    refine lv_aload_n hx hb dX2_solve_41 rfl (lv_at hl 0 rfl) ?_
    refine lv_iconst hx hb dX2_solve_42 ic_1 ?_
    refine pK_4_8 E hw nb1 fb1 (E.hts _ wl176) dX2_solve_43 (fun S_12 eS_12 H locs hw => ?_)
    replace hf := bnd_at hf eS_12
    cases hf
    exact retK_v E hw dX2_solve_46
  · replace hf := ite_f hf c_1
    cases hf
    exact retK_v E hw dX2_solve_7
theorem qk2_solve {p : Program} {l : Launch} {e : Env} {R : Room} {s : State} {m : MethodId} {args : Array Value} {below : List Frame} {meth : Method} {c : Code} {H : Heap} {locs : List Loc} {cells slots : Nat} {Q : State → Prop} {cc : ByteArray} {pc : Nat} {ls : Array Slot} {rest : List Value} {D : va_G} {a : Nat → Nat} {g : Nat → ClassId} {nL : Nat} {own : String} {ret : Option FieldType} {S S1 : SS} {k : Nat} (E : EK p s m args meth c D a g cc nL own ret) (hw : WK D a g S s H locs) (hM : Met l yX2_solve (wsm yX2_solve cX2_solve 1 none) (RM k) (PK D a g S [.ref (a 4)]) (QK D a g none S1) 0 0 (AK a)) {idx : Nat} (hlk : Cond.methodLink own idx yX2_solve ∈ wd) (hdg : decode cc pc = .ok (.invokevirtual idx, 3)) (hR : k + 1 ≤ R.frames ∧ 8 + (1 + 11) + 64 * k ≤ R.locals) (hls : ls.size = nL) (hrest : (rest.map fun v => v.category).sum ≤ 8) (hcs : cells ≤ R.cells ∧ slots ≤ R.slots) (kk : ∀ (H1 : Heap) (locs1 : List Loc), WK D a g S1 s H1 locs1 → W p l e R s m args below meth c H1 locs1 cells slots Q (F0 m (pc + 3) ls (rest))) : W p l e R s m args below meth c H locs cells slots Q (F0 m pc ls (.ref (a 4) :: rest)) :=
  callK_v hw (va_runV (As := []) (rest := rest) ⟨E.hx, E.hb, E.hml, E.hown, E.hts⟩ hM ⟨cb_of 0 E.hts wl425 wl40 hlk (by decide +kernel) hR, E.hts _ wl423, E.hts _ wl424⟩ ⟨PK_blind, va_recv E.hK hw.1 (ci := 2) (q0 := 4) rfl rfl, PK_pre E.hK E.hN hw.1⟩ rfl rfl hls rfl (lv_room hrest) hdg hcs) kk
/-! X0_priceOf -/
def k0_priceOf (F : Nat) (S : SS) (x1 : Int32) : Option Int32 :=
  some ((if ((0 : Int32)) < (x1 - (S 5 2)) then x1 - (S 5 2) else (0 : Int32)) * (S 5 3))
set_option maxRecDepth 100000 in
set_option maxHeartbeats 4000000 in
theorem mk0_priceOf {l : Launch} {D : va_G} {a : Nat → Nat} {g : Nat → ClassId} (hD : ∀ S, va_D (AK a) (wK a g S)) {F : Nat} {S : SS} {x1 : Int32} {out : Int32} (hf : k0_priceOf F S x1 = some out) : Met l yX0_priceOf (wsm yX0_priceOf cX0_priceOf 2 (some .int)) (RM 1) (PK D a g S [.ref (a 5), .int x1]) (QK D a g (some (.int out)) S) 0 0 (AK a) := by
  refine Met.ofW (cc := cX0_priceOf) (maxL := 2) (ret := (some .int)) (by decide) rfl ?_
  intro p e s m args below meth c s₁ B hml hv
  obtain ⟨rfl, hP, hK, hN⟩ := hv
  have hts := atoms_spec (ws := wsm yX0_priceOf cX0_priceOf 2 (some .int)) B.pre
  have E : EK p s m _ meth c D a g cX0_priceOf 2 RX0 (some .int) := ⟨B.exec, B.bytes, B.returns, hml, findClass_of_methodNamed B.named, fun w h => hts w (List.mem_cons_of_mem _ h), hK, hN, hD, B.notSynchronized⟩
  have hx := E.hx
  have hb := E.hb
  have hw : WK D a g S s s.heap [] := ⟨hP, va_S.rf⟩
  have hl := lv_entry ([.ref (a 5), .int x1]) (n := 2) (Nat.le_of_ble_eq_true rfl)
  rw [lg_entry_eq]
  generalize (lg_sl ([.ref (a 5), .int x1]) ++ List.replicate (2 - (lg_sl ([.ref (a 5), .int x1])).length) Slot.unset).toArray = ls at hl ⊢
  have hl : lv_has ls 2 [(0, .ref (a 5)), (1, .int (x1))] := hl
  show W p l e (RM 1) s m _ below meth c s.heap [] 0 0 (MQ below (QK D a g (some (.int out)) S) _ s 0 0 (AK a)) (F0 m 0 ls [])
  unfold k0_priceOf at hf
  refine lv_iconst hx hb dX0_priceOf_0 ic_0 ?_
  refine lv_iload_n hx hb dX0_priceOf_1 rfl (lv_at hl 1 rfl) ?_
  refine lv_aload_n hx hb dX0_priceOf_2 rfl (lv_at hl 0 rfl) ?_
  refine gK_5_2 E hw (E.hts _ wl204) dX0_priceOf_3 ?_
  refine lv_isub hx hb dX0_priceOf_6 ?_
  refine va_mmax hx hb (by rw [E.hml]; exact hl.1.symm) E.hown (E.hts _ wl458) (E.hts _ wl459) (E.hts _ wl45) (E.hts _ wl460) (Nat.le_of_ble_eq_true rfl) (Nat.le_of_ble_eq_true rfl) (Nat.le_refl 0) (Nat.le_refl 0) dX0_priceOf_7 ?_
  refine lv_aload_n hx hb dX0_priceOf_10 rfl (lv_at hl 0 rfl) ?_
  refine gK_5_3 E hw (E.hts _ wl205) dX0_priceOf_11 ?_
  refine lv_imul hx hb dX0_priceOf_14 ?_
  cases hf
  exact retK_i E hw dX0_priceOf_15
theorem qk0_priceOf {p : Program} {l : Launch} {e : Env} {R : Room} {s : State} {m : MethodId} {args : Array Value} {below : List Frame} {meth : Method} {c : Code} {H : Heap} {locs : List Loc} {cells slots : Nat} {Q : State → Prop} {cc : ByteArray} {pc : Nat} {ls : Array Slot} {rest : List Value} {D : va_G} {a : Nat → Nat} {g : Nat → ClassId} {nL : Nat} {own : String} {ret : Option FieldType} {S S1 : SS} {k : Nat} {x1 : Int32} {r : Int32} (E : EK p s m args meth c D a g cc nL own ret) (hw : WK D a g S s H locs) (hM : Met l yX0_priceOf (wsm yX0_priceOf cX0_priceOf 2 (some .int)) (RM k) (PK D a g S [.ref (a 5), .int x1]) (QK D a g (some (.int r)) S1) 0 0 (AK a)) {idx : Nat} (hlk : Cond.methodLink own idx yX0_priceOf ∈ wd) (hdg : decode cc pc = .ok (.invokevirtual idx, 3)) (hR : k + 1 ≤ R.frames ∧ 8 + (2 + 11) + 64 * k ≤ R.locals) (hls : ls.size = nL) (hrest : (rest.map fun v => v.category).sum ≤ 8) (hcs : cells ≤ R.cells ∧ slots ≤ R.slots) (kk : ∀ (H1 : Heap) (locs1 : List Loc), WK D a g S1 s H1 locs1 → W p l e R s m args below meth c H1 locs1 cells slots Q (F0 m (pc + 3) ls (.int r :: rest))) : W p l e R s m args below meth c H locs cells slots Q (F0 m pc ls (.int x1 :: .ref (a 5) :: rest)) :=
  callK_i hw (va_runV (As := [.int x1]) (rest := rest) ⟨E.hx, E.hb, E.hml, E.hown, E.hts⟩ hM ⟨cb_of 1 E.hts wl457 wl41 hlk (by decide +kernel) hR, E.hts _ wl456, E.hts _ wl8⟩ ⟨PK_blind, va_recv E.hK hw.1 (ci := 0) (q0 := 5) rfl rfl, PK_pre E.hK E.hN hw.1⟩ rfl rfl hls rfl (lv_room hrest) hdg hcs) kk
/-! X0_owedAsJoined -/
def k0_owedAsJoined_B23 (F : Nat) (S : SS) (x1 : Int32) (x2 : Int32) (rec23 : Int32 → Int32 → Int32 → Option Int32) (x3 : Int32) (x4 : Int32) (x5 : Int32) : Option Int32 :=
  if (S 3 7) ≤ x5 then (some (x3)) else ((rdA 7 (S 26) x5).bind fun v_7 => if v_7 = x1 then (if x4 = ((-1 : Int32)) then (bnd (x5) fun x4_11 => bnd (x5 + (1)) fun x5_12 => rec23 (x3) (x4_11) (x5_12)) else ((rdA 7 (S 21) x4).bind fun v_13 => if v_13 = x2 then ((rdA 7 (S 20) x5).bind fun v_17 => (rdA 7 (S 20) x4).bind fun v_18 => (k0_priceOf F S (v_17 - v_18)).bind fun r_20 => bnd (x3 + r_20) fun x3_22 => bnd (x5) fun x4_23 => bnd (x5 + (1)) fun x5_24 => rec23 (x3_22) (x4_23) (x5_24)) else (bnd (x5) fun x4_15 => bnd (x5 + (1)) fun x5_16 => rec23 (x3) (x4_15) (x5_16)))) else (bnd (x5 + (1)) fun x5_9 => rec23 (x3) (x4) (x5_9)))
def k0_owedAsJoined (F : Nat) (S : SS) (x1 : Int32) (x2 : Int32) : Option Int32 :=
  (rdA 4 (S 17) x1).bind fun v_1 => if v_1 = x2 then (some ((0 : Int32))) else (bnd ((0 : Int32)) fun x3_3 => bnd ((-1 : Int32)) fun x4_4 => bnd ((0 : Int32)) fun x5_5 => lpN (fun _ _ _ => none) (fun rec23 => k0_owedAsJoined_B23 F S (x1) (x2) rec23 ) F (x3_3) (x4_4) (x5_5))
set_option maxRecDepth 100000 in
set_option maxHeartbeats 4000000 in
theorem k0_owedAsJoined_b23 {p : Program} {l : Launch} {e : Env} {s : State} {m : MethodId} {args : Array Value} {below : List Frame} {meth : Method} {c : Code} {D : va_G} {a : Nat → Nat} {g : Nat → ClassId} (E : EK p s m args meth c D a g cX0_owedAsJoined 6 RX0 (some .int)) {F : Nat}  (S : SS) (x1 : Int32) (x2 : Int32) {rec23 : Int32 → Int32 → Int32 → Option Int32} {out : Int32} (hrec23 : ∀ (x3 : Int32) (x4 : Int32) (x5 : Int32) (H : Heap) (locs : List Loc) (ls : Array Slot), rec23 x3 x4 x5 = some out → WK D a g S s H locs → lv_has ls 6 [(0, .ref (a 5)), (1, .int (x1)), (2, .int (x2)), (3, .int (x3)), (4, .int (x4)), (5, .int (x5))] → W p l e (RM 2) s m args below meth c H locs 0 0 (MQ below (QK D a g (some (.int out)) S) args s 0 0 (AK a)) (F0 m 23 ls []))  (x3 : Int32) (x4 : Int32) (x5 : Int32) (H : Heap) (locs : List Loc) (ls : Array Slot) (hf : k0_owedAsJoined_B23 F S x1 x2 rec23 x3 x4 x5 = some out) (hw : WK D a g S s H locs) (hl : lv_has ls 6 [(0, .ref (a 5)), (1, .int (x1)), (2, .int (x2)), (3, .int (x3)), (4, .int (x4)), (5, .int (x5))]) : W p l e (RM 2) s m args below meth c H locs 0 0 (MQ below (QK D a g (some (.int out)) S) args s 0 0 (AK a)) (F0 m 23 ls []) := by
  have hx := E.hx
  have hb := E.hb
  unfold k0_owedAsJoined_B23 at hf
  refine lv_iload hx hb dX0_owedAsJoined_23 (lv_at hl 5 rfl) ?_
  refine lv_aload_n hx hb dX0_owedAsJoined_25 rfl (lv_at hl 0 rfl) ?_
  refine gK_5_0 E hw (E.hts _ wl202) dX0_owedAsJoined_26 ?_
  refine gK_3_7 E hw (E.hts _ wl141) dX0_owedAsJoined_29 ?_
  refine lv_icmp_ge (tgt := 107) hx hb dX0_owedAsJoined_32 (by decide) (fun c_6 => ?_) (fun c_6 => ?_)
  · replace hf := ite_t hf c_6
    refine lv_iload_n hx hb dX0_owedAsJoined_107 rfl (lv_at hl 3 rfl) ?_
    cases hf
    exact retK_i E hw dX0_owedAsJoined_108
  · replace hf := ite_f hf c_6
    refine lv_aload_n hx hb dX0_owedAsJoined_35 rfl (lv_at hl 0 rfl) ?_
    refine gK_5_1 E hw (E.hts _ wl203) dX0_owedAsJoined_36 ?_
    refine gK_4_6 E hw (E.hts _ wl174) dX0_owedAsJoined_39 ?_
    refine lv_iload hx hb dX0_owedAsJoined_42 (lv_at hl 5 rfl) ?_
    obtain ⟨h_v_7, hf⟩ := rdA_at hf
    refine lK_26 E hw h_v_7 dX0_owedAsJoined_44 (fun v_7 ev_7 => ?_)
    replace hf := hf v_7 ev_7
    refine lv_iload_n hx hb dX0_owedAsJoined_45 rfl (lv_at hl 1 rfl) ?_
    refine lv_icmp_ne (tgt := 101) hx hb dX0_owedAsJoined_46 (by decide) (fun c_8 => ?_) (fun c_8 => ?_)
    · replace hf := ite_f hf c_8
      obtain ⟨x5_9, ex5_9⟩ : ∃ y : Int32, y = x5 + (1) := ⟨_, rfl⟩
      replace hf := bnd_at hf ex5_9
      refine lv_iinc (v := x5_9) (lv' := [(5, .int (x5_9)), (0, .ref (a 5)), (1, .int (x1)), (2, .int (x2)), (3, .int (x3)), (4, .int (x4))]) hx hb dX0_owedAsJoined_101 hl (k := 5) rfl (by rw [ex5_9]; rfl) (by decide) rfl (fun ls hl => ?_)
      refine lv_goto (tgt := 23) hx hb dX0_owedAsJoined_104 (by decide) ?_
      exact hrec23 (x3) (x4) (x5_9) _ _ ls hf hw (lv_sub hl [1, 2, 3, 4, 5, 0] rfl)
    · replace hf := ite_t hf c_8
      refine lv_iload hx hb dX0_owedAsJoined_49 (lv_at hl 4 rfl) ?_
      refine lv_iconst hx hb dX0_owedAsJoined_51 ic_m1 ?_
      refine lv_icmp_eq (tgt := 97) hx hb dX0_owedAsJoined_52 (by decide) (fun c_10 => ?_) (fun c_10 => ?_)
      · replace hf := ite_t hf c_10
        refine lv_iload hx hb dX0_owedAsJoined_97 (lv_at hl 5 rfl) ?_
        refine lv_topi (fun x4_11 ex4_11 => ?_)
        replace hf := bnd_at hf ex4_11
        refine lv_istore (lv' := [(4, .int (x4_11)), (0, .ref (a 5)), (1, .int (x1)), (2, .int (x2)), (3, .int (x3)), (5, .int (x5))]) hx hb dX0_owedAsJoined_99 hl (by decide) rfl (fun ls hl => ?_)
        obtain ⟨x5_12, ex5_12⟩ : ∃ y : Int32, y = x5 + (1) := ⟨_, rfl⟩
        replace hf := bnd_at hf ex5_12
        refine lv_iinc (v := x5_12) (lv' := [(5, .int (x5_12)), (4, .int (x4_11)), (0, .ref (a 5)), (1, .int (x1)), (2, .int (x2)), (3, .int (x3))]) hx hb dX0_owedAsJoined_101 hl (k := 5) rfl (by rw [ex5_12]; rfl) (by decide) rfl (fun ls hl => ?_)
        refine lv_goto (tgt := 23) hx hb dX0_owedAsJoined_104 (by decide) ?_
        exact hrec23 (x3) (x4_11) (x5_12) _ _ ls hf hw (lv_sub hl [2, 3, 4, 5, 1, 0] rfl)
      · replace hf := ite_f hf c_10
        refine lv_aload_n hx hb dX0_owedAsJoined_55 rfl (lv_at hl 0 rfl) ?_
        refine gK_5_0 E hw (E.hts _ wl202) dX0_owedAsJoined_56 ?_
        refine gK_3_6 E hw (E.hts _ wl139) dX0_owedAsJoined_59 ?_
        refine lv_iload hx hb dX0_owedAsJoined_62 (lv_at hl 4 rfl) ?_
        obtain ⟨h_v_13, hf⟩ := rdA_at hf
        refine lK_21 E hw h_v_13 dX0_owedAsJoined_64 (fun v_13 ev_13 => ?_)
        replace hf := hf v_13 ev_13
        refine lv_iload_n hx hb dX0_owedAsJoined_65 rfl (lv_at hl 2 rfl) ?_
        refine lv_icmp_ne (tgt := 97) hx hb dX0_owedAsJoined_66 (by decide) (fun c_14 => ?_) (fun c_14 => ?_)
        · replace hf := ite_f hf c_14
          refine lv_iload hx hb dX0_owedAsJoined_97 (lv_at hl 5 rfl) ?_
          refine lv_topi (fun x4_15 ex4_15 => ?_)
          replace hf := bnd_at hf ex4_15
          refine lv_istore (lv' := [(4, .int (x4_15)), (0, .ref (a 5)), (1, .int (x1)), (2, .int (x2)), (3, .int (x3)), (5, .int (x5))]) hx hb dX0_owedAsJoined_99 hl (by decide) rfl (fun ls hl => ?_)
          obtain ⟨x5_16, ex5_16⟩ : ∃ y : Int32, y = x5 + (1) := ⟨_, rfl⟩
          replace hf := bnd_at hf ex5_16
          refine lv_iinc (v := x5_16) (lv' := [(5, .int (x5_16)), (4, .int (x4_15)), (0, .ref (a 5)), (1, .int (x1)), (2, .int (x2)), (3, .int (x3))]) hx hb dX0_owedAsJoined_101 hl (k := 5) rfl (by rw [ex5_16]; rfl) (by decide) rfl (fun ls hl => ?_)
          refine lv_goto (tgt := 23) hx hb dX0_owedAsJoined_104 (by decide) ?_
          exact hrec23 (x3) (x4_15) (x5_16) _ _ ls hf hw (lv_sub hl [2, 3, 4, 5, 1, 0] rfl)
        · replace hf := ite_t hf c_14
          refine lv_iload_n hx hb dX0_owedAsJoined_69 rfl (lv_at hl 3 rfl) ?_
          refine lv_aload_n hx hb dX0_owedAsJoined_70 rfl (lv_at hl 0 rfl) ?_
          refine lv_aload_n hx hb dX0_owedAsJoined_71 rfl (lv_at hl 0 rfl) ?_
          refine gK_5_0 E hw (E.hts _ wl202) dX0_owedAsJoined_72 ?_
          refine gK_3_5 E hw (E.hts _ wl136) dX0_owedAsJoined_75 ?_
          refine lv_iload hx hb dX0_owedAsJoined_78 (lv_at hl 5 rfl) ?_
          obtain ⟨h_v_17, hf⟩ := rdA_at hf
          refine lK_20 E hw h_v_17 dX0_owedAsJoined_80 (fun v_17 ev_17 => ?_)
          replace hf := hf v_17 ev_17
          refine lv_aload_n hx hb dX0_owedAsJoined_81 rfl (lv_at hl 0 rfl) ?_
          refine gK_5_0 E hw (E.hts _ wl202) dX0_owedAsJoined_82 ?_
          refine gK_3_5 E hw (E.hts _ wl136) dX0_owedAsJoined_85 ?_
          refine lv_iload hx hb dX0_owedAsJoined_88 (lv_at hl 4 rfl) ?_
          obtain ⟨h_v_18, hf⟩ := rdA_at hf
          refine lK_20 E hw h_v_18 dX0_owedAsJoined_90 (fun v_18 ev_18 => ?_)
          replace hf := hf v_18 ev_18
          refine lv_isub hx hb dX0_owedAsJoined_91 ?_
          obtain ⟨r_20, h_19, hf⟩ := ob_at hf
          refine qk0_priceOf E hw (mk0_priceOf E.hD h_19) wl454 dX0_owedAsJoined_92 ⟨Nat.le_of_ble_eq_true rfl, Nat.le_of_ble_eq_true rfl⟩ hl.1 (Nat.le_of_ble_eq_true rfl) ⟨Nat.le_refl 0, Nat.le_refl 0⟩ (fun H locs hw => ?_)
          refine lv_iadd hx hb dX0_owedAsJoined_95 ?_
          refine lv_topi (fun x3_22 ex3_22 => ?_)
          replace hf := bnd_at hf ex3_22
          refine lv_istore_n (lv' := [(3, .int (x3_22)), (0, .ref (a 5)), (1, .int (x1)), (2, .int (x2)), (4, .int (x4)), (5, .int (x5))]) hx hb dX0_owedAsJoined_96 rfl hl (by decide) rfl (fun ls hl => ?_)
          refine lv_iload hx hb dX0_owedAsJoined_97 (lv_at hl 5 rfl) ?_
          refine lv_topi (fun x4_23 ex4_23 => ?_)
          replace hf := bnd_at hf ex4_23
          refine lv_istore (lv' := [(4, .int (x4_23)), (3, .int (x3_22)), (0, .ref (a 5)), (1, .int (x1)), (2, .int (x2)), (5, .int (x5))]) hx hb dX0_owedAsJoined_99 hl (by decide) rfl (fun ls hl => ?_)
          obtain ⟨x5_24, ex5_24⟩ : ∃ y : Int32, y = x5 + (1) := ⟨_, rfl⟩
          replace hf := bnd_at hf ex5_24
          refine lv_iinc (v := x5_24) (lv' := [(5, .int (x5_24)), (4, .int (x4_23)), (3, .int (x3_22)), (0, .ref (a 5)), (1, .int (x1)), (2, .int (x2))]) hx hb dX0_owedAsJoined_101 hl (k := 5) rfl (by rw [ex5_24]; rfl) (by decide) rfl (fun ls hl => ?_)
          refine lv_goto (tgt := 23) hx hb dX0_owedAsJoined_104 (by decide) ?_
          exact hrec23 (x3_22) (x4_23) (x5_24) _ _ ls hf hw (lv_sub hl [3, 4, 5, 2, 1, 0] rfl)
theorem k0_owedAsJoined_l23 {p : Program} {l : Launch} {e : Env} {s : State} {m : MethodId} {args : Array Value} {below : List Frame} {meth : Method} {c : Code} {D : va_G} {a : Nat → Nat} {g : Nat → ClassId} (E : EK p s m args meth c D a g cX0_owedAsJoined 6 RX0 (some .int)) {F : Nat}  (S : SS) (x1 : Int32) (x2 : Int32) {out : Int32}  : ∀ (n : Nat) (x3 : Int32) (x4 : Int32) (x5 : Int32) (H : Heap) (locs : List Loc) (ls : Array Slot), lpN (fun _ _ _ => none) (fun rec23 => k0_owedAsJoined_B23 F S x1 x2 rec23) n x3 x4 x5 = some out → WK D a g S s H locs → lv_has ls 6 [(0, .ref (a 5)), (1, .int (x1)), (2, .int (x2)), (3, .int (x3)), (4, .int (x4)), (5, .int (x5))] → W p l e (RM 2) s m args below meth c H locs 0 0 (MQ below (QK D a g (some (.int out)) S) args s 0 0 (AK a)) (F0 m 23 ls []) := by
  intro n
  induction n with
  | zero => intro x3 x4 x5 H locs ls hf; cases (show (none : Option Int32) = some out from hf)
  | succ n ih => intro x3 x4 x5 H locs ls hf hw hl; exact k0_owedAsJoined_b23 E (F := F) S x1 x2 ih x3 x4 x5 H locs ls hf hw hl
set_option maxRecDepth 100000 in
set_option maxHeartbeats 4000000 in
theorem mk0_owedAsJoined {l : Launch} {D : va_G} {a : Nat → Nat} {g : Nat → ClassId} (hD : ∀ S, va_D (AK a) (wK a g S)) {F : Nat} {S : SS} {x1 x2 : Int32} {out : Int32} (hf : k0_owedAsJoined F S x1 x2 = some out) : Met l yX0_owedAsJoined (wsm yX0_owedAsJoined cX0_owedAsJoined 6 (some .int)) (RM 2) (PK D a g S [.ref (a 5), .int x1, .int x2]) (QK D a g (some (.int out)) S) 0 0 (AK a) := by
  refine Met.ofW (cc := cX0_owedAsJoined) (maxL := 6) (ret := (some .int)) (by decide) rfl ?_
  intro p e s m args below meth c s₁ B hml hv
  obtain ⟨rfl, hP, hK, hN⟩ := hv
  have hts := atoms_spec (ws := wsm yX0_owedAsJoined cX0_owedAsJoined 6 (some .int)) B.pre
  have E : EK p s m _ meth c D a g cX0_owedAsJoined 6 RX0 (some .int) := ⟨B.exec, B.bytes, B.returns, hml, findClass_of_methodNamed B.named, fun w h => hts w (List.mem_cons_of_mem _ h), hK, hN, hD, B.notSynchronized⟩
  have hx := E.hx
  have hb := E.hb
  have hw : WK D a g S s s.heap [] := ⟨hP, va_S.rf⟩
  have hl := lv_entry ([.ref (a 5), .int x1, .int x2]) (n := 6) (Nat.le_of_ble_eq_true rfl)
  rw [lg_entry_eq]
  generalize (lg_sl ([.ref (a 5), .int x1, .int x2]) ++ List.replicate (6 - (lg_sl ([.ref (a 5), .int x1, .int x2])).length) Slot.unset).toArray = ls at hl ⊢
  have hl : lv_has ls 6 [(0, .ref (a 5)), (1, .int (x1)), (2, .int (x2))] := hl
  show W p l e (RM 2) s m _ below meth c s.heap [] 0 0 (MQ below (QK D a g (some (.int out)) S) _ s 0 0 (AK a)) (F0 m 0 ls [])
  unfold k0_owedAsJoined at hf
  refine lv_aload_n hx hb dX0_owedAsJoined_0 rfl (lv_at hl 0 rfl) ?_
  refine gK_5_0 E hw (E.hts _ wl202) dX0_owedAsJoined_1 ?_
  refine gK_3_1 E hw (E.hts _ wl126) dX0_owedAsJoined_4 ?_
  refine lv_iload_n hx hb dX0_owedAsJoined_7 rfl (lv_at hl 1 rfl) ?_
  obtain ⟨h_v_1, hf⟩ := rdA_at hf
  refine lK_17 E hw h_v_1 dX0_owedAsJoined_8 (fun v_1 ev_1 => ?_)
  replace hf := hf v_1 ev_1
  refine lv_iload_n hx hb dX0_owedAsJoined_9 rfl (lv_at hl 2 rfl) ?_
  refine lv_icmp_ne (tgt := 15) hx hb dX0_owedAsJoined_10 (by decide) (fun c_2 => ?_) (fun c_2 => ?_)
  · replace hf := ite_f hf c_2
    refine lv_iconst hx hb dX0_owedAsJoined_15 ic_0 ?_
    refine lv_topi (fun x3_3 ex3_3 => ?_)
    replace hf := bnd_at hf ex3_3
    refine lv_istore_n (lv' := [(3, .int (x3_3)), (0, .ref (a 5)), (1, .int (x1)), (2, .int (x2))]) hx hb dX0_owedAsJoined_16 rfl hl (by decide) rfl (fun ls hl => ?_)
    refine lv_iconst hx hb dX0_owedAsJoined_17 ic_m1 ?_
    refine lv_topi (fun x4_4 ex4_4 => ?_)
    replace hf := bnd_at hf ex4_4
    refine lv_istore (lv' := [(4, .int (x4_4)), (3, .int (x3_3)), (0, .ref (a 5)), (1, .int (x1)), (2, .int (x2))]) hx hb dX0_owedAsJoined_18 hl (by decide) rfl (fun ls hl => ?_)
    refine lv_iconst hx hb dX0_owedAsJoined_20 ic_0 ?_
    refine lv_topi (fun x5_5 ex5_5 => ?_)
    replace hf := bnd_at hf ex5_5
    refine lv_istore (lv' := [(5, .int (x5_5)), (4, .int (x4_4)), (3, .int (x3_3)), (0, .ref (a 5)), (1, .int (x1)), (2, .int (x2))]) hx hb dX0_owedAsJoined_21 hl (by decide) rfl (fun ls hl => ?_)
    refine k0_owedAsJoined_l23 E S (x1) (x2)  F (x3_3) (x4_4) (x5_5) _ _ ls hf hw (lv_sub hl [3, 4, 5, 2, 1, 0] rfl)
  · replace hf := ite_t hf c_2
    refine lv_iconst hx hb dX0_owedAsJoined_13 ic_0 ?_
    cases hf
    exact retK_i E hw dX0_owedAsJoined_14
theorem qk0_owedAsJoined {p : Program} {l : Launch} {e : Env} {R : Room} {s : State} {m : MethodId} {args : Array Value} {below : List Frame} {meth : Method} {c : Code} {H : Heap} {locs : List Loc} {cells slots : Nat} {Q : State → Prop} {cc : ByteArray} {pc : Nat} {ls : Array Slot} {rest : List Value} {D : va_G} {a : Nat → Nat} {g : Nat → ClassId} {nL : Nat} {own : String} {ret : Option FieldType} {S S1 : SS} {k : Nat} {x1 x2 : Int32} {r : Int32} (E : EK p s m args meth c D a g cc nL own ret) (hw : WK D a g S s H locs) (hM : Met l yX0_owedAsJoined (wsm yX0_owedAsJoined cX0_owedAsJoined 6 (some .int)) (RM k) (PK D a g S [.ref (a 5), .int x1, .int x2]) (QK D a g (some (.int r)) S1) 0 0 (AK a)) {idx : Nat} (hlk : Cond.methodLink own idx yX0_owedAsJoined ∈ wd) (hdg : decode cc pc = .ok (.invokevirtual idx, 3)) (hR : k + 1 ≤ R.frames ∧ 8 + (6 + 11) + 64 * k ≤ R.locals) (hls : ls.size = nL) (hrest : (rest.map fun v => v.category).sum ≤ 8) (hcs : cells ≤ R.cells ∧ slots ≤ R.slots) (kk : ∀ (H1 : Heap) (locs1 : List Loc), WK D a g S1 s H1 locs1 → W p l e R s m args below meth c H1 locs1 cells slots Q (F0 m (pc + 3) ls (.int r :: rest))) : W p l e R s m args below meth c H locs cells slots Q (F0 m pc ls (.int x2 :: .int x1 :: .ref (a 5) :: rest)) :=
  callK_i hw (va_runV (As := [.int x1, .int x2]) (rest := rest) ⟨E.hx, E.hb, E.hml, E.hown, E.hts⟩ hM ⟨cb_of 2 E.hts wl453 wl41 hlk (by decide +kernel) hR, E.hts _ wl452, E.hts _ wl7⟩ ⟨PK_blind, va_recv E.hK hw.1 (ci := 0) (q0 := 5) rfl rfl, PK_pre E.hK E.hN hw.1⟩ rfl rfl hls rfl (lv_room hrest) hdg hcs) kk
/-! X0_addCharges[35] -/
def k0_addCharges_35_B30 (F : Nat) (x2 : Int32) (rec30 : SS → Int32 → Option SS) (k74 : SS → Option SS) (S : SS) (x3 : Int32) : Option SS :=
  if ((8 : Int32)) ≤ x3 then (k74 S) else ((k0_owedAsJoined F S (x2) (x3)).bind fun r_10 => bnd (r_10) fun x4_12 => (rdA 8 (S 35) x3).bind fun v_13 => (ckA 8 x3).bind fun _ => bnd (st S 35 (Int32.toNatClampNeg x3) (v_13 - x4_12)) fun S_14 => (rdA 4 (S_14 17) x2).bind fun v_15 => (rdA 8 (S_14 35) v_15).bind fun v_16 => (ckA 8 v_15).bind fun _ => bnd (st S_14 35 (Int32.toNatClampNeg v_15) (v_16 + x4_12)) fun S_17 => bnd (x3 + (1)) fun x3_18 => rec30 S_17 (x3_18))
def k0_addCharges_35_B17 (F : Nat) (rec17 : SS → Int32 → Option SS) (S : SS) (x2 : Int32) : Option SS :=
  if (S 3 2) ≤ x2 then (some S) else (bnd ((0 : Int32)) fun x3_7 => lpN (fun _ _ => none) (fun rec30 => k0_addCharges_35_B30 F (x2) rec30 (fun S_19 => bnd (x2 + (1)) fun x2_20 => rec17 S_19 (x2_20))) F S (x3_7))
def k0_addCharges_35 (F : Nat) (S : SS) : Option SS :=
  if ((8 : Int32)) ≤ ((8 : Int32)) then ((k2_solve F S ).bind fun S_4 => bnd ((0 : Int32)) fun x2_5 => lpN (fun _ _ => none) (fun rec17 => k0_addCharges_35_B17 F rec17 ) F S_4 (x2_5)) else (some S)
set_option maxRecDepth 100000 in
set_option maxHeartbeats 4000000 in
theorem k0_addCharges_35_b30 {p : Program} {l : Launch} {e : Env} {s : State} {m : MethodId} {args : Array Value} {below : List Frame} {meth : Method} {c : Code} {D : va_G} {a : Nat → Nat} {g : Nat → ClassId} (E : EK p s m args meth c D a g cX0_addCharges 5 RX0 none) {F : Nat}  (x2 : Int32) {rec30 : SS → Int32 → Option SS} {k74 : SS → Option SS} {out : SS} (hrec30 : ∀ (S : SS) (x3 : Int32) (H : Heap) (locs : List Loc) (ls : Array Slot), rec30 S x3 = some out → WK D a g S s H locs → lv_has ls 5 [(0, .ref (a 5)), (1, .ref (a 35)), (2, .int (x2)), (3, .int (x3))] → W p l e (RM 13) s m args below meth c H locs 0 0 (MQ below (QK D a g none out) args s 0 0 (AK a)) (F0 m 30 ls [])) (hk74 : ∀ (S : SS) (H : Heap) (locs : List Loc) (ls : Array Slot), k74 S = some out → WK D a g S s H locs → lv_has ls 5 [(0, .ref (a 5)), (1, .ref (a 35)), (2, .int (x2))] → W p l e (RM 13) s m args below meth c H locs 0 0 (MQ below (QK D a g none out) args s 0 0 (AK a)) (F0 m 74 ls [])) (S : SS) (x3 : Int32) (H : Heap) (locs : List Loc) (ls : Array Slot) (hf : k0_addCharges_35_B30 F x2 rec30 k74 S x3 = some out) (hw : WK D a g S s H locs) (hl : lv_has ls 5 [(0, .ref (a 5)), (1, .ref (a 35)), (2, .int (x2)), (3, .int (x3))]) : W p l e (RM 13) s m args below meth c H locs 0 0 (MQ below (QK D a g none out) args s 0 0 (AK a)) (F0 m 30 ls []) := by
  have hx := E.hx
  have hb := E.hb
  unfold k0_addCharges_35_B30 at hf
  refine lv_iload_n hx hb dX0_addCharges_30 rfl (lv_at hl 3 rfl) ?_
  refine lv_bipush hx hb dX0_addCharges_31 bp_8 ?_
  refine lv_icmp_ge (tgt := 74) hx hb dX0_addCharges_33 (by decide) (fun c_8 => ?_) (fun c_8 => ?_)
  · replace hf := ite_t hf c_8
    exact hk74 S _ _ ls hf hw (lv_sub hl [0, 1, 2] rfl)
  · replace hf := ite_f hf c_8
    refine lv_aload_n hx hb dX0_addCharges_36 rfl (lv_at hl 0 rfl) ?_
    refine lv_iload_n hx hb dX0_addCharges_37 rfl (lv_at hl 2 rfl) ?_
    refine lv_iload_n hx hb dX0_addCharges_38 rfl (lv_at hl 3 rfl) ?_
    obtain ⟨r_10, h_9, hf⟩ := ob_at hf
    refine qk0_owedAsJoined E hw (mk0_owedAsJoined E.hD h_9) wl450 dX0_addCharges_39 ⟨Nat.le_of_ble_eq_true rfl, Nat.le_of_ble_eq_true rfl⟩ hl.1 (Nat.le_of_ble_eq_true rfl) ⟨Nat.le_refl 0, Nat.le_refl 0⟩ (fun H locs hw => ?_)
    refine lv_topi (fun x4_12 ex4_12 => ?_)
    replace hf := bnd_at hf ex4_12
    refine lv_istore (lv' := [(4, .int (x4_12)), (0, .ref (a 5)), (1, .ref (a 35)), (2, .int (x2)), (3, .int (x3))]) hx hb dX0_addCharges_42 hl (by decide) rfl (fun ls hl => ?_)
    refine lv_aload_n hx hb dX0_addCharges_44 rfl (lv_at hl 2 rfl) ?_
    refine lv_iload_n hx hb dX0_addCharges_45 rfl (lv_at hl 4 rfl) ?_
    refine lv_dup2_11 hx hb dX0_addCharges_46 rfl rfl ?_
    obtain ⟨h_v_13, hf⟩ := rdA_at hf
    refine lK_35 E hw h_v_13 dX0_addCharges_47 (fun v_13 ev_13 => ?_)
    replace hf := hf v_13 ev_13
    refine lv_iload hx hb dX0_addCharges_48 (lv_at hl 0 rfl) ?_
    refine lv_isub hx hb dX0_addCharges_50 ?_
    obtain ⟨h_S_14, hf⟩ := ckA_at hf
    refine sK_35 E hw h_S_14 dX0_addCharges_51 (fun S_14 eS_14 H locs hw => ?_)
    replace hf := bnd_at hf eS_14
    refine lv_aload_n hx hb dX0_addCharges_52 rfl (lv_at hl 2 rfl) ?_
    refine lv_aload_n hx hb dX0_addCharges_53 rfl (lv_at hl 1 rfl) ?_
    refine gK_5_0 E hw (E.hts _ wl202) dX0_addCharges_54 ?_
    refine gK_3_1 E hw (E.hts _ wl126) dX0_addCharges_57 ?_
    refine lv_iload_n hx hb dX0_addCharges_60 rfl (lv_at hl 3 rfl) ?_
    obtain ⟨h_v_15, hf⟩ := rdA_at hf
    refine lK_17 E hw h_v_15 dX0_addCharges_61 (fun v_15 ev_15 => ?_)
    replace hf := hf v_15 ev_15
    refine lv_dup2_11 hx hb dX0_addCharges_62 rfl rfl ?_
    obtain ⟨h_v_16, hf⟩ := rdA_at hf
    refine lK_35 E hw h_v_16 dX0_addCharges_63 (fun v_16 ev_16 => ?_)
    replace hf := hf v_16 ev_16
    refine lv_iload hx hb dX0_addCharges_64 (lv_at hl 0 rfl) ?_
    refine lv_iadd hx hb dX0_addCharges_66 ?_
    obtain ⟨h_S_17, hf⟩ := ckA_at hf
    refine sK_35 E hw h_S_17 dX0_addCharges_67 (fun S_17 eS_17 H locs hw => ?_)
    replace hf := bnd_at hf eS_17
    obtain ⟨x3_18, ex3_18⟩ : ∃ y : Int32, y = x3 + (1) := ⟨_, rfl⟩
    replace hf := bnd_at hf ex3_18
    refine lv_iinc (v := x3_18) (lv' := [(3, .int (x3_18)), (4, .int (x4_12)), (0, .ref (a 5)), (1, .ref (a 35)), (2, .int (x2))]) hx hb dX0_addCharges_68 hl (k := 4) rfl (by rw [ex3_18]; rfl) (by decide) rfl (fun ls hl => ?_)
    refine lv_goto (tgt := 30) hx hb dX0_addCharges_71 (by decide) ?_
    exact hrec30 S_17 (x3_18) _ _ ls hf hw (lv_sub hl [2, 3, 4, 0] rfl)
theorem k0_addCharges_35_l30 {p : Program} {l : Launch} {e : Env} {s : State} {m : MethodId} {args : Array Value} {below : List Frame} {meth : Method} {c : Code} {D : va_G} {a : Nat → Nat} {g : Nat → ClassId} (E : EK p s m args meth c D a g cX0_addCharges 5 RX0 none) {F : Nat}  (x2 : Int32) {k74 : SS → Option SS} {out : SS} (hk74 : ∀ (S : SS) (H : Heap) (locs : List Loc) (ls : Array Slot), k74 S = some out → WK D a g S s H locs → lv_has ls 5 [(0, .ref (a 5)), (1, .ref (a 35)), (2, .int (x2))] → W p l e (RM 13) s m args below meth c H locs 0 0 (MQ below (QK D a g none out) args s 0 0 (AK a)) (F0 m 74 ls [])) : ∀ (n : Nat) (S : SS) (x3 : Int32) (H : Heap) (locs : List Loc) (ls : Array Slot), lpN (fun _ _ => none) (fun rec30 => k0_addCharges_35_B30 F x2 rec30 k74) n S x3 = some out → WK D a g S s H locs → lv_has ls 5 [(0, .ref (a 5)), (1, .ref (a 35)), (2, .int (x2)), (3, .int (x3))] → W p l e (RM 13) s m args below meth c H locs 0 0 (MQ below (QK D a g none out) args s 0 0 (AK a)) (F0 m 30 ls []) := by
  intro n
  induction n with
  | zero => intro S x3 H locs ls hf; cases (show (none : Option SS) = some out from hf)
  | succ n ih => intro S x3 H locs ls hf hw hl; exact k0_addCharges_35_b30 E (F := F) x2 ih hk74 S x3 H locs ls hf hw hl
set_option maxRecDepth 100000 in
set_option maxHeartbeats 4000000 in
theorem k0_addCharges_35_b17 {p : Program} {l : Launch} {e : Env} {s : State} {m : MethodId} {args : Array Value} {below : List Frame} {meth : Method} {c : Code} {D : va_G} {a : Nat → Nat} {g : Nat → ClassId} (E : EK p s m args meth c D a g cX0_addCharges 5 RX0 none) {F : Nat}  {rec17 : SS → Int32 → Option SS} {out : SS} (hrec17 : ∀ (S : SS) (x2 : Int32) (H : Heap) (locs : List Loc) (ls : Array Slot), rec17 S x2 = some out → WK D a g S s H locs → lv_has ls 5 [(0, .ref (a 5)), (1, .ref (a 35)), (2, .int (x2))] → W p l e (RM 13) s m args below meth c H locs 0 0 (MQ below (QK D a g none out) args s 0 0 (AK a)) (F0 m 17 ls []))  (S : SS) (x2 : Int32) (H : Heap) (locs : List Loc) (ls : Array Slot) (hf : k0_addCharges_35_B17 F rec17 S x2 = some out) (hw : WK D a g S s H locs) (hl : lv_has ls 5 [(0, .ref (a 5)), (1, .ref (a 35)), (2, .int (x2))]) : W p l e (RM 13) s m args below meth c H locs 0 0 (MQ below (QK D a g none out) args s 0 0 (AK a)) (F0 m 17 ls []) := by
  have hx := E.hx
  have hb := E.hb
  unfold k0_addCharges_35_B17 at hf
  refine lv_iload_n hx hb dX0_addCharges_17 rfl (lv_at hl 2 rfl) ?_
  refine lv_aload_n hx hb dX0_addCharges_18 rfl (lv_at hl 0 rfl) ?_
  refine gK_5_0 E hw (E.hts _ wl202) dX0_addCharges_19 ?_
  refine gK_3_2 E hw (E.hts _ wl128) dX0_addCharges_22 ?_
  refine lv_icmp_ge (tgt := 80) hx hb dX0_addCharges_25 (by decide) (fun c_6 => ?_) (fun c_6 => ?_)
  · replace hf := ite_t hf c_6
    cases hf
    exact retK_v E hw dX0_addCharges_80
  · replace hf := ite_f hf c_6
    refine lv_iconst hx hb dX0_addCharges_28 ic_0 ?_
    refine lv_topi (fun x3_7 ex3_7 => ?_)
    replace hf := bnd_at hf ex3_7
    refine lv_istore_n (lv' := [(3, .int (x3_7)), (0, .ref (a 5)), (1, .ref (a 35)), (2, .int (x2))]) hx hb dX0_addCharges_29 rfl hl (by decide) rfl (fun ls hl => ?_)
    refine k0_addCharges_35_l30 E (x2) ?_ F S (x3_7) _ _ ls hf hw (lv_sub hl [1, 2, 3, 0] rfl)
    · intro S_19 H locs ls hf hw hl
      obtain ⟨x2_20, ex2_20⟩ : ∃ y : Int32, y = x2 + (1) := ⟨_, rfl⟩
      replace hf := bnd_at hf ex2_20
      refine lv_iinc (v := x2_20) (lv' := [(2, .int (x2_20)), (0, .ref (a 5)), (1, .ref (a 35))]) hx hb dX0_addCharges_74 hl (k := 2) rfl (by rw [ex2_20]; rfl) (by decide) rfl (fun ls hl => ?_)
      refine lv_goto (tgt := 17) hx hb dX0_addCharges_77 (by decide) ?_
      exact hrec17 S_19 (x2_20) _ _ ls hf hw (lv_sub hl [1, 2, 0] rfl)
theorem k0_addCharges_35_l17 {p : Program} {l : Launch} {e : Env} {s : State} {m : MethodId} {args : Array Value} {below : List Frame} {meth : Method} {c : Code} {D : va_G} {a : Nat → Nat} {g : Nat → ClassId} (E : EK p s m args meth c D a g cX0_addCharges 5 RX0 none) {F : Nat}  {out : SS}  : ∀ (n : Nat) (S : SS) (x2 : Int32) (H : Heap) (locs : List Loc) (ls : Array Slot), lpN (fun _ _ => none) (fun rec17 => k0_addCharges_35_B17 F rec17) n S x2 = some out → WK D a g S s H locs → lv_has ls 5 [(0, .ref (a 5)), (1, .ref (a 35)), (2, .int (x2))] → W p l e (RM 13) s m args below meth c H locs 0 0 (MQ below (QK D a g none out) args s 0 0 (AK a)) (F0 m 17 ls []) := by
  intro n
  induction n with
  | zero => intro S x2 H locs ls hf; cases (show (none : Option SS) = some out from hf)
  | succ n ih => intro S x2 H locs ls hf hw hl; exact k0_addCharges_35_b17 E (F := F) ih S x2 H locs ls hf hw hl
set_option maxRecDepth 100000 in
set_option maxHeartbeats 4000000 in
theorem mk0_addCharges_35 {l : Launch} {D : va_G} {a : Nat → Nat} {g : Nat → ClassId} (hD : ∀ S, va_D (AK a) (wK a g S)) {F : Nat} {S : SS} {out : SS} (hf : k0_addCharges_35 F S  = some out) : Met l yX0_addCharges (wsm yX0_addCharges cX0_addCharges 5 none) (RM 13) (PK D a g S [.ref (a 5), .ref (a 35)]) (QK D a g none out) 0 0 (AK a) := by
  refine Met.ofW (cc := cX0_addCharges) (maxL := 5) (ret := none) (by decide) rfl ?_
  intro p e s m args below meth c s₁ B hml hv
  obtain ⟨rfl, hP, hK, hN⟩ := hv
  have hts := atoms_spec (ws := wsm yX0_addCharges cX0_addCharges 5 none) B.pre
  have E : EK p s m _ meth c D a g cX0_addCharges 5 RX0 none := ⟨B.exec, B.bytes, B.returns, hml, findClass_of_methodNamed B.named, fun w h => hts w (List.mem_cons_of_mem _ h), hK, hN, hD, B.notSynchronized⟩
  have hx := E.hx
  have hb := E.hb
  have hw : WK D a g S s s.heap [] := ⟨hP, va_S.rf⟩
  have hl := lv_entry ([.ref (a 5), .ref (a 35)]) (n := 5) (Nat.le_of_ble_eq_true rfl)
  rw [lg_entry_eq]
  generalize (lg_sl ([.ref (a 5), .ref (a 35)]) ++ List.replicate (5 - (lg_sl ([.ref (a 5), .ref (a 35)])).length) Slot.unset).toArray = ls at hl ⊢
  have hl : lv_has ls 5 [(0, .ref (a 5)), (1, .ref (a 35))] := hl
  show W p l e (RM 13) s m _ below meth c s.heap [] 0 0 (MQ below (QK D a g none out) _ s 0 0 (AK a)) (F0 m 0 ls [])
  unfold k0_addCharges_35 at hf
  refine lv_aload_n hx hb dX0_addCharges_0 rfl (lv_at hl 1 rfl) ?_
  refine va_alen hx hb E.hK hw.1 35 27 rfl rfl (v := 8) rfl dX0_addCharges_1 ?_
  refine lv_bipush hx hb dX0_addCharges_2 bp_8 ?_
  refine lv_icmp_ge (tgt := 8) hx hb dX0_addCharges_4 (by decide) (fun c_1 => ?_) (fun c_1 => ?_)
  · replace hf := ite_t hf c_1
    refine lv_aload_n hx hb dX0_addCharges_8 rfl (lv_at hl 0 rfl) ?_
    refine gK_5_1 E hw (E.hts _ wl203) dX0_addCharges_9 ?_
    obtain ⟨S_4, h_2, hf⟩ := ob_at hf
    refine qk2_solve E hw (mk2_solve E.hD h_2) wl422 dX0_addCharges_12 ⟨Nat.le_of_ble_eq_true rfl, Nat.le_of_ble_eq_true rfl⟩ hl.1 (Nat.le_of_ble_eq_true rfl) ⟨Nat.le_refl 0, Nat.le_refl 0⟩ (fun H locs hw => ?_)
    refine lv_iconst hx hb dX0_addCharges_15 ic_0 ?_
    refine lv_topi (fun x2_5 ex2_5 => ?_)
    replace hf := bnd_at hf ex2_5
    refine lv_istore_n (lv' := [(2, .int (x2_5)), (0, .ref (a 5)), (1, .ref (a 35))]) hx hb dX0_addCharges_16 rfl hl (by decide) rfl (fun ls hl => ?_)
    refine k0_addCharges_35_l17 E  F S_4 (x2_5) _ _ ls hf hw (lv_sub hl [1, 2, 0] rfl)
  · replace hf := ite_f hf c_1
    cases hf
    exact retK_v E hw dX0_addCharges_7
theorem qk0_addCharges_35 {p : Program} {l : Launch} {e : Env} {R : Room} {s : State} {m : MethodId} {args : Array Value} {below : List Frame} {meth : Method} {c : Code} {H : Heap} {locs : List Loc} {cells slots : Nat} {Q : State → Prop} {cc : ByteArray} {pc : Nat} {ls : Array Slot} {rest : List Value} {D : va_G} {a : Nat → Nat} {g : Nat → ClassId} {nL : Nat} {own : String} {ret : Option FieldType} {S S1 : SS} {k : Nat} (E : EK p s m args meth c D a g cc nL own ret) (hw : WK D a g S s H locs) (hM : Met l yX0_addCharges (wsm yX0_addCharges cX0_addCharges 5 none) (RM k) (PK D a g S [.ref (a 5), .ref (a 35)]) (QK D a g none S1) 0 0 (AK a)) {idx : Nat} (hlk : Cond.methodLink own idx yX0_addCharges ∈ wd) (hdg : decode cc pc = .ok (.invokevirtual idx, 3)) (hR : k + 1 ≤ R.frames ∧ 8 + (5 + 11) + 64 * k ≤ R.locals) (hls : ls.size = nL) (hrest : (rest.map fun v => v.category).sum ≤ 8) (hcs : cells ≤ R.cells ∧ slots ≤ R.slots) (kk : ∀ (H1 : Heap) (locs1 : List Loc), WK D a g S1 s H1 locs1 → W p l e R s m args below meth c H1 locs1 cells slots Q (F0 m (pc + 3) ls (rest))) : W p l e R s m args below meth c H locs cells slots Q (F0 m pc ls (.ref (a 35) :: .ref (a 5) :: rest)) :=
  callK_v hw (va_runV (As := [.ref (a 35)]) (rest := rest) ⟨E.hx, E.hb, E.hml, E.hown, E.hts⟩ hM ⟨cb_of 1 E.hts wl421 wl41 hlk (by decide +kernel) hR, E.hts _ wl419, E.hts _ wl420⟩ ⟨PK_blind, va_recv E.hK hw.1 (ci := 0) (q0 := 5) rfl rfl, PK_pre E.hK E.hN hw.1⟩ rfl rfl hls rfl (lv_room hrest) hdg hcs) kk
/-! X7_close -/
def k7_close (F : Nat) (S : SS) : Option (Int32 × SS) :=
  (k0_addCharges_35 F S ).bind fun S_3 => bnd (S_3 3 7) fun x1_4 => bnd (st S_3 3 7 ((0 : Int32))) fun S_5 => (k2_forget F S_5 ).bind fun S_8 => some (x1_4, S_8)
set_option maxRecDepth 100000 in
set_option maxHeartbeats 4000000 in
theorem mk7_close {l : Launch} {D : va_G} {a : Nat → Nat} {g : Nat → ClassId} (hD : ∀ S, va_D (AK a) (wK a g S)) {F : Nat} {S : SS} {out : (Int32 × SS)} (hf : k7_close F S  = some out) : Met l yX7_close (wsm yX7_close cX7_close 2 (some .int)) (RM 14) (PK D a g S [.ref (a 0)]) (QK D a g (some (.int out.1)) out.2) 0 0 (AK a) := by
  refine Met.ofW (cc := cX7_close) (maxL := 2) (ret := (some .int)) (by decide) rfl ?_
  intro p e s m args below meth c s₁ B hml hv
  obtain ⟨rfl, hP, hK, hN⟩ := hv
  have hts := atoms_spec (ws := wsm yX7_close cX7_close 2 (some .int)) B.pre
  have E : EK p s m _ meth c D a g cX7_close 2 RX7 (some .int) := ⟨B.exec, B.bytes, B.returns, hml, findClass_of_methodNamed B.named, fun w h => hts w (List.mem_cons_of_mem _ h), hK, hN, hD, B.notSynchronized⟩
  have hx := E.hx
  have hb := E.hb
  have hw : WK D a g S s s.heap [] := ⟨hP, va_S.rf⟩
  have hl := lv_entry ([.ref (a 0)]) (n := 2) (Nat.le_of_ble_eq_true rfl)
  rw [lg_entry_eq]
  generalize (lg_sl ([.ref (a 0)]) ++ List.replicate (2 - (lg_sl ([.ref (a 0)])).length) Slot.unset).toArray = ls at hl ⊢
  have hl : lv_has ls 2 [(0, .ref (a 0))] := hl
  show W p l e (RM 14) s m _ below meth c s.heap [] 0 0 (MQ below (QK D a g (some (.int out.1)) out.2) _ s 0 0 (AK a)) (F0 m 0 ls [])
  unfold k7_close at hf
  refine lv_aload_n hx hb dX7_close_0 rfl (lv_at hl 0 rfl) ?_
  refine gK_0_4 E hw (E.hts _ wl276) dX7_close_1 ?_
  refine lv_aload_n hx hb dX7_close_4 rfl (lv_at hl 0 rfl) ?_
  refine gK_0_7 E hw (E.hts _ wl279) dX7_close_5 ?_
  obtain ⟨S_3, h_1, hf⟩ := ob_at hf
  refine qk0_addCharges_35 E hw (mk0_addCharges_35 E.hD h_1) wl418 dX7_close_8 ⟨Nat.le_of_ble_eq_true rfl, Nat.le_of_ble_eq_true rfl⟩ hl.1 (Nat.le_of_ble_eq_true rfl) ⟨Nat.le_refl 0, Nat.le_refl 0⟩ (fun H locs hw => ?_)
  refine lv_aload_n hx hb dX7_close_11 rfl (lv_at hl 0 rfl) ?_
  refine gK_0_2 E hw (E.hts _ wl274) dX7_close_12 ?_
  refine gK_3_7 E hw (E.hts _ wl143) dX7_close_15 ?_
  refine lv_topi (fun x1_4 ex1_4 => ?_)
  replace hf := bnd_at hf ex1_4
  refine lv_istore_n (lv' := [(1, .int (x1_4)), (0, .ref (a 0))]) hx hb dX7_close_18 rfl hl (by decide) rfl (fun ls hl => ?_)
  refine lv_aload_n hx hb dX7_close_19 rfl (lv_at hl 1 rfl) ?_
  refine gK_0_2 E hw (E.hts _ wl274) dX7_close_20 ?_
  refine lv_iconst hx hb dX7_close_23 ic_0 ?_
  refine pK_3_7 E hw (E.hts _ wl143) dX7_close_24 (fun S_5 eS_5 H locs hw => ?_)
  replace hf := bnd_at hf eS_5
  refine lv_aload_n hx hb dX7_close_27 rfl (lv_at hl 1 rfl) ?_
  refine gK_0_3 E hw (E.hts _ wl275) dX7_close_28 ?_
  obtain ⟨S_8, h_6, hf⟩ := ob_at hf
  refine qk2_forget E hw (mk2_forget E.hD h_6) wl327 dX7_close_31 ⟨Nat.le_of_ble_eq_true rfl, Nat.le_of_ble_eq_true rfl⟩ hl.1 (Nat.le_of_ble_eq_true rfl) ⟨Nat.le_refl 0, Nat.le_refl 0⟩ (fun H locs hw => ?_)
  refine lv_iload_n hx hb dX7_close_34 rfl (lv_at hl 0 rfl) ?_
  cases hf
  exact retK_i E hw dX7_close_35
theorem qk7_close {p : Program} {l : Launch} {e : Env} {R : Room} {s : State} {m : MethodId} {args : Array Value} {below : List Frame} {meth : Method} {c : Code} {H : Heap} {locs : List Loc} {cells slots : Nat} {Q : State → Prop} {cc : ByteArray} {pc : Nat} {ls : Array Slot} {rest : List Value} {D : va_G} {a : Nat → Nat} {g : Nat → ClassId} {nL : Nat} {own : String} {ret : Option FieldType} {S S1 : SS} {k : Nat} {r : Int32} (E : EK p s m args meth c D a g cc nL own ret) (hw : WK D a g S s H locs) (hM : Met l yX7_close (wsm yX7_close cX7_close 2 (some .int)) (RM k) (PK D a g S [.ref (a 0)]) (QK D a g (some (.int r)) S1) 0 0 (AK a)) {idx : Nat} (hlk : Cond.methodLink own idx yX7_close ∈ wd) (hdg : decode cc pc = .ok (.invokevirtual idx, 3)) (hR : k + 1 ≤ R.frames ∧ 8 + (2 + 11) + 64 * k ≤ R.locals) (hls : ls.size = nL) (hrest : (rest.map fun v => v.category).sum ≤ 8) (hcs : cells ≤ R.cells ∧ slots ≤ R.slots) (kk : ∀ (H1 : Heap) (locs1 : List Loc), WK D a g S1 s H1 locs1 → W p l e R s m args below meth c H1 locs1 cells slots Q (F0 m (pc + 3) ls (.int r :: rest))) : W p l e R s m args below meth c H locs cells slots Q (F0 m pc ls (.ref (a 0) :: rest)) :=
  callK_i hw (va_runV (As := []) (rest := rest) ⟨E.hx, E.hb, E.hml, E.hown, E.hts⟩ hM ⟨cb_of 0 E.hts wl417 wl35 hlk (by decide +kernel) hR, E.hts _ wl415, E.hts _ wl416⟩ ⟨PK_blind, va_recv E.hK hw.1 (ci := 7) (q0 := 0) rfl rfl, PK_pre E.hK E.hN hw.1⟩ rfl rfl hls rfl (lv_room hrest) hdg hcs) kk
/-! X6_hasSight -/
def k6_hasSight (F : Nat) (S : SS) (x1 : Int32) : Option Int32 :=
  if x1 < 0 then (some ((0 : Int32))) else (if (S 3 7) ≤ x1 then (some ((0 : Int32))) else (some ((1 : Int32))))
set_option maxRecDepth 100000 in
set_option maxHeartbeats 4000000 in
theorem mk6_hasSight {l : Launch} {D : va_G} {a : Nat → Nat} {g : Nat → ClassId} (hD : ∀ S, va_D (AK a) (wK a g S)) {F : Nat} {S : SS} {x1 : Int32} {out : Int32} (hf : k6_hasSight F S x1 = some out) : Met l yX6_hasSight (wsm yX6_hasSight cX6_hasSight 2 (some .boolean)) (RM 1) (PK D a g S [.ref (a 3), .int x1]) (QK D a g (some (.int out)) S) 0 0 (AK a) := by
  refine Met.ofW (cc := cX6_hasSight) (maxL := 2) (ret := (some .boolean)) (by decide) rfl ?_
  intro p e s m args below meth c s₁ B hml hv
  obtain ⟨rfl, hP, hK, hN⟩ := hv
  have hts := atoms_spec (ws := wsm yX6_hasSight cX6_hasSight 2 (some .boolean)) B.pre
  have E : EK p s m _ meth c D a g cX6_hasSight 2 RX6 (some .boolean) := ⟨B.exec, B.bytes, B.returns, hml, findClass_of_methodNamed B.named, fun w h => hts w (List.mem_cons_of_mem _ h), hK, hN, hD, B.notSynchronized⟩
  have hx := E.hx
  have hb := E.hb
  have hw : WK D a g S s s.heap [] := ⟨hP, va_S.rf⟩
  have hl := lv_entry ([.ref (a 3), .int x1]) (n := 2) (Nat.le_of_ble_eq_true rfl)
  rw [lg_entry_eq]
  generalize (lg_sl ([.ref (a 3), .int x1]) ++ List.replicate (2 - (lg_sl ([.ref (a 3), .int x1])).length) Slot.unset).toArray = ls at hl ⊢
  have hl : lv_has ls 2 [(0, .ref (a 3)), (1, .int (x1))] := hl
  show W p l e (RM 1) s m _ below meth c s.heap [] 0 0 (MQ below (QK D a g (some (.int out)) S) _ s 0 0 (AK a)) (F0 m 0 ls [])
  unfold k6_hasSight at hf
  refine lv_iload_n hx hb dX6_hasSight_0 rfl (lv_at hl 1 rfl) ?_
  refine lv_if_lt (tgt := 16) hx hb dX6_hasSight_1 (by decide) (fun c_1 => ?_) (fun c_1 => ?_)
  · replace hf := ite_t hf c_1
    refine lv_iconst hx hb dX6_hasSight_16 ic_0 ?_
    cases hf
    exact retK_z E hw nb0 dX6_hasSight_17
  · replace hf := ite_f hf c_1
    refine lv_iload_n hx hb dX6_hasSight_4 rfl (lv_at hl 1 rfl) ?_
    refine lv_aload_n hx hb dX6_hasSight_5 rfl (lv_at hl 0 rfl) ?_
    refine gK_3_7 E hw (E.hts _ wl140) dX6_hasSight_6 ?_
    refine lv_icmp_ge (tgt := 16) hx hb dX6_hasSight_9 (by decide) (fun c_2 => ?_) (fun c_2 => ?_)
    · replace hf := ite_t hf c_2
      refine lv_iconst hx hb dX6_hasSight_16 ic_0 ?_
      cases hf
      exact retK_z E hw nb0 dX6_hasSight_17
    · replace hf := ite_f hf c_2
      refine lv_iconst hx hb dX6_hasSight_12 ic_1 ?_
      refine lv_goto (tgt := 17) hx hb dX6_hasSight_13 (by decide) ?_
      cases hf
      exact retK_z E hw nb1 dX6_hasSight_17
theorem qk6_hasSight {p : Program} {l : Launch} {e : Env} {R : Room} {s : State} {m : MethodId} {args : Array Value} {below : List Frame} {meth : Method} {c : Code} {H : Heap} {locs : List Loc} {cells slots : Nat} {Q : State → Prop} {cc : ByteArray} {pc : Nat} {ls : Array Slot} {rest : List Value} {D : va_G} {a : Nat → Nat} {g : Nat → ClassId} {nL : Nat} {own : String} {ret : Option FieldType} {S S1 : SS} {k : Nat} {x1 : Int32} {r : Int32} (E : EK p s m args meth c D a g cc nL own ret) (hw : WK D a g S s H locs) (hM : Met l yX6_hasSight (wsm yX6_hasSight cX6_hasSight 2 (some .boolean)) (RM k) (PK D a g S [.ref (a 3), .int x1]) (QK D a g (some (.int r)) S1) 0 0 (AK a)) {idx : Nat} (hlk : Cond.methodLink own idx yX6_hasSight ∈ wd) (hdg : decode cc pc = .ok (.invokevirtual idx, 3)) (hR : k + 1 ≤ R.frames ∧ 8 + (2 + 11) + 64 * k ≤ R.locals) (hls : ls.size = nL) (hrest : (rest.map fun v => v.category).sum ≤ 8) (hcs : cells ≤ R.cells ∧ slots ≤ R.slots) (kk : ∀ (H1 : Heap) (locs1 : List Loc), WK D a g S1 s H1 locs1 → W p l e R s m args below meth c H1 locs1 cells slots Q (F0 m (pc + 3) ls (.int r :: rest))) : W p l e R s m args below meth c H locs cells slots Q (F0 m pc ls (.int x1 :: .ref (a 3) :: rest)) :=
  callK_i hw (va_runV (As := [.int x1]) (rest := rest) ⟨E.hx, E.hb, E.hml, E.hown, E.hts⟩ hM ⟨cb_of 1 E.hts wl472 wl39 hlk (by decide +kernel) hR, E.hts _ wl470, E.hts _ wl471⟩ ⟨PK_blind, va_recv E.hK hw.1 (ci := 6) (q0 := 3) rfl rfl, PK_pre E.hK E.hN hw.1⟩ rfl rfl hls rfl (lv_room hrest) hdg hcs) kk
/-! X6_hasWagon -/
def k6_hasWagon (F : Nat) (S : SS) (x1 : Int32) : Option Int32 :=
  if x1 < 0 then (some ((0 : Int32))) else (if (S 3 2) ≤ x1 then (some ((0 : Int32))) else (some ((1 : Int32))))
set_option maxRecDepth 100000 in
set_option maxHeartbeats 4000000 in
theorem mk6_hasWagon {l : Launch} {D : va_G} {a : Nat → Nat} {g : Nat → ClassId} (hD : ∀ S, va_D (AK a) (wK a g S)) {F : Nat} {S : SS} {x1 : Int32} {out : Int32} (hf : k6_hasWagon F S x1 = some out) : Met l yX6_hasWagon (wsm yX6_hasWagon cX6_hasWagon 2 (some .boolean)) (RM 1) (PK D a g S [.ref (a 3), .int x1]) (QK D a g (some (.int out)) S) 0 0 (AK a) := by
  refine Met.ofW (cc := cX6_hasWagon) (maxL := 2) (ret := (some .boolean)) (by decide) rfl ?_
  intro p e s m args below meth c s₁ B hml hv
  obtain ⟨rfl, hP, hK, hN⟩ := hv
  have hts := atoms_spec (ws := wsm yX6_hasWagon cX6_hasWagon 2 (some .boolean)) B.pre
  have E : EK p s m _ meth c D a g cX6_hasWagon 2 RX6 (some .boolean) := ⟨B.exec, B.bytes, B.returns, hml, findClass_of_methodNamed B.named, fun w h => hts w (List.mem_cons_of_mem _ h), hK, hN, hD, B.notSynchronized⟩
  have hx := E.hx
  have hb := E.hb
  have hw : WK D a g S s s.heap [] := ⟨hP, va_S.rf⟩
  have hl := lv_entry ([.ref (a 3), .int x1]) (n := 2) (Nat.le_of_ble_eq_true rfl)
  rw [lg_entry_eq]
  generalize (lg_sl ([.ref (a 3), .int x1]) ++ List.replicate (2 - (lg_sl ([.ref (a 3), .int x1])).length) Slot.unset).toArray = ls at hl ⊢
  have hl : lv_has ls 2 [(0, .ref (a 3)), (1, .int (x1))] := hl
  show W p l e (RM 1) s m _ below meth c s.heap [] 0 0 (MQ below (QK D a g (some (.int out)) S) _ s 0 0 (AK a)) (F0 m 0 ls [])
  unfold k6_hasWagon at hf
  refine lv_iload_n hx hb dX6_hasWagon_0 rfl (lv_at hl 1 rfl) ?_
  refine lv_if_lt (tgt := 16) hx hb dX6_hasWagon_1 (by decide) (fun c_1 => ?_) (fun c_1 => ?_)
  · replace hf := ite_t hf c_1
    refine lv_iconst hx hb dX6_hasWagon_16 ic_0 ?_
    cases hf
    exact retK_z E hw nb0 dX6_hasWagon_17
  · replace hf := ite_f hf c_1
    refine lv_iload_n hx hb dX6_hasWagon_4 rfl (lv_at hl 1 rfl) ?_
    refine lv_aload_n hx hb dX6_hasWagon_5 rfl (lv_at hl 0 rfl) ?_
    refine gK_3_2 E hw (E.hts _ wl127) dX6_hasWagon_6 ?_
    refine lv_icmp_ge (tgt := 16) hx hb dX6_hasWagon_9 (by decide) (fun c_2 => ?_) (fun c_2 => ?_)
    · replace hf := ite_t hf c_2
      refine lv_iconst hx hb dX6_hasWagon_16 ic_0 ?_
      cases hf
      exact retK_z E hw nb0 dX6_hasWagon_17
    · replace hf := ite_f hf c_2
      refine lv_iconst hx hb dX6_hasWagon_12 ic_1 ?_
      refine lv_goto (tgt := 17) hx hb dX6_hasWagon_13 (by decide) ?_
      cases hf
      exact retK_z E hw nb1 dX6_hasWagon_17
theorem qk6_hasWagon {p : Program} {l : Launch} {e : Env} {R : Room} {s : State} {m : MethodId} {args : Array Value} {below : List Frame} {meth : Method} {c : Code} {H : Heap} {locs : List Loc} {cells slots : Nat} {Q : State → Prop} {cc : ByteArray} {pc : Nat} {ls : Array Slot} {rest : List Value} {D : va_G} {a : Nat → Nat} {g : Nat → ClassId} {nL : Nat} {own : String} {ret : Option FieldType} {S S1 : SS} {k : Nat} {x1 : Int32} {r : Int32} (E : EK p s m args meth c D a g cc nL own ret) (hw : WK D a g S s H locs) (hM : Met l yX6_hasWagon (wsm yX6_hasWagon cX6_hasWagon 2 (some .boolean)) (RM k) (PK D a g S [.ref (a 3), .int x1]) (QK D a g (some (.int r)) S1) 0 0 (AK a)) {idx : Nat} (hlk : Cond.methodLink own idx yX6_hasWagon ∈ wd) (hdg : decode cc pc = .ok (.invokevirtual idx, 3)) (hR : k + 1 ≤ R.frames ∧ 8 + (2 + 11) + 64 * k ≤ R.locals) (hls : ls.size = nL) (hrest : (rest.map fun v => v.category).sum ≤ 8) (hcs : cells ≤ R.cells ∧ slots ≤ R.slots) (kk : ∀ (H1 : Heap) (locs1 : List Loc), WK D a g S1 s H1 locs1 → W p l e R s m args below meth c H1 locs1 cells slots Q (F0 m (pc + 3) ls (.int r :: rest))) : W p l e R s m args below meth c H locs cells slots Q (F0 m pc ls (.int x1 :: .ref (a 3) :: rest)) :=
  callK_i hw (va_runV (As := [.int x1]) (rest := rest) ⟨E.hx, E.hb, E.hml, E.hown, E.hts⟩ hM ⟨cb_of 1 E.hts wl476 wl39 hlk (by decide +kernel) hR, E.hts _ wl474, E.hts _ wl475⟩ ⟨PK_blind, va_recv E.hK hw.1 (ci := 6) (q0 := 3) rfl rfl, PK_pre E.hK E.hN hw.1⟩ rfl rfl hls rfl (lv_room hrest) hdg hcs) kk
/-! X6_errorOf -/
def k6_errorOf (F : Nat) (S : SS) (x1 : Int32) (x2 : Int32) : Option Int32 :=
  (k6_hasSight F S (x1)).bind fun r_2 => if r_2 = 0 then (some ((-1 : Int32))) else ((k6_hasWagon F S (x2)).bind fun r_6 => if r_6 = 0 then (some ((-1 : Int32))) else ((rdA 7 (S 18) x1).bind fun v_9 => (rdA 4 (S 16) x2).bind fun v_10 => (k6_difference F S (v_9) (v_10)).bind fun r_12 => some (r_12)))
set_option maxRecDepth 100000 in
set_option maxHeartbeats 4000000 in
theorem mk6_errorOf {l : Launch} {D : va_G} {a : Nat → Nat} {g : Nat → ClassId} (hD : ∀ S, va_D (AK a) (wK a g S)) {F : Nat} {S : SS} {x1 x2 : Int32} {out : Int32} (hf : k6_errorOf F S x1 x2 = some out) : Met l yX6_errorOf (wsm yX6_errorOf cX6_errorOf 3 (some .int)) (RM 2) (PK D a g S [.ref (a 3), .int x1, .int x2]) (QK D a g (some (.int out)) S) 0 0 (AK a) := by
  refine Met.ofW (cc := cX6_errorOf) (maxL := 3) (ret := (some .int)) (by decide) rfl ?_
  intro p e s m args below meth c s₁ B hml hv
  obtain ⟨rfl, hP, hK, hN⟩ := hv
  have hts := atoms_spec (ws := wsm yX6_errorOf cX6_errorOf 3 (some .int)) B.pre
  have E : EK p s m _ meth c D a g cX6_errorOf 3 RX6 (some .int) := ⟨B.exec, B.bytes, B.returns, hml, findClass_of_methodNamed B.named, fun w h => hts w (List.mem_cons_of_mem _ h), hK, hN, hD, B.notSynchronized⟩
  have hx := E.hx
  have hb := E.hb
  have hw : WK D a g S s s.heap [] := ⟨hP, va_S.rf⟩
  have hl := lv_entry ([.ref (a 3), .int x1, .int x2]) (n := 3) (Nat.le_of_ble_eq_true rfl)
  rw [lg_entry_eq]
  generalize (lg_sl ([.ref (a 3), .int x1, .int x2]) ++ List.replicate (3 - (lg_sl ([.ref (a 3), .int x1, .int x2])).length) Slot.unset).toArray = ls at hl ⊢
  have hl : lv_has ls 3 [(0, .ref (a 3)), (1, .int (x1)), (2, .int (x2))] := hl
  show W p l e (RM 2) s m _ below meth c s.heap [] 0 0 (MQ below (QK D a g (some (.int out)) S) _ s 0 0 (AK a)) (F0 m 0 ls [])
  unfold k6_errorOf at hf
  refine lv_aload_n hx hb dX6_errorOf_0 rfl (lv_at hl 0 rfl) ?_
  refine lv_iload_n hx hb dX6_errorOf_1 rfl (lv_at hl 1 rfl) ?_
  obtain ⟨r_2, h_1, hf⟩ := ob_at hf
  refine qk6_hasSight E hw (mk6_hasSight E.hD h_1) wl469 dX6_errorOf_2 ⟨Nat.le_of_ble_eq_true rfl, Nat.le_of_ble_eq_true rfl⟩ hl.1 (Nat.le_of_ble_eq_true rfl) ⟨Nat.le_refl 0, Nat.le_refl 0⟩ (fun H locs hw => ?_)
  refine lv_if_eq (tgt := 16) hx hb dX6_errorOf_5 (by decide) (fun c_4 => ?_) (fun c_4 => ?_)
  · replace hf := ite_t hf c_4
    refine lv_iconst hx hb dX6_errorOf_16 ic_m1 ?_
    cases hf
    exact retK_i E hw dX6_errorOf_17
  · replace hf := ite_f hf c_4
    refine lv_aload_n hx hb dX6_errorOf_8 rfl (lv_at hl 0 rfl) ?_
    refine lv_iload_n hx hb dX6_errorOf_9 rfl (lv_at hl 2 rfl) ?_
    obtain ⟨r_6, h_5, hf⟩ := ob_at hf
    refine qk6_hasWagon E hw (mk6_hasWagon E.hD h_5) wl473 dX6_errorOf_10 ⟨Nat.le_of_ble_eq_true rfl, Nat.le_of_ble_eq_true rfl⟩ hl.1 (Nat.le_of_ble_eq_true rfl) ⟨Nat.le_refl 0, Nat.le_refl 0⟩ (fun H locs hw => ?_)
    refine lv_if_ne (tgt := 18) hx hb dX6_errorOf_13 (by decide) (fun c_8 => ?_) (fun c_8 => ?_)
    · replace hf := ite_f hf c_8
      refine lv_aload_n hx hb dX6_errorOf_18 rfl (lv_at hl 0 rfl) ?_
      refine gK_3_3 E hw (E.hts _ wl131) dX6_errorOf_19 ?_
      refine lv_iload_n hx hb dX6_errorOf_22 rfl (lv_at hl 1 rfl) ?_
      obtain ⟨h_v_9, hf⟩ := rdA_at hf
      refine lK_18 E hw h_v_9 dX6_errorOf_23 (fun v_9 ev_9 => ?_)
      replace hf := hf v_9 ev_9
      refine lv_aload_n hx hb dX6_errorOf_24 rfl (lv_at hl 0 rfl) ?_
      refine gK_3_0 E hw (E.hts _ wl123) dX6_errorOf_25 ?_
      refine lv_iload_n hx hb dX6_errorOf_28 rfl (lv_at hl 2 rfl) ?_
      obtain ⟨h_v_10, hf⟩ := rdA_at hf
      refine lK_16 E hw h_v_10 dX6_errorOf_29 (fun v_10 ev_10 => ?_)
      replace hf := hf v_10 ev_10
      obtain ⟨r_12, h_11, hf⟩ := ob_at hf
      refine qk6_difference E hw (mk6_difference E.hD h_11) wl477 dX6_errorOf_30 ⟨Nat.le_of_ble_eq_true rfl, Nat.le_of_ble_eq_true rfl⟩ hl.1 (Nat.le_of_ble_eq_true rfl) ⟨Nat.le_refl 0, Nat.le_refl 0⟩ (fun H locs hw => ?_)
      cases hf
      exact retK_i E hw dX6_errorOf_33
    · replace hf := ite_t hf c_8
      refine lv_iconst hx hb dX6_errorOf_16 ic_m1 ?_
      cases hf
      exact retK_i E hw dX6_errorOf_17
theorem qk6_errorOf {p : Program} {l : Launch} {e : Env} {R : Room} {s : State} {m : MethodId} {args : Array Value} {below : List Frame} {meth : Method} {c : Code} {H : Heap} {locs : List Loc} {cells slots : Nat} {Q : State → Prop} {cc : ByteArray} {pc : Nat} {ls : Array Slot} {rest : List Value} {D : va_G} {a : Nat → Nat} {g : Nat → ClassId} {nL : Nat} {own : String} {ret : Option FieldType} {S S1 : SS} {k : Nat} {x1 x2 : Int32} {r : Int32} (E : EK p s m args meth c D a g cc nL own ret) (hw : WK D a g S s H locs) (hM : Met l yX6_errorOf (wsm yX6_errorOf cX6_errorOf 3 (some .int)) (RM k) (PK D a g S [.ref (a 3), .int x1, .int x2]) (QK D a g (some (.int r)) S1) 0 0 (AK a)) {idx : Nat} (hlk : Cond.methodLink own idx yX6_errorOf ∈ wd) (hdg : decode cc pc = .ok (.invokevirtual idx, 3)) (hR : k + 1 ≤ R.frames ∧ 8 + (3 + 11) + 64 * k ≤ R.locals) (hls : ls.size = nL) (hrest : (rest.map fun v => v.category).sum ≤ 8) (hcs : cells ≤ R.cells ∧ slots ≤ R.slots) (kk : ∀ (H1 : Heap) (locs1 : List Loc), WK D a g S1 s H1 locs1 → W p l e R s m args below meth c H1 locs1 cells slots Q (F0 m (pc + 3) ls (.int r :: rest))) : W p l e R s m args below meth c H locs cells slots Q (F0 m pc ls (.int x2 :: .int x1 :: .ref (a 3) :: rest)) :=
  callK_i hw (va_runV (As := [.int x1, .int x2]) (rest := rest) ⟨E.hx, E.hb, E.hml, E.hown, E.hts⟩ hM ⟨cb_of 2 E.hts wl468 wl39 hlk (by decide +kernel) hR, E.hts _ wl466, E.hts _ wl467⟩ ⟨PK_blind, va_recv E.hK hw.1 (ci := 6) (q0 := 3) rfl rfl, PK_pre E.hK E.hN hw.1⟩ rfl rfl hls rfl (lv_room hrest) hdg hcs) kk
/-! X7_error -/
def k7_error (F : Nat) (S : SS) (x1 : Int32) (x2 : Int32) : Option Int32 :=
  (k6_errorOf F S (x1) (x2)).bind fun r_2 => some (r_2)
set_option maxRecDepth 100000 in
set_option maxHeartbeats 4000000 in
theorem mk7_error {l : Launch} {D : va_G} {a : Nat → Nat} {g : Nat → ClassId} (hD : ∀ S, va_D (AK a) (wK a g S)) {F : Nat} {S : SS} {x1 x2 : Int32} {out : Int32} (hf : k7_error F S x1 x2 = some out) : Met l yX7_error (wsm yX7_error cX7_error 3 (some .int)) (RM 3) (PK D a g S [.ref (a 0), .int x1, .int x2]) (QK D a g (some (.int out)) S) 0 0 (AK a) := by
  refine Met.ofW (cc := cX7_error) (maxL := 3) (ret := (some .int)) (by decide) rfl ?_
  intro p e s m args below meth c s₁ B hml hv
  obtain ⟨rfl, hP, hK, hN⟩ := hv
  have hts := atoms_spec (ws := wsm yX7_error cX7_error 3 (some .int)) B.pre
  have E : EK p s m _ meth c D a g cX7_error 3 RX7 (some .int) := ⟨B.exec, B.bytes, B.returns, hml, findClass_of_methodNamed B.named, fun w h => hts w (List.mem_cons_of_mem _ h), hK, hN, hD, B.notSynchronized⟩
  have hx := E.hx
  have hb := E.hb
  have hw : WK D a g S s s.heap [] := ⟨hP, va_S.rf⟩
  have hl := lv_entry ([.ref (a 0), .int x1, .int x2]) (n := 3) (Nat.le_of_ble_eq_true rfl)
  rw [lg_entry_eq]
  generalize (lg_sl ([.ref (a 0), .int x1, .int x2]) ++ List.replicate (3 - (lg_sl ([.ref (a 0), .int x1, .int x2])).length) Slot.unset).toArray = ls at hl ⊢
  have hl : lv_has ls 3 [(0, .ref (a 0)), (1, .int (x1)), (2, .int (x2))] := hl
  show W p l e (RM 3) s m _ below meth c s.heap [] 0 0 (MQ below (QK D a g (some (.int out)) S) _ s 0 0 (AK a)) (F0 m 0 ls [])
  unfold k7_error at hf
  refine lv_aload_n hx hb dX7_error_0 rfl (lv_at hl 0 rfl) ?_
  refine gK_0_2 E hw (E.hts _ wl274) dX7_error_1 ?_
  refine lv_iload_n hx hb dX7_error_4 rfl (lv_at hl 1 rfl) ?_
  refine lv_iload_n hx hb dX7_error_5 rfl (lv_at hl 2 rfl) ?_
  obtain ⟨r_2, h_1, hf⟩ := ob_at hf
  refine qk6_errorOf E hw (mk6_errorOf E.hD h_1) wl465 dX7_error_6 ⟨Nat.le_of_ble_eq_true rfl, Nat.le_of_ble_eq_true rfl⟩ hl.1 (Nat.le_of_ble_eq_true rfl) ⟨Nat.le_refl 0, Nat.le_refl 0⟩ (fun H locs hw => ?_)
  cases hf
  exact retK_i E hw dX7_error_9
theorem qk7_error {p : Program} {l : Launch} {e : Env} {R : Room} {s : State} {m : MethodId} {args : Array Value} {below : List Frame} {meth : Method} {c : Code} {H : Heap} {locs : List Loc} {cells slots : Nat} {Q : State → Prop} {cc : ByteArray} {pc : Nat} {ls : Array Slot} {rest : List Value} {D : va_G} {a : Nat → Nat} {g : Nat → ClassId} {nL : Nat} {own : String} {ret : Option FieldType} {S S1 : SS} {k : Nat} {x1 x2 : Int32} {r : Int32} (E : EK p s m args meth c D a g cc nL own ret) (hw : WK D a g S s H locs) (hM : Met l yX7_error (wsm yX7_error cX7_error 3 (some .int)) (RM k) (PK D a g S [.ref (a 0), .int x1, .int x2]) (QK D a g (some (.int r)) S1) 0 0 (AK a)) {idx : Nat} (hlk : Cond.methodLink own idx yX7_error ∈ wd) (hdg : decode cc pc = .ok (.invokevirtual idx, 3)) (hR : k + 1 ≤ R.frames ∧ 8 + (3 + 11) + 64 * k ≤ R.locals) (hls : ls.size = nL) (hrest : (rest.map fun v => v.category).sum ≤ 8) (hcs : cells ≤ R.cells ∧ slots ≤ R.slots) (kk : ∀ (H1 : Heap) (locs1 : List Loc), WK D a g S1 s H1 locs1 → W p l e R s m args below meth c H1 locs1 cells slots Q (F0 m (pc + 3) ls (.int r :: rest))) : W p l e R s m args below meth c H locs cells slots Q (F0 m pc ls (.int x2 :: .int x1 :: .ref (a 0) :: rest)) :=
  callK_i hw (va_runV (As := [.int x1, .int x2]) (rest := rest) ⟨E.hx, E.hb, E.hml, E.hown, E.hts⟩ hM ⟨cb_of 2 E.hts wl464 wl35 hlk (by decide +kernel) hR, E.hts _ wl462, E.hts _ wl463⟩ ⟨PK_blind, va_recv E.hK hw.1 (ci := 7) (q0 := 0) rfl rfl, PK_pre E.hK E.hN hw.1⟩ rfl rfl hls rfl (lv_room hrest) hdg hcs) kk
/-! X2_wagonOf -/
def k2_wagonOf (F : Nat) (S : SS) (x1 : Int32) : Option (Int32 × SS) :=
  (k6_hasSight F S (x1)).bind fun r_2 => if r_2 = 0 then (some ((-1 : Int32), S)) else ((k2_solve F S ).bind fun S_7 => (rdA 7 (S_7 26) x1).bind fun v_8 => some (v_8, S_7))
set_option maxRecDepth 100000 in
set_option maxHeartbeats 4000000 in
theorem mk2_wagonOf {l : Launch} {D : va_G} {a : Nat → Nat} {g : Nat → ClassId} (hD : ∀ S, va_D (AK a) (wK a g S)) {F : Nat} {S : SS} {x1 : Int32} {out : (Int32 × SS)} (hf : k2_wagonOf F S x1 = some out) : Met l yX2_wagonOf (wsm yX2_wagonOf cX2_wagonOf 2 (some .int)) (RM 13) (PK D a g S [.ref (a 4), .int x1]) (QK D a g (some (.int out.1)) out.2) 0 0 (AK a) := by
  refine Met.ofW (cc := cX2_wagonOf) (maxL := 2) (ret := (some .int)) (by decide) rfl ?_
  intro p e s m args below meth c s₁ B hml hv
  obtain ⟨rfl, hP, hK, hN⟩ := hv
  have hts := atoms_spec (ws := wsm yX2_wagonOf cX2_wagonOf 2 (some .int)) B.pre
  have E : EK p s m _ meth c D a g cX2_wagonOf 2 RX2 (some .int) := ⟨B.exec, B.bytes, B.returns, hml, findClass_of_methodNamed B.named, fun w h => hts w (List.mem_cons_of_mem _ h), hK, hN, hD, B.notSynchronized⟩
  have hx := E.hx
  have hb := E.hb
  have hw : WK D a g S s s.heap [] := ⟨hP, va_S.rf⟩
  have hl := lv_entry ([.ref (a 4), .int x1]) (n := 2) (Nat.le_of_ble_eq_true rfl)
  rw [lg_entry_eq]
  generalize (lg_sl ([.ref (a 4), .int x1]) ++ List.replicate (2 - (lg_sl ([.ref (a 4), .int x1])).length) Slot.unset).toArray = ls at hl ⊢
  have hl : lv_has ls 2 [(0, .ref (a 4)), (1, .int (x1))] := hl
  show W p l e (RM 13) s m _ below meth c s.heap [] 0 0 (MQ below (QK D a g (some (.int out.1)) out.2) _ s 0 0 (AK a)) (F0 m 0 ls [])
  unfold k2_wagonOf at hf
  refine lv_aload_n hx hb dX2_wagonOf_0 rfl (lv_at hl 0 rfl) ?_
  refine gK_4_1 E hw (E.hts _ wl168) dX2_wagonOf_1 ?_
  refine lv_iload_n hx hb dX2_wagonOf_4 rfl (lv_at hl 1 rfl) ?_
  obtain ⟨r_2, h_1, hf⟩ := ob_at hf
  refine qk6_hasSight E hw (mk6_hasSight E.hD h_1) wl486 dX2_wagonOf_5 ⟨Nat.le_of_ble_eq_true rfl, Nat.le_of_ble_eq_true rfl⟩ hl.1 (Nat.le_of_ble_eq_true rfl) ⟨Nat.le_refl 0, Nat.le_refl 0⟩ (fun H locs hw => ?_)
  refine lv_if_ne (tgt := 13) hx hb dX2_wagonOf_8 (by decide) (fun c_4 => ?_) (fun c_4 => ?_)
  · replace hf := ite_f hf c_4
    refine lv_aload_n hx hb dX2_wagonOf_13 rfl (lv_at hl 0 rfl) ?_
    obtain ⟨S_7, h_5, hf⟩ := ob_at hf
    refine qk2_solve E hw (mk2_solve E.hD h_5) wl487 dX2_wagonOf_14 ⟨Nat.le_of_ble_eq_true rfl, Nat.le_of_ble_eq_true rfl⟩ hl.1 (Nat.le_of_ble_eq_true rfl) ⟨Nat.le_refl 0, Nat.le_refl 0⟩ (fun H locs hw => ?_)
    refine lv_aload_n hx hb dX2_wagonOf_17 rfl (lv_at hl 0 rfl) ?_
    refine gK_4_6 E hw (E.hts _ wl173) dX2_wagonOf_18 ?_
    refine lv_iload_n hx hb dX2_wagonOf_21 rfl (lv_at hl 1 rfl) ?_
    obtain ⟨h_v_8, hf⟩ := rdA_at hf
    refine lK_26 E hw h_v_8 dX2_wagonOf_22 (fun v_8 ev_8 => ?_)
    replace hf := hf v_8 ev_8
    cases hf
    exact retK_i E hw dX2_wagonOf_23
  · replace hf := ite_t hf c_4
    refine lv_iconst hx hb dX2_wagonOf_11 ic_m1 ?_
    cases hf
    exact retK_i E hw dX2_wagonOf_12
theorem qk2_wagonOf {p : Program} {l : Launch} {e : Env} {R : Room} {s : State} {m : MethodId} {args : Array Value} {below : List Frame} {meth : Method} {c : Code} {H : Heap} {locs : List Loc} {cells slots : Nat} {Q : State → Prop} {cc : ByteArray} {pc : Nat} {ls : Array Slot} {rest : List Value} {D : va_G} {a : Nat → Nat} {g : Nat → ClassId} {nL : Nat} {own : String} {ret : Option FieldType} {S S1 : SS} {k : Nat} {x1 : Int32} {r : Int32} (E : EK p s m args meth c D a g cc nL own ret) (hw : WK D a g S s H locs) (hM : Met l yX2_wagonOf (wsm yX2_wagonOf cX2_wagonOf 2 (some .int)) (RM k) (PK D a g S [.ref (a 4), .int x1]) (QK D a g (some (.int r)) S1) 0 0 (AK a)) {idx : Nat} (hlk : Cond.methodLink own idx yX2_wagonOf ∈ wd) (hdg : decode cc pc = .ok (.invokevirtual idx, 3)) (hR : k + 1 ≤ R.frames ∧ 8 + (2 + 11) + 64 * k ≤ R.locals) (hls : ls.size = nL) (hrest : (rest.map fun v => v.category).sum ≤ 8) (hcs : cells ≤ R.cells ∧ slots ≤ R.slots) (kk : ∀ (H1 : Heap) (locs1 : List Loc), WK D a g S1 s H1 locs1 → W p l e R s m args below meth c H1 locs1 cells slots Q (F0 m (pc + 3) ls (.int r :: rest))) : W p l e R s m args below meth c H locs cells slots Q (F0 m pc ls (.int x1 :: .ref (a 4) :: rest)) :=
  callK_i hw (va_runV (As := [.int x1]) (rest := rest) ⟨E.hx, E.hb, E.hml, E.hown, E.hts⟩ hM ⟨cb_of 1 E.hts wl485 wl40 hlk (by decide +kernel) hR, E.hts _ wl483, E.hts _ wl484⟩ ⟨PK_blind, va_recv E.hK hw.1 (ci := 2) (q0 := 4) rfl rfl, PK_pre E.hK E.hN hw.1⟩ rfl rfl hls rfl (lv_room hrest) hdg hcs) kk
/-! X7_whose -/
def k7_whose (F : Nat) (S : SS) (x1 : Int32) : Option (Int32 × SS) :=
  ob2 (k2_wagonOf F S (x1)) fun r_2 S_3 => some (r_2, S_3)
set_option maxRecDepth 100000 in
set_option maxHeartbeats 4000000 in
theorem mk7_whose {l : Launch} {D : va_G} {a : Nat → Nat} {g : Nat → ClassId} (hD : ∀ S, va_D (AK a) (wK a g S)) {F : Nat} {S : SS} {x1 : Int32} {out : (Int32 × SS)} (hf : k7_whose F S x1 = some out) : Met l yX7_whose (wsm yX7_whose cX7_whose 2 (some .int)) (RM 14) (PK D a g S [.ref (a 0), .int x1]) (QK D a g (some (.int out.1)) out.2) 0 0 (AK a) := by
  refine Met.ofW (cc := cX7_whose) (maxL := 2) (ret := (some .int)) (by decide) rfl ?_
  intro p e s m args below meth c s₁ B hml hv
  obtain ⟨rfl, hP, hK, hN⟩ := hv
  have hts := atoms_spec (ws := wsm yX7_whose cX7_whose 2 (some .int)) B.pre
  have E : EK p s m _ meth c D a g cX7_whose 2 RX7 (some .int) := ⟨B.exec, B.bytes, B.returns, hml, findClass_of_methodNamed B.named, fun w h => hts w (List.mem_cons_of_mem _ h), hK, hN, hD, B.notSynchronized⟩
  have hx := E.hx
  have hb := E.hb
  have hw : WK D a g S s s.heap [] := ⟨hP, va_S.rf⟩
  have hl := lv_entry ([.ref (a 0), .int x1]) (n := 2) (Nat.le_of_ble_eq_true rfl)
  rw [lg_entry_eq]
  generalize (lg_sl ([.ref (a 0), .int x1]) ++ List.replicate (2 - (lg_sl ([.ref (a 0), .int x1])).length) Slot.unset).toArray = ls at hl ⊢
  have hl : lv_has ls 2 [(0, .ref (a 0)), (1, .int (x1))] := hl
  show W p l e (RM 14) s m _ below meth c s.heap [] 0 0 (MQ below (QK D a g (some (.int out.1)) out.2) _ s 0 0 (AK a)) (F0 m 0 ls [])
  unfold k7_whose at hf
  refine lv_aload_n hx hb dX7_whose_0 rfl (lv_at hl 0 rfl) ?_
  refine gK_0_3 E hw (E.hts _ wl275) dX7_whose_1 ?_
  refine lv_iload_n hx hb dX7_whose_4 rfl (lv_at hl 1 rfl) ?_
  obtain ⟨r_2, S_3, h_1, hf⟩ := ob2_at hf
  refine qk2_wagonOf E hw (mk2_wagonOf E.hD h_1) wl482 dX7_whose_5 ⟨Nat.le_of_ble_eq_true rfl, Nat.le_of_ble_eq_true rfl⟩ hl.1 (Nat.le_of_ble_eq_true rfl) ⟨Nat.le_refl 0, Nat.le_refl 0⟩ (fun H locs hw => ?_)
  cases hf
  exact retK_i E hw dX7_whose_8
theorem qk7_whose {p : Program} {l : Launch} {e : Env} {R : Room} {s : State} {m : MethodId} {args : Array Value} {below : List Frame} {meth : Method} {c : Code} {H : Heap} {locs : List Loc} {cells slots : Nat} {Q : State → Prop} {cc : ByteArray} {pc : Nat} {ls : Array Slot} {rest : List Value} {D : va_G} {a : Nat → Nat} {g : Nat → ClassId} {nL : Nat} {own : String} {ret : Option FieldType} {S S1 : SS} {k : Nat} {x1 : Int32} {r : Int32} (E : EK p s m args meth c D a g cc nL own ret) (hw : WK D a g S s H locs) (hM : Met l yX7_whose (wsm yX7_whose cX7_whose 2 (some .int)) (RM k) (PK D a g S [.ref (a 0), .int x1]) (QK D a g (some (.int r)) S1) 0 0 (AK a)) {idx : Nat} (hlk : Cond.methodLink own idx yX7_whose ∈ wd) (hdg : decode cc pc = .ok (.invokevirtual idx, 3)) (hR : k + 1 ≤ R.frames ∧ 8 + (2 + 11) + 64 * k ≤ R.locals) (hls : ls.size = nL) (hrest : (rest.map fun v => v.category).sum ≤ 8) (hcs : cells ≤ R.cells ∧ slots ≤ R.slots) (kk : ∀ (H1 : Heap) (locs1 : List Loc), WK D a g S1 s H1 locs1 → W p l e R s m args below meth c H1 locs1 cells slots Q (F0 m (pc + 3) ls (.int r :: rest))) : W p l e R s m args below meth c H locs cells slots Q (F0 m pc ls (.int x1 :: .ref (a 0) :: rest)) :=
  callK_i hw (va_runV (As := [.int x1]) (rest := rest) ⟨E.hx, E.hb, E.hml, E.hown, E.hts⟩ hM ⟨cb_of 1 E.hts wl481 wl35 hlk (by decide +kernel) hR, E.hts _ wl479, E.hts _ wl480⟩ ⟨PK_blind, va_recv E.hK hw.1 (ci := 7) (q0 := 0) rfl rfl, PK_pre E.hK E.hN hw.1⟩ rfl rfl hls rfl (lv_room hrest) hdg hcs) kk
/-! X2_lowestCost -/
def k2_lowestCost (F : Nat) (S : SS) : Option (Int32 × SS) :=
  (k2_solve F S ).bind fun S_3 => some (S_3 4 7, S_3)
set_option maxRecDepth 100000 in
set_option maxHeartbeats 4000000 in
theorem mk2_lowestCost {l : Launch} {D : va_G} {a : Nat → Nat} {g : Nat → ClassId} (hD : ∀ S, va_D (AK a) (wK a g S)) {F : Nat} {S : SS} {out : (Int32 × SS)} (hf : k2_lowestCost F S  = some out) : Met l yX2_lowestCost (wsm yX2_lowestCost cX2_lowestCost 1 (some .int)) (RM 13) (PK D a g S [.ref (a 4)]) (QK D a g (some (.int out.1)) out.2) 0 0 (AK a) := by
  refine Met.ofW (cc := cX2_lowestCost) (maxL := 1) (ret := (some .int)) (by decide) rfl ?_
  intro p e s m args below meth c s₁ B hml hv
  obtain ⟨rfl, hP, hK, hN⟩ := hv
  have hts := atoms_spec (ws := wsm yX2_lowestCost cX2_lowestCost 1 (some .int)) B.pre
  have E : EK p s m _ meth c D a g cX2_lowestCost 1 RX2 (some .int) := ⟨B.exec, B.bytes, B.returns, hml, findClass_of_methodNamed B.named, fun w h => hts w (List.mem_cons_of_mem _ h), hK, hN, hD, B.notSynchronized⟩
  have hx := E.hx
  have hb := E.hb
  have hw : WK D a g S s s.heap [] := ⟨hP, va_S.rf⟩
  have hl := lv_entry ([.ref (a 4)]) (n := 1) (Nat.le_of_ble_eq_true rfl)
  rw [lg_entry_eq]
  generalize (lg_sl ([.ref (a 4)]) ++ List.replicate (1 - (lg_sl ([.ref (a 4)])).length) Slot.unset).toArray = ls at hl ⊢
  have hl : lv_has ls 1 [(0, .ref (a 4))] := hl
  show W p l e (RM 13) s m _ below meth c s.heap [] 0 0 (MQ below (QK D a g (some (.int out.1)) out.2) _ s 0 0 (AK a)) (F0 m 0 ls [])
  unfold k2_lowestCost at hf
  refine lv_aload_n hx hb dX2_lowestCost_0 rfl (lv_at hl 0 rfl) ?_
  obtain ⟨S_3, h_1, hf⟩ := ob_at hf
  refine qk2_solve E hw (mk2_solve E.hD h_1) wl487 dX2_lowestCost_1 ⟨Nat.le_of_ble_eq_true rfl, Nat.le_of_ble_eq_true rfl⟩ hl.1 (Nat.le_of_ble_eq_true rfl) ⟨Nat.le_refl 0, Nat.le_refl 0⟩ (fun H locs hw => ?_)
  refine lv_aload_n hx hb dX2_lowestCost_4 rfl (lv_at hl 0 rfl) ?_
  refine gK_4_7 E hw (E.hts _ wl175) dX2_lowestCost_5 ?_
  cases hf
  exact retK_i E hw dX2_lowestCost_8
theorem qk2_lowestCost {p : Program} {l : Launch} {e : Env} {R : Room} {s : State} {m : MethodId} {args : Array Value} {below : List Frame} {meth : Method} {c : Code} {H : Heap} {locs : List Loc} {cells slots : Nat} {Q : State → Prop} {cc : ByteArray} {pc : Nat} {ls : Array Slot} {rest : List Value} {D : va_G} {a : Nat → Nat} {g : Nat → ClassId} {nL : Nat} {own : String} {ret : Option FieldType} {S S1 : SS} {k : Nat} {r : Int32} (E : EK p s m args meth c D a g cc nL own ret) (hw : WK D a g S s H locs) (hM : Met l yX2_lowestCost (wsm yX2_lowestCost cX2_lowestCost 1 (some .int)) (RM k) (PK D a g S [.ref (a 4)]) (QK D a g (some (.int r)) S1) 0 0 (AK a)) {idx : Nat} (hlk : Cond.methodLink own idx yX2_lowestCost ∈ wd) (hdg : decode cc pc = .ok (.invokevirtual idx, 3)) (hR : k + 1 ≤ R.frames ∧ 8 + (1 + 11) + 64 * k ≤ R.locals) (hls : ls.size = nL) (hrest : (rest.map fun v => v.category).sum ≤ 8) (hcs : cells ≤ R.cells ∧ slots ≤ R.slots) (kk : ∀ (H1 : Heap) (locs1 : List Loc), WK D a g S1 s H1 locs1 → W p l e R s m args below meth c H1 locs1 cells slots Q (F0 m (pc + 3) ls (.int r :: rest))) : W p l e R s m args below meth c H locs cells slots Q (F0 m pc ls (.ref (a 4) :: rest)) :=
  callK_i hw (va_runV (As := []) (rest := rest) ⟨E.hx, E.hb, E.hml, E.hown, E.hts⟩ hM ⟨cb_of 0 E.hts wl495 wl40 hlk (by decide +kernel) hR, E.hts _ wl493, E.hts _ wl494⟩ ⟨PK_blind, va_recv E.hK hw.1 (ci := 2) (q0 := 4) rfl rfl, PK_pre E.hK E.hN hw.1⟩ rfl rfl hls rfl (lv_room hrest) hdg hcs) kk
/-! X7_cost -/
def k7_cost (F : Nat) (S : SS) : Option (Int32 × SS) :=
  ob2 (k2_lowestCost F S ) fun r_2 S_3 => some (r_2, S_3)
set_option maxRecDepth 100000 in
set_option maxHeartbeats 4000000 in
theorem mk7_cost {l : Launch} {D : va_G} {a : Nat → Nat} {g : Nat → ClassId} (hD : ∀ S, va_D (AK a) (wK a g S)) {F : Nat} {S : SS} {out : (Int32 × SS)} (hf : k7_cost F S  = some out) : Met l yX7_cost (wsm yX7_cost cX7_cost 1 (some .int)) (RM 14) (PK D a g S [.ref (a 0)]) (QK D a g (some (.int out.1)) out.2) 0 0 (AK a) := by
  refine Met.ofW (cc := cX7_cost) (maxL := 1) (ret := (some .int)) (by decide) rfl ?_
  intro p e s m args below meth c s₁ B hml hv
  obtain ⟨rfl, hP, hK, hN⟩ := hv
  have hts := atoms_spec (ws := wsm yX7_cost cX7_cost 1 (some .int)) B.pre
  have E : EK p s m _ meth c D a g cX7_cost 1 RX7 (some .int) := ⟨B.exec, B.bytes, B.returns, hml, findClass_of_methodNamed B.named, fun w h => hts w (List.mem_cons_of_mem _ h), hK, hN, hD, B.notSynchronized⟩
  have hx := E.hx
  have hb := E.hb
  have hw : WK D a g S s s.heap [] := ⟨hP, va_S.rf⟩
  have hl := lv_entry ([.ref (a 0)]) (n := 1) (Nat.le_of_ble_eq_true rfl)
  rw [lg_entry_eq]
  generalize (lg_sl ([.ref (a 0)]) ++ List.replicate (1 - (lg_sl ([.ref (a 0)])).length) Slot.unset).toArray = ls at hl ⊢
  have hl : lv_has ls 1 [(0, .ref (a 0))] := hl
  show W p l e (RM 14) s m _ below meth c s.heap [] 0 0 (MQ below (QK D a g (some (.int out.1)) out.2) _ s 0 0 (AK a)) (F0 m 0 ls [])
  unfold k7_cost at hf
  refine lv_aload_n hx hb dX7_cost_0 rfl (lv_at hl 0 rfl) ?_
  refine gK_0_3 E hw (E.hts _ wl275) dX7_cost_1 ?_
  obtain ⟨r_2, S_3, h_1, hf⟩ := ob2_at hf
  refine qk2_lowestCost E hw (mk2_lowestCost E.hD h_1) wl492 dX7_cost_4 ⟨Nat.le_of_ble_eq_true rfl, Nat.le_of_ble_eq_true rfl⟩ hl.1 (Nat.le_of_ble_eq_true rfl) ⟨Nat.le_refl 0, Nat.le_refl 0⟩ (fun H locs hw => ?_)
  cases hf
  exact retK_i E hw dX7_cost_7
theorem qk7_cost {p : Program} {l : Launch} {e : Env} {R : Room} {s : State} {m : MethodId} {args : Array Value} {below : List Frame} {meth : Method} {c : Code} {H : Heap} {locs : List Loc} {cells slots : Nat} {Q : State → Prop} {cc : ByteArray} {pc : Nat} {ls : Array Slot} {rest : List Value} {D : va_G} {a : Nat → Nat} {g : Nat → ClassId} {nL : Nat} {own : String} {ret : Option FieldType} {S S1 : SS} {k : Nat} {r : Int32} (E : EK p s m args meth c D a g cc nL own ret) (hw : WK D a g S s H locs) (hM : Met l yX7_cost (wsm yX7_cost cX7_cost 1 (some .int)) (RM k) (PK D a g S [.ref (a 0)]) (QK D a g (some (.int r)) S1) 0 0 (AK a)) {idx : Nat} (hlk : Cond.methodLink own idx yX7_cost ∈ wd) (hdg : decode cc pc = .ok (.invokevirtual idx, 3)) (hR : k + 1 ≤ R.frames ∧ 8 + (1 + 11) + 64 * k ≤ R.locals) (hls : ls.size = nL) (hrest : (rest.map fun v => v.category).sum ≤ 8) (hcs : cells ≤ R.cells ∧ slots ≤ R.slots) (kk : ∀ (H1 : Heap) (locs1 : List Loc), WK D a g S1 s H1 locs1 → W p l e R s m args below meth c H1 locs1 cells slots Q (F0 m (pc + 3) ls (.int r :: rest))) : W p l e R s m args below meth c H locs cells slots Q (F0 m pc ls (.ref (a 0) :: rest)) :=
  callK_i hw (va_runV (As := []) (rest := rest) ⟨E.hx, E.hb, E.hml, E.hown, E.hts⟩ hM ⟨cb_of 0 E.hts wl491 wl35 hlk (by decide +kernel) hR, E.hts _ wl489, E.hts _ wl490⟩ ⟨PK_blind, va_recv E.hK hw.1 (ci := 7) (q0 := 0) rfl rfl, PK_pre E.hK E.hN hw.1⟩ rfl rfl hls rfl (lv_room hrest) hdg hcs) kk
/-! X0_agree -/
def k0_agree (F : Nat) (S : SS) (x1 : Int32) (x2 : Int32) : Option (Int32 × SS) :=
  (k7_isWithin F S (x1) ((0 : Int32)) ((30 : Int32))).bind fun r_2 => if r_2 = 0 then (some ((0 : Int32), S)) else ((k7_isWithin F S (x2) ((0 : Int32)) ((100 : Int32))).bind fun r_6 => if r_6 = 0 then (some ((0 : Int32), S)) else (bnd (st S 5 2 x1) fun S_9 => bnd (st S_9 5 3 x2) fun S_10 => some ((1 : Int32), S_10)))
set_option maxRecDepth 100000 in
set_option maxHeartbeats 4000000 in
theorem mk0_agree {l : Launch} {D : va_G} {a : Nat → Nat} {g : Nat → ClassId} (hD : ∀ S, va_D (AK a) (wK a g S)) {F : Nat} {S : SS} {x1 x2 : Int32} {out : (Int32 × SS)} (hf : k0_agree F S x1 x2 = some out) : Met l yX0_agree (wsm yX0_agree cX0_agree 3 (some .boolean)) (RM 2) (PK D a g S [.ref (a 5), .int x1, .int x2]) (QK D a g (some (.int out.1)) out.2) 0 0 (AK a) := by
  refine Met.ofW (cc := cX0_agree) (maxL := 3) (ret := (some .boolean)) (by decide) rfl ?_
  intro p e s m args below meth c s₁ B hml hv
  obtain ⟨rfl, hP, hK, hN⟩ := hv
  have hts := atoms_spec (ws := wsm yX0_agree cX0_agree 3 (some .boolean)) B.pre
  have E : EK p s m _ meth c D a g cX0_agree 3 RX0 (some .boolean) := ⟨B.exec, B.bytes, B.returns, hml, findClass_of_methodNamed B.named, fun w h => hts w (List.mem_cons_of_mem _ h), hK, hN, hD, B.notSynchronized⟩
  have hx := E.hx
  have hb := E.hb
  have hw : WK D a g S s s.heap [] := ⟨hP, va_S.rf⟩
  have hl := lv_entry ([.ref (a 5), .int x1, .int x2]) (n := 3) (Nat.le_of_ble_eq_true rfl)
  rw [lg_entry_eq]
  generalize (lg_sl ([.ref (a 5), .int x1, .int x2]) ++ List.replicate (3 - (lg_sl ([.ref (a 5), .int x1, .int x2])).length) Slot.unset).toArray = ls at hl ⊢
  have hl : lv_has ls 3 [(0, .ref (a 5)), (1, .int (x1)), (2, .int (x2))] := hl
  show W p l e (RM 2) s m _ below meth c s.heap [] 0 0 (MQ below (QK D a g (some (.int out.1)) out.2) _ s 0 0 (AK a)) (F0 m 0 ls [])
  unfold k0_agree at hf
  refine lv_iload_n hx hb dX0_agree_0 rfl (lv_at hl 1 rfl) ?_
  refine lv_iconst hx hb dX0_agree_1 ic_0 ?_
  refine lv_bipush hx hb dX0_agree_2 bp_30 ?_
  obtain ⟨r_2, h_1, hf⟩ := ob_at hf
  refine qnk7_isWithin E hw (mk7_isWithin E.hD h_1) nw12 dX0_agree_4 ⟨Nat.le_of_ble_eq_true rfl, Nat.le_of_ble_eq_true rfl⟩ hl.1 (Nat.le_of_ble_eq_true rfl) ⟨Nat.le_refl 0, Nat.le_refl 0⟩ (fun H locs hw => ?_)
  refine lv_if_eq (tgt := 20) hx hb dX0_agree_7 (by decide) (fun c_4 => ?_) (fun c_4 => ?_)
  · replace hf := ite_t hf c_4
    refine lv_iconst hx hb dX0_agree_20 ic_0 ?_
    cases hf
    exact retK_z E hw nb0 dX0_agree_21
  · replace hf := ite_f hf c_4
    refine lv_iload_n hx hb dX0_agree_10 rfl (lv_at hl 2 rfl) ?_
    refine lv_iconst hx hb dX0_agree_11 ic_0 ?_
    refine lv_bipush hx hb dX0_agree_12 bp_100 ?_
    obtain ⟨r_6, h_5, hf⟩ := ob_at hf
    refine qnk7_isWithin E hw (mk7_isWithin E.hD h_5) nw12 dX0_agree_14 ⟨Nat.le_of_ble_eq_true rfl, Nat.le_of_ble_eq_true rfl⟩ hl.1 (Nat.le_of_ble_eq_true rfl) ⟨Nat.le_refl 0, Nat.le_refl 0⟩ (fun H locs hw => ?_)
    refine lv_if_ne (tgt := 22) hx hb dX0_agree_17 (by decide) (fun c_8 => ?_) (fun c_8 => ?_)
    · replace hf := ite_f hf c_8
      refine lv_aload_n hx hb dX0_agree_22 rfl (lv_at hl 0 rfl) ?_
      refine lv_iload_n hx hb dX0_agree_23 rfl (lv_at hl 1 rfl) ?_
      refine pK_5_2 E hw (E.hts _ wl204) dX0_agree_24 (fun S_9 eS_9 H locs hw => ?_)
      replace hf := bnd_at hf eS_9
      refine lv_aload_n hx hb dX0_agree_27 rfl (lv_at hl 0 rfl) ?_
      refine lv_iload_n hx hb dX0_agree_28 rfl (lv_at hl 2 rfl) ?_
      refine pK_5_3 E hw (E.hts _ wl205) dX0_agree_29 (fun S_10 eS_10 H locs hw => ?_)
      replace hf := bnd_at hf eS_10
      refine lv_iconst hx hb dX0_agree_32 ic_1 ?_
      cases hf
      exact retK_z E hw nb1 dX0_agree_33
    · replace hf := ite_t hf c_8
      refine lv_iconst hx hb dX0_agree_20 ic_0 ?_
      cases hf
      exact retK_z E hw nb0 dX0_agree_21
theorem qk0_agree {p : Program} {l : Launch} {e : Env} {R : Room} {s : State} {m : MethodId} {args : Array Value} {below : List Frame} {meth : Method} {c : Code} {H : Heap} {locs : List Loc} {cells slots : Nat} {Q : State → Prop} {cc : ByteArray} {pc : Nat} {ls : Array Slot} {rest : List Value} {D : va_G} {a : Nat → Nat} {g : Nat → ClassId} {nL : Nat} {own : String} {ret : Option FieldType} {S S1 : SS} {k : Nat} {x1 x2 : Int32} {r : Int32} (E : EK p s m args meth c D a g cc nL own ret) (hw : WK D a g S s H locs) (hM : Met l yX0_agree (wsm yX0_agree cX0_agree 3 (some .boolean)) (RM k) (PK D a g S [.ref (a 5), .int x1, .int x2]) (QK D a g (some (.int r)) S1) 0 0 (AK a)) {idx : Nat} (hlk : Cond.methodLink own idx yX0_agree ∈ wd) (hdg : decode cc pc = .ok (.invokevirtual idx, 3)) (hR : k + 1 ≤ R.frames ∧ 8 + (3 + 11) + 64 * k ≤ R.locals) (hls : ls.size = nL) (hrest : (rest.map fun v => v.category).sum ≤ 8) (hcs : cells ≤ R.cells ∧ slots ≤ R.slots) (kk : ∀ (H1 : Heap) (locs1 : List Loc), WK D a g S1 s H1 locs1 → W p l e R s m args below meth c H1 locs1 cells slots Q (F0 m (pc + 3) ls (.int r :: rest))) : W p l e R s m args below meth c H locs cells slots Q (F0 m pc ls (.int x2 :: .int x1 :: .ref (a 5) :: rest)) :=
  callK_i hw (va_runV (As := [.int x1, .int x2]) (rest := rest) ⟨E.hx, E.hb, E.hml, E.hown, E.hts⟩ hM ⟨cb_of 2 E.hts wl503 wl41 hlk (by decide +kernel) hR, E.hts _ wl501, E.hts _ wl502⟩ ⟨PK_blind, va_recv E.hK hw.1 (ci := 0) (q0 := 5) rfl rfl, PK_pre E.hK E.hN hw.1⟩ rfl rfl hls rfl (lv_room hrest) hdg hcs) kk
/-! X7_terms -/
def k7_terms (F : Nat) (S : SS) (x1 : Int32) (x2 : Int32) : Option (Int32 × SS) :=
  ob2 (k0_agree F S (x1) (x2)) fun r_2 S_3 => (ckB r_2).bind fun _ => some (r_2, S_3)
set_option maxRecDepth 100000 in
set_option maxHeartbeats 4000000 in
theorem mk7_terms {l : Launch} {D : va_G} {a : Nat → Nat} {g : Nat → ClassId} (hD : ∀ S, va_D (AK a) (wK a g S)) {F : Nat} {S : SS} {x1 x2 : Int32} {out : (Int32 × SS)} (hf : k7_terms F S x1 x2 = some out) : Met l yX7_terms (wsm yX7_terms cX7_terms 3 (some .boolean)) (RM 3) (PK D a g S [.ref (a 0), .int x1, .int x2]) (QK D a g (some (.int out.1)) out.2) 0 0 (AK a) := by
  refine Met.ofW (cc := cX7_terms) (maxL := 3) (ret := (some .boolean)) (by decide) rfl ?_
  intro p e s m args below meth c s₁ B hml hv
  obtain ⟨rfl, hP, hK, hN⟩ := hv
  have hts := atoms_spec (ws := wsm yX7_terms cX7_terms 3 (some .boolean)) B.pre
  have E : EK p s m _ meth c D a g cX7_terms 3 RX7 (some .boolean) := ⟨B.exec, B.bytes, B.returns, hml, findClass_of_methodNamed B.named, fun w h => hts w (List.mem_cons_of_mem _ h), hK, hN, hD, B.notSynchronized⟩
  have hx := E.hx
  have hb := E.hb
  have hw : WK D a g S s s.heap [] := ⟨hP, va_S.rf⟩
  have hl := lv_entry ([.ref (a 0), .int x1, .int x2]) (n := 3) (Nat.le_of_ble_eq_true rfl)
  rw [lg_entry_eq]
  generalize (lg_sl ([.ref (a 0), .int x1, .int x2]) ++ List.replicate (3 - (lg_sl ([.ref (a 0), .int x1, .int x2])).length) Slot.unset).toArray = ls at hl ⊢
  have hl : lv_has ls 3 [(0, .ref (a 0)), (1, .int (x1)), (2, .int (x2))] := hl
  show W p l e (RM 3) s m _ below meth c s.heap [] 0 0 (MQ below (QK D a g (some (.int out.1)) out.2) _ s 0 0 (AK a)) (F0 m 0 ls [])
  unfold k7_terms at hf
  refine lv_aload_n hx hb dX7_terms_0 rfl (lv_at hl 0 rfl) ?_
  refine gK_0_4 E hw (E.hts _ wl276) dX7_terms_1 ?_
  refine lv_iload_n hx hb dX7_terms_4 rfl (lv_at hl 1 rfl) ?_
  refine lv_iload_n hx hb dX7_terms_5 rfl (lv_at hl 2 rfl) ?_
  obtain ⟨r_2, S_3, h_1, hf⟩ := ob2_at hf
  refine qk0_agree E hw (mk0_agree E.hD h_1) wl500 dX7_terms_6 ⟨Nat.le_of_ble_eq_true rfl, Nat.le_of_ble_eq_true rfl⟩ hl.1 (Nat.le_of_ble_eq_true rfl) ⟨Nat.le_refl 0, Nat.le_refl 0⟩ (fun H locs hw => ?_)
  obtain ⟨h_4, hf⟩ := ckB_at hf
  cases hf
  exact retK_z E hw h_4 dX7_terms_9
theorem qk7_terms {p : Program} {l : Launch} {e : Env} {R : Room} {s : State} {m : MethodId} {args : Array Value} {below : List Frame} {meth : Method} {c : Code} {H : Heap} {locs : List Loc} {cells slots : Nat} {Q : State → Prop} {cc : ByteArray} {pc : Nat} {ls : Array Slot} {rest : List Value} {D : va_G} {a : Nat → Nat} {g : Nat → ClassId} {nL : Nat} {own : String} {ret : Option FieldType} {S S1 : SS} {k : Nat} {x1 x2 : Int32} {r : Int32} (E : EK p s m args meth c D a g cc nL own ret) (hw : WK D a g S s H locs) (hM : Met l yX7_terms (wsm yX7_terms cX7_terms 3 (some .boolean)) (RM k) (PK D a g S [.ref (a 0), .int x1, .int x2]) (QK D a g (some (.int r)) S1) 0 0 (AK a)) {idx : Nat} (hlk : Cond.methodLink own idx yX7_terms ∈ wd) (hdg : decode cc pc = .ok (.invokevirtual idx, 3)) (hR : k + 1 ≤ R.frames ∧ 8 + (3 + 11) + 64 * k ≤ R.locals) (hls : ls.size = nL) (hrest : (rest.map fun v => v.category).sum ≤ 8) (hcs : cells ≤ R.cells ∧ slots ≤ R.slots) (kk : ∀ (H1 : Heap) (locs1 : List Loc), WK D a g S1 s H1 locs1 → W p l e R s m args below meth c H1 locs1 cells slots Q (F0 m (pc + 3) ls (.int r :: rest))) : W p l e R s m args below meth c H locs cells slots Q (F0 m pc ls (.int x2 :: .int x1 :: .ref (a 0) :: rest)) :=
  callK_i hw (va_runV (As := [.int x1, .int x2]) (rest := rest) ⟨E.hx, E.hb, E.hml, E.hown, E.hts⟩ hM ⟨cb_of 2 E.hts wl499 wl35 hlk (by decide +kernel) hR, E.hts _ wl497, E.hts _ wl498⟩ ⟨PK_blind, va_recv E.hK hw.1 (ci := 7) (q0 := 0) rfl rfl, PK_pre E.hK E.hN hw.1⟩ rfl rfl hls rfl (lv_room hrest) hdg hcs) kk
/-! X0_owed -/
def k0_owed (F : Nat) (S : SS) (x1 : Int32) (x2 : Int32) : Option (Int32 × SS) :=
  (k6_hasWagon F S (x1)).bind fun r_2 => if r_2 = 0 then (some ((0 : Int32), S)) else ((k7_isCompany F S (x2)).bind fun r_6 => if r_6 = 0 then (some ((0 : Int32), S)) else ((k2_solve F S ).bind fun S_11 => (k0_owedAsJoined F S_11 (x1) (x2)).bind fun r_13 => some (r_13, S_11)))
set_option maxRecDepth 100000 in
set_option maxHeartbeats 4000000 in
theorem mk0_owed {l : Launch} {D : va_G} {a : Nat → Nat} {g : Nat → ClassId} (hD : ∀ S, va_D (AK a) (wK a g S)) {F : Nat} {S : SS} {x1 x2 : Int32} {out : (Int32 × SS)} (hf : k0_owed F S x1 x2 = some out) : Met l yX0_owed (wsm yX0_owed cX0_owed 3 (some .int)) (RM 13) (PK D a g S [.ref (a 5), .int x1, .int x2]) (QK D a g (some (.int out.1)) out.2) 0 0 (AK a) := by
  refine Met.ofW (cc := cX0_owed) (maxL := 3) (ret := (some .int)) (by decide) rfl ?_
  intro p e s m args below meth c s₁ B hml hv
  obtain ⟨rfl, hP, hK, hN⟩ := hv
  have hts := atoms_spec (ws := wsm yX0_owed cX0_owed 3 (some .int)) B.pre
  have E : EK p s m _ meth c D a g cX0_owed 3 RX0 (some .int) := ⟨B.exec, B.bytes, B.returns, hml, findClass_of_methodNamed B.named, fun w h => hts w (List.mem_cons_of_mem _ h), hK, hN, hD, B.notSynchronized⟩
  have hx := E.hx
  have hb := E.hb
  have hw : WK D a g S s s.heap [] := ⟨hP, va_S.rf⟩
  have hl := lv_entry ([.ref (a 5), .int x1, .int x2]) (n := 3) (Nat.le_of_ble_eq_true rfl)
  rw [lg_entry_eq]
  generalize (lg_sl ([.ref (a 5), .int x1, .int x2]) ++ List.replicate (3 - (lg_sl ([.ref (a 5), .int x1, .int x2])).length) Slot.unset).toArray = ls at hl ⊢
  have hl : lv_has ls 3 [(0, .ref (a 5)), (1, .int (x1)), (2, .int (x2))] := hl
  show W p l e (RM 13) s m _ below meth c s.heap [] 0 0 (MQ below (QK D a g (some (.int out.1)) out.2) _ s 0 0 (AK a)) (F0 m 0 ls [])
  unfold k0_owed at hf
  refine lv_aload_n hx hb dX0_owed_0 rfl (lv_at hl 0 rfl) ?_
  refine gK_5_0 E hw (E.hts _ wl202) dX0_owed_1 ?_
  refine lv_iload_n hx hb dX0_owed_4 rfl (lv_at hl 1 rfl) ?_
  obtain ⟨r_2, h_1, hf⟩ := ob_at hf
  refine qk6_hasWagon E hw (mk6_hasWagon E.hD h_1) wl513 dX0_owed_5 ⟨Nat.le_of_ble_eq_true rfl, Nat.le_of_ble_eq_true rfl⟩ hl.1 (Nat.le_of_ble_eq_true rfl) ⟨Nat.le_refl 0, Nat.le_refl 0⟩ (fun H locs hw => ?_)
  refine lv_if_eq (tgt := 18) hx hb dX0_owed_8 (by decide) (fun c_4 => ?_) (fun c_4 => ?_)
  · replace hf := ite_t hf c_4
    refine lv_iconst hx hb dX0_owed_18 ic_0 ?_
    cases hf
    exact retK_i E hw dX0_owed_19
  · replace hf := ite_f hf c_4
    refine lv_iload_n hx hb dX0_owed_11 rfl (lv_at hl 2 rfl) ?_
    obtain ⟨r_6, h_5, hf⟩ := ob_at hf
    refine qnk7_isCompany E hw (mk7_isCompany E.hD h_5) nw13 dX0_owed_12 ⟨Nat.le_of_ble_eq_true rfl, Nat.le_of_ble_eq_true rfl⟩ hl.1 (Nat.le_of_ble_eq_true rfl) ⟨Nat.le_refl 0, Nat.le_refl 0⟩ (fun H locs hw => ?_)
    refine lv_if_ne (tgt := 20) hx hb dX0_owed_15 (by decide) (fun c_8 => ?_) (fun c_8 => ?_)
    · replace hf := ite_f hf c_8
      refine lv_aload_n hx hb dX0_owed_20 rfl (lv_at hl 0 rfl) ?_
      refine gK_5_1 E hw (E.hts _ wl203) dX0_owed_21 ?_
      obtain ⟨S_11, h_9, hf⟩ := ob_at hf
      refine qk2_solve E hw (mk2_solve E.hD h_9) wl422 dX0_owed_24 ⟨Nat.le_of_ble_eq_true rfl, Nat.le_of_ble_eq_true rfl⟩ hl.1 (Nat.le_of_ble_eq_true rfl) ⟨Nat.le_refl 0, Nat.le_refl 0⟩ (fun H locs hw => ?_)
      refine lv_aload_n hx hb dX0_owed_27 rfl (lv_at hl 0 rfl) ?_
      refine lv_iload_n hx hb dX0_owed_28 rfl (lv_at hl 1 rfl) ?_
      refine lv_iload_n hx hb dX0_owed_29 rfl (lv_at hl 2 rfl) ?_
      obtain ⟨r_13, h_12, hf⟩ := ob_at hf
      refine qk0_owedAsJoined E hw (mk0_owedAsJoined E.hD h_12) wl450 dX0_owed_30 ⟨Nat.le_of_ble_eq_true rfl, Nat.le_of_ble_eq_true rfl⟩ hl.1 (Nat.le_of_ble_eq_true rfl) ⟨Nat.le_refl 0, Nat.le_refl 0⟩ (fun H locs hw => ?_)
      cases hf
      exact retK_i E hw dX0_owed_33
    · replace hf := ite_t hf c_8
      refine lv_iconst hx hb dX0_owed_18 ic_0 ?_
      cases hf
      exact retK_i E hw dX0_owed_19
theorem qk0_owed {p : Program} {l : Launch} {e : Env} {R : Room} {s : State} {m : MethodId} {args : Array Value} {below : List Frame} {meth : Method} {c : Code} {H : Heap} {locs : List Loc} {cells slots : Nat} {Q : State → Prop} {cc : ByteArray} {pc : Nat} {ls : Array Slot} {rest : List Value} {D : va_G} {a : Nat → Nat} {g : Nat → ClassId} {nL : Nat} {own : String} {ret : Option FieldType} {S S1 : SS} {k : Nat} {x1 x2 : Int32} {r : Int32} (E : EK p s m args meth c D a g cc nL own ret) (hw : WK D a g S s H locs) (hM : Met l yX0_owed (wsm yX0_owed cX0_owed 3 (some .int)) (RM k) (PK D a g S [.ref (a 5), .int x1, .int x2]) (QK D a g (some (.int r)) S1) 0 0 (AK a)) {idx : Nat} (hlk : Cond.methodLink own idx yX0_owed ∈ wd) (hdg : decode cc pc = .ok (.invokevirtual idx, 3)) (hR : k + 1 ≤ R.frames ∧ 8 + (3 + 11) + 64 * k ≤ R.locals) (hls : ls.size = nL) (hrest : (rest.map fun v => v.category).sum ≤ 8) (hcs : cells ≤ R.cells ∧ slots ≤ R.slots) (kk : ∀ (H1 : Heap) (locs1 : List Loc), WK D a g S1 s H1 locs1 → W p l e R s m args below meth c H1 locs1 cells slots Q (F0 m (pc + 3) ls (.int r :: rest))) : W p l e R s m args below meth c H locs cells slots Q (F0 m pc ls (.int x2 :: .int x1 :: .ref (a 5) :: rest)) :=
  callK_i hw (va_runV (As := [.int x1, .int x2]) (rest := rest) ⟨E.hx, E.hb, E.hml, E.hown, E.hts⟩ hM ⟨cb_of 2 E.hts wl512 wl41 hlk (by decide +kernel) hR, E.hts _ wl510, E.hts _ wl511⟩ ⟨PK_blind, va_recv E.hK hw.1 (ci := 0) (q0 := 5) rfl rfl, PK_pre E.hK E.hN hw.1⟩ rfl rfl hls rfl (lv_room hrest) hdg hcs) kk
/-! X7_charge -/
def k7_charge (F : Nat) (S : SS) (x1 : Int32) (x2 : Int32) : Option (Int32 × SS) :=
  ob2 (k0_owed F S (x1) (x2)) fun r_2 S_3 => some (r_2, S_3)
set_option maxRecDepth 100000 in
set_option maxHeartbeats 4000000 in
theorem mk7_charge {l : Launch} {D : va_G} {a : Nat → Nat} {g : Nat → ClassId} (hD : ∀ S, va_D (AK a) (wK a g S)) {F : Nat} {S : SS} {x1 x2 : Int32} {out : (Int32 × SS)} (hf : k7_charge F S x1 x2 = some out) : Met l yX7_charge (wsm yX7_charge cX7_charge 3 (some .int)) (RM 14) (PK D a g S [.ref (a 0), .int x1, .int x2]) (QK D a g (some (.int out.1)) out.2) 0 0 (AK a) := by
  refine Met.ofW (cc := cX7_charge) (maxL := 3) (ret := (some .int)) (by decide) rfl ?_
  intro p e s m args below meth c s₁ B hml hv
  obtain ⟨rfl, hP, hK, hN⟩ := hv
  have hts := atoms_spec (ws := wsm yX7_charge cX7_charge 3 (some .int)) B.pre
  have E : EK p s m _ meth c D a g cX7_charge 3 RX7 (some .int) := ⟨B.exec, B.bytes, B.returns, hml, findClass_of_methodNamed B.named, fun w h => hts w (List.mem_cons_of_mem _ h), hK, hN, hD, B.notSynchronized⟩
  have hx := E.hx
  have hb := E.hb
  have hw : WK D a g S s s.heap [] := ⟨hP, va_S.rf⟩
  have hl := lv_entry ([.ref (a 0), .int x1, .int x2]) (n := 3) (Nat.le_of_ble_eq_true rfl)
  rw [lg_entry_eq]
  generalize (lg_sl ([.ref (a 0), .int x1, .int x2]) ++ List.replicate (3 - (lg_sl ([.ref (a 0), .int x1, .int x2])).length) Slot.unset).toArray = ls at hl ⊢
  have hl : lv_has ls 3 [(0, .ref (a 0)), (1, .int (x1)), (2, .int (x2))] := hl
  show W p l e (RM 14) s m _ below meth c s.heap [] 0 0 (MQ below (QK D a g (some (.int out.1)) out.2) _ s 0 0 (AK a)) (F0 m 0 ls [])
  unfold k7_charge at hf
  refine lv_aload_n hx hb dX7_charge_0 rfl (lv_at hl 0 rfl) ?_
  refine gK_0_4 E hw (E.hts _ wl276) dX7_charge_1 ?_
  refine lv_iload_n hx hb dX7_charge_4 rfl (lv_at hl 1 rfl) ?_
  refine lv_iload_n hx hb dX7_charge_5 rfl (lv_at hl 2 rfl) ?_
  obtain ⟨r_2, S_3, h_1, hf⟩ := ob2_at hf
  refine qk0_owed E hw (mk0_owed E.hD h_1) wl509 dX7_charge_6 ⟨Nat.le_of_ble_eq_true rfl, Nat.le_of_ble_eq_true rfl⟩ hl.1 (Nat.le_of_ble_eq_true rfl) ⟨Nat.le_refl 0, Nat.le_refl 0⟩ (fun H locs hw => ?_)
  cases hf
  exact retK_i E hw dX7_charge_9
theorem qk7_charge {p : Program} {l : Launch} {e : Env} {R : Room} {s : State} {m : MethodId} {args : Array Value} {below : List Frame} {meth : Method} {c : Code} {H : Heap} {locs : List Loc} {cells slots : Nat} {Q : State → Prop} {cc : ByteArray} {pc : Nat} {ls : Array Slot} {rest : List Value} {D : va_G} {a : Nat → Nat} {g : Nat → ClassId} {nL : Nat} {own : String} {ret : Option FieldType} {S S1 : SS} {k : Nat} {x1 x2 : Int32} {r : Int32} (E : EK p s m args meth c D a g cc nL own ret) (hw : WK D a g S s H locs) (hM : Met l yX7_charge (wsm yX7_charge cX7_charge 3 (some .int)) (RM k) (PK D a g S [.ref (a 0), .int x1, .int x2]) (QK D a g (some (.int r)) S1) 0 0 (AK a)) {idx : Nat} (hlk : Cond.methodLink own idx yX7_charge ∈ wd) (hdg : decode cc pc = .ok (.invokevirtual idx, 3)) (hR : k + 1 ≤ R.frames ∧ 8 + (3 + 11) + 64 * k ≤ R.locals) (hls : ls.size = nL) (hrest : (rest.map fun v => v.category).sum ≤ 8) (hcs : cells ≤ R.cells ∧ slots ≤ R.slots) (kk : ∀ (H1 : Heap) (locs1 : List Loc), WK D a g S1 s H1 locs1 → W p l e R s m args below meth c H1 locs1 cells slots Q (F0 m (pc + 3) ls (.int r :: rest))) : W p l e R s m args below meth c H locs cells slots Q (F0 m pc ls (.int x2 :: .int x1 :: .ref (a 0) :: rest)) :=
  callK_i hw (va_runV (As := [.int x1, .int x2]) (rest := rest) ⟨E.hx, E.hb, E.hml, E.hown, E.hts⟩ hM ⟨cb_of 2 E.hts wl508 wl35 hlk (by decide +kernel) hR, E.hts _ wl506, E.hts _ wl507⟩ ⟨PK_blind, va_recv E.hK hw.1 (ci := 7) (q0 := 0) rfl rfl, PK_pre E.hK E.hN hw.1⟩ rfl rfl hls rfl (lv_room hrest) hdg hcs) kk
/-! X0_addCharges[36] -/
def k0_addCharges_36_B30 (F : Nat) (x2 : Int32) (rec30 : SS → Int32 → Option SS) (k74 : SS → Option SS) (S : SS) (x3 : Int32) : Option SS :=
  if ((8 : Int32)) ≤ x3 then (k74 S) else ((k0_owedAsJoined F S (x2) (x3)).bind fun r_10 => bnd (r_10) fun x4_12 => (rdA 8 (S 36) x3).bind fun v_13 => (ckA 8 x3).bind fun _ => bnd (st S 36 (Int32.toNatClampNeg x3) (v_13 - x4_12)) fun S_14 => (rdA 4 (S_14 17) x2).bind fun v_15 => (rdA 8 (S_14 36) v_15).bind fun v_16 => (ckA 8 v_15).bind fun _ => bnd (st S_14 36 (Int32.toNatClampNeg v_15) (v_16 + x4_12)) fun S_17 => bnd (x3 + (1)) fun x3_18 => rec30 S_17 (x3_18))
def k0_addCharges_36_B17 (F : Nat) (rec17 : SS → Int32 → Option SS) (S : SS) (x2 : Int32) : Option SS :=
  if (S 3 2) ≤ x2 then (some S) else (bnd ((0 : Int32)) fun x3_7 => lpN (fun _ _ => none) (fun rec30 => k0_addCharges_36_B30 F (x2) rec30 (fun S_19 => bnd (x2 + (1)) fun x2_20 => rec17 S_19 (x2_20))) F S (x3_7))
def k0_addCharges_36 (F : Nat) (S : SS) : Option SS :=
  if ((8 : Int32)) ≤ ((8 : Int32)) then ((k2_solve F S ).bind fun S_4 => bnd ((0 : Int32)) fun x2_5 => lpN (fun _ _ => none) (fun rec17 => k0_addCharges_36_B17 F rec17 ) F S_4 (x2_5)) else (some S)
set_option maxRecDepth 100000 in
set_option maxHeartbeats 4000000 in
theorem k0_addCharges_36_b30 {p : Program} {l : Launch} {e : Env} {s : State} {m : MethodId} {args : Array Value} {below : List Frame} {meth : Method} {c : Code} {D : va_G} {a : Nat → Nat} {g : Nat → ClassId} (E : EK p s m args meth c D a g cX0_addCharges 5 RX0 none) {F : Nat}  (x2 : Int32) {rec30 : SS → Int32 → Option SS} {k74 : SS → Option SS} {out : SS} (hrec30 : ∀ (S : SS) (x3 : Int32) (H : Heap) (locs : List Loc) (ls : Array Slot), rec30 S x3 = some out → WK D a g S s H locs → lv_has ls 5 [(0, .ref (a 5)), (1, .ref (a 36)), (2, .int (x2)), (3, .int (x3))] → W p l e (RM 13) s m args below meth c H locs 0 0 (MQ below (QK D a g none out) args s 0 0 (AK a)) (F0 m 30 ls [])) (hk74 : ∀ (S : SS) (H : Heap) (locs : List Loc) (ls : Array Slot), k74 S = some out → WK D a g S s H locs → lv_has ls 5 [(0, .ref (a 5)), (1, .ref (a 36)), (2, .int (x2))] → W p l e (RM 13) s m args below meth c H locs 0 0 (MQ below (QK D a g none out) args s 0 0 (AK a)) (F0 m 74 ls [])) (S : SS) (x3 : Int32) (H : Heap) (locs : List Loc) (ls : Array Slot) (hf : k0_addCharges_36_B30 F x2 rec30 k74 S x3 = some out) (hw : WK D a g S s H locs) (hl : lv_has ls 5 [(0, .ref (a 5)), (1, .ref (a 36)), (2, .int (x2)), (3, .int (x3))]) : W p l e (RM 13) s m args below meth c H locs 0 0 (MQ below (QK D a g none out) args s 0 0 (AK a)) (F0 m 30 ls []) := by
  have hx := E.hx
  have hb := E.hb
  unfold k0_addCharges_36_B30 at hf
  refine lv_iload_n hx hb dX0_addCharges_30 rfl (lv_at hl 3 rfl) ?_
  refine lv_bipush hx hb dX0_addCharges_31 bp_8 ?_
  refine lv_icmp_ge (tgt := 74) hx hb dX0_addCharges_33 (by decide) (fun c_8 => ?_) (fun c_8 => ?_)
  · replace hf := ite_t hf c_8
    exact hk74 S _ _ ls hf hw (lv_sub hl [0, 1, 2] rfl)
  · replace hf := ite_f hf c_8
    refine lv_aload_n hx hb dX0_addCharges_36 rfl (lv_at hl 0 rfl) ?_
    refine lv_iload_n hx hb dX0_addCharges_37 rfl (lv_at hl 2 rfl) ?_
    refine lv_iload_n hx hb dX0_addCharges_38 rfl (lv_at hl 3 rfl) ?_
    obtain ⟨r_10, h_9, hf⟩ := ob_at hf
    refine qk0_owedAsJoined E hw (mk0_owedAsJoined E.hD h_9) wl450 dX0_addCharges_39 ⟨Nat.le_of_ble_eq_true rfl, Nat.le_of_ble_eq_true rfl⟩ hl.1 (Nat.le_of_ble_eq_true rfl) ⟨Nat.le_refl 0, Nat.le_refl 0⟩ (fun H locs hw => ?_)
    refine lv_topi (fun x4_12 ex4_12 => ?_)
    replace hf := bnd_at hf ex4_12
    refine lv_istore (lv' := [(4, .int (x4_12)), (0, .ref (a 5)), (1, .ref (a 36)), (2, .int (x2)), (3, .int (x3))]) hx hb dX0_addCharges_42 hl (by decide) rfl (fun ls hl => ?_)
    refine lv_aload_n hx hb dX0_addCharges_44 rfl (lv_at hl 2 rfl) ?_
    refine lv_iload_n hx hb dX0_addCharges_45 rfl (lv_at hl 4 rfl) ?_
    refine lv_dup2_11 hx hb dX0_addCharges_46 rfl rfl ?_
    obtain ⟨h_v_13, hf⟩ := rdA_at hf
    refine lK_36 E hw h_v_13 dX0_addCharges_47 (fun v_13 ev_13 => ?_)
    replace hf := hf v_13 ev_13
    refine lv_iload hx hb dX0_addCharges_48 (lv_at hl 0 rfl) ?_
    refine lv_isub hx hb dX0_addCharges_50 ?_
    obtain ⟨h_S_14, hf⟩ := ckA_at hf
    refine sK_36 E hw h_S_14 dX0_addCharges_51 (fun S_14 eS_14 H locs hw => ?_)
    replace hf := bnd_at hf eS_14
    refine lv_aload_n hx hb dX0_addCharges_52 rfl (lv_at hl 2 rfl) ?_
    refine lv_aload_n hx hb dX0_addCharges_53 rfl (lv_at hl 1 rfl) ?_
    refine gK_5_0 E hw (E.hts _ wl202) dX0_addCharges_54 ?_
    refine gK_3_1 E hw (E.hts _ wl126) dX0_addCharges_57 ?_
    refine lv_iload_n hx hb dX0_addCharges_60 rfl (lv_at hl 3 rfl) ?_
    obtain ⟨h_v_15, hf⟩ := rdA_at hf
    refine lK_17 E hw h_v_15 dX0_addCharges_61 (fun v_15 ev_15 => ?_)
    replace hf := hf v_15 ev_15
    refine lv_dup2_11 hx hb dX0_addCharges_62 rfl rfl ?_
    obtain ⟨h_v_16, hf⟩ := rdA_at hf
    refine lK_36 E hw h_v_16 dX0_addCharges_63 (fun v_16 ev_16 => ?_)
    replace hf := hf v_16 ev_16
    refine lv_iload hx hb dX0_addCharges_64 (lv_at hl 0 rfl) ?_
    refine lv_iadd hx hb dX0_addCharges_66 ?_
    obtain ⟨h_S_17, hf⟩ := ckA_at hf
    refine sK_36 E hw h_S_17 dX0_addCharges_67 (fun S_17 eS_17 H locs hw => ?_)
    replace hf := bnd_at hf eS_17
    obtain ⟨x3_18, ex3_18⟩ : ∃ y : Int32, y = x3 + (1) := ⟨_, rfl⟩
    replace hf := bnd_at hf ex3_18
    refine lv_iinc (v := x3_18) (lv' := [(3, .int (x3_18)), (4, .int (x4_12)), (0, .ref (a 5)), (1, .ref (a 36)), (2, .int (x2))]) hx hb dX0_addCharges_68 hl (k := 4) rfl (by rw [ex3_18]; rfl) (by decide) rfl (fun ls hl => ?_)
    refine lv_goto (tgt := 30) hx hb dX0_addCharges_71 (by decide) ?_
    exact hrec30 S_17 (x3_18) _ _ ls hf hw (lv_sub hl [2, 3, 4, 0] rfl)
theorem k0_addCharges_36_l30 {p : Program} {l : Launch} {e : Env} {s : State} {m : MethodId} {args : Array Value} {below : List Frame} {meth : Method} {c : Code} {D : va_G} {a : Nat → Nat} {g : Nat → ClassId} (E : EK p s m args meth c D a g cX0_addCharges 5 RX0 none) {F : Nat}  (x2 : Int32) {k74 : SS → Option SS} {out : SS} (hk74 : ∀ (S : SS) (H : Heap) (locs : List Loc) (ls : Array Slot), k74 S = some out → WK D a g S s H locs → lv_has ls 5 [(0, .ref (a 5)), (1, .ref (a 36)), (2, .int (x2))] → W p l e (RM 13) s m args below meth c H locs 0 0 (MQ below (QK D a g none out) args s 0 0 (AK a)) (F0 m 74 ls [])) : ∀ (n : Nat) (S : SS) (x3 : Int32) (H : Heap) (locs : List Loc) (ls : Array Slot), lpN (fun _ _ => none) (fun rec30 => k0_addCharges_36_B30 F x2 rec30 k74) n S x3 = some out → WK D a g S s H locs → lv_has ls 5 [(0, .ref (a 5)), (1, .ref (a 36)), (2, .int (x2)), (3, .int (x3))] → W p l e (RM 13) s m args below meth c H locs 0 0 (MQ below (QK D a g none out) args s 0 0 (AK a)) (F0 m 30 ls []) := by
  intro n
  induction n with
  | zero => intro S x3 H locs ls hf; cases (show (none : Option SS) = some out from hf)
  | succ n ih => intro S x3 H locs ls hf hw hl; exact k0_addCharges_36_b30 E (F := F) x2 ih hk74 S x3 H locs ls hf hw hl
set_option maxRecDepth 100000 in
set_option maxHeartbeats 4000000 in
theorem k0_addCharges_36_b17 {p : Program} {l : Launch} {e : Env} {s : State} {m : MethodId} {args : Array Value} {below : List Frame} {meth : Method} {c : Code} {D : va_G} {a : Nat → Nat} {g : Nat → ClassId} (E : EK p s m args meth c D a g cX0_addCharges 5 RX0 none) {F : Nat}  {rec17 : SS → Int32 → Option SS} {out : SS} (hrec17 : ∀ (S : SS) (x2 : Int32) (H : Heap) (locs : List Loc) (ls : Array Slot), rec17 S x2 = some out → WK D a g S s H locs → lv_has ls 5 [(0, .ref (a 5)), (1, .ref (a 36)), (2, .int (x2))] → W p l e (RM 13) s m args below meth c H locs 0 0 (MQ below (QK D a g none out) args s 0 0 (AK a)) (F0 m 17 ls []))  (S : SS) (x2 : Int32) (H : Heap) (locs : List Loc) (ls : Array Slot) (hf : k0_addCharges_36_B17 F rec17 S x2 = some out) (hw : WK D a g S s H locs) (hl : lv_has ls 5 [(0, .ref (a 5)), (1, .ref (a 36)), (2, .int (x2))]) : W p l e (RM 13) s m args below meth c H locs 0 0 (MQ below (QK D a g none out) args s 0 0 (AK a)) (F0 m 17 ls []) := by
  have hx := E.hx
  have hb := E.hb
  unfold k0_addCharges_36_B17 at hf
  refine lv_iload_n hx hb dX0_addCharges_17 rfl (lv_at hl 2 rfl) ?_
  refine lv_aload_n hx hb dX0_addCharges_18 rfl (lv_at hl 0 rfl) ?_
  refine gK_5_0 E hw (E.hts _ wl202) dX0_addCharges_19 ?_
  refine gK_3_2 E hw (E.hts _ wl128) dX0_addCharges_22 ?_
  refine lv_icmp_ge (tgt := 80) hx hb dX0_addCharges_25 (by decide) (fun c_6 => ?_) (fun c_6 => ?_)
  · replace hf := ite_t hf c_6
    cases hf
    exact retK_v E hw dX0_addCharges_80
  · replace hf := ite_f hf c_6
    refine lv_iconst hx hb dX0_addCharges_28 ic_0 ?_
    refine lv_topi (fun x3_7 ex3_7 => ?_)
    replace hf := bnd_at hf ex3_7
    refine lv_istore_n (lv' := [(3, .int (x3_7)), (0, .ref (a 5)), (1, .ref (a 36)), (2, .int (x2))]) hx hb dX0_addCharges_29 rfl hl (by decide) rfl (fun ls hl => ?_)
    refine k0_addCharges_36_l30 E (x2) ?_ F S (x3_7) _ _ ls hf hw (lv_sub hl [1, 2, 3, 0] rfl)
    · intro S_19 H locs ls hf hw hl
      obtain ⟨x2_20, ex2_20⟩ : ∃ y : Int32, y = x2 + (1) := ⟨_, rfl⟩
      replace hf := bnd_at hf ex2_20
      refine lv_iinc (v := x2_20) (lv' := [(2, .int (x2_20)), (0, .ref (a 5)), (1, .ref (a 36))]) hx hb dX0_addCharges_74 hl (k := 2) rfl (by rw [ex2_20]; rfl) (by decide) rfl (fun ls hl => ?_)
      refine lv_goto (tgt := 17) hx hb dX0_addCharges_77 (by decide) ?_
      exact hrec17 S_19 (x2_20) _ _ ls hf hw (lv_sub hl [1, 2, 0] rfl)
theorem k0_addCharges_36_l17 {p : Program} {l : Launch} {e : Env} {s : State} {m : MethodId} {args : Array Value} {below : List Frame} {meth : Method} {c : Code} {D : va_G} {a : Nat → Nat} {g : Nat → ClassId} (E : EK p s m args meth c D a g cX0_addCharges 5 RX0 none) {F : Nat}  {out : SS}  : ∀ (n : Nat) (S : SS) (x2 : Int32) (H : Heap) (locs : List Loc) (ls : Array Slot), lpN (fun _ _ => none) (fun rec17 => k0_addCharges_36_B17 F rec17) n S x2 = some out → WK D a g S s H locs → lv_has ls 5 [(0, .ref (a 5)), (1, .ref (a 36)), (2, .int (x2))] → W p l e (RM 13) s m args below meth c H locs 0 0 (MQ below (QK D a g none out) args s 0 0 (AK a)) (F0 m 17 ls []) := by
  intro n
  induction n with
  | zero => intro S x2 H locs ls hf; cases (show (none : Option SS) = some out from hf)
  | succ n ih => intro S x2 H locs ls hf hw hl; exact k0_addCharges_36_b17 E (F := F) ih S x2 H locs ls hf hw hl
set_option maxRecDepth 100000 in
set_option maxHeartbeats 4000000 in
theorem mk0_addCharges_36 {l : Launch} {D : va_G} {a : Nat → Nat} {g : Nat → ClassId} (hD : ∀ S, va_D (AK a) (wK a g S)) {F : Nat} {S : SS} {out : SS} (hf : k0_addCharges_36 F S  = some out) : Met l yX0_addCharges (wsm yX0_addCharges cX0_addCharges 5 none) (RM 13) (PK D a g S [.ref (a 5), .ref (a 36)]) (QK D a g none out) 0 0 (AK a) := by
  refine Met.ofW (cc := cX0_addCharges) (maxL := 5) (ret := none) (by decide) rfl ?_
  intro p e s m args below meth c s₁ B hml hv
  obtain ⟨rfl, hP, hK, hN⟩ := hv
  have hts := atoms_spec (ws := wsm yX0_addCharges cX0_addCharges 5 none) B.pre
  have E : EK p s m _ meth c D a g cX0_addCharges 5 RX0 none := ⟨B.exec, B.bytes, B.returns, hml, findClass_of_methodNamed B.named, fun w h => hts w (List.mem_cons_of_mem _ h), hK, hN, hD, B.notSynchronized⟩
  have hx := E.hx
  have hb := E.hb
  have hw : WK D a g S s s.heap [] := ⟨hP, va_S.rf⟩
  have hl := lv_entry ([.ref (a 5), .ref (a 36)]) (n := 5) (Nat.le_of_ble_eq_true rfl)
  rw [lg_entry_eq]
  generalize (lg_sl ([.ref (a 5), .ref (a 36)]) ++ List.replicate (5 - (lg_sl ([.ref (a 5), .ref (a 36)])).length) Slot.unset).toArray = ls at hl ⊢
  have hl : lv_has ls 5 [(0, .ref (a 5)), (1, .ref (a 36))] := hl
  show W p l e (RM 13) s m _ below meth c s.heap [] 0 0 (MQ below (QK D a g none out) _ s 0 0 (AK a)) (F0 m 0 ls [])
  unfold k0_addCharges_36 at hf
  refine lv_aload_n hx hb dX0_addCharges_0 rfl (lv_at hl 1 rfl) ?_
  refine va_alen hx hb E.hK hw.1 36 28 rfl rfl (v := 8) rfl dX0_addCharges_1 ?_
  refine lv_bipush hx hb dX0_addCharges_2 bp_8 ?_
  refine lv_icmp_ge (tgt := 8) hx hb dX0_addCharges_4 (by decide) (fun c_1 => ?_) (fun c_1 => ?_)
  · replace hf := ite_t hf c_1
    refine lv_aload_n hx hb dX0_addCharges_8 rfl (lv_at hl 0 rfl) ?_
    refine gK_5_1 E hw (E.hts _ wl203) dX0_addCharges_9 ?_
    obtain ⟨S_4, h_2, hf⟩ := ob_at hf
    refine qk2_solve E hw (mk2_solve E.hD h_2) wl422 dX0_addCharges_12 ⟨Nat.le_of_ble_eq_true rfl, Nat.le_of_ble_eq_true rfl⟩ hl.1 (Nat.le_of_ble_eq_true rfl) ⟨Nat.le_refl 0, Nat.le_refl 0⟩ (fun H locs hw => ?_)
    refine lv_iconst hx hb dX0_addCharges_15 ic_0 ?_
    refine lv_topi (fun x2_5 ex2_5 => ?_)
    replace hf := bnd_at hf ex2_5
    refine lv_istore_n (lv' := [(2, .int (x2_5)), (0, .ref (a 5)), (1, .ref (a 36))]) hx hb dX0_addCharges_16 rfl hl (by decide) rfl (fun ls hl => ?_)
    refine k0_addCharges_36_l17 E  F S_4 (x2_5) _ _ ls hf hw (lv_sub hl [1, 2, 0] rfl)
  · replace hf := ite_f hf c_1
    cases hf
    exact retK_v E hw dX0_addCharges_7
theorem qk0_addCharges_36 {p : Program} {l : Launch} {e : Env} {R : Room} {s : State} {m : MethodId} {args : Array Value} {below : List Frame} {meth : Method} {c : Code} {H : Heap} {locs : List Loc} {cells slots : Nat} {Q : State → Prop} {cc : ByteArray} {pc : Nat} {ls : Array Slot} {rest : List Value} {D : va_G} {a : Nat → Nat} {g : Nat → ClassId} {nL : Nat} {own : String} {ret : Option FieldType} {S S1 : SS} {k : Nat} (E : EK p s m args meth c D a g cc nL own ret) (hw : WK D a g S s H locs) (hM : Met l yX0_addCharges (wsm yX0_addCharges cX0_addCharges 5 none) (RM k) (PK D a g S [.ref (a 5), .ref (a 36)]) (QK D a g none S1) 0 0 (AK a)) {idx : Nat} (hlk : Cond.methodLink own idx yX0_addCharges ∈ wd) (hdg : decode cc pc = .ok (.invokevirtual idx, 3)) (hR : k + 1 ≤ R.frames ∧ 8 + (5 + 11) + 64 * k ≤ R.locals) (hls : ls.size = nL) (hrest : (rest.map fun v => v.category).sum ≤ 8) (hcs : cells ≤ R.cells ∧ slots ≤ R.slots) (kk : ∀ (H1 : Heap) (locs1 : List Loc), WK D a g S1 s H1 locs1 → W p l e R s m args below meth c H1 locs1 cells slots Q (F0 m (pc + 3) ls (rest))) : W p l e R s m args below meth c H locs cells slots Q (F0 m pc ls (.ref (a 36) :: .ref (a 5) :: rest)) :=
  callK_v hw (va_runV (As := [.ref (a 36)]) (rest := rest) ⟨E.hx, E.hb, E.hml, E.hown, E.hts⟩ hM ⟨cb_of 1 E.hts wl421 wl41 hlk (by decide +kernel) hR, E.hts _ wl419, E.hts _ wl420⟩ ⟨PK_blind, va_recv E.hK hw.1 (ci := 0) (q0 := 5) rfl rfl, PK_pre E.hK E.hN hw.1⟩ rfl rfl hls rfl (lv_room hrest) hdg hcs) kk
/-! X7_strikeBalances -/
def k7_strikeBalances (F : Nat) (S : SS) : Option SS :=
  bnd (stW S 36 (va_cpy (S 35) (S 36) 0 0 8)) fun S_1 => (k0_addCharges_36 F S_1 ).bind fun S_4 => some S_4
set_option maxRecDepth 100000 in
set_option maxHeartbeats 4000000 in
theorem mk7_strikeBalances {l : Launch} {D : va_G} {a : Nat → Nat} {g : Nat → ClassId} (hD : ∀ S, va_D (AK a) (wK a g S)) {F : Nat} {S : SS} {out : SS} (hf : k7_strikeBalances F S  = some out) : Met l yX7_strikeBalances (wsm yX7_strikeBalances cX7_strikeBalances 1 none) (RM 14) (PK D a g S [.ref (a 0)]) (QK D a g none out) 0 0 (AK a) := by
  refine Met.ofW (cc := cX7_strikeBalances) (maxL := 1) (ret := none) (by decide) rfl ?_
  intro p e s m args below meth c s₁ B hml hv
  obtain ⟨rfl, hP, hK, hN⟩ := hv
  have hts := atoms_spec (ws := wsm yX7_strikeBalances cX7_strikeBalances 1 none) B.pre
  have E : EK p s m _ meth c D a g cX7_strikeBalances 1 RX7 none := ⟨B.exec, B.bytes, B.returns, hml, findClass_of_methodNamed B.named, fun w h => hts w (List.mem_cons_of_mem _ h), hK, hN, hD, B.notSynchronized⟩
  have hx := E.hx
  have hb := E.hb
  have hw : WK D a g S s s.heap [] := ⟨hP, va_S.rf⟩
  have hl := lv_entry ([.ref (a 0)]) (n := 1) (Nat.le_of_ble_eq_true rfl)
  rw [lg_entry_eq]
  generalize (lg_sl ([.ref (a 0)]) ++ List.replicate (1 - (lg_sl ([.ref (a 0)])).length) Slot.unset).toArray = ls at hl ⊢
  have hl : lv_has ls 1 [(0, .ref (a 0))] := hl
  show W p l e (RM 14) s m _ below meth c s.heap [] 0 0 (MQ below (QK D a g none out) _ s 0 0 (AK a)) (F0 m 0 ls [])
  unfold k7_strikeBalances at hf
  refine lv_aload_n hx hb dX7_strikeBalances_0 rfl (lv_at hl 0 rfl) ?_
  refine gK_0_7 E hw (E.hts _ wl279) dX7_strikeBalances_1 ?_
  refine lv_iconst hx hb dX7_strikeBalances_4 ic_0 ?_
  refine lv_aload_n hx hb dX7_strikeBalances_5 rfl (lv_at hl 0 rfl) ?_
  refine gK_0_8 E hw (E.hts _ wl280) dX7_strikeBalances_6 ?_
  refine lv_iconst hx hb dX7_strikeBalances_9 ic_0 ?_
  refine lv_bipush hx hb dX7_strikeBalances_10 bp_8 ?_
  obtain ⟨S_1, eS_1⟩ : ∃ z : SS, z = stW S 36 (va_cpy (S 35) (S 36) 0 0 8) := ⟨_, rfl⟩
  replace hf := bnd_at hf eS_1
  refine va_copyi hx hb (by rw [E.hml]; exact hl.1.symm) E.hown (E.hts _ wl523) (E.hts _ wl444) (E.hts _ wl443) (E.hts _ wl46) E.hK hw.1 (E.hD S) hw.2 35 36 27 28 rfl rfl rfl rfl rfl (by decide) (by decide) (by decide) (by decide) (by decide) (fun _ _ => rfl) (Nat.le_of_ble_eq_true rfl) (Nat.le_of_ble_eq_true rfl) dX7_strikeBalances_12 (fun H locs h1 _ h3 => ?_)
  have hw : WK D a g S_1 s H locs := by rw [eS_1]; exact ⟨h1, h3⟩
  refine lv_aload_n hx hb dX7_strikeBalances_15 rfl (lv_at hl 0 rfl) ?_
  refine gK_0_4 E hw (E.hts _ wl276) dX7_strikeBalances_16 ?_
  refine lv_aload_n hx hb dX7_strikeBalances_19 rfl (lv_at hl 0 rfl) ?_
  refine gK_0_8 E hw (E.hts _ wl280) dX7_strikeBalances_20 ?_
  obtain ⟨S_4, h_2, hf⟩ := ob_at hf
  refine qk0_addCharges_36 E hw (mk0_addCharges_36 E.hD h_2) wl418 dX7_strikeBalances_23 ⟨Nat.le_of_ble_eq_true rfl, Nat.le_of_ble_eq_true rfl⟩ hl.1 (Nat.le_of_ble_eq_true rfl) ⟨Nat.le_refl 0, Nat.le_refl 0⟩ (fun H locs hw => ?_)
  cases hf
  exact retK_v E hw dX7_strikeBalances_26
theorem qk7_strikeBalances {p : Program} {l : Launch} {e : Env} {R : Room} {s : State} {m : MethodId} {args : Array Value} {below : List Frame} {meth : Method} {c : Code} {H : Heap} {locs : List Loc} {cells slots : Nat} {Q : State → Prop} {cc : ByteArray} {pc : Nat} {ls : Array Slot} {rest : List Value} {D : va_G} {a : Nat → Nat} {g : Nat → ClassId} {nL : Nat} {own : String} {ret : Option FieldType} {S S1 : SS} {k : Nat} (E : EK p s m args meth c D a g cc nL own ret) (hw : WK D a g S s H locs) (hM : Met l yX7_strikeBalances (wsm yX7_strikeBalances cX7_strikeBalances 1 none) (RM k) (PK D a g S [.ref (a 0)]) (QK D a g none S1) 0 0 (AK a)) {idx : Nat} (hlk : Cond.methodLink own idx yX7_strikeBalances ∈ wd) (hdg : decode cc pc = .ok (.invokevirtual idx, 3)) (hR : k + 1 ≤ R.frames ∧ 8 + (1 + 11) + 64 * k ≤ R.locals) (hls : ls.size = nL) (hrest : (rest.map fun v => v.category).sum ≤ 8) (hcs : cells ≤ R.cells ∧ slots ≤ R.slots) (kk : ∀ (H1 : Heap) (locs1 : List Loc), WK D a g S1 s H1 locs1 → W p l e R s m args below meth c H1 locs1 cells slots Q (F0 m (pc + 3) ls (rest))) : W p l e R s m args below meth c H locs cells slots Q (F0 m pc ls (.ref (a 0) :: rest)) :=
  callK_v hw (va_runV (As := []) (rest := rest) ⟨E.hx, E.hb, E.hml, E.hown, E.hts⟩ hM ⟨cb_of 0 E.hts wl522 wl35 hlk (by decide +kernel) hR, E.hts _ wl521, E.hts _ wl9⟩ ⟨PK_blind, va_recv E.hK hw.1 (ci := 7) (q0 := 0) rfl rfl, PK_pre E.hK E.hN hw.1⟩ rfl rfl hls rfl (lv_room hrest) hdg hcs) kk
/-! X7_balance -/
def k7_balance (F : Nat) (S : SS) (x1 : Int32) : Option (Int32 × SS) :=
  (k7_isCompany F S (x1)).bind fun r_2 => if r_2 = 0 then (some ((0 : Int32), S)) else ((k7_strikeBalances F S ).bind fun S_7 => (rdA 8 (S_7 36) x1).bind fun v_8 => some (v_8, S_7))
set_option maxRecDepth 100000 in
set_option maxHeartbeats 4000000 in
theorem mk7_balance {l : Launch} {D : va_G} {a : Nat → Nat} {g : Nat → ClassId} (hD : ∀ S, va_D (AK a) (wK a g S)) {F : Nat} {S : SS} {x1 : Int32} {out : (Int32 × SS)} (hf : k7_balance F S x1 = some out) : Met l yX7_balance (wsm yX7_balance cX7_balance 2 (some .int)) (RM 15) (PK D a g S [.ref (a 0), .int x1]) (QK D a g (some (.int out.1)) out.2) 0 0 (AK a) := by
  refine Met.ofW (cc := cX7_balance) (maxL := 2) (ret := (some .int)) (by decide) rfl ?_
  intro p e s m args below meth c s₁ B hml hv
  obtain ⟨rfl, hP, hK, hN⟩ := hv
  have hts := atoms_spec (ws := wsm yX7_balance cX7_balance 2 (some .int)) B.pre
  have E : EK p s m _ meth c D a g cX7_balance 2 RX7 (some .int) := ⟨B.exec, B.bytes, B.returns, hml, findClass_of_methodNamed B.named, fun w h => hts w (List.mem_cons_of_mem _ h), hK, hN, hD, B.notSynchronized⟩
  have hx := E.hx
  have hb := E.hb
  have hw : WK D a g S s s.heap [] := ⟨hP, va_S.rf⟩
  have hl := lv_entry ([.ref (a 0), .int x1]) (n := 2) (Nat.le_of_ble_eq_true rfl)
  rw [lg_entry_eq]
  generalize (lg_sl ([.ref (a 0), .int x1]) ++ List.replicate (2 - (lg_sl ([.ref (a 0), .int x1])).length) Slot.unset).toArray = ls at hl ⊢
  have hl : lv_has ls 2 [(0, .ref (a 0)), (1, .int (x1))] := hl
  show W p l e (RM 15) s m _ below meth c s.heap [] 0 0 (MQ below (QK D a g (some (.int out.1)) out.2) _ s 0 0 (AK a)) (F0 m 0 ls [])
  unfold k7_balance at hf
  refine lv_iload_n hx hb dX7_balance_0 rfl (lv_at hl 1 rfl) ?_
  obtain ⟨r_2, h_1, hf⟩ := ob_at hf
  refine qk7_isCompany E hw (mk7_isCompany E.hD h_1) wl360 dX7_balance_1 ⟨Nat.le_of_ble_eq_true rfl, Nat.le_of_ble_eq_true rfl⟩ hl.1 (Nat.le_of_ble_eq_true rfl) ⟨Nat.le_refl 0, Nat.le_refl 0⟩ (fun H locs hw => ?_)
  refine lv_if_ne (tgt := 9) hx hb dX7_balance_4 (by decide) (fun c_4 => ?_) (fun c_4 => ?_)
  · replace hf := ite_f hf c_4
    refine lv_aload_n hx hb dX7_balance_9 rfl (lv_at hl 0 rfl) ?_
    obtain ⟨S_7, h_5, hf⟩ := ob_at hf
    refine qk7_strikeBalances E hw (mk7_strikeBalances E.hD h_5) wl519 dX7_balance_10 ⟨Nat.le_of_ble_eq_true rfl, Nat.le_of_ble_eq_true rfl⟩ hl.1 (Nat.le_of_ble_eq_true rfl) ⟨Nat.le_refl 0, Nat.le_refl 0⟩ (fun H locs hw => ?_)
    refine lv_aload_n hx hb dX7_balance_13 rfl (lv_at hl 0 rfl) ?_
    refine gK_0_8 E hw (E.hts _ wl280) dX7_balance_14 ?_
    refine lv_iload_n hx hb dX7_balance_17 rfl (lv_at hl 1 rfl) ?_
    obtain ⟨h_v_8, hf⟩ := rdA_at hf
    refine lK_36 E hw h_v_8 dX7_balance_18 (fun v_8 ev_8 => ?_)
    replace hf := hf v_8 ev_8
    cases hf
    exact retK_i E hw dX7_balance_19
  · replace hf := ite_t hf c_4
    refine lv_iconst hx hb dX7_balance_7 ic_0 ?_
    cases hf
    exact retK_i E hw dX7_balance_8
theorem qk7_balance {p : Program} {l : Launch} {e : Env} {R : Room} {s : State} {m : MethodId} {args : Array Value} {below : List Frame} {meth : Method} {c : Code} {H : Heap} {locs : List Loc} {cells slots : Nat} {Q : State → Prop} {cc : ByteArray} {pc : Nat} {ls : Array Slot} {rest : List Value} {D : va_G} {a : Nat → Nat} {g : Nat → ClassId} {nL : Nat} {own : String} {ret : Option FieldType} {S S1 : SS} {k : Nat} {x1 : Int32} {r : Int32} (E : EK p s m args meth c D a g cc nL own ret) (hw : WK D a g S s H locs) (hM : Met l yX7_balance (wsm yX7_balance cX7_balance 2 (some .int)) (RM k) (PK D a g S [.ref (a 0), .int x1]) (QK D a g (some (.int r)) S1) 0 0 (AK a)) {idx : Nat} (hlk : Cond.methodLink own idx yX7_balance ∈ wd) (hdg : decode cc pc = .ok (.invokevirtual idx, 3)) (hR : k + 1 ≤ R.frames ∧ 8 + (2 + 11) + 64 * k ≤ R.locals) (hls : ls.size = nL) (hrest : (rest.map fun v => v.category).sum ≤ 8) (hcs : cells ≤ R.cells ∧ slots ≤ R.slots) (kk : ∀ (H1 : Heap) (locs1 : List Loc), WK D a g S1 s H1 locs1 → W p l e R s m args below meth c H1 locs1 cells slots Q (F0 m (pc + 3) ls (.int r :: rest))) : W p l e R s m args below meth c H locs cells slots Q (F0 m pc ls (.int x1 :: .ref (a 0) :: rest)) :=
  callK_i hw (va_runV (As := [.int x1]) (rest := rest) ⟨E.hx, E.hb, E.hml, E.hown, E.hts⟩ hM ⟨cb_of 1 E.hts wl518 wl35 hlk (by decide +kernel) hR, E.hts _ wl516, E.hts _ wl517⟩ ⟨PK_blind, va_recv E.hK hw.1 (ci := 7) (q0 := 0) rfl rfl, PK_pre E.hK E.hN hw.1⟩ rfl rfl hls rfl (lv_room hrest) hdg hcs) kk

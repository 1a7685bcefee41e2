/-! THE CLAIM OUT OF ONE WALK OF THE LAW'S BODY. Your part is whole_start (and what it stands on); all else here is the same for every law, but numbers. -/
def R_law : String := "WagonClearingLaw"
def lw_P (b : Addr) (xs : List Int32) (args : Array Value) (s : State) : Prop := args = #[.ref b] ∧ s.IntsAt b xs ∧ xs.length ≤ 2560 ∧ (Jvm.Cond.and given_1 narrow_1).before args s = true
def lw_Q (_ : Array Value) (s : State) (o : Outcome) (t : State) : Prop := o = .returned (some (.int 1)) ∧ Framed s o t [] 600000 7302250
def lw_Z (below : List Frame) (a : Array Value) (s : State) : State → Prop := fun t => ∃ o, t.status = .running ∧ Ended t below o ∧ lw_Q a s o t
/-- the law's own end, with 1 on the stack, nothing written that was there before, its room as the claim has it -/
theorem lw_ret {p : Program} {l : Launch} {e : Env} {s : State} {m : MethodId} {below : List Frame} {meth : Method} {c : Code} {b : Nat} (hx : p.tables.exec = Jvm.exec) (hb : c.code = code) (hr : meth.sig.returnType = ret) (hlocks : meth.locks = false) {pc : Nat} {H : Heap} {ls : Array Slot} (hdg : decode code pc = .ok (.ireturn, 1)) : W p l e room_1 s m #[Value.ref b] below meth c H [] 600000 7302250 (lw_Z below #[Value.ref b] s) (F0 m pc ls [.int 1]) := by
  intro T hT X
  obtain ⟨fs, hret, hrun, hended, hW, hframe⟩ := X.leave (v := some (.int 1)) (hlocks := hlocks) (fun h => by rw [hr] at h; cases h)
  have hmeth' : T.vm.method? m = some meth := X.method'
  refine ⟨T.setFrames fs, ?_, .returned (some (.int 1)), hrun, hended, rfl, ⟨_, rfl⟩, hW, hframe⟩
  jvm_step X.here [X.here.top, hx, hb, hdg, hmeth', hr, ret, narrow_b1]
  (try refine ⟨rfl, ?_⟩); (try refine ⟨rfl, ?_⟩)
  first | (intro acts; rw [hret _ acts rfl rfl rfl]) | rw [hret _ _ rfl rfl rfl]
  exact Steps.refl _
/-- what holds at the law's entry: the machine, the code, the tables' words (any of lw_tbl by 'hts w (by decide +kernel)'), the script of L ints xs at the cell b, what the Statement gives of the start (any of its parts by flat_of_before) -/
def lw_At (p : Program) (s : State) (m : MethodId) (meth : Method) (c : Code) (b L : Nat) (xs : Nat → Int32) : Prop :=
  p.tables.exec = Jvm.exec ∧ c.code = code ∧ meth.sig.returnType = ret ∧ c.maxLocals = 4 ∧ s.vm.findClass R_law = some m.cls ∧ (∀ w ∈ lw_tbl, w.before #[Value.ref b] s = true) ∧ va_X b L xs s s.heap ∧ b < s.heap.size ∧ meth.locks = false ∧ (Jvm.Cond.and given_1 narrow_1).before #[Value.ref b] s = true
/-! the law's frame -/
def LE (p : Program) (s : State) (m : MethodId) (meth : Method) (c : Code) (D : va_G) (a a' : Nat → Nat) (g g' : Nat → ClassId) (b L : Nat) (xs : Nat → Int32) : Prop :=
  p.tables.exec = Jvm.exec ∧ c.code = cL_law ∧ meth.sig.returnType = some .boolean ∧ c.maxLocals = 4 ∧ s.vm.findClass RL = some m.cls ∧ (∀ w ∈ wd, w.before #[Value.ref b] s = true) ∧ meth.locks = false ∧ va_X b L xs s s.heap ∧ b < s.heap.size ∧ L ≤ 2560 ∧
  NW s ∧ va_K D vwCl (tK g) s ∧ va_K D vwCl (tM g') s ∧ (∀ S, va_D (AK a) (wK a g S)) ∧ (∀ S, va_D (AM a') (wM a' g' S)) ∧ (∀ q, AK a q → s.heap.size ≤ q) ∧ (∀ q, AM a' q → s.heap.size ≤ q) ∧ ∀ q, AK a q → AM a' q → False
def LW (D : va_G) (a a' : Nat → Nat) (g g' : Nat → ClassId) (S : SS) (M : SM) (s : State) (H : Heap) (locs : List Loc) : Prop := va_P D vwCl (wK a g S) H ∧ va_P D vwCl (wM a' g' M) H ∧ va_S (fun q : Nat => s.heap.size ≤ q) s.heap H locs
section
variable {p : Program} {l : Launch} {e : Env} {s : State} {m : MethodId} {below : List Frame} {meth : Method} {c : Code} {H : Heap} {locs : List Loc} {Q : State → Prop} {pc : Nat} {ls : Array Slot} {rest : List Value} {D : va_G} {a a' : Nat → Nat} {g g' : Nat → ClassId} {b L : Nat} {xs : Nat → Int32} {S : SS} {M : SM}
theorem LE.hx (E : LE p s m meth c D a a' g g' b L xs) : p.tables.exec = Jvm.exec := E.1
theorem LE.hb (E : LE p s m meth c D a a' g g' b L xs) : c.code = cL_law := E.2.1
theorem LE.hr (E : LE p s m meth c D a a' g g' b L xs) : meth.sig.returnType = some .boolean := E.2.2.1
theorem LE.hml (E : LE p s m meth c D a a' g g' b L xs) : c.maxLocals = 4 := E.2.2.2.1
theorem LE.hown (E : LE p s m meth c D a a' g g' b L xs) : s.vm.findClass RL = some m.cls := E.2.2.2.2.1
theorem LE.hts (E : LE p s m meth c D a a' g g' b L xs) : ∀ w ∈ wd, w.before #[Value.ref b] s = true := E.2.2.2.2.2.1
theorem LE.hlk (E : LE p s m meth c D a a' g g' b L xs) : meth.locks = false := E.2.2.2.2.2.2.1
theorem LE.hX (E : LE p s m meth c D a a' g g' b L xs) : va_X b L xs s s.heap := E.2.2.2.2.2.2.2.1
theorem LE.hbl (E : LE p s m meth c D a a' g g' b L xs) : b < s.heap.size := E.2.2.2.2.2.2.2.2.1
theorem LE.hL (E : LE p s m meth c D a a' g g' b L xs) : L ≤ 2560 := E.2.2.2.2.2.2.2.2.2.1
theorem LE.hN (E : LE p s m meth c D a a' g g' b L xs) : NW s := E.2.2.2.2.2.2.2.2.2.2.1
theorem LE.hKK (E : LE p s m meth c D a a' g g' b L xs) : va_K D vwCl (tK g) s := E.2.2.2.2.2.2.2.2.2.2.2.1
theorem LE.hKM (E : LE p s m meth c D a a' g g' b L xs) : va_K D vwCl (tM g') s := E.2.2.2.2.2.2.2.2.2.2.2.2.1
theorem LE.hDK (E : LE p s m meth c D a a' g g' b L xs) : ∀ S, va_D (AK a) (wK a g S) := E.2.2.2.2.2.2.2.2.2.2.2.2.2.1
theorem LE.hDM (E : LE p s m meth c D a a' g g' b L xs) : ∀ S, va_D (AM a') (wM a' g' S) := E.2.2.2.2.2.2.2.2.2.2.2.2.2.2.1
theorem LE.hAK (E : LE p s m meth c D a a' g g' b L xs) : ∀ q, AK a q → s.heap.size ≤ q := E.2.2.2.2.2.2.2.2.2.2.2.2.2.2.2.1
theorem LE.hAM (E : LE p s m meth c D a a' g g' b L xs) : ∀ q, AM a' q → s.heap.size ≤ q := E.2.2.2.2.2.2.2.2.2.2.2.2.2.2.2.2.1
theorem LE.hap (E : LE p s m meth c D a a' g g' b L xs) : ∀ q, AK a q → AM a' q → False := E.2.2.2.2.2.2.2.2.2.2.2.2.2.2.2.2.2
/-- the class is called -/
theorem lawK (E : LE p s m meth c D a a' g g' b L xs) (hw : LW D a a' g g' S M s H locs) {y : MethodName} {bytes : ByteArray} {maxL k n index : Nat} {ret : Option FieldType} {S1 : SS} {r : Int32} {As : List Value} (hM : Met l y (wsm y bytes maxL ret) (RM k) (PK D a g S (.ref (a 0) :: As)) (QK D a g (some (.int r)) S1) 0 0 (AK a)) (cw : CallW room_1 s #[Value.ref b] RL RX7 index y bytes maxL ret (wsm y bytes maxL ret) (RM k) 0 0 n) (hn : As.length = n) (hls : ls.size = 4) {st : List Value} (hst : st = As.reverse ++ .ref (a 0) :: rest) (hrest : (rest.map fun v => v.category).sum ≤ 8) (hdg : decode cL_law pc = .ok (.invokevirtual index, 3))
    (kk : ∀ (H1 : Heap) (locs1 : List Loc), LW D a a' g g' S1 M s H1 locs1 → W p l e room_1 s m #[Value.ref b] below meth c H1 locs1 62 1975 Q (F0 m (pc + 3) ls (.int r :: rest))) : W p l e room_1 s m #[Value.ref b] below meth c H locs 62 1975 Q (F0 m pc ls st) := by
  subst hst
  refine callG (D := D) (B := AK a) (w1 := wK a g S1) (r := some (.int r)) (va_runV (As := As) (rest := rest) ⟨E.hx, E.hb, E.hml, E.hown, E.hts⟩ hM cw ⟨PK_blind, va_recv E.hKK hw.1 (ci := 7) (q0 := 0) rfl rfl, PK_pre E.hKK E.hN hw.1⟩ rfl hn hls rfl (lv_room hrest) hdg ⟨Nat.le_of_ble_eq_true rfl, Nat.le_of_ble_eq_true rfl⟩) hw.2.2 E.hAK (fun H1 locs1 hP hk hS => kk H1 locs1 ⟨hP, hw.2.1.kept (fun i q hq => hk q.1 ((hw.2.1 i q hq).lt) (fun z => E.hap _ z ((E.hDM M).2 i q hq))), hS⟩)
/-- the reference is called -/
theorem lawM (E : LE p s m meth c D a a' g g' b L xs) (hw : LW D a a' g g' S M s H locs) {y : MethodName} {bytes : ByteArray} {maxL k n index : Nat} {ret : Option FieldType} {M1 : SM} {r : Int32} {As : List Value} (hM : Met l y (wsm y bytes maxL ret) (RM k) (PM D a' g' M (.ref (a' 0) :: As)) (QM D a' g' (some (.int r)) M1) 0 0 (AM a')) (cw : CallW room_1 s #[Value.ref b] RL RX8 index y bytes maxL ret (wsm y bytes maxL ret) (RM k) 0 0 n) (hn : As.length = n) (hls : ls.size = 4) {st : List Value} (hst : st = As.reverse ++ .ref (a' 0) :: rest) (hrest : (rest.map fun v => v.category).sum ≤ 8) (hdg : decode cL_law pc = .ok (.invokevirtual index, 3))
    (kk : ∀ (H1 : Heap) (locs1 : List Loc), LW D a a' g g' S M1 s H1 locs1 → W p l e room_1 s m #[Value.ref b] below meth c H1 locs1 62 1975 Q (F0 m (pc + 3) ls (.int r :: rest))) : W p l e room_1 s m #[Value.ref b] below meth c H locs 62 1975 Q (F0 m pc ls st) := by
  subst hst
  refine callG (D := D) (B := AM a') (w1 := wM a' g' M1) (r := some (.int r)) (va_runV (As := As) (rest := rest) ⟨E.hx, E.hb, E.hml, E.hown, E.hts⟩ hM cw ⟨PM_blind, va_recv E.hKM hw.2.1 (ci := 8) (q0 := 0) rfl rfl, PM_pre E.hKM E.hN hw.2.1⟩ rfl hn hls rfl (lv_room hrest) hdg ⟨Nat.le_of_ble_eq_true rfl, Nat.le_of_ble_eq_true rfl⟩) hw.2.2 E.hAM (fun H1 locs1 hP hk hS => kk H1 locs1 ⟨hw.1.kept (fun i q hq => hk q.1 ((hw.1 i q hq).lt) (fun z => E.hap _ ((E.hDK S).2 i q hq) z)), hP, hS⟩)
/-- a number of the script -/
def xsc (xs : Nat → Int32) (j : Nat) : Int32 := xs j
theorem ldS (E : LE p s m meth c D a a' g g' b L xs) (hw : LW D a a' g g' S M s H locs) {i k : Nat} {z : Int} (hk : i + k < L) (hl : lv_has ls 4 [(3, .int (nI i)), (0, .ref b), (1, .ref (a 0)), (2, .ref (a' 0))]) (hz : Int32.ofInt z = nI k) (d1 : decode cL_law pc = .ok (.aload_n 0, 1)) (d2 : decode cL_law (pc + 1) = .ok (.iload_n 3, 1)) (d3 : decode cL_law (pc + 2) = .ok (.iconst z, 1)) (d4 : decode cL_law (pc + 3) = .ok (.iadd, 1)) (d5 : decode cL_law (pc + 4) = .ok (.iaload, 1))
    (kk : W p l e room_1 s m #[Value.ref b] below meth c H locs 62 1975 Q (F0 m (pc + 5) ls (.int (xsc xs (i + k)) :: rest))) : W p l e room_1 s m #[Value.ref b] below meth c H locs 62 1975 Q (F0 m pc ls rest) := by
  have hL := E.hL
  refine lv_aload_n E.hx E.hb d1 rfl (lv_at hl 1 rfl) ?_
  refine lv_iload_n E.hx E.hb d2 rfl (lv_at hl 0 rfl) ?_
  refine lv_iconst E.hx E.hb d3 hz ?_
  refine lv_iadd E.hx E.hb d4 ?_
  rw [nI_add]
  refine va_sld E.hx E.hb E.hX E.hbl (Nat.not_le.mpr E.hbl) hw.2.2 (vp_in_nI hk (by omega)) d5 ?_
  rw [nI_clamp (by omega)]
  exact kk
end
theorem Inv.up {n : Nat} {S : SS} {M : SM} (h : Inv n S M) : Inv (n + 1) S M := by
  obtain ⟨p, hp, hK, hM⟩ := h
  exact ⟨p, hp.up, hK, hM⟩

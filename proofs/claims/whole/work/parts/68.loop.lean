theorem bp_31 : (Int8.ofInt (31)).toInt32 = (31 : Int32) := by decide
theorem sw_out19 {x : Int32} (h0 : ¬ x = 0) (h1 : ¬ x = 1) (h2 : ¬ x = 2) (h3 : ¬ x = 3) (h4 : ¬ x = 4) (h5 : ¬ x = 5) (h6 : ¬ x = 6) (h7 : ¬ x = 7) (h8 : ¬ x = 8) (h9 : ¬ x = 9) (h10 : ¬ x = 10) (h11 : ¬ x = 11) (h12 : ¬ x = 12) (h13 : ¬ x = 13) (h14 : ¬ x = 14) (h15 : ¬ x = 15) (h16 : ¬ x = 16) (h17 : ¬ x = 17) (h18 : ¬ x = 18) (h19 : ¬ x = 19) : x.toInt < 0 ∨ 19 < x.toInt := by
  have e : ∀ k : Int32, ¬ x = k → ¬ x.toInt = k.toInt := fun k h q => h (Int32.toInt_inj.mp q)
  have e0 := e 0 h0
  rw [show (0 : Int32).toInt = 0 from by decide] at e0
  have e1 := e 1 h1
  rw [show (1 : Int32).toInt = 1 from by decide] at e1
  have e2 := e 2 h2
  rw [show (2 : Int32).toInt = 2 from by decide] at e2
  have e3 := e 3 h3
  rw [show (3 : Int32).toInt = 3 from by decide] at e3
  have e4 := e 4 h4
  rw [show (4 : Int32).toInt = 4 from by decide] at e4
  have e5 := e 5 h5
  rw [show (5 : Int32).toInt = 5 from by decide] at e5
  have e6 := e 6 h6
  rw [show (6 : Int32).toInt = 6 from by decide] at e6
  have e7 := e 7 h7
  rw [show (7 : Int32).toInt = 7 from by decide] at e7
  have e8 := e 8 h8
  rw [show (8 : Int32).toInt = 8 from by decide] at e8
  have e9 := e 9 h9
  rw [show (9 : Int32).toInt = 9 from by decide] at e9
  have e10 := e 10 h10
  rw [show (10 : Int32).toInt = 10 from by decide] at e10
  have e11 := e 11 h11
  rw [show (11 : Int32).toInt = 11 from by decide] at e11
  have e12 := e 12 h12
  rw [show (12 : Int32).toInt = 12 from by decide] at e12
  have e13 := e 13 h13
  rw [show (13 : Int32).toInt = 13 from by decide] at e13
  have e14 := e 14 h14
  rw [show (14 : Int32).toInt = 14 from by decide] at e14
  have e15 := e 15 h15
  rw [show (15 : Int32).toInt = 15 from by decide] at e15
  have e16 := e 16 h16
  rw [show (16 : Int32).toInt = 16 from by decide] at e16
  have e17 := e 17 h17
  rw [show (17 : Int32).toInt = 17 from by decide] at e17
  have e18 := e 18 h18
  rw [show (18 : Int32).toInt = 18 from by decide] at e18
  have e19 := e 19 h19
  rw [show (19 : Int32).toInt = 19 from by decide] at e19
  omega
theorem lt_len {L n : Nat} (hL : L ≤ 2560) (hn : n ≤ 512) : (Int32.ofNat L - 5 < nI (5 * n)) ↔ L < 5 * n + 5 := by
  show nI L - 5 < nI (5 * n) ↔ _
  rw [iI_n L, iI_n (5 * n), show (5 : Int32) = iI 5 from by decide, iI_sub, Int32.lt_iff_toInt_lt, iI_toInt (by omega) (by omega), iI_toInt (by omega) (by omega)]
  omega
set_option maxRecDepth 100000 in
set_option maxHeartbeats 4000000 in
theorem law_loop {p : Program} {l : Launch} {e : Env} {s : State} {m : MethodId} {below : List Frame} {meth : Method} {c : Code} {D : va_G} {a a' : Nat → Nat} {g g' : Nat → ClassId} {b L : Nat} {xs : Nat → Int32} (E : LE p s m meth c D a a' g g' b L xs) {F : Nat} (hF : 1000000000 < F) : ∀ (k n : Nat), n + k = L / 5 → ∀ (S : SS) (M : SM) (H : Heap) (locs : List Loc) (ls : Array Slot), Inv n S M → LW D a a' g g' S M s H locs → lv_has ls 4 [(3, .int (nI (5 * n))), (0, .ref b), (1, .ref (a 0)), (2, .ref (a' 0))] → W p l e room_1 s m #[Value.ref b] below meth c H locs 62 1975 (lw_Z below #[Value.ref b] s) (F0 m 18 ls []) := by
  have hL := E.hL
  have hx := E.hx
  have hb := E.hb
  intro k
  induction k with
  | zero =>
    intro n hn S M H locs ls hI hw hl
    refine lv_iload_n hx hb dL_law_18 rfl (lv_at hl 0 rfl) ?_
    refine lv_aload_n hx hb dL_law_19 rfl (lv_at hl 1 rfl) ?_
    refine va_slen hx hb E.hX E.hbl (Nat.not_le.mpr E.hbl) hw.2.2 dL_law_20 ?_
    refine lv_iconst hx hb dL_law_21 ic_5 ?_
    refine lv_isub hx hb dL_law_22 ?_
    refine lv_icmp_gt (tgt := 744) hx hb dL_law_23 (by decide) (fun c_1 => ?_) (fun c_1 => ?_)
    · refine lv_iconst hx hb dL_law_744 ic_1 ?_
      refine va_forget (fun q hq => hw.2.2.2.2 q hq) ?_
      refine W.widen (k := 600000) (n := 7302250) (Nat.le_of_ble_eq_true rfl) (Nat.le_of_ble_eq_true rfl) ?_
      exact lw_ret hx hb E.hr E.hlk dL_law_745
    · exact absurd ((lt_len hL (by omega)).mpr (by omega)) c_1
  | succ k ih =>
    intro n hn S M H locs ls hI hw hl
    have hi : 5 * n + 5 ≤ L := by omega
    refine lv_iload_n hx hb dL_law_18 rfl (lv_at hl 0 rfl) ?_
    refine lv_aload_n hx hb dL_law_19 rfl (lv_at hl 1 rfl) ?_
    refine va_slen hx hb E.hX E.hbl (Nat.not_le.mpr E.hbl) hw.2.2 dL_law_20 ?_
    refine lv_iconst hx hb dL_law_21 ic_5 ?_
    refine lv_isub hx hb dL_law_22 ?_
    refine lv_icmp_gt (tgt := 744) hx hb dL_law_23 (by decide) (fun c_1 => ?_) (fun c_1 => ?_)
    · have := (lt_len hL (by omega)).mp c_1
      omega
    · refine lv_aload_n hx hb dL_law_26 rfl (lv_at hl 1 rfl) ?_
      refine lv_iload_n hx hb dL_law_27 rfl (lv_at hl 0 rfl) ?_
      refine va_sld hx hb E.hX E.hbl (Nat.not_le.mpr E.hbl) hw.2.2 (vp_in_nI (show 5 * n < L by omega) (by omega)) dL_law_28 ?_
      refine lv_bipush hx hb dL_law_29 bp_31 ?_
      refine lv_iand hx hb dL_law_31 ?_
      refine lv_topi (fun v ev => ?_)
      have go : ∀ (S' : SS) (M' : SM) (H1 : Heap) (locs1 : List Loc), Inv (n + 1) S' M' → LW D a a' g g' S' M' s H1 locs1 → W p l e room_1 s m #[Value.ref b] below meth c H1 locs1 62 1975 (lw_Z below #[Value.ref b] s) (F0 m 738 ls []) := by
        intro S' M' H1 locs1 hI' hw'
        obtain ⟨x3, ex3⟩ : ∃ y : Int32, y = nI (5 * n) + 5 := ⟨_, rfl⟩
        refine lv_iinc (v := x3) (lv' := [(3, .int x3), (0, .ref b), (1, .ref (a 0)), (2, .ref (a' 0))]) hx hb dL_law_738 hl (k := 0) rfl (by rw [ex3]; rfl) (by decide) rfl (fun ls hl => ?_)
        refine lv_goto (tgt := 18) hx hb dL_law_741 (by decide) ?_
        rw [ex3, l5, nI_add, show 5 * n + 5 = 5 * (n + 1) by omega] at hl
        exact ih (n + 1) (by omega) S' M' H1 locs1 ls hI' hw' hl
      by_cases c_10 : v = 0
      · refine lv_tableIn (tgt := 128) hx hb dL_law_32 (by rw [c_10]; decide) (by rw [c_10]; decide) (by rw [c_10]; rfl) (by decide) ?_
        exact lc_line E hw hF hi hI (by omega) hl go
      by_cases c_11 : v = 1
      · refine lv_tableIn (tgt := 181) hx hb dL_law_32 (by rw [c_11]; decide) (by rw [c_11]; decide) (by rw [c_11]; rfl) (by decide) ?_
        exact lc_least E hw hF hi hI (by omega) hl go
      by_cases c_12 : v = 2
      · refine lv_tableIn (tgt := 214) hx hb dL_law_32 (by rw [c_12]; decide) (by rw [c_12]; decide) (by rw [c_12]; rfl) (by decide) ?_
        exact lc_route E hw hF hi hI (by omega) hl go
      by_cases c_13 : v = 3
      · refine lv_tableIn (tgt := 247) hx hb dL_law_32 (by rw [c_13]; decide) (by rw [c_13]; decide) (by rw [c_13]; rfl) (by decide) ?_
        exact lc_part E hw hF hi hI (by omega) hl go
      by_cases c_14 : v = 4
      · refine lv_tableIn (tgt := 300) hx hb dL_law_32 (by rw [c_14]; decide) (by rw [c_14]; decide) (by rw [c_14]; rfl) (by decide) ?_
        exact lc_book E hw hF hi hI (by omega) hl go
      by_cases c_15 : v = 5
      · refine lv_tableIn (tgt := 353) hx hb dL_law_32 (by rw [c_15]; decide) (by rw [c_15]; decide) (by rw [c_15]; rfl) (by decide) ?_
        exact lc_wagon E hw hF hi hI (by omega) hl go
      by_cases c_16 : v = 6
      · refine lv_tableIn (tgt := 386) hx hb dL_law_32 (by rw [c_16]; decide) (by rw [c_16]; decide) (by rw [c_16]; rfl) (by decide) ?_
        exact lc_see E hw hF hi hI (by omega) hl go
      by_cases c_17 : v = 7
      · refine lv_tableIn (tgt := 439) hx hb dL_law_32 (by rw [c_17]; decide) (by rw [c_17]; decide) (by rw [c_17]; rfl) (by decide) ?_
        exact lc_close E hw hF hi hI (by omega) hl go
      by_cases c_18 : v = 8
      · refine lv_tableIn (tgt := 452) hx hb dL_law_32 (by rw [c_18]; decide) (by rw [c_18]; decide) (by rw [c_18]; rfl) (by decide) ?_
        exact lc_error E hw hF hi hI (by omega) hl go
      by_cases c_19 : v = 9
      · refine lv_tableIn (tgt := 485) hx hb dL_law_32 (by rw [c_19]; decide) (by rw [c_19]; decide) (by rw [c_19]; rfl) (by decide) ?_
        exact lc_whose E hw hF hi hI (by omega) hl go
      by_cases c_20 : v = 10
      · refine lv_tableIn (tgt := 508) hx hb dL_law_32 (by rw [c_20]; decide) (by rw [c_20]; decide) (by rw [c_20]; rfl) (by decide) ?_
        exact lc_cost E hw hF hi hI (by omega) hl go
      by_cases c_21 : v = 11
      · refine lv_tableIn (tgt := 521) hx hb dL_law_32 (by rw [c_21]; decide) (by rw [c_21]; decide) (by rw [c_21]; rfl) (by decide) ?_
        exact lc_terms E hw hF hi hI (by omega) hl go
      by_cases c_22 : v = 12
      · refine lv_tableIn (tgt := 554) hx hb dL_law_32 (by rw [c_22]; decide) (by rw [c_22]; decide) (by rw [c_22]; rfl) (by decide) ?_
        exact lc_charge E hw hF hi hI (by omega) hl go
      by_cases c_23 : v = 13
      · refine lv_tableIn (tgt := 587) hx hb dL_law_32 (by rw [c_23]; decide) (by rw [c_23]; decide) (by rw [c_23]; rfl) (by decide) ?_
        exact lc_balance E hw hF hi hI (by omega) hl go
      by_cases c_24 : v = 14
      · refine lv_tableIn (tgt := 610) hx hb dL_law_32 (by rw [c_24]; decide) (by rw [c_24]; decide) (by rw [c_24]; rfl) (by decide) ?_
        exact lc_fewest E hw hF hi hI (by omega) hl go
      by_cases c_25 : v = 15
      · refine lv_tableIn (tgt := 623) hx hb dL_law_32 (by rw [c_25]; decide) (by rw [c_25]; decide) (by rw [c_25]; rfl) (by decide) ?_
        exact lc_group E hw hF hi hI (by omega) hl go
      by_cases c_26 : v = 16
      · refine lv_tableIn (tgt := 646) hx hb dL_law_32 (by rw [c_26]; decide) (by rw [c_26]; decide) (by rw [c_26]; rfl) (by decide) ?_
        exact lc_empties E hw hF hi hI (by omega) hl go
      by_cases c_27 : v = 17
      · refine lv_tableIn (tgt := 689) hx hb dL_law_32 (by rw [c_27]; decide) (by rw [c_27]; decide) (by rw [c_27]; rfl) (by decide) ?_
        exact lc_met E hw hF hi hI (by omega) hl go
      by_cases c_28 : v = 18
      · refine lv_tableIn (tgt := 702) hx hb dL_law_32 (by rw [c_28]; decide) (by rw [c_28]; decide) (by rw [c_28]; rfl) (by decide) ?_
        exact lc_led E hw hF hi hI (by omega) hl go
      by_cases c_29 : v = 19
      · refine lv_tableIn (tgt := 715) hx hb dL_law_32 (by rw [c_29]; decide) (by rw [c_29]; decide) (by rw [c_29]; rfl) (by decide) ?_
        exact lc_count E hw hF hi hI (by omega) hl go
      exact lv_tableOut (tgt := 738) hx hb dL_law_32 (sw_out19 c_10 c_11 c_12 c_13 c_14 c_15 c_16 c_17 c_18 c_19 c_20 c_21 c_22 c_23 c_24 c_25 c_26 c_27 c_28 c_29) (by decide) (go S M H locs hI.up hw)

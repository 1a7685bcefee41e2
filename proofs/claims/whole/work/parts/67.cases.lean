section
variable {p : Program} {l : Launch} {e : Env} {s : State} {m : MethodId} {below : List Frame} {meth : Method} {c : Code} {H : Heap} {locs : List Loc} {Q : State → Prop} {ls : Array Slot} {D : va_G} {a a' : Nat → Nat} {g g' : Nat → ClassId} {b L : Nat} {xs : Nat → Int32} {S : SS} {M : SM}
set_option maxRecDepth 100000 in
set_option maxHeartbeats 4000000 in
theorem lc_cost (E : LE p s m meth c D a a' g g' b L xs) (hw : LW D a a' g g' S M s H locs) {i n F : Nat} (hF : 1000000000 < F) (hi : i + 5 ≤ L) (hI : Inv n S M) (hn : n ≤ 512) (hl : lv_has ls 4 [(3, .int (nI i)), (0, .ref b), (1, .ref (a 0)), (2, .ref (a' 0))]) (kk : ∀ (S' : SS) (M' : SM) (H1 : Heap) (locs1 : List Loc), Inv (n + 1) S' M' → LW D a a' g g' S' M' s H1 locs1 → W p l e room_1 s m #[Value.ref b] below meth c H1 locs1 62 1975 Q (F0 m 738 ls [])) : W p l e room_1 s m #[Value.ref b] below meth c H locs 62 1975 Q (F0 m 508 ls []) := by
  obtain ⟨r, S1, M1, eK, eM, hI1⟩ := step_cost (F := F) hF hI 
  refine lv_aload_n E.hx E.hb dL_law_508 rfl (lv_at hl 2 rfl) ?_
  refine lawK E hw (As := []) (mk7_cost E.hDK eK) ⟨cb_of 0 E.hts wl491 wl35 wl488 (by decide +kernel) ⟨(Nat.le_of_ble_eq_true rfl), (Nat.le_of_ble_eq_true rfl)⟩, E.hts _ wl489, E.hts _ wl490⟩ rfl hl.1 rfl (Nat.le_of_ble_eq_true rfl) dL_law_509 (fun H locs hw => ?_)
  refine lv_aload_n E.hx E.hb dL_law_512 rfl (lv_at hl 3 rfl) ?_
  refine lawM E hw (As := []) (mk8_cost E.hDM eM) ⟨cb_of 0 E.hts wl810 wl44 wl807 (by decide +kernel) ⟨(Nat.le_of_ble_eq_true rfl), (Nat.le_of_ble_eq_true rfl)⟩, E.hts _ wl808, E.hts _ wl809⟩ rfl hl.1 rfl (Nat.le_of_ble_eq_true rfl) dL_law_513 (fun H locs hw => ?_)
  exact lv_icmp_eq (tgt := 738) E.hx E.hb dL_law_516 (by decide) (fun _ => kk _ _ _ _ hI1 hw) (fun z => absurd rfl z)
set_option maxRecDepth 100000 in
set_option maxHeartbeats 4000000 in
theorem lc_terms (E : LE p s m meth c D a a' g g' b L xs) (hw : LW D a a' g g' S M s H locs) {i n F : Nat} (hF : 1000000000 < F) (hi : i + 5 ≤ L) (hI : Inv n S M) (hn : n ≤ 512) (hl : lv_has ls 4 [(3, .int (nI i)), (0, .ref b), (1, .ref (a 0)), (2, .ref (a' 0))]) (kk : ∀ (S' : SS) (M' : SM) (H1 : Heap) (locs1 : List Loc), Inv (n + 1) S' M' → LW D a a' g g' S' M' s H1 locs1 → W p l e room_1 s m #[Value.ref b] below meth c H1 locs1 62 1975 Q (F0 m 738 ls [])) : W p l e room_1 s m #[Value.ref b] below meth c H locs 62 1975 Q (F0 m 521 ls []) := by
  obtain ⟨r, S1, M1, eK, eM, hI1⟩ := step_terms (F := F) hF hI (xsc xs (i + 1)) (xsc xs (i + 2))
  refine lv_aload_n E.hx E.hb dL_law_521 rfl (lv_at hl 2 rfl) ?_
  refine ldS E hw (k := 1) (by omega) hl ic_1 dL_law_522 dL_law_523 dL_law_524 dL_law_525 dL_law_526 ?_
  refine ldS E hw (k := 2) (by omega) hl ic_2 dL_law_527 dL_law_528 dL_law_529 dL_law_530 dL_law_531 ?_
  refine lawK E hw (As := [.int (xsc xs (i + 1)), .int (xsc xs (i + 2))]) (mk7_terms E.hDK eK) ⟨cb_of 2 E.hts wl499 wl35 wl496 (by decide +kernel) ⟨(Nat.le_of_ble_eq_true rfl), (Nat.le_of_ble_eq_true rfl)⟩, E.hts _ wl497, E.hts _ wl498⟩ rfl hl.1 rfl (Nat.le_of_ble_eq_true rfl) dL_law_532 (fun H locs hw => ?_)
  refine lv_aload_n E.hx E.hb dL_law_535 rfl (lv_at hl 3 rfl) ?_
  refine ldS E hw (k := 1) (by omega) hl ic_1 dL_law_536 dL_law_537 dL_law_538 dL_law_539 dL_law_540 ?_
  refine ldS E hw (k := 2) (by omega) hl ic_2 dL_law_541 dL_law_542 dL_law_543 dL_law_544 dL_law_545 ?_
  refine lawM E hw (As := [.int (xsc xs (i + 1)), .int (xsc xs (i + 2))]) (mk8_terms E.hDM eM) ⟨cb_of 2 E.hts wl814 wl44 wl811 (by decide +kernel) ⟨(Nat.le_of_ble_eq_true rfl), (Nat.le_of_ble_eq_true rfl)⟩, E.hts _ wl812, E.hts _ wl813⟩ rfl hl.1 rfl (Nat.le_of_ble_eq_true rfl) dL_law_546 (fun H locs hw => ?_)
  exact lv_icmp_eq (tgt := 738) E.hx E.hb dL_law_549 (by decide) (fun _ => kk _ _ _ _ hI1 hw) (fun z => absurd rfl z)
set_option maxRecDepth 100000 in
set_option maxHeartbeats 4000000 in
theorem lc_charge (E : LE p s m meth c D a a' g g' b L xs) (hw : LW D a a' g g' S M s H locs) {i n F : Nat} (hF : 1000000000 < F) (hi : i + 5 ≤ L) (hI : Inv n S M) (hn : n ≤ 512) (hl : lv_has ls 4 [(3, .int (nI i)), (0, .ref b), (1, .ref (a 0)), (2, .ref (a' 0))]) (kk : ∀ (S' : SS) (M' : SM) (H1 : Heap) (locs1 : List Loc), Inv (n + 1) S' M' → LW D a a' g g' S' M' s H1 locs1 → W p l e room_1 s m #[Value.ref b] below meth c H1 locs1 62 1975 Q (F0 m 738 ls [])) : W p l e room_1 s m #[Value.ref b] below meth c H locs 62 1975 Q (F0 m 554 ls []) := by
  obtain ⟨r, S1, M1, eK, eM, hI1⟩ := step_charge (F := F) hF hI (xsc xs (i + 1)) (xsc xs (i + 2))
  refine lv_aload_n E.hx E.hb dL_law_554 rfl (lv_at hl 2 rfl) ?_
  refine ldS E hw (k := 1) (by omega) hl ic_1 dL_law_555 dL_law_556 dL_law_557 dL_law_558 dL_law_559 ?_
  refine ldS E hw (k := 2) (by omega) hl ic_2 dL_law_560 dL_law_561 dL_law_562 dL_law_563 dL_law_564 ?_
  refine lawK E hw (As := [.int (xsc xs (i + 1)), .int (xsc xs (i + 2))]) (mk7_charge E.hDK eK) ⟨cb_of 2 E.hts wl508 wl35 wl505 (by decide +kernel) ⟨(Nat.le_of_ble_eq_true rfl), (Nat.le_of_ble_eq_true rfl)⟩, E.hts _ wl506, E.hts _ wl507⟩ rfl hl.1 rfl (Nat.le_of_ble_eq_true rfl) dL_law_565 (fun H locs hw => ?_)
  refine lv_aload_n E.hx E.hb dL_law_568 rfl (lv_at hl 3 rfl) ?_
  refine ldS E hw (k := 1) (by omega) hl ic_1 dL_law_569 dL_law_570 dL_law_571 dL_law_572 dL_law_573 ?_
  refine ldS E hw (k := 2) (by omega) hl ic_2 dL_law_574 dL_law_575 dL_law_576 dL_law_577 dL_law_578 ?_
  refine lawM E hw (As := [.int (xsc xs (i + 1)), .int (xsc xs (i + 2))]) (mk8_charge E.hDM eM) ⟨cb_of 2 E.hts wl818 wl44 wl815 (by decide +kernel) ⟨(Nat.le_of_ble_eq_true rfl), (Nat.le_of_ble_eq_true rfl)⟩, E.hts _ wl816, E.hts _ wl817⟩ rfl hl.1 rfl (Nat.le_of_ble_eq_true rfl) dL_law_579 (fun H locs hw => ?_)
  exact lv_icmp_eq (tgt := 738) E.hx E.hb dL_law_582 (by decide) (fun _ => kk _ _ _ _ hI1 hw) (fun z => absurd rfl z)
set_option maxRecDepth 100000 in
set_option maxHeartbeats 4000000 in
theorem lc_balance (E : LE p s m meth c D a a' g g' b L xs) (hw : LW D a a' g g' S M s H locs) {i n F : Nat} (hF : 1000000000 < F) (hi : i + 5 ≤ L) (hI : Inv n S M) (hn : n ≤ 512) (hl : lv_has ls 4 [(3, .int (nI i)), (0, .ref b), (1, .ref (a 0)), (2, .ref (a' 0))]) (kk : ∀ (S' : SS) (M' : SM) (H1 : Heap) (locs1 : List Loc), Inv (n + 1) S' M' → LW D a a' g g' S' M' s H1 locs1 → W p l e room_1 s m #[Value.ref b] below meth c H1 locs1 62 1975 Q (F0 m 738 ls [])) : W p l e room_1 s m #[Value.ref b] below meth c H locs 62 1975 Q (F0 m 587 ls []) := by
  obtain ⟨r, S1, M1, eK, eM, hI1⟩ := step_balance (F := F) hF hI (xsc xs (i + 1))
  refine lv_aload_n E.hx E.hb dL_law_587 rfl (lv_at hl 2 rfl) ?_
  refine ldS E hw (k := 1) (by omega) hl ic_1 dL_law_588 dL_law_589 dL_law_590 dL_law_591 dL_law_592 ?_
  refine lawK E hw (As := [.int (xsc xs (i + 1))]) (mk7_balance E.hDK eK) ⟨cb_of 1 E.hts wl518 wl35 wl515 (by decide +kernel) ⟨(Nat.le_of_ble_eq_true rfl), (Nat.le_of_ble_eq_true rfl)⟩, E.hts _ wl516, E.hts _ wl517⟩ rfl hl.1 rfl (Nat.le_of_ble_eq_true rfl) dL_law_593 (fun H locs hw => ?_)
  refine lv_aload_n E.hx E.hb dL_law_596 rfl (lv_at hl 3 rfl) ?_
  refine ldS E hw (k := 1) (by omega) hl ic_1 dL_law_597 dL_law_598 dL_law_599 dL_law_600 dL_law_601 ?_
  refine lawM E hw (As := [.int (xsc xs (i + 1))]) (mk8_balance E.hDM eM) ⟨cb_of 1 E.hts wl830 wl44 wl831 (by decide +kernel) ⟨(Nat.le_of_ble_eq_true rfl), (Nat.le_of_ble_eq_true rfl)⟩, E.hts _ wl828, E.hts _ wl829⟩ rfl hl.1 rfl (Nat.le_of_ble_eq_true rfl) dL_law_602 (fun H locs hw => ?_)
  exact lv_icmp_eq (tgt := 738) E.hx E.hb dL_law_605 (by decide) (fun _ => kk _ _ _ _ hI1 hw) (fun z => absurd rfl z)
set_option maxRecDepth 100000 in
set_option maxHeartbeats 4000000 in
theorem lc_fewest (E : LE p s m meth c D a a' g g' b L xs) (hw : LW D a a' g g' S M s H locs) {i n F : Nat} (hF : 1000000000 < F) (hi : i + 5 ≤ L) (hI : Inv n S M) (hn : n ≤ 512) (hl : lv_has ls 4 [(3, .int (nI i)), (0, .ref b), (1, .ref (a 0)), (2, .ref (a' 0))]) (kk : ∀ (S' : SS) (M' : SM) (H1 : Heap) (locs1 : List Loc), Inv (n + 1) S' M' → LW D a a' g g' S' M' s H1 locs1 → W p l e room_1 s m #[Value.ref b] below meth c H1 locs1 62 1975 Q (F0 m 738 ls [])) : W p l e room_1 s m #[Value.ref b] below meth c H locs 62 1975 Q (F0 m 610 ls []) := by
  obtain ⟨r, S1, M1, eK, eM, hI1⟩ := step_fewest (F := F) hF hn hI 
  refine lv_aload_n E.hx E.hb dL_law_610 rfl (lv_at hl 2 rfl) ?_
  refine lawK E hw (As := []) (mk7_fewest E.hDK eK) ⟨cb_of 0 E.hts wl527 wl35 wl524 (by decide +kernel) ⟨(Nat.le_of_ble_eq_true rfl), (Nat.le_of_ble_eq_true rfl)⟩, E.hts _ wl525, E.hts _ wl526⟩ rfl hl.1 rfl (Nat.le_of_ble_eq_true rfl) dL_law_611 (fun H locs hw => ?_)
  refine lv_aload_n E.hx E.hb dL_law_614 rfl (lv_at hl 3 rfl) ?_
  refine lawM E hw (As := []) (mk8_fewest E.hDM eM) ⟨cb_of 0 E.hts wl835 wl44 wl832 (by decide +kernel) ⟨(Nat.le_of_ble_eq_true rfl), (Nat.le_of_ble_eq_true rfl)⟩, E.hts _ wl833, E.hts _ wl834⟩ rfl hl.1 rfl (Nat.le_of_ble_eq_true rfl) dL_law_615 (fun H locs hw => ?_)
  exact lv_icmp_eq (tgt := 738) E.hx E.hb dL_law_618 (by decide) (fun _ => kk _ _ _ _ hI1 hw) (fun z => absurd rfl z)
set_option maxRecDepth 100000 in
set_option maxHeartbeats 4000000 in
theorem lc_group (E : LE p s m meth c D a a' g g' b L xs) (hw : LW D a a' g g' S M s H locs) {i n F : Nat} (hF : 1000000000 < F) (hi : i + 5 ≤ L) (hI : Inv n S M) (hn : n ≤ 512) (hl : lv_has ls 4 [(3, .int (nI i)), (0, .ref b), (1, .ref (a 0)), (2, .ref (a' 0))]) (kk : ∀ (S' : SS) (M' : SM) (H1 : Heap) (locs1 : List Loc), Inv (n + 1) S' M' → LW D a a' g g' S' M' s H1 locs1 → W p l e room_1 s m #[Value.ref b] below meth c H1 locs1 62 1975 Q (F0 m 738 ls [])) : W p l e room_1 s m #[Value.ref b] below meth c H locs 62 1975 Q (F0 m 623 ls []) := by
  obtain ⟨r, S1, M1, eK, eM, hI1⟩ := step_group (F := F) hF hn hI (xsc xs (i + 1))
  refine lv_aload_n E.hx E.hb dL_law_623 rfl (lv_at hl 2 rfl) ?_
  refine ldS E hw (k := 1) (by omega) hl ic_1 dL_law_624 dL_law_625 dL_law_626 dL_law_627 dL_law_628 ?_
  refine lawK E hw (As := [.int (xsc xs (i + 1))]) (mk7_group E.hDK eK) ⟨cb_of 1 E.hts wl550 wl35 wl547 (by decide +kernel) ⟨(Nat.le_of_ble_eq_true rfl), (Nat.le_of_ble_eq_true rfl)⟩, E.hts _ wl548, E.hts _ wl549⟩ rfl hl.1 rfl (Nat.le_of_ble_eq_true rfl) dL_law_629 (fun H locs hw => ?_)
  refine lv_aload_n E.hx E.hb dL_law_632 rfl (lv_at hl 3 rfl) ?_
  refine ldS E hw (k := 1) (by omega) hl ic_1 dL_law_633 dL_law_634 dL_law_635 dL_law_636 dL_law_637 ?_
  refine lawM E hw (As := [.int (xsc xs (i + 1))]) (mk8_group E.hDM eM) ⟨cb_of 1 E.hts wl847 wl44 wl844 (by decide +kernel) ⟨(Nat.le_of_ble_eq_true rfl), (Nat.le_of_ble_eq_true rfl)⟩, E.hts _ wl845, E.hts _ wl846⟩ rfl hl.1 rfl (Nat.le_of_ble_eq_true rfl) dL_law_638 (fun H locs hw => ?_)
  exact lv_icmp_eq (tgt := 738) E.hx E.hb dL_law_641 (by decide) (fun _ => kk _ _ _ _ hI1 hw) (fun z => absurd rfl z)
set_option maxRecDepth 100000 in
set_option maxHeartbeats 4000000 in
theorem lc_empties (E : LE p s m meth c D a a' g g' b L xs) (hw : LW D a a' g g' S M s H locs) {i n F : Nat} (hF : 1000000000 < F) (hi : i + 5 ≤ L) (hI : Inv n S M) (hn : n ≤ 512) (hl : lv_has ls 4 [(3, .int (nI i)), (0, .ref b), (1, .ref (a 0)), (2, .ref (a' 0))]) (kk : ∀ (S' : SS) (M' : SM) (H1 : Heap) (locs1 : List Loc), Inv (n + 1) S' M' → LW D a a' g g' S' M' s H1 locs1 → W p l e room_1 s m #[Value.ref b] below meth c H1 locs1 62 1975 Q (F0 m 738 ls [])) : W p l e room_1 s m #[Value.ref b] below meth c H locs 62 1975 Q (F0 m 646 ls []) := by
  obtain ⟨r, S1, M1, eK, eM, hI1⟩ := step_empties (F := F) hF hI (xsc xs (i + 1)) (xsc xs (i + 2)) (xsc xs (i + 3))
  refine lv_aload_n E.hx E.hb dL_law_646 rfl (lv_at hl 2 rfl) ?_
  refine ldS E hw (k := 1) (by omega) hl ic_1 dL_law_647 dL_law_648 dL_law_649 dL_law_650 dL_law_651 ?_
  refine ldS E hw (k := 2) (by omega) hl ic_2 dL_law_652 dL_law_653 dL_law_654 dL_law_655 dL_law_656 ?_
  refine ldS E hw (k := 3) (by omega) hl ic_3 dL_law_657 dL_law_658 dL_law_659 dL_law_660 dL_law_661 ?_
  refine lawK E hw (As := [.int (xsc xs (i + 1)), .int (xsc xs (i + 2)), .int (xsc xs (i + 3))]) (mk7_empties E.hDK eK) ⟨cb_of 3 E.hts wl562 wl35 wl559 (by decide +kernel) ⟨(Nat.le_of_ble_eq_true rfl), (Nat.le_of_ble_eq_true rfl)⟩, E.hts _ wl560, E.hts _ wl561⟩ rfl hl.1 rfl (Nat.le_of_ble_eq_true rfl) dL_law_662 (fun H locs hw => ?_)
  refine lv_aload_n E.hx E.hb dL_law_665 rfl (lv_at hl 3 rfl) ?_
  refine ldS E hw (k := 1) (by omega) hl ic_1 dL_law_666 dL_law_667 dL_law_668 dL_law_669 dL_law_670 ?_
  refine ldS E hw (k := 2) (by omega) hl ic_2 dL_law_671 dL_law_672 dL_law_673 dL_law_674 dL_law_675 ?_
  refine ldS E hw (k := 3) (by omega) hl ic_3 dL_law_676 dL_law_677 dL_law_678 dL_law_679 dL_law_680 ?_
  refine lawM E hw (As := [.int (xsc xs (i + 1)), .int (xsc xs (i + 2)), .int (xsc xs (i + 3))]) (mk8_empties E.hDM eM) ⟨cb_of 3 E.hts wl851 wl44 wl848 (by decide +kernel) ⟨(Nat.le_of_ble_eq_true rfl), (Nat.le_of_ble_eq_true rfl)⟩, E.hts _ wl849, E.hts _ wl850⟩ rfl hl.1 rfl (Nat.le_of_ble_eq_true rfl) dL_law_681 (fun H locs hw => ?_)
  exact lv_icmp_eq (tgt := 738) E.hx E.hb dL_law_684 (by decide) (fun _ => kk _ _ _ _ hI1 hw) (fun z => absurd rfl z)
set_option maxRecDepth 100000 in
set_option maxHeartbeats 4000000 in
theorem lc_met (E : LE p s m meth c D a a' g g' b L xs) (hw : LW D a a' g g' S M s H locs) {i n F : Nat} (hF : 1000000000 < F) (hi : i + 5 ≤ L) (hI : Inv n S M) (hn : n ≤ 512) (hl : lv_has ls 4 [(3, .int (nI i)), (0, .ref b), (1, .ref (a 0)), (2, .ref (a' 0))]) (kk : ∀ (S' : SS) (M' : SM) (H1 : Heap) (locs1 : List Loc), Inv (n + 1) S' M' → LW D a a' g g' S' M' s H1 locs1 → W p l e room_1 s m #[Value.ref b] below meth c H1 locs1 62 1975 Q (F0 m 738 ls [])) : W p l e room_1 s m #[Value.ref b] below meth c H locs 62 1975 Q (F0 m 689 ls []) := by
  obtain ⟨r, S1, M1, eK, eM, hI1⟩ := step_met (F := F) hF hI 
  refine lv_aload_n E.hx E.hb dL_law_689 rfl (lv_at hl 2 rfl) ?_
  refine lawK E hw (As := []) (mk7_met E.hDK eK) ⟨cb_of 0 E.hts wl573 wl35 wl570 (by decide +kernel) ⟨(Nat.le_of_ble_eq_true rfl), (Nat.le_of_ble_eq_true rfl)⟩, E.hts _ wl571, E.hts _ wl572⟩ rfl hl.1 rfl (Nat.le_of_ble_eq_true rfl) dL_law_690 (fun H locs hw => ?_)
  refine lv_aload_n E.hx E.hb dL_law_693 rfl (lv_at hl 3 rfl) ?_
  refine lawM E hw (As := []) (mk8_met E.hDM eM) ⟨cb_of 0 E.hts wl855 wl44 wl852 (by decide +kernel) ⟨(Nat.le_of_ble_eq_true rfl), (Nat.le_of_ble_eq_true rfl)⟩, E.hts _ wl853, E.hts _ wl854⟩ rfl hl.1 rfl (Nat.le_of_ble_eq_true rfl) dL_law_694 (fun H locs hw => ?_)
  exact lv_icmp_eq (tgt := 738) E.hx E.hb dL_law_697 (by decide) (fun _ => kk _ _ _ _ hI1 hw) (fun z => absurd rfl z)
set_option maxRecDepth 100000 in
set_option maxHeartbeats 4000000 in
theorem lc_led (E : LE p s m meth c D a a' g g' b L xs) (hw : LW D a a' g g' S M s H locs) {i n F : Nat} (hF : 1000000000 < F) (hi : i + 5 ≤ L) (hI : Inv n S M) (hn : n ≤ 512) (hl : lv_has ls 4 [(3, .int (nI i)), (0, .ref b), (1, .ref (a 0)), (2, .ref (a' 0))]) (kk : ∀ (S' : SS) (M' : SM) (H1 : Heap) (locs1 : List Loc), Inv (n + 1) S' M' → LW D a a' g g' S' M' s H1 locs1 → W p l e room_1 s m #[Value.ref b] below meth c H1 locs1 62 1975 Q (F0 m 738 ls [])) : W p l e room_1 s m #[Value.ref b] below meth c H locs 62 1975 Q (F0 m 702 ls []) := by
  obtain ⟨r, S1, M1, eK, eM, hI1⟩ := step_led (F := F) hF hI 
  refine lv_aload_n E.hx E.hb dL_law_702 rfl (lv_at hl 2 rfl) ?_
  refine lawK E hw (As := []) (mk7_led E.hDK eK) ⟨cb_of 0 E.hts wl624 wl35 wl621 (by decide +kernel) ⟨(Nat.le_of_ble_eq_true rfl), (Nat.le_of_ble_eq_true rfl)⟩, E.hts _ wl622, E.hts _ wl623⟩ rfl hl.1 rfl (Nat.le_of_ble_eq_true rfl) dL_law_703 (fun H locs hw => ?_)
  refine lv_aload_n E.hx E.hb dL_law_706 rfl (lv_at hl 3 rfl) ?_
  refine lawM E hw (As := []) (mk8_led E.hDM eM) ⟨cb_of 0 E.hts wl876 wl44 wl873 (by decide +kernel) ⟨(Nat.le_of_ble_eq_true rfl), (Nat.le_of_ble_eq_true rfl)⟩, E.hts _ wl874, E.hts _ wl875⟩ rfl hl.1 rfl (Nat.le_of_ble_eq_true rfl) dL_law_707 (fun H locs hw => ?_)
  exact lv_icmp_eq (tgt := 738) E.hx E.hb dL_law_710 (by decide) (fun _ => kk _ _ _ _ hI1 hw) (fun z => absurd rfl z)
set_option maxRecDepth 100000 in
set_option maxHeartbeats 4000000 in
theorem lc_count (E : LE p s m meth c D a a' g g' b L xs) (hw : LW D a a' g g' S M s H locs) {i n F : Nat} (hF : 1000000000 < F) (hi : i + 5 ≤ L) (hI : Inv n S M) (hn : n ≤ 512) (hl : lv_has ls 4 [(3, .int (nI i)), (0, .ref b), (1, .ref (a 0)), (2, .ref (a' 0))]) (kk : ∀ (S' : SS) (M' : SM) (H1 : Heap) (locs1 : List Loc), Inv (n + 1) S' M' → LW D a a' g g' S' M' s H1 locs1 → W p l e room_1 s m #[Value.ref b] below meth c H1 locs1 62 1975 Q (F0 m 738 ls [])) : W p l e room_1 s m #[Value.ref b] below meth c H locs 62 1975 Q (F0 m 715 ls []) := by
  obtain ⟨r, eK, eM⟩ := step_count (F := F) hF hI (xsc xs (i + 1))
  refine lv_aload_n E.hx E.hb dL_law_715 rfl (lv_at hl 2 rfl) ?_
  refine ldS E hw (k := 1) (by omega) hl ic_1 dL_law_716 dL_law_717 dL_law_718 dL_law_719 dL_law_720 ?_
  refine lawK E hw (As := [.int (xsc xs (i + 1))]) (mk7_count E.hDK eK) ⟨cb_of 1 E.hts wl628 wl35 wl625 (by decide +kernel) ⟨(Nat.le_of_ble_eq_true rfl), (Nat.le_of_ble_eq_true rfl)⟩, E.hts _ wl626, E.hts _ wl627⟩ rfl hl.1 rfl (Nat.le_of_ble_eq_true rfl) dL_law_721 (fun H locs hw => ?_)
  refine lv_aload_n E.hx E.hb dL_law_724 rfl (lv_at hl 3 rfl) ?_
  refine ldS E hw (k := 1) (by omega) hl ic_1 dL_law_725 dL_law_726 dL_law_727 dL_law_728 dL_law_729 ?_
  refine lawM E hw (As := [.int (xsc xs (i + 1))]) (mk8_count E.hDM eM) ⟨cb_of 1 E.hts wl880 wl44 wl877 (by decide +kernel) ⟨(Nat.le_of_ble_eq_true rfl), (Nat.le_of_ble_eq_true rfl)⟩, E.hts _ wl878, E.hts _ wl879⟩ rfl hl.1 rfl (Nat.le_of_ble_eq_true rfl) dL_law_730 (fun H locs hw => ?_)
  exact lv_icmp_eq (tgt := 738) E.hx E.hb dL_law_733 (by decide) (fun _ => kk _ _ _ _ hI.up hw) (fun z => absurd rfl z)
end

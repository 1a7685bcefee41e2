/-! the class parts a sum -/
/-- changed in the parting's cells alone -/
def PrtF (S S' : SS) : Prop := ∀ q, q ≠ 2 → q ≠ 13 → q ≠ 14 → q ≠ 15 → S' q = S q
theorem PrtF.rf {S : SS} : PrtF S S := fun _ _ _ _ _ => rfl
theorem PrtF.tr {S S' S'' : SS} (h : PrtF S S') (h' : PrtF S' S'') : PrtF S S'' := fun q a b c e => (h' q a b c e).trans (h q a b c e)
theorem PrtF.net {S S' : SS} (h : PrtF S S') {N : Nat} {A B C L : Nat → Nat} {d : Nat → Nat → Nat} (hK : NetK S N A B C L d) : NetK S' N A B C L d :=
  hK.cong (by rw [h 1 (by decide) (by decide) (by decide) (by decide)]) (fun q h1 h2 => h q (by omega) (by omega) (by omega) (by omega))
theorem PrtF.st2 {S : SS} {k : Nat} {x : Int32} : PrtF S (st S 2 k x) := fun _ a _ _ _ => st_o a
theorem PrtF.st13 {S : SS} {k : Nat} {x : Int32} : PrtF S (st S 13 k x) := fun _ _ a _ _ => st_o a
theorem PrtF.st14 {S : SS} {k : Nat} {x : Int32} : PrtF S (st S 14 k x) := fun _ _ _ a _ => st_o a
theorem PrtF.st15 {S : SS} {k : Nat} {x : Int32} : PrtF S (st S 15 k x) := fun _ _ _ _ a => st_o a
theorem fill14 {F : Nat} (hF : 8 < F) {S : SS} {x : Int32} : ∃ S', k7_fill_14 F S x = some S' ∧ (∀ q, q ≠ 14 → S' q = S q) ∧ ∀ c, c < 8 → S' 14 c = x := by
  obtain ⟨t, ⟨S', h1, h2⟩, he⟩ := lp_inv (z := fun _ _ => none) (f := fun rec => k7_fill_14_B5 F x (nI 8) rec) (fun (s : SS × Nat) g => g s.1 (nI s.2)) (fun s => ((∀ q, q ≠ 14 → s.1 q = S q) ∧ ∀ c, c < s.2 → s.1 14 c = x) ∧ s.2 ≤ 8) (fun s => 8 - s.2) (fun r => ∃ S', r = some S' ∧ (∀ q, q ≠ 14 → S' q = S q) ∧ ∀ c, c < 8 → S' 14 c = x) (by
    rintro ⟨T, j⟩ ⟨⟨k1, k2⟩, hj⟩
    dsimp only at k1 k2 hj
    by_cases h : j = 8
    · subst h
      refine Or.inr ⟨some T, ⟨T, rfl, k1, k2⟩, fun rec => ?_⟩
      dsimp only [k7_fill_14_B5]
      rw [if_pos (nI_le (Nat.le_refl 8) (by omega))]
    · refine Or.inl ⟨(st T 14 j x, j + 1), ⟨⟨fun q hq => ?_, fun c hc => ?_⟩, by dsimp only; omega⟩, by dsimp only; omega, fun rec => ?_⟩
      · dsimp only; rw [st_o hq]; exact k1 q hq
      · dsimp only at hc ⊢
        rw [st_st]
        by_cases e : c = j
        · rw [if_pos e]
        · rw [if_neg e]; exact k2 c (by omega)
      · dsimp only [k7_fill_14_B5]
        simp only [bnd_e]
        rw [if_neg (nI_ge (by omega) (by omega)), ckA_n (by omega) (by omega), some_b, clN (by omega), nI_1]) F (S, 0) ⟨⟨fun _ _ => rfl, fun c hc => absurd hc (Nat.not_lt_zero c)⟩, by dsimp only; omega⟩ (by dsimp only; omega)
  exact ⟨S', by rw [← h1]; exact he, h2⟩
/-- the steps behind the first -/
theorem travel_in {F : Nat} (hF : 24 < F) {N : Nat} {A B C L : Nat → Nat} {d : Nat → Nat → Nat} (hP : NetP N A B C L d) {v : Nat} (hv : v < 12) (k : SS → Int32 → Option (Int32 × SS)) :
    ∀ (n m u step : Nat) (run : Nat → Nat) (last : Nat) (S : SS), u < 12 → d u v < 1000000 → nearer d v (d u v) 12 ≤ n → n < m → 1 ≤ step → step + n ≤ 12 → NetK S N A B C L d → (∀ c, c < 8 → S 14 c = nI (run c)) → sm run 8 + d u v ≤ 1000000 → S 2 5 = nI (C last) →
      ∃ S', lpN (fun _ _ _ => none) (fun rec => k5_travel_B23 F (nI v) rec k) m S (nI u) (nI step) = k S' (nI v) ∧ PrtF S S' ∧ S' 13 = S 13 ∧ S' 15 = S 15 ∧ S' 2 4 = S 2 4 ∧ (∀ c, c < 8 → S' 14 c = nI ((pth A B C L d N v n u run last).1 c)) ∧ S' 2 5 = nI (C (pth A B C L d N v n u run last).2) := by
  intro n
  induction n with
  | zero =>
    intro m u step run last S hu hf hn hm h1 h2 hK hr hs hl
    obtain ⟨m, rfl⟩ : ∃ q, m = q + 1 := ⟨m - 1, by omega⟩
    by_cases e : u = v
    · subst e
      refine ⟨S, ?_, PrtF.rf, rfl, rfl, rfl, by rw [pth_end]; exact hr, by rw [pth_end]; exact hl⟩
      show k5_travel_B23 F (nI u) (lpN _ _ m) k S (nI u) (nI step) = _
      unfold k5_travel_B23
      rw [if_pos (rfl : nI u = nI u)]
      split <;> rfl
    · have := near_pos hP hu hv e hf; omega
  | succ n ih =>
    intro m u step run last S hu hf hn hm h1 h2 hK hr hs hl
    obtain ⟨m, rfl⟩ : ∃ q, m = q + 1 := ⟨m - 1, by omega⟩
    by_cases e : u = v
    · subst e
      refine ⟨S, ?_, PrtF.rf, rfl, rfl, rfl, by rw [pth_end]; exact hr, by rw [pth_end]; exact hl⟩
      show k5_travel_B23 F (nI u) (lpN _ _ m) k S (nI u) (nI step) = _
      unfold k5_travel_B23
      rw [if_pos (rfl : nI u = nI u)]
      split <;> rfl
    · obtain ⟨l, w, hrt, hlN, hw, ho, hd⟩ := rt_ex hP hu hv e hf
      have hC := hP.2.2.1 l hlN
      have hN := hP.1
      obtain ⟨-, -, -, g4, g5⟩ := hP.2.1 l hlN
      obtain ⟨-, -, e3, e4⟩ := hK.2.1 l hlN
      obtain ⟨S1, eS1⟩ : ∃ z, z = st S 2 5 (nI (C l)) := ⟨_, rfl⟩
      obtain ⟨S2, eS2⟩ : ∃ z, z = st S1 14 (C l) (nI (run (C l) + L l)) := ⟨_, rfl⟩
      have f1 : PrtF S S1 := by rw [eS1]; exact PrtF.st2
      have f2 : PrtF S1 S2 := by rw [eS2]; exact PrtF.st14
      have hK2 := (f1.tr f2).net hK
      have q25 : S1 2 5 = nI (C l) := by rw [eS1, st_st, if_pos rfl]
      have s14 : S1 14 = S 14 := by rw [eS1, st_o (by decide)]
      have hrc := sm_part (f := run) (n := 8) hC
      have hsum : sm (addAt run (C l) (L l)) 8 + d w v ≤ 1000000 := by rw [sm_addAt hC]; omega
      obtain ⟨S', t1, t2, t3, t4, t5, t6, t7⟩ := ih m w (step + 1) (addAt run (C l) (L l)) l S2 hw (by omega) (near_step hP hlN hw hd hn) (by omega) (by omega) (by omega) hK2 (fun c hc => by
        rw [eS2, st_st]
        by_cases q : c = C l
        · rw [if_pos q, q, addAt_s]
        · rw [if_neg q, addAt_o q, s14]; exact hr c hc) hsum (by rw [eS2, st_o (by decide)]; exact q25)
      refine ⟨S', ?_, f1.tr (f2.tr t2), ?_, ?_, ?_, by rw [pth_step e hrt]; exact t6, by rw [pth_step e hrt]; exact t7⟩
      · show k5_travel_B23 F (nI v) (lpN _ _ m) k S (nI u) (nI step) = _
        unfold k5_travel_B23
        simp only [bnd_e]
        rw [l12, if_neg (nI_ge (by omega) (by omega)), if_neg (fun z => e ((nI_eq (by omega) (by omega)).mp z)), routeK_v hF hP hK hu hv e hf, some_b, hrt, show bL (some (l, w)) = nI l from rfl, if_neg (nI_m1 (by omega)), rdA_n (by omega) (by omega), some_b, e3, ← eS1, l0, if_neg (fun z => absurd ((nI_eq (by omega) (by omega)).mp z) (by omega))]
        unfold k5_travel_B23_J81
        simp only [bnd_e]
        have e4' : S1 11 l = nI (L l) := by rw [f1 11 (by decide) (by decide) (by decide) (by decide)]; exact e4
        rw [q25, rdA_n hC (by omega), some_b, rdA_n (by omega) (by omega), some_b, ckA_n hC (by omega), some_b, s14, hr (C l) hC, e4', nI_add, clN (by omega), ← eS2, farK hP hK2 hlN hu, some_b, ho, show othV (some w) = nI w from rfl, nI_1]
        exact t1
      · rw [t3, eS2, st_o (by decide), eS1, st_o (by decide)]
      · rw [t4, eS2, st_o (by decide), eS1, st_o (by decide)]
      · rw [t5, eS2, st_o (by decide), eS1, st_st, if_neg (by decide)]
theorem travel_y {F : Nat} (hF : 24 < F) {N : Nat} {A B C L : Nat → Nat} {d : Nat → Nat → Nat} (hP : NetP N A B C L d) {S : SS} (hK : NetK S N A B C L d) {u v : Nat} (hu : u < 12) (hv : v < 12) (hne : u ≠ v) (hf : d u v < 1000000) :
    ∃ S' l w, k5_travel F S (nI u) (nI v) = some (1, S') ∧ PrtF S S' ∧ rtS A B L d u v N = some (l, w) ∧ l < N ∧ S' 2 4 = nI (C l) ∧ (∀ c, c < 8 → S' 14 c = nI ((pth A B C L d N v 11 u (fun _ => 0) 0).1 c)) ∧ S' 2 5 = nI (C (pth A B C L d N v 11 u (fun _ => 0) 0).2) ∧ (pth A B C L d N v 11 u (fun _ => 0) 0).2 < N ∧ sm (pth A B C L d N v 11 u (fun _ => 0) 0).1 8 = d u v := by
  obtain ⟨l, w, hrt, hlN, hw, ho, hd⟩ := rt_ex hP hu hv hne hf
  have hC := hP.2.2.1 l hlN
  have hN := hP.1
  obtain ⟨-, -, -, g4, g5⟩ := hP.2.1 l hlN
  have hdb := hP.2.2.2.b2200 hP.2.1 hu hv
  obtain ⟨S0, a1, a2, a3⟩ := fill14 (F := F) (by omega) (S := S) (x := 0)
  obtain ⟨S1, eS1⟩ : ∃ z, z = st (st S0 2 4 (-1)) 2 5 (-1) := ⟨_, rfl⟩
  obtain ⟨S2, eS2⟩ : ∃ z, z = st S1 2 5 (nI (C l)) := ⟨_, rfl⟩
  obtain ⟨S3, eS3⟩ : ∃ z, z = st S2 2 4 (nI (C l)) := ⟨_, rfl⟩
  obtain ⟨S4, eS4⟩ : ∃ z, z = st S3 14 (C l) (nI (L l)) := ⟨_, rfl⟩
  have f0 : PrtF S S0 := fun q _ _ h _ => a2 q h
  have f1 : PrtF S0 S1 := by rw [eS1]; exact PrtF.tr PrtF.st2 PrtF.st2
  have f2 : PrtF S1 S2 := by rw [eS2]; exact PrtF.st2
  have f3 : PrtF S2 S3 := by rw [eS3]; exact PrtF.st2
  have f4 : PrtF S3 S4 := by rw [eS4]; exact PrtF.st14
  have hK1 := (f0.tr f1).net hK
  have hK4 := (f0.tr (f1.tr (f2.tr (f3.tr f4)))).net hK
  obtain ⟨-, -, e3, e4⟩ := hK1.2.1 l hlN
  have e4' : S3 11 l = nI (L l) := by rw [(f2.tr f3) 11 (by decide) (by decide) (by decide) (by decide)]; exact e4
  have s14 : S3 14 = S0 14 := by rw [eS3, st_o (by decide), eS2, st_o (by decide), eS1, st_o (by decide), st_o (by decide)]
  have q25 : S3 2 5 = nI (C l) := by rw [eS3, st_st, if_neg (by decide), eS2, st_st, if_pos rfl]
  have q24 : S4 2 4 = nI (C l) := by rw [eS4, st_o (by decide), eS3, st_st, if_pos rfl]
  have hnr := nearer_11 d v hu
  have hs0 : sm (fun _ => 0) 8 = 0 := by decide
  obtain ⟨p1, p2⟩ := pth_sum hP hv 11 u (fun _ => 0) 0 hu hf hnr (fun z => absurd z hne)
  rw [hs0, Nat.zero_add] at p1
  have hsum : sm (addAt (fun _ => 0) (C l) (L l)) 8 = L l := by rw [sm_addAt hC, hs0, Nat.zero_add]
  obtain ⟨S', t1, t2, t3, t4, t5, t6, t7⟩ := travel_in hF hP hv (fun S_27 x3_27 => k5_travel_J120 F S_27 (nI v) x3_27) 10 (F - 1) w 1 (addAt (fun _ => 0) (C l) (L l)) l S4 hw (by omega) (near_step hP hlN hw hd hnr) (by omega) (by omega) (by omega) hK4 (fun c hc => by
    rw [eS4, st_st]
    by_cases q : c = C l
    · rw [if_pos q, q, addAt_s, Nat.zero_add]
    · rw [if_neg q, addAt_o q, s14, a3 c hc]; rfl) (by omega) (by rw [eS4, st_o (by decide)]; exact q25)
  have hp : pth A B C L d N v 11 u (fun _ => 0) 0 = pth A B C L d N v 10 w (addAt (fun _ => 0) (C l) (L l)) l := pth_step hne hrt
  refine ⟨S', l, w, ?_, f0.tr (f1.tr (f2.tr (f3.tr (f4.tr t2)))), hrt, hlN, by rw [t5]; exact q24, by rw [hp]; exact t6, by rw [hp]; exact t7, p2, p1⟩
  unfold k5_travel
  simp only [bnd_e]
  rw [a1, some_b, ← eS1]
  obtain ⟨F', rfl⟩ : ∃ q, F = q + 1 := ⟨F - 1, by omega⟩
  show k5_travel_B23 (F' + 1) (nI v) (lpN _ _ F') _ S1 (nI u) 0 = _
  unfold k5_travel_B23
  simp only [bnd_e]
  rw [l12, l0, if_neg (nI_ge (by omega) (by omega)), if_neg (fun z => hne ((nI_eq (by omega) (by omega)).mp z)), routeK_v hF hP hK1 hu hv hne hf, some_b, hrt, show bL (some (l, w)) = nI l from rfl, if_neg (nI_m1 (by omega)), rdA_n (by omega) (by omega), some_b, e3, ← eS2, if_pos trivial]
  have q25' : S2 2 5 = nI (C l) := by rw [eS2, st_st, if_pos rfl]
  rw [q25', ← eS3]
  unfold k5_travel_B23_J81
  simp only [bnd_e]
  rw [q25, rdA_n hC (by omega), some_b, rdA_n (by omega) (by omega), some_b, ckA_n hC (by omega), some_b, s14, a3 (C l) hC, e4', l0, nI_add, Nat.zero_add, clN (by omega), ← eS4, farK hP hK4 hlN hu, some_b, ho, show othV (some w) = nI w from rfl, nI_1]
  refine t1.trans ?_
  unfold k5_travel_J120
  rw [t5, q24, isC_y hC, some_b, if_neg z10, t7, isC_y (hP.2.2.1 _ (by rw [← hp]; exact p2)), some_b, if_neg z10, if_pos rfl]
theorem travel_n {F : Nat} (hF : 24 < F) {N : Nat} {A B C L : Nat → Nat} {d : Nat → Nat → Nat} (hP : NetP N A B C L d) {S : SS} (hK : NetK S N A B C L d) {x1 x2 : Int32} (h : ¬ ∃ u v, u < 12 ∧ v < 12 ∧ x1 = nI u ∧ x2 = nI v ∧ u ≠ v ∧ d u v < 1000000) :
    ∃ S', k5_travel F S x1 x2 = some (0, S') ∧ PrtF S S' := by
  obtain ⟨S0, a1, a2, a3⟩ := fill14 (F := F) (by omega) (S := S) (x := 0)
  obtain ⟨S1, eS1⟩ : ∃ z, z = st (st S0 2 4 (-1)) 2 5 (-1) := ⟨_, rfl⟩
  have f0 : PrtF S S0 := fun q _ _ h _ => a2 q h
  have f1 : PrtF S0 S1 := by rw [eS1]; exact PrtF.tr PrtF.st2 PrtF.st2
  have hK1 := (f0.tr f1).net hK
  refine ⟨S1, ?_, f0.tr f1⟩
  unfold k5_travel
  simp only [bnd_e]
  rw [a1, some_b, ← eS1]
  obtain ⟨F', rfl⟩ : ∃ q, F = q + 1 := ⟨F - 1, by omega⟩
  show k5_travel_B23 (F' + 1) x2 (lpN _ _ F') _ S1 x1 0 = _
  unfold k5_travel_B23
  rw [if_neg (by decide)]
  by_cases e : x1 = x2
  · rw [if_pos e]
    unfold k5_travel_J120
    have q24 : S1 2 4 = -1 := by rw [eS1, st_st, if_neg (by decide), st_st, if_pos rfl]
    dsimp only
    rw [q24, isC_n (Or.inl (by decide)), some_b, if_pos rfl]
  · rw [if_neg e, routeK_n hP hK1 h, some_b, bnd_e, if_pos rfl]
theorem sum14 {F : Nat} (hF : 8 < F) {S : SS} {run : Nat → Nat} (hr : ∀ c, c < 8 → S 14 c = nI (run c)) : k7_sumOf_14 F S = some (nI (sm run 8)) := by
  unfold k7_sumOf_14
  simp only [bnd_e]
  refine lp_seq (z := fun _ _ => none) (f := fun rec => k7_sumOf_14_B4 F S rec) (fun (s : Nat × Nat) g => g (nI s.1) (nI s.2)) (fun j => (sm run j, j)) 8 _ (fun j hj rec => ?_) (fun rec => ?_) (by omega)
  · dsimp only
    unfold k7_sumOf_14_B4
    simp only [bnd_e]
    rw [l8, if_neg (nI_ge hj (by omega)), rdA_n hj (by omega), some_b, hr j hj, nI_add, nI_1]
    rfl
  · dsimp only
    unfold k7_sumOf_14_B4
    rw [l8, if_pos (nI_le (Nat.le_refl 8) (by omega))]
/-- what was cut off, as it is held -/
def ec (n : Nat) : Int32 := if n = 0 then -1 else nI (n - 1)
theorem ec_s (n : Nat) : ec (n + 1) = nI n := by unfold ec; rw [if_neg (by omega), Nat.add_sub_cancel]
theorem ec_0 : ec 0 = -1 := rfl
theorem ec_le {a b : Nat} (ha : a < 2000000000) (hb : b < 2000000000) : ec a ≤ ec b ↔ a ≤ b := by
  have key : ∀ n, n < 2000000000 → (ec n).toInt = (n : Int) - 1 := by
    intro n hn
    cases n with
    | zero => decide
    | succ n => rw [ec_s, nI_toInt (by omega)]; omega
  rw [Int32.le_iff_toInt_le, key a ha, key b hb]
  omega
theorem giveK {F : Nat} (hF : 8 < F) {S : SS} {p k : Nat → Nat} (hp : ∀ c, c < 8 → S 13 c = nI (p c)) (hk : ∀ c, c < 8 → S 15 c = ec (k c)) (hb : ∀ c, c < 8 → k c < 2000000000) :
    ∃ S', k5_giveOneMore F S = some S' ∧ PrtF S S' ∧ S' 2 = S 2 ∧ S' 14 = S 14 ∧ (∀ c, c < 8 → S' 13 c = nI (gvP p k c)) ∧ (∀ c, c < 8 → S' 15 c = ec (gvK k c)) := by
  have h7 := am_le k 7
  refine ⟨st (st S 13 (am k 7) (nI (p (am k 7) + 1))) 15 (am k 7) (-1), ?_, PrtF.tr PrtF.st13 PrtF.st15, by rw [st_o (by decide), st_o (by decide)], by rw [st_o (by decide), st_o (by decide)], fun c hc => ?_, fun c hc => ?_⟩
  · unfold k5_giveOneMore
    simp only [bnd_e]
    refine lp_seq (z := fun _ _ => none) (f := fun rec => k5_giveOneMore_B4 F S rec _) (fun (s : Nat × Nat) g => g (nI s.1) (nI s.2)) (fun j => (am k j, j + 1)) 7 _ (fun j hj rec => ?_) (fun rec => ?_) (by omega)
    · have h1 := am_le k j
      dsimp only
      unfold k5_giveOneMore_B4
      simp only [bnd_e]
      rw [l8, if_neg (nI_ge (by omega) (by omega)), rdA_n (by omega) (by omega), some_b, rdA_n (by omega) (by omega), some_b, hk (j + 1) (by omega), hk (am k j) (by omega), nI_1]
      have hl := ec_le (hb (j + 1) (by omega)) (hb (am k j) (by omega))
      conv => rhs; unfold am
      by_cases q : k (am k j) < k (j + 1)
      · rw [if_neg (fun z => absurd (hl.mp z) (by omega)), if_pos q]
      · rw [if_pos (hl.mpr (by omega)), if_neg q]
    · dsimp only
      unfold k5_giveOneMore_B4
      rw [l8, if_pos (nI_le (Nat.le_refl 8) (by omega))]
      dsimp only
      rw [rdA_n (by omega) (by omega), some_b, ckA_n (by omega) (by omega), some_b, hp (am k 7) (by omega), nI_1, clN (by omega), some_b]
  · rw [st_o (by decide), st_st]
    unfold gvP
    by_cases q : c = am k 7
    · rw [if_pos q, q, addAt_s]
    · rw [if_neg q, addAt_o q]; exact hp c hc
  · rw [st_st]
    unfold gvK
    by_cases q : c = am k 7
    · rw [if_pos q, if_pos q]; rfl
    · rw [if_neg q, if_neg q, st_o (by decide)]; exact hk c hc
theorem lN_ne0 {n : Nat} (h : 1 ≤ n) (h2 : n < 2147483648) : ¬ lN n = 0 := fun q => by
  have : lN n = lN 0 := q
  exact absurd ((lN_eq h2 (by omega)).mp this) (by omega)
theorem ckL_y {n : Nat} (h : 1 ≤ n) (h2 : n < 2147483648) : ckL (lN n) = some () := by unfold ckL; rw [if_neg (lN_ne0 h h2)]
theorem divm1 {F : Nat} (hF : 8 < F) {left T : Nat} {run : Nat → Nat} (hT : 1 ≤ T) (hT2 : T ≤ 1000000) (hl : left ≤ 1000000) (hrT : sm run 8 = T) {S0 : SS} (hr : ∀ c, c < 8 → S0 14 c = nI (run c)) (k : SS → Int32 → Option (Int32 × SS)) :
    ∃ S', lpN (fun _ _ _ => none) (fun rec => k5_divideByMiles_B19 F (nI left) (nI T) rec k) F S0 (nI left) (nI 0) = k S' (nI (left - sm (prt left T run) 8)) ∧ PrtF S0 S' ∧ S' 2 = S0 2 ∧ S' 14 = S0 14 ∧ (∀ c, c < 8 → S' 13 c = nI (prt left T run c)) ∧ (∀ c, c < 8 → S' 15 c = ec (kK left T run c)) := by
  obtain ⟨ho1, ho2, ho3⟩ := over_ok (left := left) hT hrT
  obtain ⟨t, ⟨S', h1, h2⟩, he⟩ := lp_inv (z := fun _ _ _ => none) (f := fun rec => k5_divideByMiles_B19 F (nI left) (nI T) rec k) (fun (s : SS × Nat) g => g s.1 (nI (left - sm (prt left T run) s.2)) (nI s.2))
    (fun s => (PrtF S0 s.1 ∧ s.1 2 = S0 2 ∧ s.1 14 = S0 14 ∧ (∀ c, c < s.2 → s.1 13 c = nI (prt left T run c)) ∧ (∀ c, c < s.2 → s.1 15 c = ec (kK left T run c))) ∧ s.2 ≤ 8) (fun s => 8 - s.2)
    (fun r => ∃ S', r = k S' (nI (left - sm (prt left T run) 8)) ∧ PrtF S0 S' ∧ S' 2 = S0 2 ∧ S' 14 = S0 14 ∧ (∀ c, c < 8 → S' 13 c = nI (prt left T run c)) ∧ (∀ c, c < 8 → S' 15 c = ec (kK left T run c))) (by
    rintro ⟨S, j⟩ ⟨⟨k1, k2, k3, k4, k5⟩, hj⟩
    dsimp only at k1 k2 k3 k4 k5 hj
    by_cases h : j = 8
    · subst h
      refine Or.inr ⟨_, ⟨S, rfl, k1, k2, k3, k4, k5⟩, fun rec => ?_⟩
      dsimp only [k5_divideByMiles_B19]
      rw [l8, if_pos (nI_le (Nat.le_refl 8) (by omega))]
    · have hj : j < 8 := by omega
      have hrj : run j ≤ T := by rw [← hrT]; exact sm_part hj
      have hprod : left * run j ≤ 1000000 * 1000000 := Nat.mul_le_mul hl (by omega)
      have hpj : prt left T run j ≤ left := Nat.le_trans (sm_part hj) ho1
      have hsj : sm (prt left T run) (j + 1) ≤ left := by
        have : sm (prt left T run) (j + 1) ≤ sm (prt left T run) 8 := by
          have key : ∀ n, sm (prt left T run) (j + 1) ≤ sm (prt left T run) (j + 1 + n) := by
            intro n
            induction n with
            | zero => exact Nat.le_refl _
            | succ n ih => exact Nat.le_trans ih (by show _ ≤ sm _ (j + 1 + n) + _; omega)
          have := key (7 - j)
          rwa [show j + 1 + (7 - j) = 8 by omega] at this
        omega
      have hmod : left * run j % T < T := Nat.mod_lt _ (by omega)
      refine Or.inl ⟨(st (st S 13 j (nI (prt left T run j))) 15 j (nI (rem left T run j)), j + 1), ⟨⟨k1.tr (PrtF.tr PrtF.st13 PrtF.st15), ?_, ?_, fun c hc => ?_, fun c hc => ?_⟩, by dsimp only; omega⟩, by dsimp only; omega, fun rec => ?_⟩
      · dsimp only; rw [st_o (by decide), st_o (by decide)]; exact k2
      · dsimp only; rw [st_o (by decide), st_o (by decide)]; exact k3
      · dsimp only at hc ⊢
        rw [st_o (by decide), st_st]
        by_cases q : c = j
        · rw [if_pos q, q]
        · rw [if_neg q]; exact k4 c (by omega)
      · dsimp only at hc ⊢
        rw [st_st]
        by_cases q : c = j
        · rw [if_pos q, q]; exact (ec_s _).symm
        · rw [if_neg q, st_o (by decide)]; exact k5 c (by omega)
      · dsimp only [k5_divideByMiles_B19]
        simp only [bnd_e]
        rw [l8, if_neg (nI_ge hj (by omega)), rdA_n hj (by omega), some_b, k3, hr j hj, nI_l (by omega), nI_l (by omega), nI_l (by omega), lN_mul, ckL_y hT (by omega), some_b, ckA_n hj (by omega), some_b, some_b, some_b, pk_lRem (a := left * run j) (b := T) (by omega) (by omega) (by omega), lN_i, pk_lDiv (a := left * run j) (b := T) (by omega) (by omega) (by omega), lN_i, clN (by omega), rdA_n hj (by omega), some_b, st_o (by decide), st_st, if_pos rfl, sbN (show left * run j / T ≤ left - sm (prt left T run) j by have : sm (prt left T run) (j + 1) = sm (prt left T run) j + left * run j / T := rfl; omega), nI_1]
        congr 2
        show left - sm (prt left T run) j - left * run j / T = left - (sm (prt left T run) j + left * run j / T)
        omega) F (S0, 0) ⟨⟨PrtF.rf, rfl, rfl, fun c hc => absurd hc (Nat.not_lt_zero c), fun c hc => absurd hc (Nat.not_lt_zero c)⟩, by dsimp only; omega⟩ (by dsimp only; omega)
  exact ⟨S', by rw [← h1]; exact he, h2⟩
theorem divm2 {F : Nat} (hF : 8 < F) {over : Nat} (ho : over ≤ 8) : ∀ (n m j : Nat) (S : SS) (p k : Nat → Nat), j + n = over → n < m → (∀ c, c < 8 → S 13 c = nI (p c)) → (∀ c, c < 8 → S 15 c = ec (k c)) → (∀ c, c < 8 → k c < 2000000000) →
    ∃ S', lpN (fun _ _ => none) (fun rec => k5_divideByMiles_B84 F (nI over) rec) m S (nI j) = some (1, S') ∧ PrtF S S' ∧ S' 2 = S 2 ∧ S' 14 = S 14 ∧ ∀ c, c < 8 → S' 13 c = nI ((gv n p k).1 c) := by
  intro n
  induction n with
  | zero =>
    intro m j S p k hj hm hp hk hb
    obtain ⟨m, rfl⟩ : ∃ q, m = q + 1 := ⟨m - 1, by omega⟩
    refine ⟨S, ?_, PrtF.rf, rfl, rfl, hp⟩
    show k5_divideByMiles_B84 F (nI over) (lpN _ _ m) S (nI j) = _
    unfold k5_divideByMiles_B84
    rw [if_pos (nI_le (show over ≤ j by omega) (by omega))]
    split <;> rfl
  | succ n ih =>
    intro m j S p k hj hm hp hk hb
    obtain ⟨m, rfl⟩ : ∃ q, m = q + 1 := ⟨m - 1, by omega⟩
    obtain ⟨S1, s1, s2, s3, s4, s5, s6⟩ := giveK hF hp hk hb
    obtain ⟨S', t1, t2, t3, t4, t5⟩ := ih m (j + 1) S1 (gvP p k) (gvK k) (by omega) (by omega) s5 s6 (fun c hc => by unfold gvK; split; omega; exact hb c hc)
    refine ⟨S', ?_, s2.tr t2, t3.trans s3, t4.trans s4, t5⟩
    show k5_divideByMiles_B84 F (nI over) (lpN _ _ m) S (nI j) = _
    have hB : ∀ rec, k5_divideByMiles_B84 F (nI over) rec S (nI j) = rec S1 (nI (j + 1)) := by
      intro rec
      unfold k5_divideByMiles_B84
      rw [l8, if_neg (nI_ge (by omega) (by omega)), if_neg (nI_ge (by omega) (by omega)), s1, some_b, bnd_e, nI_1]
    rw [hB]
    exact t1
theorem divm {F : Nat} (hF : 8 < F) {left T : Nat} {run : Nat → Nat} (hT : 1 ≤ T) (hT2 : T ≤ 1000000) (hl : left ≤ 1000000) (hrT : sm run 8 = T) {S0 : SS} (hr : ∀ c, c < 8 → S0 14 c = nI (run c)) :
    ∃ S', k5_divideByMiles F S0 (nI left) = some (1, S') ∧ PrtF S0 S' ∧ S' 2 = S0 2 ∧ ∀ c, c < 8 → S' 13 c = nI (gvn left T run c) := by
  obtain ⟨ho1, ho2, ho3⟩ := over_ok (left := left) hT hrT
  obtain ⟨S1, s1, s2, s3, s4, s5, s6⟩ := divm1 hF hT hT2 hl hrT hr (fun S_18 x3_18 => bnd ((0 : Int32)) fun x4_19 => lpN (fun _ _ => none) (fun rec84 => k5_divideByMiles_B84 F (x3_18) rec84) F S_18 (x4_19))
  obtain ⟨S2, t1, t2, t3, t4, t5⟩ := divm2 hF (over := left - sm (prt left T run) 8) (by omega) (left - sm (prt left T run) 8) F 0 S1 (prt left T run) (kK left T run) (by omega) (by omega) s5 s6 (fun c hc => by
    have : left * run c % T < T := Nat.mod_lt _ (by omega)
    show left * run c % T + 1 < 2000000000
    omega)
  refine ⟨S2, ?_, s2.tr t2, t3.trans s3, t5⟩
  unfold k5_divideByMiles
  rw [sum14 hF hr, some_b, hrT, bnd_e, l0, if_pos (nI_lt (by omega) (by omega)), bnd_e, bnd_e]
  exact s1.trans t1
theorem divideK_y {F : Nat} (hF : 24 < F) {N : Nat} {A B C L : Nat → Nat} {d : Nat → Nat → Nat} (hP : NetP N A B C L d) {S : SS} (hK : NetK S N A B C L d) {u v s : Nat} (hu : u < 12) (hv : v < 12) (hne : u ≠ v) (hf : d u v < 1000000) (hs : s ≤ 1000000) :
    ∃ S', k5_divide F S (nI u) (nI v) (nI s) = some (1, S') ∧ PrtF S S' ∧ ∀ c, c < 8 → S' 13 c = nI (PTs A B C L d N u v s c) := by
  obtain ⟨S1, l, w, s1, s2, s3, s4, s5, s6, s7, s8, s9⟩ := travel_y hF hP hK hu hv hne hf
  have hd1 : 1 ≤ d u v := by
    obtain ⟨l', w', -, hl', -, -, hd'⟩ := rt_ex hP hu hv hne hf
    obtain ⟨-, -, -, g4, -⟩ := hP.2.1 l' hl'
    omega
  obtain ⟨S2, t1, t2, t3, t4⟩ := divm (F := F) (by omega) (left := s - 2 * (s / 10)) hd1 (by omega) (by omega) s9 s6
  have hC := hP.2.2.1 l s4
  have hC2 := hP.2.2.1 _ s8
  have hgs := gvn_sum (left := s - 2 * (s / 10)) hd1 s9
  have hg1 := sm_part (f := gvn (s - 2 * (s / 10)) (d u v) (pth A B C L d N v 11 u (fun _ => 0) 0).1) (n := 8) hC
  have q24 : S2 2 4 = nI (C l) := by rw [t3]; exact s5
  have q25 : S2 2 5 = nI (C (pth A B C L d N v 11 u (fun _ => 0) 0).2) := by rw [t3]; exact s7
  generalize hlast : (pth A B C L d N v 11 u (fun _ => 0) 0).2 = last at *
  generalize hrun : (pth A B C L d N v 11 u (fun _ => 0) 0).1 = run at *
  obtain ⟨S3, eS3⟩ : ∃ z, z = st S2 13 (C l) (nI (gvn (s - 2 * (s / 10)) (d u v) run (C l) + s / 10)) := ⟨_, rfl⟩
  have q13 : ∀ c, c < 8 → S3 13 c = nI (addAt (gvn (s - 2 * (s / 10)) (d u v) run) (C l) (s / 10) c) := by
    intro c hc
    rw [eS3, st_st]
    by_cases q : c = C l
    · rw [if_pos q, q, addAt_s]
    · rw [if_neg q, addAt_o q]; exact t4 c hc
  have q25' : S3 2 5 = nI (C last) := by rw [eS3, st_o (by decide)]; exact q25
  have hpt : PTs A B C L d N u v s = addAt (addAt (gvn (s - 2 * (s / 10)) (d u v) run) (C l) (s / 10)) (C last) (s / 10) := by
    unfold PTs PT
    rw [hlast, hrun, s3]
  refine ⟨st S3 13 (C last) (nI (addAt (gvn (s - 2 * (s / 10)) (d u v) run) (C l) (s / 10) (C last) + s / 10)), ?_, s2.tr (t2.tr (PrtF.tr (by rw [eS3]; exact PrtF.st13) PrtF.st13)), fun c hc => ?_⟩
  · unfold k5_divide
    simp only [bnd_e]
    rw [l0, lM, isW_y (by omega) hs (by omega), some_b, if_neg (show ¬ (1 : Int32) = nI 0 from z10), s1, ob2_s, if_neg (show ¬ (1 : Int32) = nI 0 from z10), l10, pk_div (by omega) (by omega) (by omega), l2, mulN, sbN (by omega), t1, ob2_s, if_neg (show ¬ (1 : Int32) = nI 0 from z10), q24, rdA_n hC (by omega), some_b, ckA_n hC (by omega), some_b, t4 (C l) hC, nI_add, clN (by omega), ← eS3, q25', rdA_n hC2 (by omega), some_b, ckA_n hC2 (by omega), some_b, q13 (C last) hC2, nI_add, clN (by omega)]
  · rw [st_st, hpt]
    by_cases q : c = C last
    · rw [if_pos q, q]; exact congrArg nI addAt_s.symm
    · rw [if_neg q, addAt_o q]; exact q13 c hc
theorem divideK_n {F : Nat} (hF : 24 < F) {N : Nat} {A B C L : Nat → Nat} {d : Nat → Nat → Nat} (hP : NetP N A B C L d) {S : SS} (hK : NetK S N A B C L d) {x1 x2 x3 : Int32} (h : (x3 < nI 0 ∨ nI 1000000 < x3) ∨ ¬ ∃ u v, u < 12 ∧ v < 12 ∧ x1 = nI u ∧ x2 = nI v ∧ u ≠ v ∧ d u v < 1000000) :
    ∃ S', k5_divide F S x1 x2 x3 = some (0, S') ∧ PrtF S S' := by
  rcases rng2 x3 0 1000000 (by omega) with ⟨s, -, hs, rfl⟩ | h3
  · have h := h.resolve_left (fun q => q.elim (nI_nn (by omega)) (nI_nlt (by omega) (by omega)))
    obtain ⟨S1, s1, s2⟩ := travel_n hF hP hK h
    refine ⟨S1, ?_, s2⟩
    unfold k5_divide
    rw [l0, lM, isW_y (by omega) hs (by omega), some_b, if_neg (show ¬ (1 : Int32) = nI 0 from z10), s1, ob2_s, if_pos (show (0 : Int32) = nI 0 from rfl)]
  · refine ⟨S, ?_, PrtF.rf⟩
    unfold k5_divide
    rw [l0, lM, isW_n h3, some_b, if_pos (show (0 : Int32) = nI 0 from rfl)]

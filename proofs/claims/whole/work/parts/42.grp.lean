/-! the first group -/
theorem least_ex {P : Nat → Prop} (n : Nat) (h : P n) : ∃ g, P g ∧ ∀ j, j < g → ¬ P j := by
  induction n using Nat.strongRecOn with
  | ind n ih =>
    by_cases q : ∃ i, i < n ∧ P i
    · obtain ⟨i, hi, hP⟩ := q
      exact ih i hi hP
    · exact ⟨n, h, fun i hi hP => q ⟨i, hi, hP⟩⟩
def FG (f : Nat → Int) (al left lo g : Nat) : Prop := g.testBit lo = true ∧ Sub g left ∧ sS f g = 0 ∧ Rr f al (nd left g) + 1 = Rr f al left
theorem FG_c {f : Nat → Int} {al left lo g : Nat} (ha : al < 256) (hk : okS f al left) (hl : left < 256) (h2 : Sub g left) (h3 : sS f g = 0) : (Cc f (nd left g) + 1 = Cc f left) ↔ Rr f al (nd left g) + 1 = Rr f al left := by
  have h1 := C_R ha 256 left hl hk
  have h2 := C_R ha 256 (nd left g) (Nat.lt_of_le_of_lt nd_le hl) (hk.nd ha h2 h3)
  omega
/-- the class finds it -/
theorem firstK {F : Nat} (hF : 300 < F) {f : Nat → Int} (hf : Bal f) {S : SS} (hw : WG f S) {left lo g : Nat} (hk : okS f (alk f 8) left) (hlo : lo < 8) (hlow : nI left &&& (- nI left) = nI (2 ^ lo)) (hg : FG f (alk f 8) left lo g) (hmin : ∀ j, j < g → ¬ FG f (alk f 8) left lo j) :
    k1_firstGroup F S (nI left) = some (nI g) := by
  have ha := alk_lt (f := f) 8 (Nat.le_refl 8)
  have hl := sub_lt hk.1 ha
  obtain ⟨g1, g2, g3, g4⟩ := hg
  have hgl := Nat.le_of_testBit g2
  have hg2 : 2 ^ lo ≤ g := Nat.ge_two_pow_of_testBit g1
  have hp := p2_lt lo hlo
  unfold k1_firstGroup
  simp only [bnd_e]
  rw [hlow]
  have key : ∀ x rec, x < 256 → 2 ^ lo ≤ x → k1_firstGroup_B7 F S (nI left) (nI (2 ^ lo)) rec (nI x) = if nI left ≤ nI x then some (nI left) else if x.testBit lo = true ∧ nd x left = 0 ∧ sS f x = 0 ∧ Cc f (nd left x) + 1 = Cc f left then some (nI x) else rec (nI (x + 1)) := by
    intro x rec hx hx2
    have hnd : nd x left < 2147483648 := by have := nd_le (a := x) (b := left); omega
    have hand : x &&& 2 ^ lo < 2147483648 := by have := Nat.and_le_left (n := x) (m := 2 ^ lo); omega
    unfold k1_firstGroup_B7 k1_firstGroup_B7_J30 k1_firstGroup_B7_J31
    simp only [bnd_e]
    by_cases q0 : nI left ≤ nI x
    · rw [if_pos q0, if_pos q0]
    · rw [if_neg q0, if_neg q0, ndN, andN, nI_1]
      by_cases q1 : nd x left = 0
      · have hs := (nd_0 hx).mp q1
        have hsa := hs.tr hk.1
        rw [if_pos ((nI0 hnd).mpr q1)]
        by_cases q2 : x.testBit lo = true
        · rw [if_neg (fun z => by rw [and0.mp ((nI0 hand).mp z)] at q2; cases q2), if_neg z10, rdA_n hx (by omega), some_b, hw.2.2 x hsa (fun z => by rw [z, Nat.zero_testBit] at q2; cases q2)]
          by_cases q3 : sS f x = 0
          · have hc1 := Bal.c1 (f := f) (h := nd left x) (Nat.lt_of_le_of_lt nd_le hl)
            have hc2 := Bal.c1 (f := f) hl
            rw [if_pos (hf.zS.mpr q3), xorN, xor_nd hs hl, rdA_n (Nat.lt_of_le_of_lt nd_le hl) (by omega), some_b, rdA_n hl (by omega), some_b, hw.2.1 _ ((nd_sub hl).tr hk.1), hw.2.1 _ hk.1, nI_1]
            by_cases q4 : Cc f (nd left x) + 1 = Cc f left
            · rw [if_pos (by rw [q4]), if_pos ⟨q2, q1, q3, q4⟩]
            · rw [if_neg (fun z => q4 ((nI_eq (by omega) (by omega)).mp z)), if_neg (fun z => q4 z.2.2.2)]
          · rw [if_neg (fun z => q3 (hf.zS.mp z)), if_neg (fun z => q3 z.2.2.1)]
        · have q2' : x.testBit lo = false := by cases e : x.testBit lo; rfl; exact absurd e q2
          rw [if_pos ((nI0 hand).mpr (and0.mpr q2')), if_pos trivial, if_neg (fun z => q2 z.1)]
      · rw [if_neg (fun z => q1 ((nI0 hnd).mp z)), if_pos trivial, if_neg (fun z => q1 z.2.1)]
  refine (lp_seq (z := fun _ => none) (f := fun rec => k1_firstGroup_B7 F S (nI left) (nI (2 ^ lo)) rec) (fun (j : Nat) g => g (nI (2 ^ lo + j))) (fun j => j) (g - 2 ^ lo) (some (nI g)) (fun j hj rec => ?_) (fun rec => ?_) (F := F) (Nat.lt_of_le_of_lt (Nat.sub_le g (2 ^ lo)) (by omega)))
  · rw [key _ _ (by omega) (by omega), if_neg (nI_ge (by omega) (by omega)), if_neg (fun z => hmin (2 ^ lo + j) (by omega) ⟨z.1, (nd_0 (by omega)).mp z.2.1, z.2.2.1, (FG_c (lo := lo) ha hk hl ((nd_0 (by omega)).mp z.2.1) z.2.2.1).mp z.2.2.2⟩)]
    rfl
  · rw [show 2 ^ lo + (g - 2 ^ lo) = g by omega, key g rec (by omega) hg2]
    by_cases q : g = left
    · rw [if_pos (by rw [q]; exact Int32.le_refl _), q]
    · rw [if_neg (nI_ge (by omega) (by omega)), if_pos ⟨g1, (nd_0 (by omega)).mpr g2, g3, (FG_c (lo := lo) ha hk hl g2 g3).mpr g4⟩]
/-- the reference finds it -/
theorem firstM {F : Nat} (hF : 300 < F) {f : Nat → Int} (hf : Bal f) {al : Nat} (ha : al < 256) {M : SM} (h19 : ∀ x, x < 8 → M.1 19 x = iI (f x)) (h20 : ∀ g, g < 256 → M.1 20 g = ec (Rr f al g)) {left lo g : Nat} (hk : okS f al left) (hlo : lo < 8) (hg : FG f al left lo g) (hmin : ∀ j, j < g → ¬ FG f al left lo j) {x1 : Int32} (k : Int32 → Option (Int32 × SM)) :
    lpN (fun _ => none) (fun rec => k8_group_B37 F M x1 (nI left) (nI lo) rec k) F (nI 1) = k (nI g) := by
  have hl := sub_lt hk.1 ha
  obtain ⟨g1, g2, g3, g4⟩ := hg
  have hgl := Nat.le_of_testBit g2
  have hg2 : 2 ^ lo ≤ g := Nat.ge_two_pow_of_testBit g1
  have hg0 : g ≠ 0 := fun z => by rw [z, Nat.zero_testBit] at g1; cases g1
  have key : ∀ x rec, x < 256 → k8_group_B37 F M x1 (nI left) (nI lo) rec k (nI x) = if x.testBit lo = true ∧ nd x left = 0 ∧ sS f x = 0 ∧ Rr f al (nd left x) + 1 = Rr f al left then k (nI x) else rec (nI (x + 1)) := by
    intro x rec hx
    have hnd : nd x left < 2147483648 := by have := nd_le (a := x) (b := left); omega
    unfold k8_group_B37
    simp only [bnd_e]
    rw [ndN, ndN, nI_1, shr1 x hx lo hlo]
    by_cases q1 : nd x left = 0
    · have hs := (nd_0 hx).mp q1
      rw [if_pos ((nI0 hnd).mpr q1)]
      by_cases q2 : x.testBit lo = true
      · rw [if_pos q2, if_neg z10, sumOfM (by omega) hf h19 hx, some_b]
        by_cases q3 : sS f x = 0
        · have hnl : nd left x < 256 := Nat.lt_of_le_of_lt nd_le hl
          have hr := Rr_bd (f := f) ha hl
          have hr2 := Rr_bd (f := f) ha hnl
          have hr1 := Rr_1 ha (hk.nd ha hs q3)
          rw [if_pos (hf.zL.mpr q3), rdA_n hnl (by omega), some_b, rdA_n hl (by omega), some_b, h20 _ hnl, h20 _ hl, ec_add (by omega)]
          by_cases q4 : Rr f al (nd left x) + 1 = Rr f al left
          · rw [if_pos (by rw [q4]), if_pos ⟨q2, q1, q3, q4⟩]
          · rw [if_neg (fun z => q4 ((ec_inj (by omega) (by omega)).mp z)), if_neg (fun z => q4 z.2.2.2)]
        · rw [if_neg (fun z => q3 (hf.zL.mp z)), if_neg (fun z => q3 z.2.2.1)]
      · rw [if_neg q2, if_pos rfl, if_neg (fun z => q2 z.1)]
    · rw [if_neg (fun z => q1 ((nI0 hnd).mp z)), if_neg (fun z => q1 z.2.1)]
  refine (lp_seq (z := fun _ => none) (f := fun rec => k8_group_B37 F M x1 (nI left) (nI lo) rec k) (fun (j : Nat) g => g (nI (1 + j))) (fun j => j) (g - 1) (k (nI g)) (fun j hj rec => ?_) (fun rec => ?_) (F := F) (by omega))
  · rw [key _ _ (by omega), if_neg (fun z => hmin (1 + j) (by omega) ⟨z.1, (nd_0 (by omega)).mp z.2.1, z.2.2⟩)]
    rfl
  · rw [show 1 + (g - 1) = g by omega, key g rec (by omega), if_pos ⟨g1, (nd_0 (by omega)).mpr g2, g3, g4⟩]
/-! group by group -/
theorem pcs_sub {g h : Nat} (hs : Sub g h) (hh : h < 256) : ∀ k, pcs (nd h g) k + pcs g k = pcs h k
  | 0 => rfl
  | k + 1 => by
    have ih := pcs_sub hs hh k
    unfold pcs
    rw [nd_t hh]
    cases e : g.testBit k
    · cases e2 : h.testBit k <;> simp <;> omega
    · rw [hs k e]; simp; omega
theorem pcs_pos {h c : Nat} (hb : h.testBit c = true) : ∀ k, c < k → 1 ≤ pcs h k
  | 0, hc => absurd hc (Nat.not_lt_zero c)
  | k + 1, hc => by
    unfold pcs
    by_cases q : c = k
    · subst q; rw [if_pos hb]; omega
    · have := pcs_pos hb k (by omega); omega
theorem pcs_le (h : Nat) : ∀ k, pcs h k ≤ k
  | 0 => Nat.le_refl 0
  | k + 1 => by have := pcs_le h k; unfold pcs; split <;> omega
theorem grpLoop {F : Nat} (hF : 300 < F) {f : Nat → Int} (hf : Bal f) {S : SS} (hw : WG f S) {M : SM} (h19 : ∀ x, x < 8 → M.1 19 x = iI (f x)) (h20 : ∀ g, g < 256 → M.1 20 g = ec (Rr f (alk f 8) g)) {c : Nat} (hc : c < 8) :
    ∀ (n left round m1 m2 : Nat), left < n → n ≤ m1 → n ≤ m2 → okS f (alk f 8) left → pcs left 8 + round ≤ 8 → ∃ r, lpN (fun _ _ => none) (fun rec => k1_groupWith_B12 F S (nI (2 ^ c)) rec) m1 (nI left) (nI round) = some r ∧ lpN (fun _ => none) (fun rec => k8_group_B14 F M (nI c) rec) m2 (nI left) = some (r, M) := by
  have ha := alk_lt (f := f) 8 (Nat.le_refl 8)
  intro n
  induction n with
  | zero => intro left _ _ _ h; exact absurd h (Nat.not_lt_zero left)
  | succ n ih =>
    intro left round m1 m2 hn h1 h2 hk hpc
    obtain ⟨m1, rfl⟩ : ∃ q, m1 = q + 1 := ⟨m1 - 1, by omega⟩
    obtain ⟨m2, rfl⟩ : ∃ q, m2 = q + 1 := ⟨m2 - 1, by omega⟩
    have hl := sub_lt hk.1 ha
    show ∃ r, k1_groupWith_B12 F S (nI (2 ^ c)) (lpN (fun _ _ => none) (fun rec => k1_groupWith_B12 F S (nI (2 ^ c)) rec) m1) (nI left) (nI round) = some r ∧ k8_group_B14 F M (nI c) (lpN (fun _ => none) (fun rec => k8_group_B14 F M (nI c) rec) m2) (nI left) = some (r, M)
    by_cases h0 : left = 0
    · subst h0
      refine ⟨0, ?_, ?_⟩
      · unfold k1_groupWith_B12
        by_cases q : 8 ≤ round
        · rw [l8, if_pos (nI_le q (by omega))]
        · rw [l8, if_neg (nI_ge (by omega) (by omega)), if_pos (show nI 0 = 0 from rfl)]
      · unfold k8_group_B14; rw [if_pos (show nI 0 = 0 from rfl)]
    · obtain ⟨lo, l1', l2', l3', l4'⟩ := low1 left hl h0
      obtain ⟨g0, e1, e2, e3, e4⟩ := Rr_with ha 256 left hl hk l2'
      obtain ⟨g, hg, hmin⟩ := least_ex (P := FG f (alk f 8) left lo) g0 ⟨e1, e2, e3, e4⟩
      have hg1 := hg
      obtain ⟨g1, g2, g3, g4⟩ := hg1
      have hgl := Nat.le_of_testBit g2
      have hg0 : g ≠ 0 := fun z => by rw [z, Nat.zero_testBit] at g1; cases g1
      have hp1 := pcs_pos l2' 8 l1'
      have hp2 := pcs_pos g1 8 l1'
      have hps := pcs_sub g2 hl 8
      have hnl := nd_lt hl g2 hg0
      have hp := p2_lt c hc
      have hand : g &&& 2 ^ c < 2147483648 := by have := Nat.and_le_left (n := g) (m := 2 ^ c); omega
      have eK : ∀ rec, k1_groupWith_B12 F S (nI (2 ^ c)) rec (nI left) (nI round) = if g.testBit c = true then some (nI g) else rec (nI (nd left g)) (nI (round + 1)) := by
        intro rec
        unfold k1_groupWith_B12
        simp only [bnd_e]
        rw [l8, if_neg (nI_ge (by omega) (by omega)), if_neg (fun z => h0 ((nI0 (by omega)).mp z)), firstK hF hf hw hk l1' l4' hg hmin, some_b, andN, ndN, nI_1]
        by_cases q : g.testBit c = true
        · rw [if_neg (fun z => by rw [and0.mp ((nI0 hand).mp z)] at q; cases q), if_pos q]
        · have q' : g.testBit c = false := by cases e : g.testBit c; rfl; exact absurd e q
          rw [if_pos ((nI0 hand).mpr (and0.mpr q')), if_neg q]
      have eM : ∀ rec, k8_group_B14 F M (nI c) rec (nI left) = if g.testBit c = true then some (nI g, M) else rec (nI (nd left g)) := by
        intro rec
        unfold k8_group_B14
        simp only [bnd_e]
        rw [if_neg (fun z => h0 ((nI0 (by omega)).mp z))]
        refine (lp_seq (z := fun _ => none) (f := fun rec20 => k8_group_B20 F M (nI c) (nI left) rec20 _) (fun (j : Nat) g => g (nI j)) (fun j => j) lo _ (fun j hj rec' => ?_) (fun rec' => ?_) (F := F) (by omega))
        · unfold k8_group_B20
          simp only [bnd_e]
          rw [shr1 left hl j (by omega), l3' j hj, if_pos (by decide), nI_1]
        · unfold k8_group_B20
          rw [shr1 left hl lo l1', if_pos l2', if_neg z10]
          refine (firstM (by omega) hf ha h19 h20 hk l1' hg hmin _).trans ?_
          rw [shr1 g (by omega) c hc, ndN]
          by_cases q : g.testBit c = true
          · rw [if_pos q, if_pos rfl, if_pos q]
          · rw [if_neg q, if_neg (by decide), if_neg q]
      rw [eK, eM]
      by_cases q : g.testBit c = true
      · rw [if_pos q, if_pos q]; exact ⟨_, rfl, rfl⟩
      · rw [if_neg q, if_neg q]
        exact ih (nd left g) (round + 1) m1 m2 (by omega) (by omega) (by omega) (hk.nd ha g2 g3) (by omega)
theorem step_group {F : Nat} (hF : 1000000000 < F) {n : Nat} (hn : n ≤ 512) {S : SS} {M : SM} (h : Inv n S M) (x1 : Int32) : BthS n (k7_group F S x1) (k8_group F M x1) := by
  obtain ⟨p, hp, hK, hM⟩ := h
  rcases rng x1 8 (by omega) with ⟨c, hc, rfl⟩ | q
  · have hf := bal_ok hp hn
    obtain ⟨S1, a1, a2, a3⟩ := strikeK hF hp hK
    obtain ⟨S2, c1, c2, c3⟩ := weighK (F := F) (by omega) hf a3 a2.z28
    obtain ⟨M', b1, b2, b3, b4⟩ := grpM hF hp hM hf
    have ha := alk_lt (f := p.bal) 8 (Nat.le_refl 8)
    obtain ⟨r, d1, d2⟩ := grpLoop (F := F) (by omega) hf c2 b3 b4 hc 256 (alk p.bal 8) 0 F F ha (by omega) (by omega) hf.ok (by have := pcs_le (alk p.bal 8) 8; omega)
    have eK : k7_group F S (nI c) = some (r, S2) := by
      unfold k7_group k1_groupWith
      simp only [bnd_e]
      rw [isC_y hc, some_b, if_neg z10, a1, some_b, c1, some_b, shl1 c hc, c2.1]
      rw [show lpN (fun _ _ => none) (fun rec12 => k1_groupWith_B12 F S2 (nI (2 ^ c)) rec12) F (nI (alk p.bal 8)) 0 = some r from d1, some_b]
    have eM : k8_group F M (nI c) = some (r, M') := by
      unfold k8_group
      simp only [bnd_e]
      rw [cM_y hc, some_b, if_neg z10, b1, ob2_s]
      exact d2
    exact BthS.same hp (a2.wg c3 c2) b2 eK eM
  · unfold k7_group k8_group
    rw [isC_n q, some_b, if_pos rfl, cM_n q, some_b, if_pos rfl]
    exact BthS.same hp hK hM rfl rfl

/-! the members -/
def alk (f : Nat → Int) : Nat → Nat
  | 0 => 0
  | c + 1 => if f c = 0 then alk f c else alk f c ||| 2 ^ c
theorem alk_t {f : Nat → Int} : ∀ (k i : Nat), (alk f k).testBit i = true ↔ (i < k ∧ f i ≠ 0)
  | 0, i => by
    unfold alk; rw [Nat.zero_testBit]
    exact ⟨fun z => (by cases z), fun z => absurd z.1 (Nat.not_lt_zero i)⟩
  | k + 1, i => by
    have ih := alk_t (f := f) k i
    unfold alk
    by_cases q : f k = 0
    · rw [if_pos q, ih]
      exact ⟨fun z => ⟨by omega, z.2⟩, fun z => ⟨Nat.lt_of_le_of_ne (by omega) (fun e => z.2 (by rw [e]; exact q)), z.2⟩⟩
    · rw [if_neg q, Nat.testBit_or, Bool.or_eq_true, ih, Nat.testBit_two_pow]
      constructor
      · rintro (z | z)
        · exact ⟨by omega, z.2⟩
        · have := of_decide_eq_true z
          subst this
          exact ⟨by omega, q⟩
      · intro z
        by_cases e : i = k
        · right; rw [e]; exact decide_eq_true rfl
        · exact Or.inl ⟨by omega, z.2⟩
theorem alk_lt {f : Nat → Int} (k : Nat) (hk : k ≤ 8) : alk f k < 256 := by
  refine Nat.lt_pow_two_of_testBit (n := 8) _ fun i hi => ?_
  cases e : (alk f k).testBit i
  · rfl
  · have := (alk_t k i).mp e; omega
theorem al_sum {f : Nat → Int} : sS f (alk f 8) = si f 8 := by
  unfold sS
  refine si_cong fun k hk => ?_
  by_cases q : f k = 0
  · rw [if_neg (fun z => ((alk_t 8 k).mp z).2 q), q]
  · rw [if_pos ((alk_t 8 k).mpr ⟨hk, q⟩)]
/-- the balances that both weigh -/
def Bal (f : Nat → Int) : Prop := si f 8 = 0 ∧ L1 f 8 < 2147483648
theorem Bal.one {f : Nat → Int} (h : Bal f) {c : Nat} (hc : c < 8) : (f c).natAbs < 2147483648 := by
  have h1 := sm_part (f := fun c => (f c).natAbs) (n := 8) hc
  have h2 := h.2
  unfold L1 at h2
  omega
theorem Bal.z1 {f : Nat → Int} (h : Bal f) {c : Nat} (hc : c < 8) : iI (f c) = 0 ↔ f c = 0 := by
  have := h.one hc
  exact iI_0 (by omega) (by omega)
theorem Bal.zS {f : Nat → Int} (h : Bal f) {g : Nat} : iI (sS f g) = 0 ↔ sS f g = 0 := by
  have h1 := sSp_bd (f := f) (h := g) (k := 8) (Nat.le_refl 8)
  have h2 := h.2
  have e : sS f g = si (fun c => if g.testBit c = true then f c else 0) 8 := rfl
  exact iI_0 (by omega) (by omega)
theorem Bal.ok {f : Nat → Int} (h : Bal f) : okS f (alk f 8) (alk f 8) := ⟨Sub.rf, by rw [al_sum]; exact h.1⟩
theorem Bal.c1 {f : Nat → Int} {h : Nat} (hh : h < 256) : Cc f h < 256 := Nat.lt_of_le_of_lt (Cc_le 256 h hh hh) hh
theorem mxb_bd {f : Nat → Int} {h k : Nat} (hh : h < 256) : mxb (Cc f) h k < 256 := by
  rcases mxb_ex (m := Cc f) (h := h) (k := k) with e | ⟨c, u, v, w⟩
  · omega
  · rw [w]; exact Bal.c1 (by have := sb_lt v hh; omega)
theorem p2_lt : ∀ c, c < 8 → 2 ^ c < 256 := by decide
theorem nI0 {n : Nat} (h : n < 2147483648) : nI n = 0 ↔ n = 0 := nI_eq (b := 0) h (by decide)
/-! the class weighs -/
theorem weighSetK {F : Nat} (hF : 8 < F) {f : Nat → Int} (hf : Bal f) {S : SS} (h36 : ∀ x, x < 8 → S 36 x = iI (f x)) {h : Nat} (hh : h < 256) (h0 : h ≠ 0) (h28 : ∀ c, h.testBit c = true → S 28 (h ^^^ 2 ^ c) = nI (Cc f (h ^^^ 2 ^ c))) :
    k1_weighSet_36 F S (nI h) = some (st (st S 27 h (iI (sS f h))) 28 h (nI (Cc f h))) := by
  unfold k1_weighSet_36
  simp only [bnd_e]
  refine lp_seq (z := fun _ _ _ => none) (f := fun rec => k1_weighSet_36_B8 F S (nI h) rec _) (fun (j : Nat) g => g (iI (si (fun c => if h.testBit c = true then f c else 0) j)) (nI (mxb (Cc f) h j)) (nI j)) (fun j => j) 8 _ (fun j hj rec => ?_) (fun rec => ?_) hF
  · unfold k1_weighSet_36_B8
    simp only [bnd_e]
    have hp := p2_lt j hj
    have hand : h &&& 2 ^ j < 2147483648 := by have := Nat.and_le_left (n := h) (m := 2 ^ j); omega
    rw [l8, if_neg (nI_ge hj (by omega)), shl1 j hj, andN, nI_1]
    have es : si (fun c => if h.testBit c = true then f c else 0) (j + 1) = si (fun c => if h.testBit c = true then f c else 0) j + (if h.testBit j = true then f j else 0) := rfl
    by_cases q : h.testBit j = true
    · have hl := sb_lt q hh
      have hb := mxb_bd (f := f) (k := j) hh
      have hb2 := Bal.c1 (f := f) (h := h ^^^ 2 ^ j) (by omega)
      rw [if_neg (fun z => by rw [and0.mp ((nI0 hand).mp z)] at q; cases q), rdA_n hj (by omega), some_b, h36 j hj, iI_add, xorN, rdA_n (by omega) (by omega), some_b, h28 j q, es, if_pos q]
      have em : mxb (Cc f) h (j + 1) = if mxb (Cc f) h j < Cc f (h ^^^ 2 ^ j) then Cc f (h ^^^ 2 ^ j) else mxb (Cc f) h j := by
        conv => lhs; unfold mxb
        rw [if_pos q]
      rw [em]
      by_cases q2 : mxb (Cc f) h j < Cc f (h ^^^ 2 ^ j)
      · rw [if_pos q2, if_pos (nI_lt q2 (by omega))]
      · rw [if_neg q2, if_neg (nI_nlt (by omega) (by omega))]
    · have q' : h.testBit j = false := by cases e : h.testBit j; rfl; exact absurd e q
      rw [if_pos ((nI0 hand).mpr (and0.mpr q')), es, if_neg q, Int.add_zero]
      have em : mxb (Cc f) h (j + 1) = mxb (Cc f) h j := by
        conv => lhs; unfold mxb
        rw [if_neg q]
      rw [em]
  · unfold k1_weighSet_36_B8
    rw [l8, if_pos (nI_le (Nat.le_refl 8) (by omega))]
    dsimp only
    rw [ckA_n hh (by omega), some_b, clN (by omega), Cc_n hh h0]
    show (if iI (sS f h) = 0 then _ else _) = _
    by_cases q : sS f h = 0
    · rw [if_pos (hf.zS.mpr q), if_pos q, some_b, nI_1]; rfl
    · rw [if_neg (fun z => q (hf.zS.mp z)), if_neg q, some_b]; rfl
/-- the class's tables are filled -/
def WG (f : Nat → Int) (S : SS) : Prop := S 6 2 = nI (alk f 8) ∧ (∀ h, Sub h (alk f 8) → S 28 h = nI (Cc f h)) ∧ ∀ h, Sub h (alk f 8) → h ≠ 0 → S 27 h = iI (sS f h)
theorem weighK {F : Nat} (hF : 300 < F) {f : Nat → Int} (hf : Bal f) {S : SS} (h36 : ∀ x, x < 8 → S 36 x = iI (f x)) (hz : S 28 0 = 0) :
    ∃ S', k1_weigh_36 F S = some S' ∧ WG f S' ∧ ∀ q, q ≠ 6 → q ≠ 27 → q ≠ 28 → S' q = S q := by
  have loop1 : ∀ k : SS → Option SS, ∃ S1, (S1 6 2 = nI (alk f 8) ∧ ∀ q, q ≠ 6 → S1 q = S q) ∧ lpN (fun _ _ => none) (fun rec => k1_weigh_36_B15 F rec k) F (st S 6 2 0) (nI 0) = k S1 := by
    intro k
    obtain ⟨S1, a, b⟩ := lp_cps (z := fun _ _ => none) (f := fun k rec => k1_weigh_36_B15 F rec k) (fun (s : SS × Nat) g => g s.1 (nI s.2)) (fun (t : SS) k => k t) (fun s => (s.1 6 2 = nI (alk f s.2) ∧ ∀ q, q ≠ 6 → s.1 q = S q) ∧ s.2 ≤ 8) (fun s => 8 - s.2) (fun t => t 6 2 = nI (alk f 8) ∧ ∀ q, q ≠ 6 → t q = S q) (by
      rintro ⟨S1, j⟩ ⟨⟨k1, k2⟩, hj⟩
      dsimp only at k1 k2 hj
      by_cases h : j = 8
      · subst h
        refine Or.inr ⟨S1, ⟨k1, k2⟩, fun k rec => ?_⟩
        dsimp only [k1_weigh_36_B15]
        rw [l8, if_pos (nI_le (Nat.le_refl 8) (by omega))]
      · have hj : j < 8 := by omega
        have e36 : S1 36 j = iI (f j) := by rw [k2 36 (by decide)]; exact h36 j hj
        by_cases q : f j = 0
        · refine Or.inl ⟨(S1, j + 1), ⟨⟨?_, k2⟩, by dsimp only; omega⟩, by dsimp only; omega, fun k rec => ?_⟩
          · dsimp only; unfold alk; rw [if_pos q]; exact k1
          · dsimp only [k1_weigh_36_B15]
            simp only [bnd_e]
            rw [l8, if_neg (nI_ge hj (by omega)), rdA_n hj (by omega), some_b, e36, if_pos ((hf.z1 hj).mpr q), nI_1]
        · refine Or.inl ⟨(st S1 6 2 (nI (alk f j ||| 2 ^ j)), j + 1), ⟨⟨?_, fun q hq => ?_⟩, by dsimp only; omega⟩, by dsimp only; omega, fun k rec => ?_⟩
          · dsimp only; rw [st_st, if_pos rfl]
            conv => rhs; unfold alk
            rw [if_neg q]
          · dsimp only; rw [st_o hq]; exact k2 q hq
          · dsimp only [k1_weigh_36_B15]
            simp only [bnd_e]
            rw [l8, if_neg (nI_ge hj (by omega)), rdA_n hj (by omega), some_b, e36, if_neg (fun z => q ((hf.z1 hj).mp z)), k1, shl1 j hj, orN, nI_1]) F (st S 6 2 0, 0) ⟨⟨by dsimp only; rw [st_st, if_pos rfl]; rfl, fun q hq => by dsimp only; rw [st_o hq]⟩, by dsimp only; omega⟩ (by dsimp only; omega)
    exact ⟨S1, a, b k⟩
  obtain ⟨S1, ⟨a1, a2⟩, a3⟩ := loop1 (fun S_10 => lpN (fun _ _ => none) (fun rec47 => k1_weigh_36_B47 F rec47) F S_10 1)
  have ha := alk_lt (f := f) 8 (Nat.le_refl 8)
  obtain ⟨r, ⟨S', h1, h2, h3, h4, h5⟩, he⟩ := lp_inv (z := fun _ _ => none) (f := fun rec => k1_weigh_36_B47 F rec) (fun (s : SS × Nat) g => g s.1 (nI s.2)) (fun s => (s.1 6 2 = nI (alk f 8) ∧ (∀ h, h < s.2 → Sub h (alk f 8) → s.1 28 h = nI (Cc f h)) ∧ (∀ h, h < s.2 → Sub h (alk f 8) → h ≠ 0 → s.1 27 h = iI (sS f h)) ∧ ∀ q, q ≠ 6 → q ≠ 27 → q ≠ 28 → s.1 q = S q) ∧ 1 ≤ s.2 ∧ s.2 ≤ 256) (fun s => 256 - s.2) (fun r => ∃ S', r = some S' ∧ S' 6 2 = nI (alk f 8) ∧ (∀ h, h < 256 → Sub h (alk f 8) → S' 28 h = nI (Cc f h)) ∧ (∀ h, h < 256 → Sub h (alk f 8) → h ≠ 0 → S' 27 h = iI (sS f h)) ∧ ∀ q, q ≠ 6 → q ≠ 27 → q ≠ 28 → S' q = S q) (by
    rintro ⟨S2, s⟩ ⟨⟨k1, k2, k3, k4⟩, hs1, hs⟩
    dsimp only at k1 k2 k3 k4 hs1 hs
    by_cases h : s = 256
    · subst h
      refine Or.inr ⟨_, ⟨S2, rfl, k1, k2, k3, k4⟩, fun rec => ?_⟩
      dsimp only [k1_weigh_36_B47]
      rw [l256, if_pos (nI_le (Nat.le_refl 256) (by omega))]
    · have hs2 : s < 256 := by omega
      have hnd : nd s (alk f 8) < 2147483648 := by have := nd_le (a := s) (b := alk f 8); omega
      by_cases q : nd s (alk f 8) = 0
      · have hsub := (nd_0 hs2).mp q
        have hw := weighSetK (F := F) (by omega) hf (S := S2) (fun x hx => by rw [k4 36 (by decide) (by decide) (by decide)]; exact h36 x hx) hs2 (by omega) (fun c hc => k2 _ (sb_lt hc hs2) ((sb_sub hc hs2).tr hsub))
        refine Or.inl ⟨(st (st S2 27 s (iI (sS f s))) 28 s (nI (Cc f s)), s + 1), ⟨⟨?_, fun h hh1 hh2 => ?_, fun h hh1 hh2 hh3 => ?_, fun q u1 u2 u3 => ?_⟩, by dsimp only; omega, by dsimp only; omega⟩, by dsimp only; omega, fun rec => ?_⟩
        · dsimp only; rw [st_o (by decide), st_o (by decide)]; exact k1
        · dsimp only at hh1 ⊢
          rw [st_st, st_o (by decide)]
          by_cases e : h = s
          · rw [if_pos e, e]
          · rw [if_neg e]; exact k2 h (by omega) hh2
        · dsimp only at hh1 ⊢
          rw [st_o (by decide), st_st]
          by_cases e : h = s
          · rw [if_pos e, e]
          · rw [if_neg e]; exact k3 h (by omega) hh2 hh3
        · dsimp only; rw [st_o u3, st_o u2]; exact k4 q u1 u2 u3
        · dsimp only [k1_weigh_36_B47]
          simp only [bnd_e]
          rw [l256, if_neg (nI_ge (by omega) (by omega)), k1, ndN, if_pos ((nI0 hnd).mpr q), hw, some_b, nI_1]
      · refine Or.inl ⟨(S2, s + 1), ⟨⟨k1, fun h hh1 hh2 => ?_, fun h hh1 hh2 hh3 => ?_, k4⟩, by dsimp only; omega, by dsimp only; omega⟩, by dsimp only; omega, fun rec => ?_⟩
        · dsimp only at hh1
          exact k2 h (Nat.lt_of_le_of_ne (by omega) (fun e => q ((nd_0 hs2).mpr (by rw [← e]; exact hh2)))) hh2
        · dsimp only at hh1
          exact k3 h (Nat.lt_of_le_of_ne (by omega) (fun e => q ((nd_0 hs2).mpr (by rw [← e]; exact hh2)))) hh2 hh3
        · dsimp only [k1_weigh_36_B47]
          simp only [bnd_e]
          rw [l256, if_neg (nI_ge (by omega) (by omega)), k1, ndN, if_neg (fun z => q ((nI0 hnd).mp z)), nI_1]) F (S1, 1) ⟨⟨a1, fun h hh _ => by
            dsimp only at hh ⊢
            rw [show h = 0 by omega, a2 28 (by decide), Cc_0]; exact hz, fun h hh _ h0 => by dsimp only at hh; omega, fun q u1 _ _ => a2 q u1⟩, by dsimp only; omega, by dsimp only; omega⟩ (by dsimp only; omega)
  refine ⟨S', ?_, ⟨h2, fun h hh => h3 h (sub_lt hh ha) hh, fun h hh h0 => h4 h (sub_lt hh ha) hh h0⟩, h5⟩
  unfold k1_weigh_36
  simp only [bnd_e]
  rw [if_pos (by decide)]
  refine a3.trans ?_
  rw [← h1]; exact he
/-! how many bits -/
def pcs (h : Nat) : Nat → Nat
  | 0 => 0
  | c + 1 => pcs h c + (if h.testBit c = true then 1 else 0)
theorem bitC0 : ∀ h, h < 256 → k6_bitCount 0 (fun _ _ => 0) (nI h) = some (nI (pcs h 8)) := by decide +kernel
theorem bitC {F : Nat} {S : SS} {h : Nat} (hh : h < 256) : k6_bitCount F S (nI h) = some (nI (pcs h 8)) := bitC0 h hh
theorem payK {F : Nat} {f : Nat → Int} {S : SS} (hw : WG f S) : k1_payments F S = some (nI (pcs (alk f 8) 8) - nI (Cc f (alk f 8))) := by
  have ha := alk_lt (f := f) 8 (Nat.le_refl 8)
  unfold k1_payments
  rw [hw.1, bitC ha, some_b, rdA_n ha (by omega), some_b, hw.2.1 _ Sub.rf]

/-! the reference's sums -/
theorem lI_0 {z : Int} (h : z.natAbs < 2147483648) : Int64.ofInt z = 0 ↔ z = 0 := by
  constructor
  · intro e
    have := Int64.toInt_ofInt_of_le (n := z) (by omega) (by omega)
    rw [e] at this
    have e0 : (0 : Int64).toInt = 0 := by decide
    omega
  · intro e; rw [e]; rfl
theorem iI_64 {z : Int} (h : z.natAbs < 2147483648) : (iI z).toInt64 = Int64.ofInt z := by
  refine Int32.toInt64_ofInt ?_ ?_
  · have : Int32.minValue.toInt = -2147483648 := by decide
    omega
  · have : Int32.maxValue.toInt = 2147483647 := by decide
    omega
theorem sumOfM {F : Nat} (hF : 8 < F) {f : Nat → Int} (hf : Bal f) {S : SM} (h19 : ∀ x, x < 8 → S.1 19 x = iI (f x)) {h : Nat} (hh : h < 256) : k8_sumOf F S (nI h) = some (Int64.ofInt (sS f h)) := by
  unfold k8_sumOf
  simp only [bnd_e]
  refine lp_seq (z := fun _ _ => none) (f := fun rec => k8_sumOf_B5 F S (nI h) rec) (fun (j : Nat) g => g (Int64.ofInt (si (fun c => if h.testBit c = true then f c else 0) j)) (nI j)) (fun j => j) 8 _ (fun j hj rec => ?_) (fun rec => ?_) hF
  · unfold k8_sumOf_B5
    simp only [bnd_e]
    have es : si (fun c => if h.testBit c = true then f c else 0) (j + 1) = si (fun c => if h.testBit c = true then f c else 0) j + (if h.testBit j = true then f j else 0) := rfl
    rw [l8, if_neg (nI_ge hj (by omega)), shr1 h hh j hj, es]
    by_cases q : h.testBit j = true
    · rw [if_pos q, if_pos rfl, rdA_n hj (by omega), some_b, h19 j hj, iI_64 (hf.one hj), ← Int64.ofInt_add, if_pos q, nI_1]
    · rw [if_neg q, if_neg (by decide), if_neg q, Int.add_zero, nI_1]
  · unfold k8_sumOf_B5
    rw [l8, if_pos (nI_le (Nat.le_refl 8) (by omega))]; rfl
theorem Bal.zL {f : Nat → Int} (h : Bal f) {g : Nat} : lg_cmp (Int64.ofInt (sS f g)) 0 = 0 ↔ sS f g = 0 := by
  have h1 := sSp_bd (f := f) (h := g) (k := 8) (Nat.le_refl 8)
  have h2 := h.2
  have e : sS f g = si (fun c => if g.testBit c = true then f c else 0) 8 := rfl
  rw [lg_cmp_eq]
  exact lI_0 (by rw [e]; omega)
/-! its table -/
theorem Rr_bd {f : Nat → Int} {al h : Nat} (ha : al < 256) (hh : h < 256) : Rr f al h ≤ 256 := by
  by_cases q : okS f al h
  · rw [← C_R ha 256 h hh q]
    have := Bal.c1 (f := f) hh
    omega
  · rw [Rr_eq hh]
    unfold rv
    by_cases h0 : h = 0
    · rw [if_pos h0]; omega
    · rw [if_neg h0, if_neg (fun z => q ⟨(nd_0 hh).mp z.1, z.2⟩)]; omega
theorem rin_bd {f : Nat → Int} {al h : Nat} (ha : al < 256) (hh : h < 256) (k : Nat) : rin f (Rr f al) h k ≤ 257 := by
  rcases rin_ex (f := f) (r := Rr f al) (h := h) (k := k) with e | ⟨g, a1, a2, a3, a4, a5, a6⟩
  · omega
  · rw [a6]
    have := Rr_bd (f := f) (h := nd h g) ha (Nat.lt_of_le_of_lt nd_le hh)
    omega
theorem ec_lt0 {n : Nat} (hn : n < 2000000000) : ec n < 0 ↔ n = 0 := by
  cases n with
  | zero => rw [ec_0]; exact ⟨fun _ => rfl, fun _ => by decide⟩
  | succ n => rw [ec_s]; exact ⟨fun z => absurd z (nI_nn (by omega)), fun z => by omega⟩
theorem ec_add {n : Nat} (h : 0 < n) : ec n + 1 = ec (n + 1) := by
  obtain ⟨m, rfl⟩ : ∃ m, n = m + 1 := ⟨n - 1, by omega⟩
  rw [ec_s, ec_s, nI_1]
theorem ec_inj {a b : Nat} (ha : a < 2000000000) (hb : b < 2000000000) : ec a = ec b ↔ a = b := by
  constructor
  · intro e
    have h1 := (ec_le ha hb).mp (by rw [e]; exact Int32.le_refl _)
    have h2 := (ec_le hb ha).mp (by rw [e]; exact Int32.le_refl _)
    omega
  · intro e; rw [e]
theorem inR {F : Nat} (hF : 300 < F) {f : Nat → Int} (hf : Bal f) {al : Nat} (ha : al < 256) {M0 : SM} (h19 : ∀ x, x < 8 → M0.1 19 x = iI (f x)) {h : Nat} (hh : h < 256) {x1 : Int32} (S0 : SM) (hS0 : (∀ q, q ≠ 20 → S0.1 q = M0.1 q) ∧ (∀ j, j < h → S0.1 20 j = ec (Rr f al j)) ∧ S0.1 20 h = ec 0) :
    ∃ S', ((∀ q, q ≠ 20 → S'.1 q = M0.1 q) ∧ (∀ j, j < h → S'.1 20 j = ec (Rr f al j)) ∧ S'.1 20 h = ec (rin f (Rr f al) h (h + 1))) ∧ ∀ k, lpN (fun _ _ => none) (fun rec => k8_groups_B97 F x1 (nI h) rec k) F S0 (nI 1) = k S' := by
  exact lp_cps (z := fun _ _ => none) (f := fun k rec => k8_groups_B97 F x1 (nI h) rec k) (fun (s : SM × Nat) g => g s.1 (nI s.2)) (fun (t : SM) k => k t) (fun s => ((∀ q, q ≠ 20 → s.1.1 q = M0.1 q) ∧ (∀ j, j < h → s.1.1 20 j = ec (Rr f al j)) ∧ s.1.1 20 h = ec (rin f (Rr f al) h s.2)) ∧ 1 ≤ s.2 ∧ s.2 ≤ h + 1) (fun s => h + 1 - s.2) (fun S' => (∀ q, q ≠ 20 → S'.1 q = M0.1 q) ∧ (∀ j, j < h → S'.1 20 j = ec (Rr f al j)) ∧ S'.1 20 h = ec (rin f (Rr f al) h (h + 1))) (by
    rintro ⟨S, g⟩ ⟨⟨k1, k2, k3⟩, hg1, hg⟩
    dsimp only at k1 k2 k3 hg1 hg
    by_cases e : g = h + 1
    · subst e
      refine Or.inr ⟨S, ⟨k1, k2, k3⟩, fun k rec => ?_⟩
      dsimp only [k8_groups_B97]
      rw [if_pos (nI_lt (by omega) (by omega))]
    · have hgh : g ≤ h := by omega
      have hg2 : g < 256 := by omega
      have hnd : nd g h < 2147483648 := by have := nd_le (a := g) (b := h); omega
      have hB0 : ∀ (k : SM → Option (Int32 × SM)) rec, k8_groups_B97 F x1 (nI h) rec k S (nI g) = if nI (nd g h) = 0 then ((k8_sumOf F S (nI g)).bind fun r_32 => if (lg_cmp r_32 ((0 : Int64))) = 0 then ((rdA 256 (S.1 20) (nI (nd h g))).bind fun v_36 => if v_36 < 0 then (rec S (nI (g + 1))) else ((rdA 256 (S.1 20) (nI (nd h g))).bind fun v_39 => (rdA 256 (S.1 20) (nI h)).bind fun v_40 => if (v_39 + ((1 : Int32))) ≤ v_40 then (rec S (nI (g + 1))) else ((rdA 256 (S.1 20) (nI (nd h g))).bind fun v_43 => (ckA 256 (nI h)).bind fun _ => rec (stM S 20 (Int32.toNatClampNeg (nI h)) (v_43 + ((1 : Int32)))) (nI (g + 1))))) else rec S (nI (g + 1))) else rec S (nI (g + 1)) := by
        intro k rec
        unfold k8_groups_B97
        simp only [bnd_e]
        rw [if_neg (nI_nlt hgh (by omega)), ndN, ndN, nI_1]
      have erin : rin f (Rr f al) h (g + 1) = if (g ≠ 0 ∧ nd g h = 0) ∧ sS f g = 0 ∧ 0 < Rr f al (nd h g) ∧ rin f (Rr f al) h g < Rr f al (nd h g) + 1 then Rr f al (nd h g) + 1 else rin f (Rr f al) h g := by
        conv => lhs; unfold rin
      have stay : ∀ (hn : ¬ ((g ≠ 0 ∧ nd g h = 0) ∧ sS f g = 0 ∧ 0 < Rr f al (nd h g) ∧ rin f (Rr f al) h g < Rr f al (nd h g) + 1)), ((∀ q, q ≠ 20 → S.1 q = M0.1 q) ∧ (∀ j, j < h → S.1 20 j = ec (Rr f al j)) ∧ S.1 20 h = ec (rin f (Rr f al) h (g + 1))) ∧ 1 ≤ g + 1 ∧ g + 1 ≤ h + 1 := fun hn => ⟨⟨k1, k2, by rw [erin, if_neg hn]; exact k3⟩, by omega, by omega⟩
      by_cases q1 : nd g h = 0
      · have hs := (nd_0 hg2).mp q1
        have hl := nd_lt hh hs (by omega)
        have esum : k8_sumOf F S (nI g) = some (Int64.ofInt (sS f g)) := sumOfM (by omega) hf (fun x hx => by rw [k1 19 (by decide)]; exact h19 x hx) hg2
        by_cases q2 : sS f g = 0
        · have hR := Rr_bd (f := f) (h := nd h g) ha (by omega)
          have hr := rin_bd (f := f) (al := al) ha hh g
          by_cases q3 : 0 < Rr f al (nd h g)
          · by_cases q4 : rin f (Rr f al) h g < Rr f al (nd h g) + 1
            · refine Or.inl ⟨(stM S 20 h (ec (Rr f al (nd h g) + 1)), g + 1), ⟨⟨fun q hq => ?_, fun j hj => ?_, ?_⟩, by dsimp only; omega, by dsimp only; omega⟩, by dsimp only; omega, fun k rec => ?_⟩
              · dsimp only; rw [m_o hq]; exact k1 q hq
              · dsimp only; rw [m_s, if_neg (by omega)]; exact k2 j hj
              · dsimp only; rw [m_s, if_pos rfl, erin, if_pos ⟨⟨by omega, q1⟩, q2, q3, q4⟩]
              · dsimp only
                rw [hB0, if_pos ((nI0 hnd).mpr q1), esum, some_b, if_pos (hf.zL.mpr q2), rdA_n (by omega) (by omega), some_b, k2 _ hl, if_neg (fun z => by have := (ec_lt0 (by omega)).mp z; omega), some_b, rdA_n hh (by omega), some_b, k3, ec_add q3, if_neg (fun z => by have := (ec_le (by omega) (by omega)).mp z; omega), some_b, ckA_n hh (by omega), some_b, clN (by omega), ec_add q3]
            · refine Or.inl ⟨(S, g + 1), stay (fun z => q4 z.2.2.2), by dsimp only; omega, fun k rec => ?_⟩
              dsimp only
              rw [hB0, if_pos ((nI0 hnd).mpr q1), esum, some_b, if_pos (hf.zL.mpr q2), rdA_n (by omega) (by omega), some_b, k2 _ hl, if_neg (fun z => by have := (ec_lt0 (by omega)).mp z; omega), some_b, rdA_n hh (by omega), some_b, k3, ec_add q3, if_pos ((ec_le (by omega) (by omega)).mpr (by omega))]
          · refine Or.inl ⟨(S, g + 1), stay (fun z => q3 z.2.2.1), by dsimp only; omega, fun k rec => ?_⟩
            dsimp only
            rw [hB0, if_pos ((nI0 hnd).mpr q1), esum, some_b, if_pos (hf.zL.mpr q2), rdA_n (by omega) (by omega), some_b, k2 _ hl, if_pos ((ec_lt0 (by omega)).mpr (by omega))]
        · refine Or.inl ⟨(S, g + 1), stay (fun z => q2 z.2.1), by dsimp only; omega, fun k rec => ?_⟩
          dsimp only
          rw [hB0, if_pos ((nI0 hnd).mpr q1), esum, some_b, if_neg (fun z => q2 (hf.zL.mp z))]
      · refine Or.inl ⟨(S, g + 1), stay (fun z => q1 z.1.2), by dsimp only; omega, fun k rec => ?_⟩
        dsimp only
        rw [hB0, if_neg (fun z => q1 ((nI0 hnd).mp z))]) F (S0, 1) ⟨⟨hS0.1, hS0.2.1, by
          dsimp only
          rw [hS0.2.2, show rin f (Rr f al) h 1 = 0 from by
            unfold rin
            rw [if_neg (fun z => z.1.1 rfl)]
            rfl]⟩, by dsimp only; omega, by dsimp only; omega⟩ (by dsimp only; omega)
/-- the reference's groups -/
theorem grpM {F n : Nat} (hF : 1000000000 < F) {p : Par} {M : SM} (hp : InvP n p) (h : InvM p M) (hf : Bal p.bal) :
    ∃ M', k8_groups F M = some (nI (alk p.bal 8), M') ∧ InvM p M' ∧ (∀ x, x < 8 → M'.1 19 x = iI (p.bal x)) ∧ ∀ g, g < 256 → M'.1 20 g = ec (Rr p.bal (alk p.bal 8) g) := by
  have ha := alk_lt (f := p.bal) 8 (Nat.le_refl 8)
  obtain ⟨M1, ⟨b1, b2, b3⟩, b4⟩ := lp_cps (z := fun _ _ _ => none) (f := fun k rec => k8_groups_B4 F rec k) (fun (s : SM × Nat) g => g s.1 (nI (alk p.bal s.2)) (nI s.2)) (fun (t : SM) k => k t (nI (alk p.bal 8))) (fun s => (InvM p s.1 ∧ (∀ q, q ≠ 17 → q ≠ 18 → q ≠ 19 → s.1.1 q = M.1 q) ∧ ∀ x, x < s.2 → s.1.1 19 x = iI (p.bal x)) ∧ s.2 ≤ 8) (fun s => 8 - s.2) (fun M' => InvM p M' ∧ (∀ q, q ≠ 17 → q ≠ 18 → q ≠ 19 → M'.1 q = M.1 q) ∧ ∀ x, x < 8 → M'.1 19 x = iI (p.bal x)) (by
    rintro ⟨M1, j⟩ ⟨⟨k1, k2, k3⟩, hj⟩
    dsimp only at k1 k2 k3 hj
    by_cases h : j = 8
    · subst h
      refine Or.inr ⟨M1, ⟨k1, k2, k3⟩, fun k rec => ?_⟩
      dsimp only [k8_groups_B4]
      rw [l8, if_pos (nI_le (Nat.le_refl 8) (by omega))]
    · have hj : j < 8 := by omega
      obtain ⟨M2, c1, c2, c3⟩ := balM hF hp k1 hj
      refine Or.inl ⟨(stM M2 19 j (iI (p.bal j)), j + 1), ⟨⟨?_, fun q u1 u2 u3 => ?_, fun x hx => ?_⟩, by dsimp only; omega⟩, by dsimp only; omega, fun k rec => ?_⟩
      · exact c2.cong (fun k _ => by rw [m_o (by decide)]) (fun q u v => by rw [m_o (by omega)])
      · dsimp only; rw [m_o u3, c3 q u1 u2]; exact k2 q u1 u2 u3
      · dsimp only at hx ⊢
        rw [m_s]
        by_cases e : x = j
        · rw [if_pos e, e]
        · rw [if_neg e, c3 19 (by decide) (by decide)]; exact k3 x (by omega)
      · dsimp only [k8_groups_B4]
        simp only [bnd_e]
        have ea : alk p.bal (j + 1) = if p.bal j = 0 then alk p.bal j else alk p.bal j ||| 2 ^ j := by
          conv => lhs; unfold alk
        rw [l8, if_neg (nI_ge (by omega) (by omega)), c1, ob2_s, ckA_n hj (by omega), some_b, clN (by omega), rdA_n hj (by omega), some_b, m_s, if_pos rfl, nI_1, ea]
        by_cases q : p.bal j = 0
        · rw [if_pos ((hf.z1 hj).mpr q), if_pos q, l0, orN, Nat.or_zero]
        · rw [if_neg (fun z => q ((hf.z1 hj).mp z)), if_neg q, shl1 j hj, orN]) F (M, 0) ⟨⟨h, fun _ _ _ _ => rfl, fun x hx => absurd hx (Nat.not_lt_zero x)⟩, by dsimp only; omega⟩ (by dsimp only; omega)
  obtain ⟨f, ef⟩ : ∃ f, f = p.bal := ⟨_, rfl⟩
  obtain ⟨al, eal⟩ : ∃ al, al = alk p.bal 8 := ⟨_, rfl⟩
  rw [← eal] at ha
  obtain ⟨r, ⟨M', h1, h2, h3⟩, he⟩ := lp_inv (z := fun _ _ => none) (f := fun rec => k8_groups_B48 F (nI al) rec) (fun (s : SM × Nat) g => g s.1 (nI s.2)) (fun s => ((∀ q, q ≠ 20 → s.1.1 q = M1.1 q) ∧ ∀ j, j < s.2 → s.1.1 20 j = ec (Rr p.bal al j)) ∧ s.2 ≤ 256) (fun s => 256 - s.2) (fun r => ∃ M', r = some (nI al, M') ∧ (∀ q, q ≠ 20 → M'.1 q = M1.1 q) ∧ ∀ j, j < 256 → M'.1 20 j = ec (Rr p.bal al j)) (by
    rintro ⟨S, h⟩ ⟨⟨k1, k2⟩, hh⟩
    dsimp only at k1 k2 hh
    by_cases e : h = 256
    · subst e
      refine Or.inr ⟨_, ⟨S, rfl, k1, k2⟩, fun rec => ?_⟩
      dsimp only [k8_groups_B48]
      rw [l256, if_pos (nI_le (Nat.le_refl 256) (by omega))]
    · have hh : h < 256 := by omega
      have hnd : nd h al < 2147483648 := by have := nd_le (a := h) (b := al); omega
      have put : ∀ x : Int32, x = ec (Rr p.bal al h) → ((∀ q, q ≠ 20 → (stM S 20 h x).1 q = M1.1 q) ∧ ∀ j, j < h + 1 → (stM S 20 h x).1 20 j = ec (Rr p.bal al j)) ∧ h + 1 ≤ 256 := fun x hx => ⟨⟨fun q hq => by rw [m_o hq]; exact k1 q hq, fun j hj => by
        rw [m_s]
        by_cases e2 : j = h
        · rw [if_pos e2, hx, e2]
        · rw [if_neg e2]; exact k2 j (by omega)⟩, by omega⟩
      by_cases h0 : h = 0
      · refine Or.inl ⟨(stM S 20 h 0, h + 1), put 0 (by rw [h0, Rr_0]; rfl), by dsimp only; omega, fun rec => ?_⟩
        dsimp only [k8_groups_B48, k8_groups_B48_J69]
        simp only [bnd_e]
        rw [l256, if_neg (nI_ge hh (by omega)), if_pos ((nI0 (by omega)).mpr h0), ckA_n hh (by omega), some_b, clN (by omega), if_pos ((nI0 (by omega)).mpr h0), nI_1]
      · have eR := Rr_eq (f := p.bal) (al := al) hh
        unfold rv at eR
        rw [if_neg h0] at eR
        have hB0 : ∀ rec, k8_groups_B48 F (nI al) rec S (nI h) = if nI (nd h al) = 0 then ((k8_sumOf F (stM S 20 h (-1)) (nI h)).bind fun r_24 => if (lg_cmp r_24 ((0 : Int64))) = 0 then (lpN (fun _ _ => none) (fun rec97 => k8_groups_B97 F (nI al) (nI h) rec97 (fun S_46 => rec S_46 (nI (h + 1)))) F (stM S 20 h (-1)) (nI 1)) else (rec (stM S 20 h (-1)) (nI (h + 1)))) else rec (stM S 20 h (-1)) (nI (h + 1)) := by
          intro rec
          unfold k8_groups_B48 k8_groups_B48_J69
          simp only [bnd_e]
          rw [l256, if_neg (nI_ge hh (by omega)), if_neg (fun z => h0 ((nI0 (by omega)).mp z)), ckA_n hh (by omega), some_b, clN (by omega), if_neg (fun z => h0 ((nI0 (by omega)).mp z)), ndN, nI_1]
          rfl
        by_cases q1 : nd h al = 0
        · have hs := (nd_0 hh).mp q1
          have esum : k8_sumOf F (stM S 20 h (-1)) (nI h) = some (Int64.ofInt (sS p.bal h)) := sumOfM (by omega) hf (fun x hx => by rw [m_o (by decide), k1 19 (by decide)]; exact b3 x hx) hh
          by_cases q2 : sS p.bal h = 0
          · rw [if_pos ⟨q1, q2⟩] at eR
            obtain ⟨S', ⟨d1, d2, d3⟩, d4⟩ := inR (F := F) (by omega) hf ha (M0 := M1) b3 hh (x1 := nI al) (stM S 20 h (-1)) ⟨fun q hq => by rw [m_o hq]; exact k1 q hq, fun j hj => by rw [m_s, if_neg (by omega)]; exact k2 j hj, by rw [m_s, if_pos rfl]; rfl⟩
            refine Or.inl ⟨(S', h + 1), ⟨⟨d1, fun j hj => ?_⟩, by dsimp only; omega⟩, by dsimp only; omega, fun rec => ?_⟩
            · dsimp only at hj ⊢
              by_cases e2 : j = h
              · rw [e2, d3, eR]
              · exact d2 j (by omega)
            · dsimp only
              rw [hB0, if_pos ((nI0 hnd).mpr q1), esum, some_b, if_pos (hf.zL.mpr q2)]
              exact d4 _
          · rw [if_neg (fun z => q2 z.2)] at eR
            refine Or.inl ⟨(stM S 20 h (-1), h + 1), put (-1) (by rw [eR]; rfl), by dsimp only; omega, fun rec => ?_⟩
            dsimp only
            rw [hB0, if_pos ((nI0 hnd).mpr q1), esum, some_b, if_neg (fun z => q2 (hf.zL.mp z))]
        · rw [if_neg (fun z => q1 z.1)] at eR
          refine Or.inl ⟨(stM S 20 h (-1), h + 1), put (-1) (by rw [eR]; rfl), by dsimp only; omega, fun rec => ?_⟩
          dsimp only
          rw [hB0, if_neg (fun z => q1 ((nI0 hnd).mp z))]) F (M1, 0) ⟨⟨fun _ _ => rfl, fun j hj => absurd hj (Nat.not_lt_zero j)⟩, by dsimp only; omega⟩ (by dsimp only; omega)
  refine ⟨M', ?_, b1.cong (fun k _ => by rw [h2 0 (by decide)]) (fun q u v => h2 q (by omega)), fun x hx => by rw [h2 19 (by decide)]; exact b3 x hx, by rw [← eal]; exact h3⟩
  unfold k8_groups
  simp only [bnd_e]
  refine (b4 _).trans ?_
  rw [← eal, ← h1]; exact he
theorem bal_ok {n : Nat} {p : Par} (hp : InvP n p) (hn : n ≤ 512) : Bal p.bal := ⟨Par.bal_si hp, by have := Par.bal_L1 hp; omega⟩
theorem InvK.wg {p : Par} {S S' : SS} (h : InvK p S) (hf : ∀ q, q ≠ 6 → q ≠ 27 → q ≠ 28 → S' q = S q) (hw : WG p.bal S') : InvK p S' :=
  h.cong (fun q a b c => hf q (by omega) (by omega) (by omega)) (fun q a b => hf q (by omega) (by omega) (by omega)) (fun q a b => hf q (by omega) (by omega) (by omega)) (fun q a b => hf q (by omega) (by omega) (by omega)) (hf 35 (by decide) (by decide) (by decide)) (by rw [hw.2.1 0 (fun i hi => by rw [Nat.zero_testBit] at hi; cases hi), Cc_0]; rfl) (h.jc.cong (hf 4 (by decide) (by decide) (by decide)) (hf 26 (by decide) (by decide) (by decide))) (h.lc.cong (hf 7 (by decide) (by decide) (by decide)))
theorem step_fewest {F : Nat} (hF : 1000000000 < F) {n : Nat} (hn : n ≤ 512) {S : SS} {M : SM} (h : Inv n S M) : BthS n (k7_fewest F S) (k8_fewest F M) := by
  obtain ⟨p, hp, hK, hM⟩ := h
  have hf := bal_ok hp hn
  obtain ⟨S1, a1, a2, a3⟩ := strikeK hF hp hK
  obtain ⟨S2, c1, c2, c3⟩ := weighK (F := F) (by omega) hf a3 a2.z28
  obtain ⟨M', b1, b2, b3, b4⟩ := grpM hF hp hM hf
  have ha := alk_lt (f := p.bal) 8 (Nat.le_refl 8)
  have eK : k7_fewest F S = some (nI (pcs (alk p.bal 8) 8) - nI (Cc p.bal (alk p.bal 8)), S2) := by
    unfold k7_fewest
    rw [a1, some_b, c1, some_b, payK c2, some_b]
  have eM : k8_fewest F M = some (nI (pcs (alk p.bal 8) 8) - nI (Cc p.bal (alk p.bal 8)), M') := by
    unfold k8_fewest
    simp only [bnd_e]
    rw [b1, ob2_s]
    refine lp_seq (z := fun _ _ => none) (f := fun rec => k8_fewest_B9 F M' (nI (alk p.bal 8)) rec _) (fun (j : Nat) g => g (nI (pcs (alk p.bal 8) j)) (nI j)) (fun j => j) 8 _ (fun j hj rec => ?_) (fun rec => ?_) (by omega)
    · unfold k8_fewest_B9
      simp only [bnd_e]
      have ep : pcs (alk p.bal 8) (j + 1) = pcs (alk p.bal 8) j + (if (alk p.bal 8).testBit j = true then 1 else 0) := rfl
      rw [l8, if_neg (nI_ge hj (by omega)), shr1 _ ha j hj, ep, nI_1]
      by_cases q : (alk p.bal 8).testBit j = true
      · rw [if_pos q, if_pos q, nI_1]
      · rw [if_neg q, if_neg q, Int32.add_zero]; rfl
    · unfold k8_fewest_B9
      rw [l8, if_pos (nI_le (Nat.le_refl 8) (by omega))]
      dsimp only
      rw [rdA_n ha (by omega), some_b, b4 _ ha, ← C_R ha 256 _ ha hf.ok, ec_s]
  exact BthS.same hp (a2.wg c3 c2) b2 eK eM

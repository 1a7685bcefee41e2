/-! the class's shorten -/
def shI (S0 : SS) (a b len : Nat) (d : Nat → Nat → Nat) (u v : Nat) (S : SS) : Prop :=
  (∀ q, q ≠ 12 → S q = S0 q) ∧ ∀ x y, x < 12 → y < 12 → S 12 (x * 12 + y) = nI (if x < u ∨ (x = u ∧ y < v) then min (d x y) (d x a + len + d b y) else d x y)
theorem ix_inj {x y u v : Nat} (hy : y < 12) (hv : v < 12) (h : x * 12 + y = u * 12 + v) : x = u ∧ y = v := by omega
theorem shorten_in {F : Nat} {S0 : SS} {a b len u : Nat} {d : Nat → Nat → Nat} (ha : a < 12) (hb : b < 12) (hu : u < 12) (hlen : len ≤ 200) (hd : ∀ x y, x < 12 → y < 12 → d x y ≤ 1000000) :
    ∀ (n : Nat) (s : SS × Nat), (shI S0 a b len d u s.2 s.1 ∧ s.2 ≤ 12) → 12 - s.2 < n → ∃ S', shI S0 a b len d (u + 1) 0 S' ∧ ∀ k, (fun (g : SS → Int32 → Option SS) => g s.1 (nI s.2)) (lpN (fun _ _ => none) (fun rec => k4_shorten_B13 F (nI a) (nI b) (nI len) (nI u) rec k) n) = k S' := by
  refine lp_cps (f := fun k rec => k4_shorten_B13 F (nI a) (nI b) (nI len) (nI u) rec k) (fun (s : SS × Nat) g => g s.1 (nI s.2)) (fun t k => k t) (fun s => shI S0 a b len d u s.2 s.1 ∧ s.2 ≤ 12) (fun s => 12 - s.2) (fun S' => shI S0 a b len d (u + 1) 0 S') ?_
  rintro ⟨S, v⟩ ⟨⟨hI1, hI2⟩, hv⟩
  dsimp only at hI1 hI2 hv
  by_cases h12 : v = 12
  · subst h12
    refine Or.inr ⟨S, ⟨hI1, fun x y hx hy => ?_⟩, fun k rec => ?_⟩
    · rw [hI2 x y hx hy]
      congr 1
      by_cases q : x < u ∨ (x = u ∧ y < 12)
      · rw [if_pos q, if_pos (by omega)]
      · rw [if_neg q, if_neg (by omega)]
    · dsimp only [k4_shorten_B13]
      rw [l12, if_pos (nI_le (Nat.le_refl 12) (by omega))]
  · have hv : v < 12 := by omega
    have e1 : S 12 (u * 12 + a) = nI (d u a) := by
      rw [hI2 u a hu ha]; congr 1
      split
      · omega
      · rfl
    have e2 : S 12 (b * 12 + v) = nI (d b v) := by
      rw [hI2 b v hb hv]; congr 1
      split
      · omega
      · rfl
    have e3 : S 12 (u * 12 + v) = nI (d u v) := by
      rw [hI2 u v hu hv, if_neg (by omega)]
    have d1 := hd u a hu ha
    have d2 := hd b v hb hv
    have d3 := hd u v hu hv
    refine Or.inl ⟨(st S 12 (u * 12 + v) (nI (min (d u v) (d u a + len + d b v))), v + 1), ⟨⟨fun q hq => ?_, fun x y hx hy => ?_⟩, by omega⟩, by dsimp only; omega, fun k rec => ?_⟩
    · dsimp only; rw [st_o hq]; exact hI1 q hq
    · dsimp only
      rw [st_st]
      by_cases q : x * 12 + y = u * 12 + v
      · obtain ⟨rfl, rfl⟩ := ix_inj hy hv q
        rw [if_pos rfl, if_pos (by omega)]
      · rw [if_neg q, hI2 x y hx hy]
        congr 1
        by_cases q2 : x < u ∨ (x = u ∧ y < v)
        · rw [if_pos q2, if_pos (by omega)]
        · rw [if_neg q2, if_neg]
          rintro (q3 | ⟨rfl, q3⟩)
          · exact q2 (Or.inl q3)
          · exact q (by have : y = v := by omega
                        rw [this])
    · dsimp only [k4_shorten_B13]
      rw [l12, if_neg (nI_ge hv (by omega)), mulN, mulN, nI_add, nI_add, nI_add, rdA_n (by omega) (by omega), some_b, rdA_n (by omega) (by omega), some_b, e1, e2, nI_add, nI_add, bnd_e, bnd_e, rdA_n (by omega) (by omega), some_b, ckA_n (by omega) (by omega), some_b, e3, bnd_e, bnd_e, clN (by omega), l1, nI_add]
      congr 2
      by_cases q : d u a + len + d b v < d u v
      · rw [if_pos (nI_lt q (by omega))]; congr 1; omega
      · rw [if_neg (nI_nlt (by omega) (by omega))]; congr 1; omega
theorem shorten_out {F : Nat} (hF : 12 < F) {S0 : SS} {a b len : Nat} {d : Nat → Nat → Nat} (ha : a < 12) (hb : b < 12) (hlen : len ≤ 200) (hd : ∀ x y, x < 12 → y < 12 → d x y ≤ 1000000) (h0 : ∀ x y, x < 12 → y < 12 → S0 12 (x * 12 + y) = nI (d x y)) :
    ∃ S', k4_shorten F S0 (nI a) (nI b) (nI len) = some S' ∧ (∀ q, q ≠ 12 → S' q = S0 q) ∧ ∀ x y, x < 12 → y < 12 → S' 12 (x * 12 + y) = nI (min (d x y) (d x a + len + d b y)) := by
  obtain ⟨t, ht, he⟩ := lp_inv (z := fun _ _ => none) (f := fun rec => k4_shorten_B3 F (nI a) (nI b) (nI len) rec) (fun (s : SS × Nat) g => g s.1 (nI s.2)) (fun s => shI S0 a b len d s.2 0 s.1 ∧ s.2 ≤ 12) (fun s => 12 - s.2) (fun r => ∃ S', r = some S' ∧ shI S0 a b len d 12 0 S') (by
    rintro ⟨S, u⟩ ⟨hI, hu⟩
    dsimp only at hI hu
    by_cases h12 : u = 12
    · subst h12
      refine Or.inr ⟨some S, ⟨S, rfl, hI⟩, fun rec => ?_⟩
      dsimp only [k4_shorten_B3]
      rw [l12, if_pos (nI_le (Nat.le_refl 12) (by omega))]
    · have hu : u < 12 := by omega
      obtain ⟨S', hS', hk⟩ := shorten_in (F := F) ha hb hu hlen hd F (S, 0) ⟨hI, by omega⟩ (by omega)
      refine Or.inl ⟨(S', u + 1), ⟨hS', by omega⟩, by dsimp only; omega, fun rec => ?_⟩
      dsimp only [k4_shorten_B3]
      rw [l12, if_neg (nI_ge hu (by omega)), bnd_e]
      refine (hk _).trans ?_
      rw [bnd_e, l1, nI_add]) F (S0, 0) ⟨⟨fun _ _ => rfl, fun x y hx hy => by dsimp only; rw [h0 x y hx hy]; congr 1; rw [if_neg (by omega)]⟩, by omega⟩ (by omega)
  obtain ⟨S', rfl, hS'⟩ := ht
  refine ⟨S', he, hS'.1, fun x y hx hy => ?_⟩
  rw [hS'.2 x y hx hy, if_pos (by omega)]

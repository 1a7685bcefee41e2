/-! what stays at home -/
def hom (th wa : Nat → Nat) (a : Nat) : Nat := th a - (th a - wa a)
def xho (th wa : Nat → Nat) (x : Nat → Nat → Nat) : Nat → Nat → Nat := fun a b => if a = b then x a b + hom th wa a else x a b
theorem xho_s {th wa : Nat → Nat} {x : Nat → Nat → Nat} {a : Nat} : xho th wa x a a = x a a + hom th wa a := if_pos rfl
theorem xho_o {th wa : Nat → Nat} {x : Nat → Nat → Nat} {a b : Nat} (h : a ≠ b) : xho th wa x a b = x a b := if_neg h
theorem xho_r {th wa : Nat → Nat} {x : Nat → Nat → Nat} {a : Nat} (ha : a < 12) : rwS (xho th wa x) a = rwS x a + hom th wa a :=
  sm_at (f := x a) (g := xho th wa x a) (c := a) xho_s (fun k hk => xho_o (fun z => hk z.symm)) ha
theorem xho_c {th wa : Nat → Nat} {x : Nat → Nat → Nat} {b : Nat} (hb : b < 12) : clS (xho th wa x) b = clS x b + hom th wa b :=
  sm_at (f := fun a => x a b) (g := fun a => xho th wa x a b) (c := b) xho_s (fun k hk => xho_o hk) hb
theorem xho_2 {th wa : Nat → Nat} {x : Nat → Nat → Nat} : s2 (xho th wa x) = s2 x + sm (hom th wa) 12 := by
  have e1 : s2 (xho th wa x) = sm (rwS (xho th wa x)) 12 := rfl
  have e2 : s2 x = sm (rwS x) 12 := rfl
  rw [e1, e2, ← sm_add]
  exact sm_cong fun a ha => xho_r ha
theorem xho_d {d : Nat → Nat → Nat} {th wa : Nat → Nat} {x : Nat → Nat → Nat} (h0 : ∀ a, a < 12 → d a a = 0) : cst2 d (xho th wa x) = cst2 d x := by
  refine s2_cong fun a b ha hb => ?_
  by_cases q : a = b
  · rw [← q, h0 a ha, Nat.mul_zero, Nat.mul_zero]
  · rw [xho_o q]
def mnv (f : Nat → Nat) : Nat → Nat
  | 0 => 1000000
  | n + 1 => if f n < mnv f n then f n else mnv f n
theorem mnv_cap (f : Nat → Nat) : ∀ n, mnv f n ≤ 1000000
  | 0 => Nat.le_refl _
  | n + 1 => by have := mnv_cap f n; unfold mnv; split <;> omega
theorem mnv_le {f : Nat → Nat} {a : Nat} : ∀ {n : Nat}, a < n → mnv f n ≤ f a
  | 0, h => absurd h (Nat.not_lt_zero a)
  | n + 1, h => by
    unfold mnv
    by_cases q : a = n
    · rw [q]; split <;> omega
    · have := mnv_le (f := f) (show a < n by omega); split <;> omega
theorem mnv_ge {f : Nat → Nat} {c : Nat} (hc : c ≤ 1000000) : ∀ {n : Nat}, (∀ a, a < n → c ≤ f a) → c ≤ mnv f n
  | 0, _ => hc
  | n + 1, h => by
    have h1 := mnv_ge hc (n := n) (fun a ha => h a (by omega))
    have h2 := h n (by omega)
    unfold mnv; split <;> omega
def phi (d : Nat → Nat → Nat) (th wa π : Nat → Nat) (v : Nat) : Nat := mnv (fun a => if wa a < th a then π a + d a v else 1000000) 12
theorem NCC.cert {d : Nat → Nat → Nat} {th wa : Nat → Nat} {π : Nat → Nat} {x : Nat → Nat → Nat} (hC : NCC d th wa 1000000 π x) (hd : ∀ a b, a < 12 → b < 12 → d a b ≤ 2200 ∨ d a b = 1000000) (h0 : ∀ a, a < 12 → d a a = 0) (htr : ∀ a b c, a < 12 → b < 12 → c < 12 → d a c ≤ d a b + d b c) : Cert d th wa (phi d th wa π) (phi d th wa π) (xho th wa x) := by
  obtain ⟨g1, g2, g3, g4, g5, g6⟩ := hC
  have cap : ∀ v, phi d th wa π v ≤ 1000000 := fun v => mnv_cap _ _
  have up : ∀ a v, a < 12 → wa a < th a → phi d th wa π v ≤ π a + d a v := fun a v ha h => by
    have := mnv_le (f := fun a => if wa a < th a then π a + d a v else 1000000) ha
    rw [if_pos h] at this
    exact this
  have lip : ∀ a b, a < 12 → b < 12 → phi d th wa π b ≤ phi d th wa π a + d a b := fun a b ha hb => by
    have h1 : phi d th wa π b - d a b ≤ phi d th wa π a := mnv_ge (by have := cap b; omega) (fun i hi => by
      by_cases q : wa i < th i
      · rw [if_pos q]
        have := up i b hi q
        have := htr i a b hi ha hb
        omega
      · rw [if_neg q]; have := cap b; omega)
    omega
  have low : ∀ b, b < 12 → th b < wa b → π b ≤ phi d th wa π b := fun b hb h => mnv_ge (g2 b hb) (fun i hi => by
    by_cases q : wa i < th i
    · rw [if_pos q]
      by_cases q2 : d i b < 1000000
      · have := (g1.1 i b ⟨hi, hb, gK_t q, gK_f (by omega), q, h, q2⟩).2.2.2
        rw [show wN (gK th wa) idN idN d i b = d i b from WC_f q] at this
        exact this
      · have := g2 b hb; omega
    · rw [if_neg q]; exact g2 b hb)
  refine ⟨fun a b ha hb _ => lip a b ha hb, fun a b ha hb hx => ?_, fun a ha => ?_, fun b hb => ?_⟩
  · by_cases q : a = b
    · rw [← q, h0 a ha]; exact ⟨by omega, by omega⟩
    · rw [xho_o q] at hx
      obtain ⟨e1, e2, e3⟩ := g3 a b ha hb hx
      have h1 := (g1.2.1 b a ⟨hb, ha, gK_f (by omega), gK_t e1, hx⟩).2.2
      rw [show wN (gK th wa) idN idN d b a = d a b from WC_b (by omega)] at h1
      have h2 := low b hb e2
      have h3 := up a a ha e1
      rw [h0 a ha] at h3
      have h4 := lip a b ha hb
      exact ⟨e3, by omega⟩
  · have r := g4 a ha
    have r : rwS x a ≤ th a - wa a := r
    rw [xho_r ha]
    unfold hom
    refine ⟨by omega, fun z => ?_⟩
    have hs : SC th wa x a := SC_i.mpr ⟨by omega, by omega⟩
    have h1 := g1.2.2 a ha hs
    have h3 := up a a ha (SC_i.mp hs).1
    rw [h0 a ha] at h3
    omega
  · have r := g5 b hb
    have r : clS x b ≤ wa b - th b := r
    have hcap := cap b
    rw [xho_c hb]
    unfold hom
    refine ⟨by omega, fun z => ?_, hcap⟩
    have h1 := g6 b hb (gK_f (by omega)) (show clS x b < wa b - th b by omega)
    have h2 := low b hb (by omega)
    omega
theorem NCC.s54 {d : Nat → Nat → Nat} {th wa : Nat → Nat} {lam : Nat} {π : Nat → Nat} {x : Nat → Nat → Nat} (h : NCC d th wa lam π x) (h9 : ∀ j, j < 12 → th j ≤ 9 ∧ wa j ≤ 9) : s2 x ≤ 54 := by
  have e1 : s2 x = sm (rwS x) 12 := rfl
  have e2 : s2 x = sm (clS x) 12 := sm_swap x 12 12
  have h1 : sm (fun a => rwS x a + clS x a) 12 ≤ 12 * 9 := sm_bd fun a ha => by
    have := h.row ha
    have := h.col ha
    have := h9 a ha
    omega
  rw [sm_add] at h1
  omega
theorem NCC.flow {d : Nat → Nat → Nat} {th wa : Nat → Nat} {π : Nat → Nat} {x : Nat → Nat → Nat} (hC : NCC d th wa 1000000 π x) (h9 : ∀ j, j < 12 → th j ≤ 9 ∧ wa j ≤ 9) (hd : ∀ a b, a < 12 → b < 12 → d a b ≤ 2200 ∨ d a b = 1000000) (h0 : ∀ a, a < 12 → d a a = 0) (htr : ∀ a b c, a < 12 → b < 12 → c < 12 → d a c ≤ d a b + d b c) : FlowV d th wa (sm (hom th wa) 12 + s2 x) (cst2 d x) := by
  have hc := hC.cert hd h0 htr
  have h1 := hC.s54 h9
  have h2 := cst_bd (d := d) (x := x) (fun a b ha hb hx => by
    have h3 : d a b < 1000000 := (hC.2.2.1 a b ha hb hx).2.2
    have := hd a b ha hb
    omega)
  have := hc.flow (by rw [xho_d h0]; omega)
  rw [xho_d h0, xho_2, Nat.add_comm] at this
  exact this
/-! the class begins at home -/
theorem fill32 {F : Nat} (hF : 144 < F) {S : SS} {x : Int32} : ∃ S', k7_fill_32 F S x = some S' ∧ (∀ q, q ≠ 32 → S' q = S q) ∧ ∀ c, c < 144 → S' 32 c = x := by
  obtain ⟨t, ⟨S', h1, h2⟩, he⟩ := lp_inv (z := fun _ _ => none) (f := fun rec => k7_fill_32_B5 F x (nI 144) rec) (fun (s : SS × Nat) g => g s.1 (nI s.2)) (fun s => ((∀ q, q ≠ 32 → s.1 q = S q) ∧ ∀ c, c < s.2 → s.1 32 c = x) ∧ s.2 ≤ 144) (fun s => 144 - s.2) (fun r => ∃ S', r = some S' ∧ (∀ q, q ≠ 32 → S' q = S q) ∧ ∀ c, c < 144 → S' 32 c = x) (by
    rintro ⟨T, j⟩ ⟨⟨k1, k2⟩, hj⟩
    dsimp only at k1 k2 hj
    by_cases h : j = 144
    · subst h
      refine Or.inr ⟨some T, ⟨T, rfl, k1, k2⟩, fun rec => ?_⟩
      dsimp only [k7_fill_32_B5]
      rw [if_pos (nI_le (Nat.le_refl 144) (by omega))]
    · refine Or.inl ⟨(st T 32 j x, j + 1), ⟨⟨fun q hq => ?_, fun c hc => ?_⟩, by dsimp only; omega⟩, by dsimp only; omega, fun rec => ?_⟩
      · dsimp only; rw [st_o hq]; exact k1 q hq
      · dsimp only at hc ⊢
        rw [st_st]
        by_cases e : c = j
        · rw [if_pos e]
        · rw [if_neg e]; exact k2 c (by omega)
      · dsimp only [k7_fill_32_B5]
        simp only [bnd_e]
        rw [if_neg (nI_ge (by omega) (by omega)), ckA_n (by omega) (by omega), some_b, clN (by omega), nI_1]) F (S, 0) ⟨⟨fun _ _ => rfl, fun c hc => absurd hc (Nat.not_lt_zero c)⟩, Nat.zero_le 144⟩ (by dsimp only; omega)
  exact ⟨S', by unfold k7_fill_32; simp only [bnd_e]; rw [← h1]; exact he, h2⟩
theorem homeK {F : Nat} (hF : 300 < F) {d : Nat → Nat → Nat} {th wa : Nat → Nat} (h9 : ∀ j, j < 12 → th j ≤ 9 ∧ wa j ≤ 9) {S : SS} (h12 : ∀ a b, a < 12 → b < 12 → S 12 (a * 12 + b) = nI (d a b)) (hT : ∀ j, j < 12 → S 29 j = nI (th j) ∧ S 30 j = nI (wa j)) :
    ∃ S', k3_stayAtHome F S = some S' ∧ KW d th wa (fun _ _ => 0) S' ∧ S' 7 2 = nI (sm (hom th wa) 12) ∧ S' 7 3 = nI 0 ∧ ∀ q, q ≠ 7 → q ≠ 31 → q ≠ 32 → S' q = S q := by
  obtain ⟨S1, a1, a2, a3⟩ := fill32 (F := F) (by omega) (S := S) (x := 0)
  obtain ⟨r, ⟨S', e1, e2, e3, e4, e5⟩, he⟩ := lp_inv (z := fun _ _ => none) (f := fun rec => k3_stayAtHome_B20 F rec) (fun (s : SS × Nat) g => g s.1 (nI s.2)) (fun s => s.1 7 2 = nI (sm (hom th wa) s.2) ∧ s.1 7 3 = nI 0 ∧ (∀ q, q ≠ 7 → q ≠ 31 → s.1 q = S1 q) ∧ (∀ j, j < s.2 → s.1 31 j = nI (th j) - nI (wa j)) ∧ s.2 ≤ 12) (fun s => 12 - s.2) (fun r => ∃ S', r = some S' ∧ S' 7 2 = nI (sm (hom th wa) 12) ∧ S' 7 3 = nI 0 ∧ (∀ q, q ≠ 7 → q ≠ 31 → S' q = S1 q) ∧ ∀ j, j < 12 → S' 31 j = nI (th j) - nI (wa j)) (by
    rintro ⟨T, j⟩ ⟨k1, k2, k3, k4, hj⟩
    dsimp only at k1 k2 k3 k4 hj
    by_cases e : j = 12
    · subst e
      refine Or.inr ⟨_, ⟨T, rfl, k1, k2, k3, k4⟩, fun rec => ?_⟩
      dsimp only [k3_stayAtHome_B20]
      rw [l12, if_pos (nI_le (Nat.le_refl 12) (by omega))]
    · have hj : j < 12 := by omega
      have h9j := h9 j hj
      have t29 : T 29 j = nI (th j) := by rw [k3 29 (by decide) (by decide), a2 29 (by decide)]; exact (hT j hj).1
      have t30 : T 30 j = nI (wa j) := by rw [k3 30 (by decide) (by decide), a2 30 (by decide)]; exact (hT j hj).2
      refine Or.inl ⟨(st (st T 7 2 (nI (sm (hom th wa) (j + 1)))) 31 j (nI (th j) - nI (wa j)), j + 1), ⟨?_, ?_, fun q u v => ?_, fun i hi => ?_, by dsimp only; omega⟩, by dsimp only; omega, fun rec => ?_⟩
      · dsimp only; rw [st_o (by decide), st_st, if_pos rfl]
      · dsimp only; rw [st_o (by decide), st_st, if_neg (by decide)]; exact k2
      · dsimp only; rw [st_o v, st_o u]; exact k3 q u v
      · dsimp only at hi ⊢
        rw [st_st]
        by_cases e2 : i = j
        · rw [if_pos e2, e2]
        · rw [if_neg e2, st_o (by decide)]; exact k4 i (by omega)
      · have hmin : (if nI (wa j) < nI (th j) then nI (wa j) else nI (th j)) = nI (hom th wa j) := by
          unfold hom
          by_cases q : wa j < th j
          · rw [if_pos (nI_lt q (by omega))]; congr 1; omega
          · rw [if_neg (nI_nlt (by omega) (by omega))]; congr 1; omega
        dsimp only [k3_stayAtHome_B20]
        simp only [bnd_e]
        rw [l12, if_neg (nI_ge hj (by omega)), rdA_n hj (by omega), some_b, rdA_n hj (by omega), some_b, t29, t30, hmin, k1, nI_add, rdA_n hj (by omega), some_b, rdA_n hj (by omega), some_b, st_o (by decide), st_o (by decide), t29, t30, ckA_n hj (by omega), some_b, clN (by omega), nI_1]
        rfl) F (st (st S1 7 2 0) 7 3 0, 0) ⟨by dsimp only; rw [st_st, if_neg (by decide), st_st, if_pos rfl]; rfl, by dsimp only; rw [st_st, if_pos rfl]; rfl, fun q u v => by dsimp only; rw [st_o u, st_o u], fun j hj => absurd hj (Nat.not_lt_zero j), Nat.zero_le 12⟩ (by dsimp only; omega)
  refine ⟨S', ?_, ⟨fun a b ha hb => ?_, fun j hj => ?_, fun a b ha hb => ?_, fun j hj => ?_⟩, e2, e3, fun q u v w => ?_⟩
  · unfold k3_stayAtHome
    simp only [bnd_e]
    rw [a1, some_b, ← e1]; exact he
  · rw [e4 12 (by decide) (by decide), a2 12 (by decide)]; exact h12 a b ha hb
  · rw [e4 29 (by decide) (by decide), e4 30 (by decide) (by decide), a2 29 (by decide), a2 30 (by decide)]; exact hT j hj
  · rw [e4 32 (by decide) (by decide), a3 _ (by omega)]; rfl
  · rw [e5 j hj, iI_n, iI_n, iI_sub]
    congr 1
    by_cases q : wa j < th j
    · rw [spv_g q, rs_z]; omega
    · rw [spv_t q, cs_z]; omega
  · rw [e4 q u v, a2 q w]
theorem solveL {F n : Nat} (hF : 1000000000 < F) {p : Par} {S : SS} (hp : InvP n p) (h : InvK p S) : ∃ S' m l, k3_solve F S = some S' ∧ InvK p S' ∧ FlowV p.d p.th p.wa m l ∧ S' 7 2 = nI m ∧ S' 7 3 = nI l := by
  rcases h.lc with h0 | ⟨h1, m, l, h2, h3, h4⟩
  · have hd : ∀ a b, a < 12 → b < 12 → p.d a b ≤ 2200 ∨ p.d a b = 1000000 := fun a b ha hb => hp.np.2.2.2.b2200 hp.np.2.1 ha hb
    have hsy : ∀ a b, a < 12 → b < 12 → p.d a b = p.d b a := fun a b ha hb => hp.np.2.2.2.sym hp.np.2.1 ha hb
    have hz : ∀ a, a < 12 → p.d a a = 0 := fun a ha => hp.np.2.2.2.1.1 a ha
    have htr : ∀ a b c, a < 12 → b < 12 → c < 12 → p.d a c ≤ p.d a b + p.d b c := fun a b c ha hb hc => hp.np.2.2.2.tri' hp.np.2.1 ha hb hc
    have hN : Nod 12 (gK p.th p.wa) idN idN (EC p.d p.th p.wa) p.d := NodC hp.np
    obtain ⟨S1, a1, a2, a3, a4, a5⟩ := homeK (F := F) (by omega) hp.t9 h.nk.2.2 h.tk
    have s0 : s2 (fun _ _ => 0) = 0 := by decide
    have cz : cst2 p.d (fun _ _ => 0) = 0 := by
      have : cst2 p.d (fun _ _ => 0) ≤ 2200 * s2 (fun _ _ => 0) := cst_bd fun _ _ _ _ z => absurd z (Nat.lt_irrefl 0)
      omega
    obtain ⟨r, ⟨S', x, π, e1, e2, e3, e4, e5, e6⟩, he⟩ := lp_inv (z := fun _ _ => none) (f := fun rec => k3_solve_B14 F rec) (fun (s : (SS × (Nat → Nat → Nat)) × Nat) g => g s.1.1 (nI s.2)) (fun s => (∀ q, q ≠ 7 → q ≠ 31 → q ≠ 32 → q ≠ 33 → q ≠ 34 → s.1.1 q = S q) ∧ KW p.d p.th p.wa s.1.2 s.1.1 ∧ (∃ lam π, lam ≤ 1000000 ∧ NCC p.d p.th p.wa lam π s.1.2) ∧ s.1.1 7 2 = nI (sm (hom p.th p.wa) 12 + s2 s.1.2) ∧ s.1.1 7 3 = nI (cst2 p.d s.1.2) ∧ s.2 ≤ s2 s.1.2) (fun s => 109 - s.2) (fun r => ∃ S' x π, r = some S' ∧ (∀ q, q ≠ 7 → q ≠ 31 → q ≠ 32 → q ≠ 33 → q ≠ 34 → S' q = S q) ∧ NCC p.d p.th p.wa 1000000 π x ∧ S' 7 2 = nI (sm (hom p.th p.wa) 12 + s2 x) ∧ S' 7 3 = nI (cst2 p.d x) ∧ S' 7 9 = 1) (by
      rintro ⟨⟨T, x⟩, j⟩ ⟨k1, k2, ⟨lam, π, k3, k4⟩, k5, k6, hj⟩
      dsimp only at k1 k2 k4 k5 k6 hj
      have h54 := k4.s54 hp.t9
      rcases leadMoreK hF hN hd hsy hp.t9 k4 k3 k2 k5 k6 with ⟨T', π', b1, b2, b3⟩ | ⟨T', lam', π', x', b1, b2, b3, b4, b5, b6, b7, b8⟩
      · refine Or.inr ⟨some (st T' 7 9 1), ⟨st T' 7 9 1, x, π', rfl, fun q u0 u1 u2 u3 u4 => ?_, b2, ?_, ?_, ?_⟩, fun rec => ?_⟩
        · rw [st_o u0, b3 q u3 u4]; exact k1 q u0 u1 u2 u3 u4
        · rw [st_st, if_neg (by decide), b3 7 (by decide) (by decide)]; exact k5
        · rw [st_st, if_neg (by decide), b3 7 (by decide) (by decide)]; exact k6
        · rw [st_st, if_pos rfl]
        · dsimp only [k3_solve_B14]
          simp only [bnd_e]
          rw [l108, if_neg (nI_ge (by omega) (by omega)), b1, ob2_s, if_pos rfl]
      · refine Or.inl ⟨((T', x'), j + 1), ⟨fun q u0 u1 u2 u3 u4 => ?_, b4, ⟨lam', π', b2, b3⟩, b6, b7, by dsimp only; omega⟩, by dsimp only; omega, fun rec => ?_⟩
        · dsimp only; rw [b8 q u0 u1 u2 u3 u4]; exact k1 q u0 u1 u2 u3 u4
        · dsimp only [k3_solve_B14]
          simp only [bnd_e]
          rw [l108, if_neg (nI_ge (by omega) (by omega)), b1, ob2_s, if_neg z10, nI_1]) F ((S1, fun _ _ => 0), 0) ⟨fun q u0 u1 u2 u3 u4 => a5 q u0 u1 u2, a2, ⟨0, _, Nat.zero_le _, NC.zero hN⟩, by dsimp only; rw [s0]; exact a3, by dsimp only; rw [cz]; exact a4, Nat.zero_le _⟩ (by dsimp only; omega)
    have hfl := e3.flow hp.t9 hd hz htr
    refine ⟨S', _, _, ?_, ?_, hfl, e4, e5⟩
    · unfold k3_solve
      simp only [bnd_e]
      rw [h0, if_pos rfl, a1, some_b, ← e1]; exact he
    · refine h.cong (fun q a b c => e2 q (by omega) (by omega) (by omega) (by omega) (by omega)) (fun q a b => e2 q (by omega) (by omega) (by omega) (by omega) (by omega)) (fun q a b => e2 q (by omega) (by omega) (by omega) (by omega) (by omega)) (fun q a b => e2 q (by omega) (by omega) (by omega) (by omega) (by omega)) (e2 35 (by decide) (by decide) (by decide) (by decide) (by decide)) (by rw [e2 28 (by decide) (by decide) (by decide) (by decide) (by decide)]; exact h.z28) (h.jc.cong (e2 4 (by decide) (by decide) (by decide) (by decide) (by decide)) (e2 26 (by decide) (by decide) (by decide) (by decide) (by decide))) (Or.inr ⟨e6, _, _, hfl, e4, e5⟩)
  · refine ⟨S, m, l, ?_, h, h2, h3, h4⟩
    unfold k3_solve
    rw [h1, if_neg z10]
theorem step_met {F : Nat} (hF : 1000000000 < F) {n : Nat} {S : SS} {M : SM} (h : Inv n S M) : BthS n (k7_met F S) (k8_met F M) := by
  obtain ⟨p, hp, hK, hM⟩ := h
  obtain ⟨S', m, l, a1, a2, a3, a4, a5⟩ := solveL hF hp hK
  obtain ⟨m', l', M', b1, b2, b3, b4⟩ := leadsM hF hp hM
  obtain ⟨u1, u2⟩ := a3.uniq b1
  refine ⟨nI m, S', M', ?_, ?_, p, hp.up, a2, b4⟩
  · unfold k7_met; rw [a1, some_b, a4]
  · unfold k8_met; rw [b2, ob2_s, u1]
theorem step_led {F : Nat} (hF : 1000000000 < F) {n : Nat} {S : SS} {M : SM} (h : Inv n S M) : BthS n (k7_led F S) (k8_led F M) := by
  obtain ⟨p, hp, hK, hM⟩ := h
  obtain ⟨S', m, l, a1, a2, a3, a4, a5⟩ := solveL hF hp hK
  obtain ⟨m', l', M', b1, b2, b3, b4⟩ := leadsM hF hp hM
  obtain ⟨u1, u2⟩ := a3.uniq b1
  refine ⟨nI l, S', M', ?_, ?_, p, hp.up, a2, b4⟩
  · unfold k7_led; rw [a1, some_b, a5]
  · unfold k8_led; rw [b2, ob2_s, b3, u2]

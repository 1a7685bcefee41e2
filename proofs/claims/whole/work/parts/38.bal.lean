/-! the reference's balance -/
theorem chr_z {f : Nat → Int} {o : Nat → Nat} {t k x : Nat} (h : ∀ c, o c = 0) : chr f o t k x = f x := by
  have e : sm o k = 0 := by
    have : sm o k ≤ k * 0 := sm_bd fun c _ => by rw [h c]; exact Nat.le_refl 0
    omega
  unfold chr
  rw [e, h x]
  by_cases q : x < k <;> by_cases q2 : x = t <;> simp only [q, q2, if_true, if_false] <;> omega
theorem chv_z {f : Nat → Int} {o : Nat → Nat → Nat} {ow : Nat → Nat} (h : ∀ w c, o w c = 0) : ∀ (W x : Nat), chv f o ow W x = f x
  | 0, _ => rfl
  | W + 1, x => (chr_z (h W)).trans (chv_z h W x)
theorem oN_z {ow s dy cp : Nat → Nat} {fr pr w c : Nat} : oN ow s dy cp fr pr 0 w c = 0 := by unfold oN; split <;> rfl
theorem balM {F n : Nat} (hF : 1000000000 < F) {p : Par} {M : SM} (hp : InvP n p) (h : InvM p M) {x : Nat} (hx : x < 8) :
    ∃ M', k8_balance F M (nI x) = some (iI (p.bal x), M') ∧ InvM p M' ∧ ∀ q, q ≠ 17 → q ≠ 18 → M'.1 q = M.1 q := by
  obtain ⟨M', b1, b2, b3, b4⟩ := h.joins hF hp
  obtain ⟨p1, p2, p3, p4, p5⟩ := hp.rp
  refine ⟨M', ?_, b2, b3⟩
  unfold k8_balance
  simp only [bnd_e]
  rw [cM_y hx, some_b, if_neg z10, b1, ob2_s, rdA_n hx (by omega), some_b, b2.bm x hx]
  have ow8 : ∀ w, w < p.W → p.ow w < 8 := fun w hw => (p3 w hw).2.2
  by_cases qT : p.T = 0
  · have ez : p.bal x = p.bq x := chv_z (fun w c => by unfold Par.o; rw [qT]; exact oN_z) _ _
    rw [ez]
    have hB : ∀ rec, k8_balance_B23 F M' (nI x) rec (iI (p.bq x)) (nI 0) = some (iI (p.bq x), M') := by
      intro rec
      unfold k8_balance_B23
      rw [b2.rm.1, b2.rm.2.1, qT]
      by_cases q : p.W = 0
      · rw [q, if_pos (nI_le (Nat.le_refl 0) (by omega))]
      · rw [if_neg (nI_ge (by omega) (by omega)), if_pos (by decide)]
    exact lp_seq (z := fun _ _ => none) (f := fun rec => k8_balance_B23 F M' (nI x) rec) (fun (j : Nat) g => g (iI (p.bq x)) (nI j)) (fun j => j) 0 _ (fun j hj => absurd hj (Nat.not_lt_zero j)) (fun rec => hB rec) (by omega)
  · refine lp_seq (z := fun _ _ => none) (f := fun rec => k8_balance_B23 F M' (nI x) rec) (fun (w : Nat) g => g (iI (chv p.bq p.o p.ow w x)) (nI w)) (fun w => w) p.W _ (fun w hw rec => ?_) (fun rec => ?_) (by omega)
    · have how := ow8 w hw
      have ew : ∀ c, c < 8 → k8_owes F M' (nI w) (nI c) = some (nI (p.o w c)) := fun c hc => owesM (F := F) (by omega) hp.rp b2.rm hp.tp b2.t2 b2.t3 (s := p.sol.2) (fun k hk => ⟨b4 k hk, sol_W hk⟩) hw hc
      have e7 : M'.1 7 w = nI (p.ow w) := (b2.rm.2.2.1 w hw).2
      unfold k8_balance_B23
      simp only [bnd_e]
      rw [b2.rm.1, if_neg (nI_ge hw (by omega)), b2.rm.2.1, if_neg (show ¬ nI p.T ≤ (0 : Int32) from nI_ge (show 0 < p.T by omega) (by omega)), ew x hx, some_b, iI_subN]
      have inn : ∀ k : Int32 → Option (Int32 × SM), lpN (fun _ _ => none) (fun rec => k8_balance_B50 F M' (nI x) (nI w) rec k) F (iI (chv p.bq p.o p.ow w x - (p.o w x : Int))) (nI 0) = k (iI (chv p.bq p.o p.ow (w + 1) x)) := by
        intro k
        have key := lp_seq (z := fun _ _ => none) (f := fun rec => k8_balance_B50 F M' (nI x) (nI w) rec k) (fun (c : Nat) g => g (iI (chv p.bq p.o p.ow w x - (p.o w x : Int) + (if x = p.ow w then (sm (p.o w) c : Int) else 0))) (nI c)) (fun c => c) 8 (k (iI (chv p.bq p.o p.ow (w + 1) x))) (fun c hc rec => ?_) (fun rec => ?_) (F := F) (by omega)
        · have e0 : chv p.bq p.o p.ow w x - (p.o w x : Int) + (if x = p.ow w then (sm (p.o w) 0 : Int) else 0) = chv p.bq p.o p.ow w x - (p.o w x : Int) := by
            have : sm (p.o w) 0 = 0 := rfl
            rw [this]; omega
          rw [e0] at key
          exact key
        · unfold k8_balance_B50
          simp only [bnd_e]
          have es : (sm (p.o w) (c + 1) : Int) = sm (p.o w) c + p.o w c := by
            have : sm (p.o w) (c + 1) = sm (p.o w) c + p.o w c := rfl
            omega
          rw [l8, if_neg (nI_ge hc (by omega)), rdA_n (by omega) (by omega), some_b, e7, nI_1]
          by_cases q : x = p.ow w
          · rw [if_pos (by rw [q]), ew c hc, some_b, if_pos q, if_pos q, iI_addN, es]
            congr 2; omega
          · rw [if_neg (fun z => q ((nI_eq (by omega) (by omega)).mp z).symm), if_neg q, if_neg q]
        · unfold k8_balance_B50
          rw [l8, if_pos (nI_le (Nat.le_refl 8) (by omega))]
          congr 2
          show _ = chr (chv p.bq p.o p.ow w) (p.o w) (p.ow w) 8 x
          unfold chr
          rw [if_pos hx]
      rw [nI_1]
      exact inn _
    · unfold k8_balance_B23
      rw [b2.rm.1, if_pos (nI_le (Nat.le_refl p.W) (by omega))]
      rfl
theorem strikeK {F n : Nat} (hF : 1000000000 < F) {p : Par} {S : SS} (hp : InvP n p) (h : InvK p S) :
    ∃ S', k7_strikeBalances F S = some S' ∧ InvK p S' ∧ ∀ x, x < 8 → S' 36 x = iI (p.bal x) := by
  obtain ⟨S1, e1⟩ : ∃ z, z = stW S 36 (va_cpy (S 35) (S 36) 0 0 8) := ⟨_, rfl⟩
  have f1 : ∀ q, q ≠ 36 → S1 q = S q := fun q g => by rw [e1, stW_o g]
  have h1 : InvK p S1 := h.cong (fun q a b c => f1 q (by omega)) (fun q a b => f1 q (by omega)) (fun q a b => f1 q (by omega)) (fun q a b => f1 q (by omega)) (f1 35 (by decide)) (by rw [f1 28 (by decide)]; exact h.z28) (h.jc.cong (f1 4 (by decide)) (f1 26 (by decide))) (h.lc.cong (f1 7 (by decide)))
  have v1 : ∀ x, x < 8 → S1 36 x = iI (p.bq x) := fun x hx => by
    rw [e1, stW_s, pk_cpy_in (by omega) (by omega), Nat.zero_add, Nat.sub_zero]; exact h.bk x hx
  obtain ⟨S2, a1, a2, a3, a4⟩ := chgK36 (F := F) (by omega) hp.np hp.rp h1.nk h1.rk h1.jc hp.tp h1.t2 h1.t3 v1
  refine ⟨S2, ?_, h1.cong (fun q a b c => a2 q c (by omega) (by omega)) (fun q a b => a2 q (by omega) (by omega) (by omega)) (fun q a b => a2 q (by omega) (by omega) (by omega)) (fun q a b => a2 q (by omega) (by omega) (by omega)) (a2 35 (by decide) (by decide) (by decide)) (by rw [a2 28 (by decide) (by decide) (by decide)]; exact h1.z28) (Or.inr a3) (h1.lc.cong (a2 7 (by decide) (by decide) (by decide))), a4⟩
  unfold k7_strikeBalances
  simp only [bnd_e]
  rw [← e1, a1, some_b]
theorem step_balance {F : Nat} (hF : 1000000000 < F) {n : Nat} {S : SS} {M : SM} (h : Inv n S M) (x1 : Int32) : BthS n (k7_balance F S x1) (k8_balance F M x1) := by
  obtain ⟨p, hp, hK, hM⟩ := h
  unfold k7_balance
  rcases rng x1 8 (by omega) with ⟨c, hc, rfl⟩ | q
  · obtain ⟨S', a1, a2, a3⟩ := strikeK hF hp hK
    obtain ⟨M', b1, b2, b3⟩ := balM hF hp hM hc
    rw [isC_y hc, some_b, if_neg z10, a1, some_b, rdA_n hc (by omega), some_b, b1, a3 c hc]
    exact BthS.same hp a2 b2 rfl rfl
  · rw [isC_n q, some_b, if_pos rfl]
    unfold k8_balance
    rw [cM_n q, some_b, if_pos rfl]
    exact BthS.same hp hK hM rfl rfl
theorem Par.bal_si {n : Nat} {p : Par} (hp : InvP n p) : si p.bal 8 = 0 := (chv_si (fun w hw => (hp.rp.2.2.1 w hw).2.2)).trans hp.bs
theorem Par.bal_L1 {n : Nat} {p : Par} (hp : InvP n p) : L1 p.bal 8 ≤ 2000000 * (n + 1) := by
  have h1 := chv_L1 (f := p.bq) (o := p.o) (ow := p.ow) (W := p.W)
  have h2 := oN_tot (ow := p.ow) (s := p.sol.2) (cp := p.cp) (fr := p.fr) (T := p.T) (W := p.W) hp.tp.2 (fun i hi => (hp.rp.2.2.2.1 i hi).2.2.2.1)
  have h3 := hp.bl
  have h4 := hp.rp.2.1
  show L1 (chv p.bq p.o p.ow p.W) 8 ≤ _
  have h5 : sm (fun w => sm (p.o w) 8) p.W ≤ 99900 * p.T := h2
  omega
/-- the reference's balances, all eight into their row -/
theorem nowM {F n : Nat} (hF : 1000000000 < F) {p : Par} {M : SM} (hp : InvP n p) (h : InvM p M) {x1 : Int32} :
    ∃ M', (InvM p M' ∧ (∀ q, q ≠ 17 → q ≠ 18 → q ≠ 19 → M'.1 q = M.1 q) ∧ ∀ x, x < 8 → M'.1 19 x = iI (p.bal x)) ∧ ∀ k, lpN (fun _ _ => none) (fun rec => k8_close_B7 F x1 rec k) F M (nI 0) = k M' := by
  exact lp_cps (z := fun _ _ => none) (f := fun k rec => k8_close_B7 F x1 rec k) (fun (s : SM × Nat) g => g s.1 (nI s.2)) (fun (t : SM) k => k t) (fun s => (InvM p s.1 ∧ (∀ q, q ≠ 17 → q ≠ 18 → q ≠ 19 → s.1.1 q = M.1 q) ∧ ∀ x, x < s.2 → s.1.1 19 x = iI (p.bal x)) ∧ s.2 ≤ 8) (fun s => 8 - s.2) (fun M' => InvM p M' ∧ (∀ q, q ≠ 17 → q ≠ 18 → q ≠ 19 → M'.1 q = M.1 q) ∧ ∀ x, x < 8 → M'.1 19 x = iI (p.bal x)) (by
    rintro ⟨M1, j⟩ ⟨⟨k1, k2, k3⟩, hj⟩
    dsimp only at k1 k2 k3 hj
    by_cases h : j = 8
    · subst h
      refine Or.inr ⟨M1, ⟨k1, k2, k3⟩, fun k rec => ?_⟩
      dsimp only [k8_close_B7]
      rw [l8, if_pos (nI_le (Nat.le_refl 8) (by omega))]
    · have hj : j < 8 := by omega
      obtain ⟨M2, b1, b2, b3⟩ := balM hF hp k1 hj
      refine Or.inl ⟨(stM M2 19 j (iI (p.bal j)), j + 1), ⟨⟨?_, fun q u1 u2 u3 => ?_, fun x hx => ?_⟩, by dsimp only; omega⟩, by dsimp only; omega, fun k rec => ?_⟩
      · exact b2.cong (fun k _ => by rw [m_o (by decide)]) (fun q u v => by rw [m_o (by omega)])
      · dsimp only; rw [m_o u3, b3 q u1 u2]; exact k2 q u1 u2 u3
      · dsimp only at hx ⊢
        rw [m_s]
        by_cases e : x = j
        · rw [if_pos e, e]
        · rw [if_neg e, b3 19 (by decide) (by decide)]; exact k3 x (by omega)
      · dsimp only [k8_close_B7]
        simp only [bnd_e]
        rw [l8, if_neg (nI_ge (by omega) (by omega)), b1, ob2_s, ckA_n hj (by omega), some_b, clN (by omega), nI_1]) F (M, 0) ⟨⟨h, fun _ _ _ _ => rfl, fun x hx => absurd hx (Nat.not_lt_zero x)⟩, by dsimp only; omega⟩ (by dsimp only; omega)
theorem step_close {F : Nat} (hF : 1000000000 < F) {n : Nat} {S : SS} {M : SM} (h : Inv n S M) : BthS n (k7_close F S) (k8_close F M) := by
  obtain ⟨p, hp, hK, hM⟩ := h
  obtain ⟨p1, p2, p3, p4, p5⟩ := hp.rp
  obtain ⟨S1, a1, a2, a3, a4⟩ := chgK35 (F := F) (by omega) hp.np hp.rp hK.nk hK.rk hK.jc hp.tp hK.t2 hK.t3 hK.bk
  obtain ⟨M1, ⟨b1, b2, b3⟩, b4⟩ := nowM hF hp hM (x1 := nI p.T)
  obtain ⟨r, ⟨M2, h1, h2, h3⟩, he⟩ := lp_inv (z := fun _ _ => none) (f := fun rec => k8_close_B32 F (nI p.T) rec) (fun (s : SM × Nat) g => g s.1 (nI s.2)) (fun s => ((∀ q, q ≠ 12 → s.1.1 q = M1.1 q) ∧ ∀ x, x < s.2 → s.1.1 12 x = iI (p.bal x)) ∧ s.2 ≤ 8) (fun s => 8 - s.2) (fun r => ∃ M2, r = some (nI p.T, stM M2 0 9 0) ∧ (∀ q, q ≠ 12 → M2.1 q = M1.1 q) ∧ ∀ x, x < 8 → M2.1 12 x = iI (p.bal x)) (by
    rintro ⟨M3, j⟩ ⟨⟨k1, k2⟩, hj⟩
    dsimp only at k1 k2 hj
    by_cases h : j = 8
    · subst h
      refine Or.inr ⟨_, ⟨M3, rfl, k1, k2⟩, fun rec => ?_⟩
      dsimp only [k8_close_B32]
      simp only [bnd_e]
      rw [l8, if_pos (nI_le (Nat.le_refl 8) (by omega))]
    · have hj : j < 8 := by omega
      have e19 : M3.1 19 j = iI (p.bal j) := by rw [k1 19 (by decide)]; exact b3 j hj
      refine Or.inl ⟨(stM M3 12 j (iI (p.bal j)), j + 1), ⟨⟨fun q hq => ?_, fun x hx => ?_⟩, by dsimp only; omega⟩, by dsimp only; omega, fun rec => ?_⟩
      · dsimp only; rw [m_o hq]; exact k1 q hq
      · dsimp only at hx ⊢
        rw [m_s]
        by_cases e : x = j
        · rw [if_pos e, e]
        · rw [if_neg e]; exact k2 x (by omega)
      · dsimp only [k8_close_B32]
        simp only [bnd_e]
        rw [l8, if_neg (nI_ge (by omega) (by omega)), rdA_n hj (by omega), some_b, ckA_n hj (by omega), some_b, clN (by omega), e19, nI_1]) F (M1, 0) ⟨⟨fun _ _ => rfl, fun x hx => absurd hx (Nat.not_lt_zero x)⟩, by dsimp only; omega⟩ (by dsimp only; omega)
  have eM : k8_close F M = some (nI p.T, stM M2 0 9 0) := by
    unfold k8_close
    simp only [bnd_e]
    rw [hM.rm.2.1]
    refine (b4 _).trans ?_
    rw [← h1]; exact he
  have hT1 : S1 3 7 = nI p.T := by rw [a2 3 (by decide) (by decide) (by decide)]; exact hK.rk.2.1
  have eK : k7_close F S = some (nI p.T, st (st S1 3 7 0) 4 8 0) := by
    unfold k7_close k2_forget
    simp only [bnd_e]
    rw [a1, some_b, some_b, hT1]
  have g0 : ∀ k, k ≠ 9 → (stM M2 0 9 0).1 0 k = M.1 0 k := fun k hk => by rw [m_s, if_neg hk, h2 0 (by decide), b2 0 (by decide) (by decide) (by decide)]
  have g1 : ∀ q, 1 ≤ q → q ≤ 14 → q ≠ 12 → (stM M2 0 9 0).1 q = M.1 q := fun q u v w => by rw [m_o (by omega), h2 q w, b2 q (by omega) (by omega) (by omega)]
  have f1 : ∀ q, q ≠ 3 → q ≠ 4 → (q < 22 ∨ 26 < q) → q ≠ 35 → (st (st S1 3 7 0) 4 8 0) q = S q := fun q u v w z => by rw [st_o v, st_o u, a2 q v w z]
  have f3 : ∀ k, k ≠ 7 → (st (st S1 3 7 0) 4 8 0) 3 k = S 3 k := fun k hk => by rw [st_o (by decide), st_st, if_neg hk, a2 3 (by decide) (by decide) (by decide)]
  refine ⟨nI p.T, _, _, eK, eM, mkP p.N p.A p.B p.C p.L p.d p.W 0 p.mk p.ow p.wm p.jn p.dy p.cp p.fr p.pr p.bal p.bc p.th p.wa, InvP_mk hp.np ⟨p1, Nat.zero_le 7, p3, fun t ht => absurd ht (Nat.not_lt_zero t), fun t ht => absurd ht (Nat.not_lt_zero _)⟩ hp.tp (Par.bal_si hp) (Par.bal_L1 hp) hp.cb hp.t9, InvK_mk ?_ ?_ ?_ ?_ ?_ ?_ ?_ ?_ ?_ ?_, InvM_mk ?_ ?_ ?_ ?_ ?_ ?_ ?_⟩
  · exact hK.nk.cong (by rw [f1 1 (by decide) (by decide) (by decide) (by decide)]) (fun q u v => f1 q (by omega) (by omega) (by omega) (by omega))
  · refine ⟨by rw [f3 2 (by decide)]; exact hK.rk.1, by rw [st_o (by decide), st_st, if_pos rfl]; rfl, fun w hw => ?_, fun t ht => absurd ht (Nat.not_lt_zero t)⟩
    rw [f1 16 (by decide) (by decide) (by decide) (by decide), f1 17 (by decide) (by decide) (by decide) (by decide)]; exact hK.rk.2.2.1 w hw
  · rw [f1 5 (by decide) (by decide) (by decide) (by decide)]; exact hK.t2
  · rw [f1 5 (by decide) (by decide) (by decide) (by decide)]; exact hK.t3
  · intro x hx; rw [st_o (by decide), st_o (by decide)]; exact a4 x hx
  · rw [f1 0 (by decide) (by decide) (by decide) (by decide)]; exact hK.ck
  · intro j hj; rw [f1 29 (by decide) (by decide) (by decide) (by decide), f1 30 (by decide) (by decide) (by decide) (by decide)]; exact hK.tk j hj
  · left; rw [st_st, if_pos rfl]
  · exact hK.lc.cong (f1 7 (by decide) (by decide) (by decide) (by decide))
  · rw [f1 28 (by decide) (by decide) (by decide) (by decide)]; exact hK.z28
  · exact hM.nm.cong (g0 0 (by decide)) (fun q u v => g1 q u (by omega) (by omega))
  · refine ⟨by rw [g0 6 (by decide)]; exact hM.rm.1, by rw [m_s, if_pos rfl]; rfl, fun w hw => ?_, fun t ht => absurd ht (Nat.not_lt_zero t)⟩
    rw [g1 6 (by decide) (by decide) (by decide), g1 7 (by decide) (by decide) (by decide)]; exact hM.rm.2.2.1 w hw
  · rw [g0 14 (by decide)]; exact hM.t2
  · rw [g0 15 (by decide)]; exact hM.t3
  · intro x hx; rw [m_o (by decide)]; exact h3 x hx
  · rw [g0 16 (by decide)]; exact hM.cm
  · intro j hj; rw [g1 13 (by decide) (by decide) (by decide), g1 14 (by decide) (by decide) (by decide)]; exact hM.tm j hj

theorem step_wagon {F : Nat} (hF : 1000000000 < F) {n : Nat} {S : SS} {M : SM} (h : Inv n S M) (x1 x2 : Int32) : BthS n (k7_wagon F S x1 x2) (k8_wagon F M x1 x2) := by
  obtain ⟨p, hp, hK, hM⟩ := h
  have p1 := hp.rp.1
  rcases wagon_both (F := F) (by omega) hp.rp hK.rk hM.rm x1 x2 with ⟨a1, a2⟩ | ⟨S', M', mk', ow', a1, a2, a3, a4, a5, a7, a8, a9⟩
  · refine BthS.same hp hK hM ?_ a2
    unfold k7_wagon
    simp only [bnd_e]
    rw [a1, ob2_s, if_pos rfl]
  · refine ⟨nI p.W, st S' 4 8 0, M', ?_, a2, mkP p.N p.A p.B p.C p.L p.d (p.W + 1) p.T mk' ow' p.wm p.jn p.dy p.cp p.fr p.pr p.bq p.bc p.th p.wa, InvP_mk hp.np a3 hp.tp hp.bs hp.up.bl hp.cb hp.t9, InvK_mk ?_ ?_ ?_ ?_ ?_ ?_ ?_ ?_ ?_ ?_, InvM_mk ?_ a5 ?_ ?_ ?_ ?_ ?_⟩
    · unfold k7_wagon k2_forget
      simp only [bnd_e]
      rw [a1, ob2_s, if_neg (nI_m1 (by omega)), some_b]
    · exact hK.nk.cong (by rw [st_o (by decide), a7 1 (by decide) (by decide) (by decide)]) (fun q u v => by rw [st_o (by omega), a7 q (by omega) (by omega) (by omega)])
    · exact a4.cong (by rw [st_o (by decide)]) (fun q u v => by rw [st_o (by omega)])
    · rw [st_o (by decide), a7 5 (by decide) (by decide) (by decide)]; exact hK.t2
    · rw [st_o (by decide), a7 5 (by decide) (by decide) (by decide)]; exact hK.t3
    · intro x hx; rw [st_o (by decide), a7 35 (by decide) (by decide) (by decide)]; exact hK.bk x hx
    · rw [st_o (by decide), a7 0 (by decide) (by decide) (by decide)]; exact hK.ck
    · intro j hj; rw [st_o (by decide), st_o (by decide), a7 29 (by decide) (by decide) (by decide), a7 30 (by decide) (by decide) (by decide)]; exact hK.tk j hj
    · left; rw [st_st, if_pos rfl]
    · exact hK.lc.cong (by rw [st_o (by decide), a7 7 (by decide) (by decide) (by decide)])
    · rw [st_o (by decide), a7 28 (by decide) (by decide) (by decide)]; exact hK.z28
    · exact hM.nm.cong (a9 0 (by decide)) (fun q u v => a8 q (by omega) (by omega) (by omega))
    · rw [a9 14 (by decide)]; exact hM.t2
    · rw [a9 15 (by decide)]; exact hM.t3
    · intro x hx; rw [a8 12 (by decide) (by decide) (by decide)]; exact hM.bm x hx
    · rw [a9 16 (by decide)]; exact hM.cm
    · intro j hj; rw [a8 13 (by decide) (by decide) (by decide), a8 14 (by decide) (by decide) (by decide)]; exact hM.tm j hj
theorem step_see {F : Nat} (hF : 1000000000 < F) {n : Nat} {S : SS} {M : SM} (h : Inv n S M) (x1 x2 x3 x4 : Int32) : BthS n (k7_see F S x1 x2 x3 x4) (k8_see F M x1 x2 x3 x4) := by
  obtain ⟨p, hp, hK, hM⟩ := h
  have p2 := hp.rp.2.1
  rcases see_both (F := F) (by omega) hp.rp hK.rk hM.rm x1 x2 x3 x4 with ⟨a1, a2⟩ | ⟨S', M', wm', jn', dy', cp', a1, a2, a3, a4, a5, a7, a8, a9⟩
  · refine BthS.same hp hK hM ?_ a2
    unfold k7_see
    simp only [bnd_e]
    rw [a1, ob2_s, if_pos rfl]
  · refine ⟨nI p.T, st S' 4 8 0, M', ?_, a2, mkP p.N p.A p.B p.C p.L p.d p.W (p.T + 1) p.mk p.ow wm' jn' dy' cp' p.fr p.pr p.bq p.bc p.th p.wa, InvP_mk hp.np a3 hp.tp hp.bs hp.up.bl hp.cb hp.t9, InvK_mk ?_ ?_ ?_ ?_ ?_ ?_ ?_ ?_ ?_ ?_, InvM_mk ?_ a5 ?_ ?_ ?_ ?_ ?_⟩
    · unfold k7_see k2_forget
      simp only [bnd_e]
      rw [a1, ob2_s, if_neg (nI_m1 (by omega)), some_b]
    · exact hK.nk.cong (by rw [st_o (by decide), a7 1 (by decide) (by decide)]) (fun q u v => by rw [st_o (by omega), a7 q (by omega) (by omega)])
    · exact a4.cong (by rw [st_o (by decide)]) (fun q u v => by rw [st_o (by omega)])
    · rw [st_o (by decide), a7 5 (by decide) (by decide)]; exact hK.t2
    · rw [st_o (by decide), a7 5 (by decide) (by decide)]; exact hK.t3
    · intro x hx; rw [st_o (by decide), a7 35 (by decide) (by decide)]; exact hK.bk x hx
    · rw [st_o (by decide), a7 0 (by decide) (by decide)]; exact hK.ck
    · intro j hj; rw [st_o (by decide), st_o (by decide), a7 29 (by decide) (by decide), a7 30 (by decide) (by decide)]; exact hK.tk j hj
    · left; rw [st_st, if_pos rfl]
    · exact hK.lc.cong (by rw [st_o (by decide), a7 7 (by decide) (by decide)])
    · rw [st_o (by decide), a7 28 (by decide) (by decide)]; exact hK.z28
    · exact hM.nm.cong (a9 0 (by decide)) (fun q u v => a8 q (by omega) (by omega))
    · rw [a9 14 (by decide)]; exact hM.t2
    · rw [a9 15 (by decide)]; exact hM.t3
    · intro x hx; rw [a8 12 (by decide) (by decide)]; exact hM.bm x hx
    · rw [a9 16 (by decide)]; exact hM.cm
    · intro j hj; rw [a8 13 (by decide) (by decide), a8 14 (by decide) (by decide)]; exact hM.tm j hj
/-! numbers of sights and wagons -/
theorem hasS_y {F : Nat} {S : SS} {T t : Nat} (h : S 3 7 = nI T) (hT : T ≤ 7) (ht : t < T) : k6_hasSight F S (nI t) = some 1 := by
  unfold k6_hasSight; rw [if_neg (nI_nn (by omega)), h, if_neg (nI_ge ht (by omega))]
theorem hasS_n {F : Nat} {S : SS} {T : Nat} {x : Int32} (h : S 3 7 = nI T) (hx : x < 0 ∨ nI T ≤ x) : k6_hasSight F S x = some 0 := by
  unfold k6_hasSight; rw [h]
  by_cases q : x < 0
  · rw [if_pos q]
  · rw [if_neg q, if_pos (hx.resolve_left q)]
theorem hasW_y {F : Nat} {S : SS} {W w : Nat} (h : S 3 2 = nI W) (hW : W ≤ 4) (hw : w < W) : k6_hasWagon F S (nI w) = some 1 := by
  unfold k6_hasWagon; rw [if_neg (nI_nn (by omega)), h, if_neg (nI_ge hw (by omega))]
theorem hasW_n {F : Nat} {S : SS} {W : Nat} {x : Int32} (h : S 3 2 = nI W) (hx : x < 0 ∨ nI W ≤ x) : k6_hasWagon F S x = some 0 := by
  unfold k6_hasWagon; rw [h]
  by_cases q : x < 0
  · rw [if_pos q]
  · rw [if_neg q, if_pos (hx.resolve_left q)]
theorem inS_y {F : Nat} {M : SM} {T t : Nat} (hT : T ≤ 7) (ht : t < T) : k8_in F M (nI t) 0 (nI T - 1) = some 1 := by
  rw [l0, l1, sbN (by omega)]; exact in_y (by omega) (by omega) (by omega)
theorem inS_n {F : Nat} {M : SM} {T : Nat} {x : Int32} (hT : T ≤ 7) (hx : x < 0 ∨ nI T ≤ x) : k8_in F M x 0 (nI T - 1) = some 0 := by
  by_cases q : T = 0
  · subst q
    by_cases q2 : x < 0
    · exact in_n (Or.inl q2)
    · refine in_n (Or.inr ?_)
      rw [Int32.lt_iff_toInt_lt] at q2 ⊢
      have e1 : (nI 0 - 1).toInt = -1 := by decide
      have e2 : (0 : Int32).toInt = 0 := by decide
      omega
  · rw [l1, sbN (by omega)]
    exact in_n (hx.elim Or.inl fun z => Or.inr (lt_of_nle (by omega) (by rw [show T - 1 + 1 = T by omega]; exact z)))
theorem step_error {F : Nat} (hF : 1000000000 < F) {n : Nat} {S : SS} {M : SM} (h : Inv n S M) (x1 x2 : Int32) : ∃ r, k7_error F S x1 x2 = some r ∧ k8_error F M x1 x2 = some r := by
  obtain ⟨p, hp, hK, hM⟩ := h
  obtain ⟨p1, p2, p3, p4, p5⟩ := hp.rp
  have e0 : k7_error F S x1 x2 = k6_errorOf F S x1 x2 := by
    unfold k7_error
    cases k6_errorOf F S x1 x2 <;> rfl
  rw [e0]
  unfold k8_error k6_errorOf
  rw [hM.rm.2.1, hM.rm.1]
  rcases rng x1 p.T (by omega) with ⟨t, ht, rfl⟩ | q1
  · rw [hasS_y hK.rk.2.1 p2 ht, some_b, if_neg z10, inS_y p2 ht, some_b, if_neg z10]
    rcases rng x2 p.W (by omega) with ⟨w, hw, rfl⟩ | q2
    · have e1 := p3 w hw
      have e2 := p4 t ht
      refine ⟨nI (er (p.wm t) (p.mk w)), ?_, ?_⟩
      · rw [hasW_y hK.rk.1 p1 hw, some_b, if_neg z10, rdA_n (by omega) (by omega), some_b, rdA_n (by omega) (by omega), some_b, (hK.rk.2.2.1 w hw).1, (hK.rk.2.2.2 t ht).1, diff_ok (by omega) (by omega) (by omega), some_b]
      · rw [inS_y (by omega) hw, some_b, if_neg z10, rdA_n (by omega) (by omega), some_b, rdA_n (by omega) (by omega), some_b, (hM.rm.2.2.1 w hw).1, (hM.rm.2.2.2 t ht).1, errM_ok (by omega) (by omega) (by omega), some_b]
    · exact ⟨-1, by rw [hasW_n hK.rk.1 q2, some_b, if_pos rfl], by rw [inS_n (by omega) q2, some_b, if_pos rfl]⟩
  · exact ⟨-1, by rw [hasS_n hK.rk.2.1 q1, some_b, if_pos rfl], by rw [inS_n p2 q1, some_b, if_pos rfl]⟩
theorem step_whose {F : Nat} (hF : 1000000000 < F) {n : Nat} {S : SS} {M : SM} (h : Inv n S M) (x1 : Int32) : BthS n (k7_whose F S x1) (k8_whose F M x1) := by
  obtain ⟨p, hp, hK, hM⟩ := h
  obtain ⟨p1, p2, p3, p4, p5⟩ := hp.rp
  unfold k7_whose k8_whose k2_wagonOf
  rw [hM.rm.2.1]
  rcases rng x1 p.T (by omega) with ⟨t, ht, rfl⟩ | q1
  · obtain ⟨S', a1, a2, a3⟩ := hK.solve hF hp
    obtain ⟨M', b1, b2, b3, b4⟩ := hM.joins hF hp
    have hs : p.sol.2 t ≤ p.W := sol_W ht
    rw [hasS_y hK.rk.2.1 p2 ht, some_b, if_neg z10, inS_y p2 ht, some_b, if_neg z10, a1, some_b, rdA_n (by omega) (by omega), some_b, ob2_s, b1, ob2_s, rdA_n (by omega) (by omega), some_b, b4 t ht, b2.rm.1, a3.2.2 t ht]
    unfold enc
    by_cases q : p.sol.2 t = p.W
    · rw [if_pos q, if_pos (by rw [q])]
      exact BthS.same hp a2 b2 rfl rfl
    · rw [if_neg q, if_neg (fun z => q ((nI_eq (by omega) (by omega)).mp z))]
      exact BthS.same hp a2 b2 rfl rfl
  · rw [hasS_n hK.rk.2.1 q1, some_b, if_pos rfl, inS_n p2 q1, some_b, if_pos rfl, ob2_s]
    exact BthS.same hp hK hM rfl rfl
theorem step_cost {F : Nat} (hF : 1000000000 < F) {n : Nat} {S : SS} {M : SM} (h : Inv n S M) : BthS n (k7_cost F S) (k8_cost F M) := by
  obtain ⟨p, hp, hK, hM⟩ := h
  obtain ⟨S', a1, a2, a3⟩ := hK.solve hF hp
  obtain ⟨M', b1, b2, b3, b4⟩ := hM.joins hF hp
  unfold k7_cost k8_cost k2_lowestCost
  rw [a1, some_b, ob2_s, b1, ob2_s, a3.2.1]
  exact BthS.same hp a2 b2 rfl rfl
theorem l30 : (30 : Int32) = nI 30 := rfl
theorem step_terms {F : Nat} (hF : 1000000000 < F) {n : Nat} {S : SS} {M : SM} (h : Inv n S M) (x1 x2 : Int32) : BthS n (k7_terms F S x1 x2) (k8_terms F M x1 x2) := by
  obtain ⟨p, hp, hK, hM⟩ := h
  unfold k7_terms k8_terms k0_agree
  simp only [bnd_e]
  rw [l0, l30, l100]
  rcases rng2 x1 0 30 (by omega) with ⟨f, -, hf, rfl⟩ | q1
  · rw [isW_y (by omega) hf (by omega), some_b, if_neg (show ¬ (1 : Int32) = nI 0 from z10), in_y (by omega) hf (by omega), some_b, if_neg (show ¬ (1 : Int32) = nI 0 from z10)]
    rcases rng2 x2 0 100 (by omega) with ⟨r, -, hr, rfl⟩ | q2
    · rw [isW_y (by omega) hr (by omega), some_b, if_neg (show ¬ (1 : Int32) = nI 0 from z10), in_y (by omega) hr (by omega), some_b, if_neg (show ¬ (1 : Int32) = nI 0 from z10), ob2_s, ckB1, some_b]
      refine ⟨1, _, _, rfl, rfl, mkP p.N p.A p.B p.C p.L p.d p.W p.T p.mk p.ow p.wm p.jn p.dy p.cp f r p.bq p.bc p.th p.wa, InvP_mk hp.np hp.rp ⟨hf, hr⟩ hp.bs hp.up.bl hp.cb hp.t9, InvK_mk ?_ ?_ ?_ ?_ ?_ ?_ ?_ ?_ ?_ ?_, InvM_mk ?_ ?_ ?_ ?_ ?_ ?_ ?_⟩
      · exact hK.nk.cong (by rw [st_o (by decide), st_o (by decide)]) (fun q u v => by rw [st_o (by omega), st_o (by omega)])
      · exact hK.rk.cong (by rw [st_o (by decide), st_o (by decide)]) (fun q u v => by rw [st_o (by omega), st_o (by omega)])
      · rw [st_st, if_neg (by decide), st_st, if_pos rfl]
      · rw [st_st, if_pos rfl]
      · intro x hx; rw [st_o (by decide), st_o (by decide)]; exact hK.bk x hx
      · rw [st_o (by decide), st_o (by decide)]; exact hK.ck
      · intro j hj; rw [st_o (by decide), st_o (by decide), st_o (by decide), st_o (by decide)]; exact hK.tk j hj
      · exact hK.jc.cong (by rw [st_o (by decide), st_o (by decide)]) (by rw [st_o (by decide), st_o (by decide)])
      · exact hK.lc.cong (by rw [st_o (by decide), st_o (by decide)])
      · rw [st_o (by decide), st_o (by decide)]; exact hK.z28
      · exact hM.nm.cong (by rw [m_s, if_neg (by decide), m_s, if_neg (by decide)]) (fun q u v => by rw [m_o (by omega), m_o (by omega)])
      · exact hM.rm.cong (by rw [m_s, if_neg (by decide), m_s, if_neg (by decide)]) (by rw [m_s, if_neg (by decide), m_s, if_neg (by decide)]) (fun q u v => by rw [m_o (by omega), m_o (by omega)])
      · rw [m_s, if_neg (by decide), m_s, if_pos rfl]
      · rw [m_s, if_pos rfl]
      · intro x hx; rw [m_o (by decide), m_o (by decide)]; exact hM.bm x hx
      · rw [m_s, if_neg (by decide), m_s, if_neg (by decide)]; exact hM.cm
      · intro j hj; rw [m_o (by decide), m_o (by decide), m_o (by decide), m_o (by decide)]; exact hM.tm j hj
    · rw [isW_n q2, some_b, if_pos (show (0 : Int32) = nI 0 from rfl), in_n q2, some_b, if_pos (show (0 : Int32) = nI 0 from rfl), ob2_s, show ckB (nI 0) = some () from ckB0, some_b]
      exact BthS.same hp hK hM rfl rfl
  · rw [isW_n q1, some_b, if_pos (show (0 : Int32) = nI 0 from rfl), in_n q1, some_b, if_pos (show (0 : Int32) = nI 0 from rfl), ob2_s, show ckB (nI 0) = some () from ckB0, some_b]
    exact BthS.same hp hK hM rfl rfl
theorem step_charge {F : Nat} (hF : 1000000000 < F) {n : Nat} {S : SS} {M : SM} (h : Inv n S M) (x1 x2 : Int32) : BthS n (k7_charge F S x1 x2) (k8_charge F M x1 x2) := by
  obtain ⟨p, hp, hK, hM⟩ := h
  obtain ⟨p1, p2, p3, p4, p5⟩ := hp.rp
  unfold k7_charge k8_charge k0_owed
  rw [hM.rm.1]
  rcases rng x1 p.W (by omega) with ⟨w, hw, rfl⟩ | q1
  · rw [hasW_y hK.rk.1 p1 hw, some_b, if_neg z10, inS_y (by omega) hw, some_b, if_neg z10]
    rcases rng x2 8 (by omega) with ⟨c, hc, rfl⟩ | q2
    · obtain ⟨S', a1, a2, a3⟩ := hK.solve hF hp
      obtain ⟨M', b1, b2, b3, b4⟩ := hM.joins hF hp
      rw [isC_y hc, some_b, if_neg z10, cM_y hc, some_b, if_neg z10, a1, some_b, b1, ob2_s, owedK (F := F) (by omega) hp.rp a2.rk hp.tp a2.t2 a2.t3 (s := p.sol.2) (fun k hk => ⟨a3.2.2 k hk, sol_W hk⟩) hw hc, some_b, ob2_s, owesM (F := F) (by omega) hp.rp b2.rm hp.tp b2.t2 b2.t3 (s := p.sol.2) (fun k hk => ⟨b4 k hk, sol_W hk⟩) hw hc, some_b]
      exact BthS.same hp a2 b2 rfl rfl
    · rw [isC_n q2, some_b, if_pos rfl, cM_n q2, some_b, if_pos rfl, ob2_s]
      exact BthS.same hp hK hM rfl rfl
  · rw [hasW_n hK.rk.1 q1, some_b, if_pos rfl, inS_n (by omega) q1, some_b, if_pos rfl, ob2_s]
    exact BthS.same hp hK hM rfl rfl
theorem step_empties {F : Nat} (hF : 1000000000 < F) {n : Nat} {S : SS} {M : SM} (h : Inv n S M) (x1 x2 x3 : Int32) : BthS n (k7_empties F S x1 x2 x3) (k8_empties F M x1 x2 x3) := by
  obtain ⟨p, hp, hK, hM⟩ := h
  unfold k7_empties k8_empties k3_place k3_forget
  simp only [bnd_e]
  rcases rng x1 12 (by omega) with ⟨j, hj, rfl⟩ | q1
  · simp only [isJ_y hj, jM_y hj, some_b, z10, if_false]
    rw [l0, l9]
    rcases rng2 x2 0 9 (by omega) with ⟨f, -, hf, rfl⟩ | q2
    · rw [isW_y (by omega) hf (by omega), some_b, if_neg (show ¬ (1 : Int32) = nI 0 from z10), in_y (by omega) hf (by omega), some_b, if_neg (show ¬ (1 : Int32) = nI 0 from z10)]
      rcases rng2 x3 0 9 (by omega) with ⟨r, -, hr, rfl⟩ | q3
      · rw [isW_y (by omega) hr (by omega), some_b, if_neg (show ¬ (1 : Int32) = nI 0 from z10), in_y (by omega) hr (by omega), some_b, if_neg (show ¬ (1 : Int32) = nI 0 from z10), ckA_n hj (by omega), some_b, some_b, some_b, ob2_s, ckB1, some_b, clN (by omega)]
        refine ⟨1, _, _, rfl, rfl, mkP p.N p.A p.B p.C p.L p.d p.W p.T p.mk p.ow p.wm p.jn p.dy p.cp p.fr p.pr p.bq p.bc (fun i => if i = j then f else p.th i) (fun i => if i = j then r else p.wa i), InvP_mk hp.np hp.rp hp.tp hp.bs hp.up.bl hp.cb (fun i hi => ?_), InvK_mk ?_ ?_ ?_ ?_ ?_ ?_ ?_ ?_ ?_ ?_, InvM_mk ?_ ?_ ?_ ?_ ?_ ?_ ?_⟩
        · have := hp.t9 i hi
          by_cases q : i = j
          · rw [if_pos q, if_pos q]; exact ⟨hf, hr⟩
          · rw [if_neg q, if_neg q]; exact this
        · exact hK.nk.cong (by rw [st_o (by decide), st_o (by decide), st_o (by decide)]) (fun q u v => by rw [st_o (by omega), st_o (by omega), st_o (by omega)])
        · exact hK.rk.cong (by rw [st_o (by decide), st_o (by decide), st_o (by decide)]) (fun q u v => by rw [st_o (by omega), st_o (by omega), st_o (by omega)])
        · rw [st_o (by decide), st_o (by decide), st_o (by decide)]; exact hK.t2
        · rw [st_o (by decide), st_o (by decide), st_o (by decide)]; exact hK.t3
        · intro x hx; rw [st_o (by decide), st_o (by decide), st_o (by decide)]; exact hK.bk x hx
        · rw [st_o (by decide), st_o (by decide), st_o (by decide)]; exact hK.ck
        · intro i hi
          have := hK.tk i hi
          rw [st_o (by decide), st_o (by decide), st_st, st_o (by decide), st_st, st_o (by decide)]
          by_cases q : i = j
          · rw [if_pos q, if_pos q, if_pos q, if_pos q]; exact ⟨rfl, rfl⟩
          · rw [if_neg q, if_neg q, if_neg q, if_neg q]; exact this
        · exact hK.jc.cong (by rw [st_o (by decide), st_o (by decide), st_o (by decide)]) (by rw [st_o (by decide), st_o (by decide), st_o (by decide)])
        · left; rw [st_st, if_pos rfl]; rfl
        · rw [st_o (by decide), st_o (by decide), st_o (by decide)]; exact hK.z28
        · exact hM.nm.cong (by rw [m_o (by decide), m_o (by decide)]) (fun q u v => by rw [m_o (by omega), m_o (by omega)])
        · exact hM.rm.cong (by rw [m_o (by decide), m_o (by decide)]) (by rw [m_o (by decide), m_o (by decide)]) (fun q u v => by rw [m_o (by omega), m_o (by omega)])
        · rw [m_o (by decide), m_o (by decide)]; exact hM.t2
        · rw [m_o (by decide), m_o (by decide)]; exact hM.t3
        · intro x hx; rw [m_o (by decide), m_o (by decide)]; exact hM.bm x hx
        · rw [m_o (by decide), m_o (by decide)]; exact hM.cm
        · intro i hi
          have := hM.tm i hi
          rw [m_o (by decide), m_s, m_s, m_o (by decide)]
          by_cases q : i = j
          · rw [if_pos q, if_pos q, if_pos q, if_pos q]; exact ⟨rfl, rfl⟩
          · rw [if_neg q, if_neg q, if_neg q, if_neg q]; exact this
      · rw [isW_n q3, some_b, if_pos (show (0 : Int32) = nI 0 from rfl), in_n q3, some_b, if_pos (show (0 : Int32) = nI 0 from rfl), ob2_s, show ckB (nI 0) = some () from ckB0, some_b]
        exact BthS.same hp hK hM rfl rfl
    · rw [isW_n q2, some_b, if_pos (show (0 : Int32) = nI 0 from rfl), in_n q2, some_b, if_pos (show (0 : Int32) = nI 0 from rfl), ob2_s, show ckB (nI 0) = some () from ckB0, some_b]
      exact BthS.same hp hK hM rfl rfl
  · rw [isJ_n q1, some_b, if_pos rfl, jM_n q1, some_b, if_pos rfl, ob2_s, ckB0, some_b]
    exact BthS.same hp hK hM rfl rfl
theorem sum29 {F : Nat} (hF : 12 < F) {S : SS} {f : Nat → Nat} (hr : ∀ c, c < 12 → S 29 c = nI (f c)) : k7_sumOf_29 F S = some (nI (sm f 12)) := by
  unfold k7_sumOf_29
  simp only [bnd_e]
  refine lp_seq (z := fun _ _ => none) (f := fun rec => k7_sumOf_29_B4 F S rec) (fun (j : Nat) g => g (nI (sm f j)) (nI j)) (fun j => j) 12 _ (fun j hj rec => ?_) (fun rec => ?_) (by omega)
  · unfold k7_sumOf_29_B4
    simp only [bnd_e]
    rw [l12, if_neg (nI_ge hj (by omega)), rdA_n hj (by omega), some_b, hr j hj, nI_add, nI_1]; rfl
  · unfold k7_sumOf_29_B4; rw [l12, if_pos (nI_le (Nat.le_refl 12) (by omega))]
theorem sum30 {F : Nat} (hF : 12 < F) {S : SS} {f : Nat → Nat} (hr : ∀ c, c < 12 → S 30 c = nI (f c)) : k7_sumOf_30 F S = some (nI (sm f 12)) := by
  unfold k7_sumOf_30
  simp only [bnd_e]
  refine lp_seq (z := fun _ _ => none) (f := fun rec => k7_sumOf_30_B4 F S rec) (fun (j : Nat) g => g (nI (sm f j)) (nI j)) (fun j => j) 12 _ (fun j hj rec => ?_) (fun rec => ?_) (by omega)
  · unfold k7_sumOf_30_B4
    simp only [bnd_e]
    rw [l12, if_neg (nI_ge hj (by omega)), rdA_n hj (by omega), some_b, hr j hj, nI_add, nI_1]; rfl
  · unfold k7_sumOf_30_B4; rw [l12, if_pos (nI_le (Nat.le_refl 12) (by omega))]
theorem sum13 {F : Nat} (hF : 12 < F) {S : SM} {f : Nat → Nat} (hr : ∀ c, c < 12 → S.1 13 c = nI (f c)) : lpN (fun _ _ => none) (fun rec => k8_count_B62 F S rec) F 0 0 = some (nI (sm f 12)) := by
  refine lp_seq (z := fun _ _ => none) (f := fun rec => k8_count_B62 F S rec) (fun (j : Nat) g => g (nI (sm f j)) (nI j)) (fun j => j) 12 _ (fun j hj rec => ?_) (fun rec => ?_) (by omega)
  · unfold k8_count_B62
    simp only [bnd_e]
    rw [l12, if_neg (nI_ge hj (by omega)), rdA_n hj (by omega), some_b, hr j hj, nI_add, nI_1]; rfl
  · unfold k8_count_B62; rw [l12, if_pos (nI_le (Nat.le_refl 12) (by omega))]
theorem sum14M {F : Nat} (hF : 12 < F) {S : SM} {f : Nat → Nat} (hr : ∀ c, c < 12 → S.1 14 c = nI (f c)) : lpN (fun _ _ => none) (fun rec => k8_count_B87 F S rec) F 0 0 = some (nI (sm f 12)) := by
  refine lp_seq (z := fun _ _ => none) (f := fun rec => k8_count_B87 F S rec) (fun (j : Nat) g => g (nI (sm f j)) (nI j)) (fun j => j) 12 _ (fun j hj rec => ?_) (fun rec => ?_) (by omega)
  · unfold k8_count_B87
    simp only [bnd_e]
    rw [l12, if_neg (nI_ge hj (by omega)), rdA_n hj (by omega), some_b, hr j hj, nI_add, nI_1]; rfl
  · unfold k8_count_B87; rw [l12, if_pos (nI_le (Nat.le_refl 12) (by omega))]
theorem step_count {F : Nat} (hF : 1000000000 < F) {n : Nat} {S : SS} {M : SM} (h : Inv n S M) (x1 : Int32) : ∃ r, k7_count F S x1 = some r ∧ k8_count F M x1 = some r := by
  obtain ⟨p, hp, hK, hM⟩ := h
  unfold k7_count k8_count
  simp only [bnd_e]
  rw [sum29 (F := F) (by omega) (fun c hc => (hK.tk c hc).1), sum30 (F := F) (by omega) (fun c hc => (hK.tk c hc).2), sum13 (F := F) (by omega) (fun c hc => (hM.tm c hc).1), sum14M (F := F) (by omega) (fun c hc => (hM.tm c hc).2), hK.nk.1, hM.nm.1, hK.rk.1, hM.rm.1, hK.rk.2.1, hM.rm.2.1, hK.ck, hM.cm]
  split
  · exact ⟨_, rfl, rfl⟩
  split
  · exact ⟨_, rfl, rfl⟩
  split
  · exact ⟨_, rfl, rfl⟩
  split
  · exact ⟨_, rfl, rfl⟩
  split
  · exact ⟨_, rfl, rfl⟩
  split
  · exact ⟨_, rfl, rfl⟩
  · exact ⟨_, rfl, rfl⟩

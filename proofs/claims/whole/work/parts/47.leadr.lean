theorem NC.cert {d : Nat → Nat → Nat} {th wa π : Nat → Nat} {x : Nat → Nat → Nat} (h : NC 24 gR idN tbR (ER d) d th wa 1000000 π x) : Cert d th wa π (fun b => π (12 + b)) x := by
  obtain ⟨h1, h2, h3, h4, h5, h6⟩ := h
  refine ⟨fun a b ha hb hd => ?_, fun a b ha hb hx => ⟨h3 a b ha hb hx, ?_⟩, fun a ha => ⟨h4 a ha, fun z => h1.2.2 a (by omega) ⟨gR_t ha, z⟩⟩, fun b hb => ⟨h5 b hb, fun z => h6 (12 + b) (by omega) (gR_f (by omega)) (by unfold tbR; rw [Nat.add_sub_cancel_left]; exact z), h2 (12 + b) (by omega)⟩⟩
  · have := (h1.1 a (12 + b) (AR_i ha hb hd)).2.2.2
    rw [show wN gR idN tbR d a (12 + b) = d a b from WR_f ha] at this
    exact this
  · have := (h1.2.1 (12 + b) a (BR_i ha hb hx)).2.2
    rw [show wN gR idN tbR d (12 + b) a = d a b from WR_b] at this
    exact this
theorem s2_th {th : Nat → Nat} {x : Nat → Nat → Nat} (h9 : ∀ j, j < 12 → th j ≤ 9) (h : ∀ a, a < 12 → rwS x a ≤ th a) : s2 x ≤ 108 := by
  have : s2 x ≤ 12 * 9 := sm_bd fun a ha => Nat.le_trans (h a ha) (h9 a ha)
  omega
theorem cst_bd {d x : Nat → Nat → Nat} (h : ∀ a b, a < 12 → b < 12 → 0 < x a b → d a b ≤ 2200) : cst2 d x ≤ 2200 * s2 x := by
  rw [← s2_k]
  refine s2_le fun a b ha hb => ?_
  by_cases q : x a b = 0
  · rw [q, Nat.zero_mul]; exact Nat.zero_le _
  · rw [Nat.mul_comm]; exact Nat.mul_le_mul_right _ (h a b ha hb (by omega))
theorem leadsM {F n : Nat} (hF : 1000000000 < F) {p : Par} {M : SM} (hp : InvP n p) (h : InvM p M) :
    ∃ m l M', FlowV p.d p.th p.wa m l ∧ k8_leads F M = some (nI m, M') ∧ M'.1 0 30 = nI l ∧ InvM p M' := by
  have hd : ∀ a b, a < 12 → b < 12 → p.d a b ≤ 2200 ∨ p.d a b = 1000000 := fun a b ha hb => hp.np.2.2.2.b2200 hp.np.2.1 ha hb
  have hNod := NodR hp.np
  -- no wagon is led yet
  obtain ⟨S1, ⟨a1, a2⟩, a3⟩ := lp_cps (z := fun _ _ => none) (f := fun k rec => k8_leads_B2 F rec k) (fun (s : SM × Nat) g => g s.1 (nI s.2)) (fun (t : SM) k => k t) (fun s => ((∀ q, q ≠ 21 → s.1.1 q = M.1 q) ∧ ∀ n, n < s.2 → s.1.1 21 n = nI 0) ∧ s.2 ≤ 144) (fun s => 144 - s.2) (fun S => (∀ q, q ≠ 21 → S.1 q = M.1 q) ∧ ∀ n, n < 144 → S.1 21 n = nI 0) (by
    rintro ⟨S, j⟩ ⟨⟨k1, k2⟩, hj⟩
    dsimp only at k1 k2 hj
    by_cases e : j = 144
    · subst e
      refine Or.inr ⟨S, ⟨k1, k2⟩, fun k rec => ?_⟩
      dsimp only [k8_leads_B2]
      rw [l144, if_pos (nI_le (Nat.le_refl 144) (by omega))]
    · refine Or.inl ⟨(stM S 21 j 0, j + 1), ⟨⟨fun q hq => by dsimp only; rw [m_o hq]; exact k1 q hq, fun n hn => ?_⟩, by dsimp only; omega⟩, by dsimp only; omega, fun k rec => ?_⟩
      · dsimp only at hn ⊢
        rw [m_s]
        by_cases e2 : n = j
        · rw [if_pos e2]; rfl
        · rw [if_neg e2]; exact k2 n (by omega)
      · dsimp only [k8_leads_B2]
        simp only [bnd_e]
        rw [l144, if_neg (nI_ge (by omega) (by omega)), ckA_n (by omega) (by omega), some_b, clN (by omega), nI_1]) F (M, 0) ⟨⟨fun _ _ => rfl, fun n hn => absurd hn (Nat.not_lt_zero n)⟩, Nat.zero_le 144⟩ (by dsimp only; omega)
  obtain ⟨S2, eS2⟩ : ∃ z, z = stM S1 0 30 0 := ⟨_, rfl⟩
  have f2 : ∀ q, q ≠ 0 → q ≠ 21 → S2.1 q = M.1 q := fun q u v => by rw [eS2, m_o u]; exact a1 q v
  have f20 : ∀ k, k ≠ 30 → S2.1 0 k = M.1 0 k := fun k hk => by rw [eS2, m_s, if_neg hk, a1 0 (by decide)]
  have hRW : RW p.d p.th p.wa (fun _ _ => 0) S2 := ⟨fun a b ha hb => by rw [f2 5 (by decide) (by decide)]; exact h.nm.2.2 a b ha hb, fun j hj => by rw [f2 13 (by decide) (by decide), f2 14 (by decide) (by decide)]; exact h.tm j hj, fun a b ha hb => by rw [eS2, m_o (by decide)]; exact a2 _ (by omega)⟩
  obtain ⟨S3, far0, pr0, en0, s1, s2', s3, s4, s5, s6⟩ := seeksM hF hd hp.t9 (NC.zero hNod (th := p.th) (wa := p.wa)) (by omega) hRW
  have cz : cst2 p.d (fun _ _ => 0) = 0 := by
    have : cst2 p.d (fun _ _ => 0) ≤ 2200 * s2 (fun _ _ => 0) := cst_bd fun _ _ _ _ z => absurd z (Nat.lt_irrefl 0)
    have h0 : s2 (fun _ _ => 0) = 0 := by decide
    omega
  -- one by one
  obtain ⟨r, ⟨m, l, M', r1, r2, r3, r4⟩, he⟩ := lp_inv (z := fun _ _ _ => none) (f := fun rec => k8_leads_B34 F rec) (fun (s : SM × (Nat → Nat → Nat) × Option Nat) g => g s.1 (nI (s2 s.2.1)) (encB s.2.2))
    (fun s => (∀ q, q ≠ 0 → q ≠ 21 → q ≠ 22 → q ≠ 23 → s.1.1 q = M.1 q) ∧ (∀ k, k ≠ 30 → s.1.1 0 k = M.1 0 k) ∧ s.1.1 0 30 = nI (cst2 p.d s.2.1) ∧ (∀ a b, a < 12 → b < 12 → s.1.1 21 (12 * a + b) = nI (s.2.1 a b)) ∧ ∃ lam π far pr, lam ≤ 1000000 ∧ NC 24 gR idN tbR (ER p.d) p.d p.th p.wa lam π s.2.1 ∧ (∀ n, n < 24 → s.1.1 22 n = nI (far n) ∧ s.1.1 23 n = encL (pr n)) ∧ BF 24 (WR p.d) (AR p.d) (BR s.2.1) π (SR2 p.th s.2.1) far pr ∧ FX (WR p.d) (AR p.d) (BR s.2.1) far ∧ SK p.wa s.2.1 far 12 s.2.2)
    (fun s => 109 - s2 s.2.1) (fun r => ∃ m l M', FlowV p.d p.th p.wa m l ∧ r = some (nI m, M') ∧ M'.1 0 30 = nI l ∧ InvM p M') (by
    rintro ⟨S, x, en⟩ ⟨k1, k2, k3, k4, lam, π, far, pr, hlam, hC, k5, hB, hX, hK⟩
    dsimp only at k1 k2 k3 k4 hC k5 hB hX hK
    have hinv : InvM p S := h.cong (fun k hk => k2 k (by omega)) (fun q u v => k1 q (by omega) (by omega) (by omega) (by omega))
    have hs108 := s2_th (fun j hj => (hp.t9 j hj).1) hC.2.2.2.1
    cases en with
    | none =>
      have hC' := hC.rise hNod hB hX hlam (Nat.le_refl 1000000) (fun i hi hg hc => by
        have h12 := gR_ge hg
        have e : far (12 + (i - 12)) = 1000000 := hK (i - 12) (by omega) hc
        rw [show 12 + (i - 12) = i by omega] at e
        omega)
      have hcb := cst_bd (d := p.d) (x := x) (fun a b ha hb hx => by
        have h1 : p.d a b < 1000000 := hC.2.2.1 a b ha hb hx
        have := hd a b ha hb
        omega)
      refine Or.inr ⟨_, ⟨s2 x, cst2 p.d x, S, hC'.cert.flow (by omega), rfl, k3, hinv⟩, fun rec => ?_⟩
      dsimp only [k8_leads_B34]
      rw [show encB none = -1 from rfl, if_pos rfl]
    | some e =>
      obtain ⟨z1, z2, z3, z4⟩ := hK
      have hg : gR (12 + e) = false := gR_f (by omega)
      have htb : tbR (12 + e) = e := by unfold tbR; rw [Nat.add_sub_cancel_left]
      have hpe : π (12 + e) = lam := hC.2.2.2.2.2 (12 + e) (by omega) hg (by rw [htb]; exact z2)
      have hfe := (hB.1 (12 + e) (by omega)).1
      have hC' := hC.rise hNod hB hX (lam' := far (12 + e)) (by omega) (by omega) (fun i hi hgi hc => by
        have h12 := gR_ge hgi
        have e2 := z4 (i - 12) (by omega) hc
        rw [show 12 + (i - 12) = i by omega] at e2
        exact e2)
      have hnp : npot far π (far (12 + e) - lam) (12 + e) = far (12 + e) := npot_le (by omega)
      obtain ⟨kd, hkd⟩ := hB.2.2.2.2.2 (12 + e) (by omega)
      have hkl := exD_lt (N := 24) (fun i j hi hj => (hB.par hC.1 hi hj).1) hkd (by omega)
      obtain ⟨S4, eS4⟩ : ∃ z, z = stM S 0 30 (nI (cst2 p.d x + far (12 + e))) := ⟨_, rfl⟩
      obtain ⟨S5, x', n', q1, q2, q3, q4, q5, q6⟩ := chainM (F := F) (wa := p.wa) (lam := lam) hNod hC.1 hB hX (Δ := far (12 + e) - lam) (en := 12 + e) (M1 := S4) (fun i hi => by rw [eS4, m_o (by decide)]; exact (k5 i hi).2) (x1 := nI (s2 x + 1)) kd (12 + e) F S4 x (by omega) hkd (by omega) (AUG.start hC' hg hnp z3) (fun _ _ => rfl) (fun a b ha hb => by rw [eS4, m_o (by decide)]; exact k4 a b ha hb)
      have hsr : SR2 p.th x n' := (hB.2.2.2.1 n' q3 q2).resolve_left (by have := q1.2.2.2.2.2.2; omega)
      have hfz := (hB.2.2.1 n' q3 hsr).1
      obtain ⟨w1, w2, w3⟩ := hC'.led hNod q1 hsr hfz (by have := hsr.2; omega) (by rw [htb]; omega) q3 (by rw [htb]; exact z1)
      rw [Nat.one_mul] at w2
      have hRW' : RW p.d p.th p.wa x' S5 := ⟨fun a b ha hb => by rw [q4 5 (by decide), eS4, m_o (by decide), k1 5 (by decide) (by decide) (by decide) (by decide)]; exact h.nm.2.2 a b ha hb, fun j hj => by rw [q4 13 (by decide), q4 14 (by decide), eS4, m_o (by decide), m_o (by decide), k1 13 (by decide) (by decide) (by decide) (by decide), k1 14 (by decide) (by decide) (by decide) (by decide)]; exact h.tm j hj, q5⟩
      obtain ⟨S6, far', pr', en', t1, t2, t3, t4, t5, t6⟩ := seeksM hF hd hp.t9 w1 (by omega) hRW'
      refine Or.inl ⟨(S6, x', en'), ⟨fun q u0 u1 u2 u3 => ?_, fun k hk => ?_, ?_, fun a b ha hb => ?_, far (12 + e), _, far', pr', by omega, w1, t3, t4, t5, t6⟩, ?_, fun rec => ?_⟩
      · dsimp only; rw [t2 q u2 u3, q4 q u1, eS4, m_o u0]; exact k1 q u0 u1 u2 u3
      · dsimp only; rw [t2 0 (by decide) (by decide), q4 0 (by decide), eS4, m_s, if_neg hk]; exact k2 k hk
      · dsimp only; rw [t2 0 (by decide) (by decide), q4 0 (by decide), eS4, m_s, if_pos rfl, w2]
      · dsimp only; rw [t2 21 (by decide) (by decide)]; exact q5 a b ha hb
      · dsimp only
        have := s2_th (fun j hj => (hp.t9 j hj).1) w1.2.2.2.1
        omega
      · dsimp only [k8_leads_B34]
        simp only [bnd_e]
        rw [show encB (some e) = nI (12 + e) from rfl, if_neg (nI_m1 (by omega)), rdA_n (by omega) (by omega), some_b, (k5 (12 + e) (by omega)).1, k3, nI_add, nI_1, ← eS4]
        refine (q6 _).trans ?_
        rw [t1, ob2_s, w3]) F (S3, fun _ _ => 0, en0) ⟨fun q u0 u1 u2 u3 => by dsimp only; rw [s2' q u2 u3]; exact f2 q u0 u1, fun k hk => by dsimp only; rw [s2' 0 (by decide) (by decide)]; exact f20 k hk, by dsimp only; rw [s2' 0 (by decide) (by decide), eS2, m_s, if_pos rfl, cz]; rfl, fun a b ha hb => by dsimp only; rw [s2' 21 (by decide) (by decide)]; exact hRW.2.2 a b ha hb, 0, _, far0, pr0, by omega, NC.zero hNod, s3, s4, s5, s6⟩ (by dsimp only; omega)
  refine ⟨m, l, M', r1, ?_, r3, r4⟩
  unfold k8_leads
  simp only [bnd_e]
  refine (a3 _).trans ?_
  rw [← eS2, s1, ob2_s, ← r2]
  exact he

/-! the reference parts a sum -/
def PrtM (S S' : SM) : Prop := ∀ q, q ≠ 15 → q ≠ 16 → S'.1 q = S.1 q
theorem PrtM.rf {S : SM} : PrtM S S := fun _ _ _ => rfl
theorem PrtM.tr {S S' S'' : SM} (h : PrtM S S') (h' : PrtM S' S'') : PrtM S S'' := fun q a b => (h' q a b).trans (h q a b)
theorem PrtM.net {S S' : SM} (h : PrtM S S') {N : Nat} {A B C L : Nat → Nat} {d : Nat → Nat → Nat} (hM : NetM S.1 N A B C L d) : NetM S'.1 N A B C L d :=
  hM.cong (by rw [h 0 (by decide) (by decide)]) (fun q h1 h2 => h q (by omega) (by omega))
theorem PrtM.s15 {S : SM} {k : Nat} {x : Int32} : PrtM S (stM S 15 k x) := fun _ a _ => st_o a
theorem PrtM.s16 {S : SM} {k : Nat} {x : Int32} : PrtM S (stM S 16 k x) := fun _ _ a => st_o a
theorem PrtM.sL {S : SM} {k : Nat} {x : Int64} : PrtM S (stL S k x) := fun _ _ _ => rfl
theorem m_o {S : SM} {c k q : Nat} {x : Int32} (h : q ≠ c) : (stM S c k x).1 q = S.1 q := st_o h
theorem m_s {S : SM} {c k j : Nat} {x : Int32} : (stM S c k x).1 c j = if j = k then x else S.1 c j := st_st
theorem m_2 {S : SM} {c k : Nat} {x : Int32} : (stM S c k x).2 = S.2 := rfl
theorem L_1 {S : SM} {k : Nat} {x : Int64} : (stL S k x).1 = S.1 := rfl
theorem L_2 {S : SM} {k j : Nat} {x : Int64} : (stL S k x).2 j = if j = k then x else S.2 j := by
  show vp_updL S.2 k x j = _
  by_cases h : j = k
  · subst h; rw [pk_uLs, if_pos rfl]
  · rw [pk_uLn h, if_neg h]
theorem zeroM {F : Nat} (hF : 8 < F) {S0 : SM} {x1 x2 x3 : Int32} (k : SM → Option (Int32 × SM)) :
    ∃ S', lpN (fun _ _ => none) (fun rec => k8_parts_B25 F x1 x2 x3 rec k) F S0 (nI 0) = k S' ∧ PrtM S0 S' ∧ ∀ c, c < 8 → S'.1 16 c = nI 0 := by
  obtain ⟨t, ⟨S', h1, h2⟩, he⟩ := lp_inv (z := fun _ _ => none) (f := fun rec => k8_parts_B25 F x1 x2 x3 rec k) (fun (s : SM × Nat) g => g s.1 (nI s.2)) (fun s => (PrtM S0 s.1 ∧ ∀ c, c < s.2 → s.1.1 16 c = nI 0) ∧ s.2 ≤ 8) (fun s => 8 - s.2) (fun r => ∃ S', r = k S' ∧ PrtM S0 S' ∧ ∀ c, c < 8 → S'.1 16 c = nI 0) (by
    rintro ⟨T, j⟩ ⟨⟨k1, k2⟩, hj⟩
    dsimp only at k1 k2 hj
    by_cases h : j = 8
    · subst h
      refine Or.inr ⟨_, ⟨T, rfl, k1, k2⟩, fun rec => ?_⟩
      dsimp only [k8_parts_B25]
      rw [l8, if_pos (nI_le (Nat.le_refl 8) (by omega))]
    · refine Or.inl ⟨(stM (stM T 15 j 0) 16 j 0, j + 1), ⟨⟨k1.tr (PrtM.tr PrtM.s15 PrtM.s16), fun c hc => ?_⟩, by dsimp only; omega⟩, by dsimp only; omega, fun rec => ?_⟩
      · dsimp only at hc ⊢
        rw [m_s]
        by_cases e : c = j
        · rw [if_pos e]; rfl
        · rw [if_neg e, m_o (by decide)]; exact k2 c (by omega)
      · dsimp only [k8_parts_B25]
        simp only [bnd_e]
        rw [l8, if_neg (nI_ge (by omega) (by omega)), ckA_n (by omega) (by omega), some_b, some_b, clN (by omega), nI_1]) F (S0, 0) ⟨⟨PrtM.rf, fun c hc => absurd hc (Nat.not_lt_zero c)⟩, by dsimp only; omega⟩ (by dsimp only; omega)
  exact ⟨S', by rw [← h1]; exact he, h2⟩
theorem pathM {F : Nat} (hF : 24 < F) {N : Nat} {A B C L : Nat → Nat} {d : Nat → Nat → Nat} (hP : NetP N A B C L d) {v : Nat} (hv : v < 12) {x1 x3 : Int32} (k : SM → Int32 → Option (Int32 × SM)) :
    ∀ (n m u : Nat) (run : Nat → Nat) (last : Nat) (xl : Int32) (S : SM), u < 12 → d u v < 1000000 → nearer d v (d u v) 12 ≤ n → n < m → NetM S.1 N A B C L d → (∀ c, c < 8 → S.1 16 c = nI (run c)) → sm run 8 + d u v ≤ 1000000 → (u = v → xl = nI last) →
      ∃ S', lpN (fun _ _ _ => none) (fun rec => k8_parts_B60 F x1 (nI v) x3 rec k) m S (nI u) xl = k S' (nI (pth A B C L d N v n u run last).2) ∧ PrtM S S' ∧ S'.2 = S.2 ∧ (∀ c, c < 8 → S'.1 16 c = nI ((pth A B C L d N v n u run last).1 c)) := by
  intro n
  induction n with
  | zero =>
    intro m u run last xl S hu hf hn hm hM hr hs hl
    obtain ⟨m, rfl⟩ : ∃ q, m = q + 1 := ⟨m - 1, by omega⟩
    by_cases e : u = v
    · subst e
      refine ⟨S, ?_, PrtM.rf, rfl, by rw [pth_end]; exact hr⟩
      have hB : ∀ rec, k8_parts_B60 F x1 (nI u) x3 rec k S (nI u) xl = k S xl := by
        intro rec
        unfold k8_parts_B60
        rw [if_pos (rfl : nI u = nI u)]
      show k8_parts_B60 F x1 (nI u) x3 (lpN _ _ m) k S (nI u) xl = _
      rw [hB, pth_end, hl rfl]
    · have := near_pos hP hu hv e hf; omega
  | succ n ih =>
    intro m u run last xl S hu hf hn hm hM hr hs hl
    obtain ⟨m, rfl⟩ : ∃ q, m = q + 1 := ⟨m - 1, by omega⟩
    by_cases e : u = v
    · subst e
      refine ⟨S, ?_, PrtM.rf, rfl, by rw [pth_end]; exact hr⟩
      have hB : ∀ rec, k8_parts_B60 F x1 (nI u) x3 rec k S (nI u) xl = k S xl := by
        intro rec
        unfold k8_parts_B60
        rw [if_pos (rfl : nI u = nI u)]
      show k8_parts_B60 F x1 (nI u) x3 (lpN _ _ m) k S (nI u) xl = _
      rw [hB, pth_end, hl rfl]
    · obtain ⟨l, w, hrt, hlN, hw, ho, hd⟩ := rt_ex hP hu hv e hf
      have hC := hP.2.2.1 l hlN
      have hN := hP.1
      obtain ⟨-, -, -, g4, g5⟩ := hP.2.1 l hlN
      obtain ⟨-, -, e3, e4⟩ := hM.2.1 l hlN
      obtain ⟨S2, eS2⟩ : ∃ z, z = stM S 16 (C l) (nI (run (C l) + L l)) := ⟨_, rfl⟩
      have f2 : PrtM S S2 := by rw [eS2]; exact PrtM.s16
      have hM2 := f2.net hM
      have hrc := sm_part (f := run) (n := 8) hC
      have hsum : sm (addAt run (C l) (L l)) 8 + d w v ≤ 1000000 := by rw [sm_addAt hC]; omega
      obtain ⟨S', t1, t2, t3, t6⟩ := ih m w (addAt run (C l) (L l)) l (nI l) S2 hw (by omega) (near_step hP hlN hw hd hn) (by omega) hM2 (fun c hc => by
        rw [eS2, m_s]
        by_cases q : c = C l
        · rw [if_pos q, q, addAt_s]
        · rw [if_neg q, addAt_o q]; exact hr c hc) hsum (fun _ => rfl)
      refine ⟨S', ?_, f2.tr t2, by rw [t3, eS2]; rfl, by rw [pth_step e hrt]; exact t6⟩
      have hB : ∀ rec, k8_parts_B60 F x1 (nI v) x3 rec k S (nI u) xl = rec S2 (nI w) (nI l) := by
        intro rec
        unfold k8_parts_B60
        simp only [bnd_e]
        rw [if_neg (fun z => e ((nI_eq (by omega) (by omega)).mp z)), routeM_v hF hP hM hu hv e hf, some_b, hrt, show bL (some (l, w)) = nI l from rfl, rdA_n (by omega) (by omega), some_b, e3, rdA_n hC (by omega), some_b, rdA_n (by omega) (by omega), some_b, ckA_n hC (by omega), some_b, hr (C l) hC, e4, nI_add, clN (by omega), ← eS2, farM hP hM2 hlN hu, some_b, ho]
        rfl
      show k8_parts_B60 F x1 (nI v) x3 (lpN _ _ m) k S (nI u) xl = _
      rw [hB, pth_step e hrt]
      exact t1
def ecL (n : Nat) : Int64 := if n = 0 then -1 else lN (n - 1)
theorem ecL_s (n : Nat) : ecL (n + 1) = lN n := by unfold ecL; rw [if_neg (by omega), Nat.add_sub_cancel]
theorem ecL_le {a b : Nat} (ha : a < 2000000000) (hb : b < 2000000000) : ecL a ≤ ecL b ↔ a ≤ b := by
  have key : ∀ n, n < 2000000000 → (ecL n).toInt = (n : Int) - 1 := by
    intro n hn
    cases n with
    | zero => decide
    | succ n => rw [ecL_s, lN_toInt (by omega)]; omega
  rw [Int64.le_iff_toInt_le, key a ha, key b hb]
  omega
theorem divM1 {F : Nat} (hF : 8 < F) {left T : Nat} {run : Nat → Nat} (hT : 1 ≤ T) (hT2 : T ≤ 1000000) (hl : left ≤ 1000000) (hrT : sm run 8 = T) {S0 : SM} (hr : ∀ c, c < 8 → S0.1 16 c = nI (run c)) {x1 x2 x5 x6 : Int32} (k : SM → Int32 → Option (Int32 × SM)) :
    ∃ S', lpN (fun _ _ _ => none) (fun rec => k8_parts_B139 F x1 x2 x5 x6 (nI left) (nI T) rec k) F S0 (nI left) (nI 0) = k S' (nI (left - sm (prt left T run) 8)) ∧ PrtM S0 S' ∧ S'.1 16 = S0.1 16 ∧ (∀ c, c < 8 → S'.1 15 c = nI (prt left T run c)) ∧ (∀ c, c < 8 → S'.2 c = ecL (kM left T run c)) := by
  obtain ⟨ho1, ho2, ho3⟩ := over_ok (left := left) hT hrT
  obtain ⟨t, ⟨S', h1, h2⟩, he⟩ := lp_inv (z := fun _ _ _ => none) (f := fun rec => k8_parts_B139 F x1 x2 x5 x6 (nI left) (nI T) rec k) (fun (s : SM × Nat) g => g s.1 (nI (left - sm (prt left T run) s.2)) (nI s.2))
    (fun s => (PrtM S0 s.1 ∧ s.1.1 16 = S0.1 16 ∧ (∀ c, c < s.2 → s.1.1 15 c = nI (prt left T run c)) ∧ (∀ c, c < s.2 → s.1.2 c = ecL (kM left T run c))) ∧ s.2 ≤ 8) (fun s => 8 - s.2)
    (fun r => ∃ S', r = k S' (nI (left - sm (prt left T run) 8)) ∧ PrtM S0 S' ∧ S'.1 16 = S0.1 16 ∧ (∀ c, c < 8 → S'.1 15 c = nI (prt left T run c)) ∧ (∀ c, c < 8 → S'.2 c = ecL (kM left T run c))) (by
    rintro ⟨S, j⟩ ⟨⟨k1, k3, k4, k5⟩, hj⟩
    dsimp only at k1 k3 k4 k5 hj
    by_cases h : j = 8
    · subst h
      refine Or.inr ⟨_, ⟨S, rfl, k1, k3, k4, k5⟩, fun rec => ?_⟩
      dsimp only [k8_parts_B139]
      rw [l8, if_pos (nI_le (Nat.le_refl 8) (by omega))]
    · have hj : j < 8 := by omega
      have hrj : run j ≤ T := by rw [← hrT]; exact sm_part hj
      have hprod : left * run j ≤ 1000000 * 1000000 := Nat.mul_le_mul hl (by omega)
      have hpj : prt left T run j ≤ left := Nat.le_trans (sm_part hj) ho1
      have hsj : sm (prt left T run) (j + 1) ≤ left := by
        have : sm (prt left T run) (j + 1) ≤ sm (prt left T run) 8 := by
          have key : ∀ n, sm (prt left T run) (j + 1) ≤ sm (prt left T run) (j + 1 + n) := by
            intro n
            induction n with
            | zero => exact Nat.le_refl _
            | succ n ih => exact Nat.le_trans ih (by show _ ≤ sm _ (j + 1 + n) + _; omega)
          have := key (7 - j)
          rwa [show j + 1 + (7 - j) = 8 by omega] at this
        omega
      have hmod : left * run j % T < T := Nat.mod_lt _ (by omega)
      have hsub : left * run j / T ≤ left - sm (prt left T run) j := by have : sm (prt left T run) (j + 1) = sm (prt left T run) j + left * run j / T := rfl; omega
      refine Or.inl ⟨(stL (stM S 15 j (nI (prt left T run j))) j (ecL (kM left T run j)), j + 1), ⟨⟨k1.tr (PrtM.tr PrtM.s15 PrtM.sL), ?_, fun c hc => ?_, fun c hc => ?_⟩, by dsimp only; omega⟩, by dsimp only; omega, fun rec => ?_⟩
      · dsimp only; rw [L_1, m_o (by decide)]; exact k3
      · dsimp only at hc ⊢
        rw [L_1, m_s]
        by_cases q : c = j
        · rw [if_pos q, q]
        · rw [if_neg q]; exact k4 c (by omega)
      · dsimp only at hc ⊢
        rw [L_2, m_2]
        by_cases q : c = j
        · rw [if_pos q, q]
        · rw [if_neg q]; exact k5 c (by omega)
      · have e2 : nI (left - sm (prt left T run) j) - nI (left * run j / T) = nI (left - sm (prt left T run) (j + 1)) := by
          rw [sbN hsub]
          congr 1
          show left - sm (prt left T run) j - left * run j / T = left - (sm (prt left T run) j + left * run j / T)
          omega
        have hJ : ∀ z : Int64, k8_parts_B139_J202 F x1 x2 x5 x6 (nI left) (nI T) rec k (stM S 15 j (nI (left * run j / T))) (nI (left - sm (prt left T run) j)) (nI j) z (nI j) = rec (stL (stM S 15 j (nI (prt left T run j))) j z) (nI (left - sm (prt left T run) (j + 1))) (nI (j + 1)) := by
          intro z
          unfold k8_parts_B139_J202
          simp only [bnd_e]
          rw [ckA_n hj (by omega), some_b, clN (by omega), L_1, rdA_n hj (by omega), some_b, m_s, if_pos rfl, e2, nI_1]
          rfl
        dsimp only [k8_parts_B139]
        simp only [bnd_e]
        rw [l8, if_neg (nI_ge hj (by omega)), rdA_n hj (by omega), some_b, k3, hr j hj, nI_l (by omega), nI_l (by omega), nI_l (by omega), lN_mul, ckL_y hT (by omega), some_b, ckA_n hj (by omega), some_b, some_b, pk_lRem (a := left * run j) (b := T) (by omega) (by omega) (by omega), pk_lDiv (a := left * run j) (b := T) (by omega) (by omega) (by omega), lN_i, clN (by omega), rdA_n hj (by omega), some_b, m_o (by decide), k3, hr j hj]
        unfold kM
        by_cases q : run j = 0
        · rw [if_pos (by rw [q]; rfl), if_pos q, hJ]
          rfl
        · rw [if_neg (nI_ne0 (Nat.pos_of_ne_zero q) (by omega)), if_neg q, hJ, ecL_s]
          rfl) F (S0, 0) ⟨⟨PrtM.rf, rfl, fun c hc => absurd hc (Nat.not_lt_zero c), fun c hc => absurd hc (Nat.not_lt_zero c)⟩, by dsimp only; omega⟩ (by dsimp only; omega)
  exact ⟨S', by rw [← h1]; exact he, h2⟩
theorem giveM {F : Nat} (hF : 8 < F) {S : SM} {p k : Nat → Nat} (hp : ∀ c, c < 8 → S.1 15 c = nI (p c)) (hk : ∀ c, c < 8 → S.2 c = ecL (k c)) (hb : ∀ c, c < 8 → k c < 2000000000) {x1 x2 x5 x6 : Int32} {n : Nat} (hn : n < 1000) :
    ∃ S', (∀ rec kk, k8_parts_B221 F x1 x2 x5 x6 rec kk S (nI (n + 1)) = rec S' (nI n)) ∧ PrtM S S' ∧ S'.1 16 = S.1 16 ∧ (∀ c, c < 8 → S'.1 15 c = nI (gvP p k c)) ∧ (∀ c, c < 8 → S'.2 c = ecL (gvK k c)) := by
  have h7 := am_le k 7
  refine ⟨stL (stM S 15 (am k 7) (nI (p (am k 7) + 1))) (am k 7) (-1), fun rec kk => ?_, PrtM.tr PrtM.s15 PrtM.sL, by rw [L_1, m_o (by decide)], fun c hc => ?_, fun c hc => ?_⟩
  · unfold k8_parts_B221
    simp only [bnd_e]
    rw [if_neg (nI_nle (by omega) (by omega))]
    refine lp_seq (z := fun _ _ => none) (f := fun rec => k8_parts_B232 F S x1 x2 x5 x6 (nI (n + 1)) rec _) (fun (s : Nat × Nat) g => g (nI s.1) (nI s.2)) (fun j => (am k j, j + 1)) 7 _ (fun j hj rec => ?_) (fun rec => ?_) (by omega)
    · have h1 := am_le k j
      dsimp only
      unfold k8_parts_B232
      simp only [bnd_e]
      rw [l8, if_neg (nI_ge (by omega) (by omega)), rdA_n (by omega) (by omega), some_b, rdA_n (by omega) (by omega), some_b, hk (j + 1) (by omega), hk (am k j) (by omega), nI_1]
      have hl := ecL_le (hb (j + 1) (by omega)) (hb (am k j) (by omega))
      conv => rhs; unfold am
      by_cases q : k (am k j) < k (j + 1)
      · rw [if_neg (fun z => absurd (hl.mp ((lg_cmp_le _ _).mp z)) (by omega)), if_pos q]
      · rw [if_pos ((lg_cmp_le _ _).mpr (hl.mpr (by omega))), if_neg q]
    · dsimp only
      unfold k8_parts_B232
      rw [l8, if_pos (nI_le (Nat.le_refl 8) (by omega))]
      dsimp only
      rw [rdA_n (by omega) (by omega), some_b, ckA_n (by omega) (by omega), some_b, hp (am k 7) (by omega), nI_1, clN (by omega), some_b, pk_m1]
  · rw [L_1, m_s]
    unfold gvP
    by_cases q : c = am k 7
    · rw [if_pos q, q, addAt_s]
    · rw [if_neg q, addAt_o q]; exact hp c hc
  · rw [L_2, m_2]
    unfold gvK
    by_cases q : c = am k 7
    · rw [if_pos q, if_pos q]; rfl
    · rw [if_neg q, if_neg q]; exact hk c hc
theorem giveMs {F : Nat} (hF : 8 < F) {x1 x2 x5 x6 : Int32} (kk : SM → Option (Int32 × SM)) : ∀ (n m : Nat) (S : SM) (p k : Nat → Nat), n < 1000 → n < m → (∀ c, c < 8 → S.1 15 c = nI (p c)) → (∀ c, c < 8 → S.2 c = ecL (k c)) → (∀ c, c < 8 → k c < 2000000000) →
    ∃ S', lpN (fun _ _ => none) (fun rec => k8_parts_B221 F x1 x2 x5 x6 rec kk) m S (nI n) = kk S' ∧ PrtM S S' ∧ ∀ c, c < 8 → S'.1 15 c = nI ((gv n p k).1 c) := by
  intro n
  induction n with
  | zero =>
    intro m S p k hn hm hp hk hb
    obtain ⟨m, rfl⟩ : ∃ q, m = q + 1 := ⟨m - 1, by omega⟩
    refine ⟨S, ?_, PrtM.rf, hp⟩
    have hB : ∀ rec, k8_parts_B221 F x1 x2 x5 x6 rec kk S (nI 0) = kk S := by
      intro rec
      unfold k8_parts_B221
      rw [if_pos (show nI 0 ≤ 0 by decide)]
    exact hB _
  | succ n ih =>
    intro m S p k hn hm hp hk hb
    obtain ⟨m, rfl⟩ : ∃ q, m = q + 1 := ⟨m - 1, by omega⟩
    obtain ⟨S1, s1, s2, -, s5, s6⟩ := giveM hF hp hk hb (x1 := x1) (x2 := x2) (x5 := x5) (x6 := x6) (n := n) (by omega)
    obtain ⟨S', t1, t2, t5⟩ := ih m S1 (gvP p k) (gvK k) (by omega) (by omega) s5 s6 (fun c hc => by unfold gvK; split; omega; exact hb c hc)
    exact ⟨S', (s1 _ kk).trans t1, s2.tr t2, t5⟩
theorem partsM_y {F : Nat} (hF : 24 < F) {N : Nat} {A B C L : Nat → Nat} {d : Nat → Nat → Nat} (hP : NetP N A B C L d) {M : SM} (hM : NetM M.1 N A B C L d) {u v s : Nat} (hu : u < 12) (hv : v < 12) (hne : u ≠ v) (hf : d u v < 1000000) (hs : s ≤ 1000000) :
    ∃ M', k8_parts F M (nI u) (nI v) (nI s) = some (1, M') ∧ PrtM M M' ∧ ∀ c, c < 8 → M'.1 15 c = nI (PTs A B C L d N u v s c) := by
  obtain ⟨l, w, hrt, hlN, hw, ho, hd⟩ := rt_ex hP hu hv hne hf
  obtain ⟨-, -, -, g4, -⟩ := hP.2.1 l hlN
  have hN := hP.1
  have hdb := hP.2.2.2.b2200 hP.2.1 hu hv
  have hnr := nearer_11 d v hu
  have hs0 : sm (fun _ => 0) 8 = 0 := by decide
  obtain ⟨p1, p2⟩ := pth_sum hP hv 11 u (fun _ => 0) 0 hu hf hnr (fun z => absurd z hne)
  rw [hs0, Nat.zero_add] at p1
  have hd1 : 1 ≤ d u v := by omega
  have hC := hP.2.2.1 l hlN
  have hC2 := hP.2.2.1 _ p2
  have hgs := gvn_sum (left := s - 2 * (s / 10)) hd1 p1
  have hg1 := sm_part (f := gvn (s - 2 * (s / 10)) (d u v) (pth A B C L d N v 11 u (fun _ => 0) 0).1) (n := 8) hC
  obtain ⟨ho1, ho2, ho3⟩ := over_ok (left := s - 2 * (s / 10)) hd1 p1
  -- the parts, from the inside
  have last3 : ∀ S3 : SM, PrtM M S3 → (∀ c, c < 8 → S3.1 15 c = nI (gvn (s - 2 * (s / 10)) (d u v) (pth A B C L d N v 11 u (fun _ => 0) 0).1 c)) → ∃ M', ((k8_route F S3 (nI u) (nI v)).bind fun r_69 => (rdA 24 (S3.1 3) r_69).bind fun v_71 => (rdA 8 (S3.1 15) v_71).bind fun v_72 => (ckA 8 v_71).bind fun _ => bnd (stM S3 15 (Int32.toNatClampNeg v_71) (v_72 + nI (s / 10))) fun S_73 => (rdA 24 (S_73.1 3) (nI (pth A B C L d N v 11 u (fun _ => 0) 0).2)).bind fun v_74 => (rdA 8 (S_73.1 15) v_74).bind fun v_75 => (ckA 8 v_74).bind fun _ => bnd (stM S_73 15 (Int32.toNatClampNeg v_74) (v_75 + nI (s / 10))) fun S_76 => some ((1 : Int32), S_76)) = some (1, M') ∧ PrtM M M' ∧ ∀ c, c < 8 → M'.1 15 c = nI (PTs A B C L d N u v s c) := by
    intro S3 f3 q3
    have hM3 := f3.net hM
    have hpt : PTs A B C L d N u v s = addAt (addAt (gvn (s - 2 * (s / 10)) (d u v) (pth A B C L d N v 11 u (fun _ => 0) 0).1) (C l) (s / 10)) (C (pth A B C L d N v 11 u (fun _ => 0) 0).2) (s / 10) := by
      unfold PTs PT
      rw [hrt]
    generalize hlast : (pth A B C L d N v 11 u (fun _ => 0) 0).2 = last at *
    generalize hrun : (pth A B C L d N v 11 u (fun _ => 0) 0).1 = run at *
    obtain ⟨S4, eS4⟩ : ∃ z, z = stM S3 15 (C l) (nI (gvn (s - 2 * (s / 10)) (d u v) run (C l) + s / 10)) := ⟨_, rfl⟩
    have q15 : ∀ c, c < 8 → S4.1 15 c = nI (addAt (gvn (s - 2 * (s / 10)) (d u v) run) (C l) (s / 10) c) := by
      intro c hc
      rw [eS4, m_s]
      by_cases q : c = C l
      · rw [if_pos q, q, addAt_s]
      · rw [if_neg q, addAt_o q]; exact q3 c hc
    have f4 : PrtM S3 S4 := by rw [eS4]; exact PrtM.s15
    have hM4 := f4.net hM3
    refine ⟨stM S4 15 (C last) (nI (addAt (gvn (s - 2 * (s / 10)) (d u v) run) (C l) (s / 10) (C last) + s / 10)), ?_, f3.tr (f4.tr PrtM.s15), fun c hc => ?_⟩
    · simp only [bnd_e]
      rw [routeM_v hF hP hM3 hu hv hne hf, some_b, hrt, show bL (some (l, w)) = nI l from rfl, rdA_n (by omega) (by omega), some_b, (hM3.2.1 l hlN).2.2.1, rdA_n hC (by omega), some_b, ckA_n hC (by omega), some_b, q3 (C l) hC, nI_add, clN (by omega), ← eS4, rdA_n (by omega) (by omega), some_b, (hM4.2.1 last p2).2.2.1, rdA_n hC2 (by omega), some_b, ckA_n hC2 (by omega), some_b, q15 (C last) hC2, nI_add, clN (by omega)]
    · rw [m_s, hpt]
      by_cases q : c = C last
      · rw [if_pos q, q]; exact congrArg nI addAt_s.symm
      · rw [if_neg q, addAt_o q]; exact q15 c hc
  unfold k8_parts
  simp only [bnd_e]
  rw [l0, lM, in_y (by omega) hs (by omega), some_b, if_neg (show ¬ (1 : Int32) = nI 0 from z10), routeM_v hF hP hM hu hv hne hf, some_b, hrt, show bL (some (l, w)) = nI l from rfl, if_neg (nI_m1 (by omega))]
  obtain ⟨S1, s1, s2, s3⟩ := zeroM (F := F) (by omega) (S0 := M) (x1 := nI u) (x2 := nI v) (x3 := nI s) _
  rw [s1]
  have hM1 := s2.net hM
  obtain ⟨S2, t1, t2, t3, t4⟩ := pathM hF hP hv (x1 := nI u) (x3 := nI s) _ 11 F u (fun _ => 0) 0 (-1) S1 hu hf hnr (by omega) hM1 s3 (by omega) (fun z => absurd z hne)
  rw [t1]
  have hM2 := t2.net hM1
  rw [l10, pk_div (by omega) (by omega) (by omega), l2, mulN, sbN (by omega), leastM_v hP hM2 hu hv, some_b, lsV_lt hf]
  obtain ⟨S3, r1, r2, r3, r4, r5⟩ := divM1 (F := F) (by omega) (left := s - 2 * (s / 10)) hd1 (by omega) (by omega) p1 t4 (x1 := nI u) (x2 := nI v) (x5 := nI (pth A B C L d N v 11 u (fun _ => 0) 0).2) (x6 := nI (s / 10)) _
  rw [r1]
  obtain ⟨S4, w1, w2, w3⟩ := giveMs (F := F) (by omega) (x1 := nI u) (x2 := nI v) (x5 := nI (pth A B C L d N v 11 u (fun _ => 0) 0).2) (x6 := nI (s / 10)) _ (s - 2 * (s / 10) - sm (prt (s - 2 * (s / 10)) (d u v) (pth A B C L d N v 11 u (fun _ => 0) 0).1) 8) F S3 _ _ (by omega) (by omega) r4 r5 (fun c hc => by
    have : (s - 2 * (s / 10)) * (pth A B C L d N v 11 u (fun _ => 0) 0).1 c % d u v < d u v := Nat.mod_lt _ (by omega)
    unfold kM rem
    split <;> omega)
  rw [w1]
  rw [gvn_M hd1 p1] at w3
  have := last3 S4 (s2.tr (t2.tr (r2.tr w2))) w3
  simp only [bnd_e] at this
  exact this
theorem partsM_n {F : Nat} {N : Nat} {A B C L : Nat → Nat} {d : Nat → Nat → Nat} (hP : NetP N A B C L d) {M : SM} (hM : NetM M.1 N A B C L d) {x1 x2 x3 : Int32} (h : (x3 < nI 0 ∨ nI 1000000 < x3) ∨ ¬ ∃ u v, u < 12 ∧ v < 12 ∧ x1 = nI u ∧ x2 = nI v ∧ u ≠ v ∧ d u v < 1000000) :
    k8_parts F M x1 x2 x3 = some (0, M) := by
  unfold k8_parts
  rcases rng2 x3 0 1000000 (by omega) with ⟨s, -, hs, rfl⟩ | h3
  · have h := h.resolve_left (fun q => q.elim (nI_nn (by omega)) (nI_nlt (by omega) (by omega)))
    rw [l0, lM, in_y (by omega) hs (by omega), some_b, if_neg (show ¬ (1 : Int32) = nI 0 from z10), routeM_n hP hM h, some_b, if_pos rfl]
  · rw [l0, lM, in_n h3, some_b, if_pos (show (0 : Int32) = nI 0 from rfl)]

/-! wagons and sights -/
def RegP (W T : Nat) (mk ow wm jn dy cp : Nat → Nat) : Prop :=
  W ≤ 4 ∧ T ≤ 7 ∧ (∀ w, w < W → 10000 ≤ mk w ∧ mk w ≤ 99999 ∧ ow w < 8) ∧ (∀ t, t < T → 10000 ≤ wm t ∧ wm t ≤ 99999 ∧ jn t < 12 ∧ dy t ≤ 999 ∧ cp t < 8) ∧ ∀ t, t + 1 < T → dy t ≤ dy (t + 1)
def RegK (S : SS) (W T : Nat) (mk ow wm jn dy cp : Nat → Nat) : Prop :=
  S 3 2 = nI W ∧ S 3 7 = nI T ∧ (∀ w, w < W → S 16 w = nI (mk w) ∧ S 17 w = nI (ow w)) ∧ ∀ t, t < T → S 18 t = nI (wm t) ∧ S 19 t = nI (jn t) ∧ S 20 t = nI (dy t) ∧ S 21 t = nI (cp t)
def RegM (m : SS) (W T : Nat) (mk ow wm jn dy cp : Nat → Nat) : Prop :=
  m 0 6 = nI W ∧ m 0 9 = nI T ∧ (∀ w, w < W → m 6 w = nI (mk w) ∧ m 7 w = nI (ow w)) ∧ ∀ t, t < T → m 8 t = nI (wm t) ∧ m 9 t = nI (jn t) ∧ m 10 t = nI (dy t) ∧ m 11 t = nI (cp t)
theorem RegK.cong {S S' : SS} {W T : Nat} {mk ow wm jn dy cp : Nat → Nat} (h : RegK S W T mk ow wm jn dy cp) (h3 : S' 3 = S 3) (h2 : ∀ q, 16 ≤ q → q ≤ 21 → S' q = S q) : RegK S' W T mk ow wm jn dy cp :=
  ⟨by rw [h3]; exact h.1, by rw [h3]; exact h.2.1, fun w hw => by rw [h2 16 (by omega) (by omega), h2 17 (by omega) (by omega)]; exact h.2.2.1 w hw, fun t ht => by rw [h2 18 (by omega) (by omega), h2 19 (by omega) (by omega), h2 20 (by omega) (by omega), h2 21 (by omega) (by omega)]; exact h.2.2.2 t ht⟩
theorem RegM.cong {S S' : SS} {W T : Nat} {mk ow wm jn dy cp : Nat → Nat} (h : RegM S W T mk ow wm jn dy cp) (h6 : S' 0 6 = S 0 6) (h9 : S' 0 9 = S 0 9) (h2 : ∀ q, 6 ≤ q → q ≤ 11 → S' q = S q) : RegM S' W T mk ow wm jn dy cp :=
  ⟨by rw [h6]; exact h.1, by rw [h9]; exact h.2.1, fun w hw => by rw [h2 6 (by omega) (by omega), h2 7 (by omega) (by omega)]; exact h.2.2.1 w hw, fun t ht => by rw [h2 8 (by omega) (by omega), h2 9 (by omega) (by omega), h2 10 (by omega) (by omega), h2 11 (by omega) (by omega)]; exact h.2.2.2 t ht⟩
theorem m_u {S : SM} {c k : Nat} {x : Int32} : (stM S c k x).1 c = upd (S.1 c) k x := st_s
theorem lt4 : (10000 : Int32) = nI 10000 := rfl
theorem lt5 : (99999 : Int32) = nI 99999 := rfl
theorem l999 : (999 : Int32) = nI 999 := rfl
theorem isM_y {F : Nat} {S : SS} {n : Nat} (h1 : 10000 ≤ n) (h2 : n ≤ 99999) : k7_isMark F S (nI n) = some 1 := by
  unfold k7_isMark; rw [lt4, lt5, isW_y h1 h2 (by omega), some_b, ckB1, some_b]
theorem isM_n {F : Nat} {S : SS} {x : Int32} (h : x < nI 10000 ∨ nI 99999 < x) : k7_isMark F S x = some 0 := by
  unfold k7_isMark; rw [lt4, lt5, isW_n h, some_b, ckB0, some_b]
/-- the loop over the marks: is there such a one? -/
theorem markK {F : Nat} (hF : 8 < F) {S : SS} {W : Nat} {mk : Nat → Nat} (hW : S 3 2 = nI W) (hW4 : W ≤ 4) (hm : ∀ w, w < W → S 16 w = nI (mk w) ∧ mk w ≤ 99999) {x : Nat} (hx : x ≤ 99999) {x2 : Int32} (k : Option (Int32 × SS)) :
    lpN (fun _ => none) (fun rec => k6_addWagon_B26 F S (nI x) x2 rec k) F (nI 0) = if (∃ w, w < W ∧ mk w = x) then some (-1, S) else k := by
  obtain ⟨t, ht, he⟩ := lp_inv (z := fun _ => none) (f := fun rec => k6_addWagon_B26 F S (nI x) x2 rec k) (fun (j : Nat) g => g (nI j)) (fun j => j ≤ W ∧ ∀ w, w < j → mk w ≠ x) (fun j => W - j) (fun r => r = if (∃ w, w < W ∧ mk w = x) then some (-1, S) else k) (by
    rintro j ⟨hj, hn⟩
    by_cases e : j = W
    · subst e
      refine Or.inr ⟨_, rfl, fun rec => ?_⟩
      unfold k6_addWagon_B26
      rw [hW, if_pos (nI_le (Nat.le_refl j) (by omega)), if_neg (fun ⟨w, h1, h2⟩ => hn w h1 h2)]
    · have hj : j < W := by omega
      obtain ⟨e1, e2⟩ := hm j hj
      by_cases q : mk j = x
      · refine Or.inr ⟨_, rfl, fun rec => ?_⟩
        unfold k6_addWagon_B26
        rw [hW, if_neg (nI_ge hj (by omega)), rdA_n (by omega) (by omega), some_b, e1, if_pos (by rw [q]), if_pos ⟨j, hj, q⟩]
      · refine Or.inl ⟨j + 1, ⟨by omega, fun w hw => ?_⟩, by omega, fun rec => ?_⟩
        · by_cases e2 : w = j
          · rw [e2]; exact q
          · exact hn w (by omega)
        · unfold k6_addWagon_B26
          rw [hW, if_neg (nI_ge hj (by omega)), rdA_n (by omega) (by omega), some_b, e1, if_neg (fun z => q ((nI_eq (by omega) (by omega)).mp z)), bnd_e, nI_1]) F 0 ⟨Nat.zero_le W, fun w hw => absurd hw (Nat.not_lt_zero w)⟩ (by omega)
  rw [← ht]; exact he
theorem markM {F : Nat} (hF : 8 < F) {S : SM} {W : Nat} {mk : Nat → Nat} (hW : S.1 0 6 = nI W) (hW4 : W ≤ 4) (hm : ∀ w, w < W → S.1 6 w = nI (mk w) ∧ mk w ≤ 99999) {x : Nat} (hx : x ≤ 99999) {x2 : Int32} (k : Option (Int32 × SM)) :
    lpN (fun _ => none) (fun rec => k8_wagon_B31 F S (nI x) x2 rec k) F (nI 0) = if (∃ w, w < W ∧ mk w = x) then some (-1, S) else k := by
  obtain ⟨t, ht, he⟩ := lp_inv (z := fun _ => none) (f := fun rec => k8_wagon_B31 F S (nI x) x2 rec k) (fun (j : Nat) g => g (nI j)) (fun j => j ≤ W ∧ ∀ w, w < j → mk w ≠ x) (fun j => W - j) (fun r => r = if (∃ w, w < W ∧ mk w = x) then some (-1, S) else k) (by
    rintro j ⟨hj, hn⟩
    by_cases e : j = W
    · subst e
      refine Or.inr ⟨_, rfl, fun rec => ?_⟩
      unfold k8_wagon_B31
      rw [hW, if_pos (nI_le (Nat.le_refl j) (by omega)), if_neg (fun ⟨w, h1, h2⟩ => hn w h1 h2)]
    · have hj : j < W := by omega
      obtain ⟨e1, e2⟩ := hm j hj
      by_cases q : mk j = x
      · refine Or.inr ⟨_, rfl, fun rec => ?_⟩
        unfold k8_wagon_B31
        rw [hW, if_neg (nI_ge hj (by omega)), rdA_n (by omega) (by omega), some_b, e1, if_pos (by rw [q]), if_pos ⟨j, hj, q⟩]
      · refine Or.inl ⟨j + 1, ⟨by omega, fun w hw => ?_⟩, by omega, fun rec => ?_⟩
        · by_cases e2 : w = j
          · rw [e2]; exact q
          · exact hn w (by omega)
        · unfold k8_wagon_B31
          rw [hW, if_neg (nI_ge hj (by omega)), rdA_n (by omega) (by omega), some_b, e1, if_neg (fun z => q ((nI_eq (by omega) (by omega)).mp z)), bnd_e, nI_1]) F 0 ⟨Nat.zero_le W, fun w hw => absurd hw (Nat.not_lt_zero w)⟩ (by omega)
  rw [← ht]; exact he
theorem wagon_both {F : Nat} (hF : 24 < F) {S : SS} {M : SM} {W T : Nat} {mk ow wm jn dy cp : Nat → Nat} (hP : RegP W T mk ow wm jn dy cp) (hK : RegK S W T mk ow wm jn dy cp) (hM : RegM M.1 W T mk ow wm jn dy cp) (x1 x2 : Int32) :
    (k6_addWagon F S x1 x2 = some (-1, S) ∧ k8_wagon F M x1 x2 = some (-1, M)) ∨
    ∃ S' M' mk' ow', k6_addWagon F S x1 x2 = some (nI W, S') ∧ k8_wagon F M x1 x2 = some (nI W, M') ∧ RegP (W + 1) T mk' ow' wm jn dy cp ∧ RegK S' (W + 1) T mk' ow' wm jn dy cp ∧ RegM M'.1 (W + 1) T mk' ow' wm jn dy cp ∧
      (∀ q, q ≠ 3 → q ≠ 16 → q ≠ 17 → S' q = S q) ∧ (∀ q, q ≠ 0 → q ≠ 6 → q ≠ 7 → M'.1 q = M.1 q) ∧ (∀ k, k ≠ 6 → M'.1 0 k = M.1 0 k) := by
  obtain ⟨p1, p2, p3, p4, p5⟩ := hP
  obtain ⟨a1, a2, a3, a4⟩ := hK
  obtain ⟨b1, b2, b3, b4⟩ := hM
  rcases rng2 x1 10000 99999 (by omega) with ⟨x, h1, h2, rfl⟩ | h
  · rcases rng x2 8 (by omega) with ⟨o, ho, rfl⟩ | h
    · by_cases hW : W < 4
      · by_cases hex : ∃ w, w < W ∧ mk w = x
        · refine Or.inl ⟨?_, ?_⟩
          · unfold k6_addWagon
            rw [isM_y h1 h2, some_b, if_neg z10, isC_y ho, some_b, if_neg z10, a1, l4, if_pos (nI_lt hW (by omega)), bnd_e]
            exact (markK (by omega) a1 (by omega) (fun w hw => ⟨(a3 w hw).1, (p3 w hw).2.1⟩) h2 _).trans (if_pos hex)
          · unfold k8_wagon
            rw [lt4, lt5, in_y h1 h2 (by omega), some_b, if_neg z10, cM_y ho, some_b, if_neg z10, b1, l4, if_neg (fun z => absurd ((nI_eq (by omega) (by omega)).mp z) (by omega)), bnd_e]
            exact (markM (by omega) b1 (by omega) (fun w hw => ⟨(b3 w hw).1, (p3 w hw).2.1⟩) h2 _).trans (if_pos hex)
        · have hp' : ∀ w, w < W + 1 → 10000 ≤ push mk W x w ∧ push mk W x w ≤ 99999 ∧ push ow W o w < 8 := by
            intro w hw
            by_cases e : w = W
            · subst e; rw [push_s, push_s]; exact ⟨h1, h2, ho⟩
            · rw [push_o (by omega), push_o (by omega)]; exact p3 w (by omega)
          refine Or.inr ⟨st (st (st S 16 W (nI x)) 17 W (nI o)) 3 2 (nI (W + 1)), stM (stM (stM M 6 W (nI x)) 7 W (nI o)) 0 6 (nI (W + 1)), push mk W x, push ow W o, ?_, ?_, ⟨by omega, p2, hp', p4, p5⟩, ⟨?_, ?_, ?_, ?_⟩, ⟨?_, ?_, ?_, ?_⟩, ?_, ?_, ?_⟩
          · unfold k6_addWagon
            rw [isM_y h1 h2, some_b, if_neg z10, isC_y ho, some_b, if_neg z10, a1, l4, if_pos (nI_lt hW (by omega)), bnd_e]
            refine (markK (by omega) a1 (by omega) (fun w hw => ⟨(a3 w hw).1, (p3 w hw).2.1⟩) h2 _).trans ?_
            rw [if_neg hex]
            simp (disch := first | decide | omega) only [bnd_e, some_b, a1, ckA_n, clN, st_o, nI_1, st_st, ↓reduceIte, nI_pred]
          · unfold k8_wagon
            rw [lt4, lt5, in_y h1 h2 (by omega), some_b, if_neg z10, cM_y ho, some_b, if_neg z10, b1, l4, if_neg (fun z => absurd ((nI_eq (by omega) (by omega)).mp z) (by omega)), bnd_e]
            refine (markM (by omega) b1 (by omega) (fun w hw => ⟨(b3 w hw).1, (p3 w hw).2.1⟩) h2 _).trans ?_
            rw [if_neg hex]
            simp (disch := first | decide | omega) only [bnd_e, some_b, b1, ckA_n, clN, m_o, nI_1, m_s, ↓reduceIte, nI_pred]
          · rw [st_st, if_pos rfl]
          · rw [st_st, if_neg (by decide), st_o (by decide), st_o (by decide)]; exact a2
          · intro w hw
            rw [st_o (by decide), st_o (by decide), st_st, st_o (by decide), st_st, st_o (by decide)]
            by_cases e : w = W
            · rw [if_pos e, if_pos e, e, push_s, push_s]; exact ⟨rfl, rfl⟩
            · rw [if_neg e, if_neg e, push_o (by omega), push_o (by omega)]; exact a3 w (by omega)
          · intro t ht
            rw [st_o (by decide), st_o (by decide), st_o (by decide), st_o (by decide), st_o (by decide), st_o (by decide), st_o (by decide), st_o (by decide), st_o (by decide), st_o (by decide), st_o (by decide), st_o (by decide)]
            exact a4 t ht
          · rw [m_s, if_pos rfl]
          · rw [m_s, if_neg (by decide), m_o (by decide), m_o (by decide)]; exact b2
          · intro w hw
            rw [m_o (by decide), m_o (by decide), m_s, m_o (by decide), m_s, m_o (by decide)]
            by_cases e : w = W
            · rw [if_pos e, if_pos e, e, push_s, push_s]; exact ⟨rfl, rfl⟩
            · rw [if_neg e, if_neg e, push_o (by omega), push_o (by omega)]; exact b3 w (by omega)
          · intro t ht
            rw [m_o (by decide), m_o (by decide), m_o (by decide), m_o (by decide), m_o (by decide), m_o (by decide), m_o (by decide), m_o (by decide), m_o (by decide), m_o (by decide), m_o (by decide), m_o (by decide)]
            exact b4 t ht
          · intro q g1 g2 g3; rw [st_o g1, st_o g3, st_o g2]
          · intro q g1 g2 g3; rw [m_o g1, m_o g3, m_o g2]
          · intro k hk; rw [m_s, if_neg hk, m_o (by decide), m_o (by decide)]
      · have hW : W = 4 := by omega
        subst hW
        refine Or.inl ⟨?_, ?_⟩
        · unfold k6_addWagon
          rw [isM_y h1 h2, some_b, if_neg z10, isC_y ho, some_b, if_neg z10, a1, l4, if_neg (nI_nlt (Nat.le_refl 4) (by omega))]
        · unfold k8_wagon
          rw [lt4, lt5, in_y h1 h2 (by omega), some_b, if_neg z10, cM_y ho, some_b, if_neg z10, b1, l4, if_pos rfl]
    · refine Or.inl ⟨?_, ?_⟩
      · unfold k6_addWagon; rw [isM_y h1 h2, some_b, if_neg z10, isC_n h, some_b, if_pos rfl]
      · unfold k8_wagon; rw [lt4, lt5, in_y h1 h2 (by omega), some_b, if_neg z10, cM_n h, some_b, if_pos rfl]
  · refine Or.inl ⟨?_, ?_⟩
    · unfold k6_addWagon; rw [isM_n h, some_b, if_pos rfl]
    · unfold k8_wagon; rw [lt4, lt5, in_n h, some_b, if_pos rfl]
/-- a sight comes -/
theorem sightK {F : Nat} {S : SS} {W T : Nat} {mk ow wm jn dy cp : Nat → Nat} (hT : T < 7) (hK : RegK S W T mk ow wm jn dy cp) {x j y c : Nat} :
    ∃ S', k6_addSight_J70 F S (nI x) (nI j) (nI y) (nI c) = some (nI T, S') ∧ RegK S' W (T + 1) mk ow (push wm T x) (push jn T j) (push dy T y) (push cp T c) ∧ (∀ q, q ≠ 3 → (q < 18 ∨ 21 < q) → S' q = S q) := by
  obtain ⟨a1, a2, a3, a4⟩ := hK
  refine ⟨st (st (st (st (st S 18 T (nI x)) 19 T (nI j)) 20 T (nI y)) 21 T (nI c)) 3 7 (nI (T + 1)), ?_, ⟨?_, ?_, ?_, ?_⟩, ?_⟩
  · unfold k6_addSight_J70
    simp (disch := first | decide | omega) only [bnd_e, some_b, a2, ckA_n, clN, st_o, nI_1, st_st, ↓reduceIte, nI_pred]
  · rw [st_st, if_neg (by decide), st_o (by decide), st_o (by decide), st_o (by decide), st_o (by decide)]; exact a1
  · rw [st_st, if_pos rfl]
  · intro w hw
    rw [st_o (by decide), st_o (by decide), st_o (by decide), st_o (by decide), st_o (by decide), st_o (by decide), st_o (by decide), st_o (by decide), st_o (by decide), st_o (by decide)]
    exact a3 w hw
  · intro t ht
    have e18 : st (st (st (st (st S 18 T (nI x)) 19 T (nI j)) 20 T (nI y)) 21 T (nI c)) 3 7 (nI (T + 1)) 18 = upd (S 18) T (nI x) := by rw [st_o (by decide), st_o (by decide), st_o (by decide), st_o (by decide), st_s]
    have e19 : st (st (st (st (st S 18 T (nI x)) 19 T (nI j)) 20 T (nI y)) 21 T (nI c)) 3 7 (nI (T + 1)) 19 = upd (S 19) T (nI j) := by rw [st_o (by decide), st_o (by decide), st_o (by decide), st_s, st_o (by decide)]
    have e20 : st (st (st (st (st S 18 T (nI x)) 19 T (nI j)) 20 T (nI y)) 21 T (nI c)) 3 7 (nI (T + 1)) 20 = upd (S 20) T (nI y) := by rw [st_o (by decide), st_o (by decide), st_s, st_o (by decide), st_o (by decide)]
    have e21 : st (st (st (st (st S 18 T (nI x)) 19 T (nI j)) 20 T (nI y)) 21 T (nI c)) 3 7 (nI (T + 1)) 21 = upd (S 21) T (nI c) := by rw [st_o (by decide), st_s, st_o (by decide), st_o (by decide), st_o (by decide)]
    rw [e18, e19, e20, e21]
    by_cases e : t = T
    · subst e; simp only [upd_s, push_s]; exact ⟨trivial, trivial, trivial, trivial⟩
    · rw [upd_o e, upd_o e, upd_o e, upd_o e, push_o (by omega), push_o (by omega), push_o (by omega), push_o (by omega)]; exact a4 t (by omega)
  · intro q g1 g2; rw [st_o g1, st_o (by omega), st_o (by omega), st_o (by omega), st_o (by omega)]
theorem sightM {F : Nat} {M : SM} {W T : Nat} {mk ow wm jn dy cp : Nat → Nat} (hT : T < 7) (hM : RegM M.1 W T mk ow wm jn dy cp) {x j y c : Nat} :
    ∃ M', k8_see_J73 F M (nI x) (nI j) (nI y) (nI c) = some (nI T, M') ∧ RegM M'.1 W (T + 1) mk ow (push wm T x) (push jn T j) (push dy T y) (push cp T c) ∧ (∀ q, q ≠ 0 → (q < 8 ∨ 11 < q) → M'.1 q = M.1 q) ∧ (∀ k, k ≠ 9 → M'.1 0 k = M.1 0 k) := by
  obtain ⟨a1, a2, a3, a4⟩ := hM
  refine ⟨stM (stM (stM (stM (stM M 8 T (nI x)) 9 T (nI j)) 10 T (nI y)) 11 T (nI c)) 0 9 (nI (T + 1)), ?_, ⟨?_, ?_, ?_, ?_⟩, ?_, ?_⟩
  · unfold k8_see_J73
    simp (disch := first | decide | omega) only [bnd_e, some_b, a2, ckA_n, clN, m_o, nI_1, m_s, ↓reduceIte, nI_pred]
  · rw [m_s, if_neg (by decide), m_o (by decide), m_o (by decide), m_o (by decide), m_o (by decide)]; exact a1
  · rw [m_s, if_pos rfl]
  · intro w hw
    rw [m_o (by decide), m_o (by decide), m_o (by decide), m_o (by decide), m_o (by decide), m_o (by decide), m_o (by decide), m_o (by decide), m_o (by decide), m_o (by decide)]
    exact a3 w hw
  · intro t ht
    have e18 : (stM (stM (stM (stM (stM M 8 T (nI x)) 9 T (nI j)) 10 T (nI y)) 11 T (nI c)) 0 9 (nI (T + 1))).1 8 = upd (M.1 8) T (nI x) := by rw [m_o (by decide), m_o (by decide), m_o (by decide), m_o (by decide), m_u]
    have e19 : (stM (stM (stM (stM (stM M 8 T (nI x)) 9 T (nI j)) 10 T (nI y)) 11 T (nI c)) 0 9 (nI (T + 1))).1 9 = upd (M.1 9) T (nI j) := by rw [m_o (by decide), m_o (by decide), m_o (by decide), m_u, m_o (by decide)]
    have e20 : (stM (stM (stM (stM (stM M 8 T (nI x)) 9 T (nI j)) 10 T (nI y)) 11 T (nI c)) 0 9 (nI (T + 1))).1 10 = upd (M.1 10) T (nI y) := by rw [m_o (by decide), m_o (by decide), m_u, m_o (by decide), m_o (by decide)]
    have e21 : (stM (stM (stM (stM (stM M 8 T (nI x)) 9 T (nI j)) 10 T (nI y)) 11 T (nI c)) 0 9 (nI (T + 1))).1 11 = upd (M.1 11) T (nI c) := by rw [m_o (by decide), m_u, m_o (by decide), m_o (by decide), m_o (by decide)]
    rw [e18, e19, e20, e21]
    by_cases e : t = T
    · subst e; simp only [upd_s, push_s]; exact ⟨trivial, trivial, trivial, trivial⟩
    · rw [upd_o e, upd_o e, upd_o e, upd_o e, push_o (by omega), push_o (by omega), push_o (by omega), push_o (by omega)]; exact a4 t (by omega)
  · intro q g1 g2; rw [m_o g1, m_o (by omega), m_o (by omega), m_o (by omega), m_o (by omega)]
  · intro k hk; rw [m_s, if_neg hk, m_o (by decide), m_o (by decide), m_o (by decide), m_o (by decide)]
theorem see_both {F : Nat} (hF : 24 < F) {S : SS} {M : SM} {W T : Nat} {mk ow wm jn dy cp : Nat → Nat} (hP : RegP W T mk ow wm jn dy cp) (hK : RegK S W T mk ow wm jn dy cp) (hM : RegM M.1 W T mk ow wm jn dy cp) (x1 x2 x3 x4 : Int32) :
    (k6_addSight F S x1 x2 x3 x4 = some (-1, S) ∧ k8_see F M x1 x2 x3 x4 = some (-1, M)) ∨
    ∃ S' M' wm' jn' dy' cp', k6_addSight F S x1 x2 x3 x4 = some (nI T, S') ∧ k8_see F M x1 x2 x3 x4 = some (nI T, M') ∧ RegP W (T + 1) mk ow wm' jn' dy' cp' ∧ RegK S' W (T + 1) mk ow wm' jn' dy' cp' ∧ RegM M'.1 W (T + 1) mk ow wm' jn' dy' cp' ∧
      (∀ q, q ≠ 3 → (q < 18 ∨ 21 < q) → S' q = S q) ∧ (∀ q, q ≠ 0 → (q < 8 ∨ 11 < q) → M'.1 q = M.1 q) ∧ (∀ k, k ≠ 9 → M'.1 0 k = M.1 0 k) := by
  have hP0 := hP
  obtain ⟨p1, p2, p3, p4, p5⟩ := hP
  have hK0 := hK
  have hM0 := hM
  obtain ⟨a1, a2, a3, a4⟩ := hK
  obtain ⟨b1, b2, b3, b4⟩ := hM
  rcases rng2 x1 10000 99999 (by omega) with ⟨x, h1, h2, rfl⟩ | h
  · rcases rng x2 12 (by omega) with ⟨j, hj, rfl⟩ | h
    · rcases rng x4 8 (by omega) with ⟨c, hc, rfl⟩ | h
      · rcases rng2 x3 0 999 (by omega) with ⟨y, -, hy, rfl⟩ | h
        · by_cases hT : T < 7
          · by_cases hdy : ∀ t, t + 1 = T → dy t ≤ y
            · have hJK : k6_addSight F S (nI x) (nI j) (nI y) (nI c) = k6_addSight_J70 F S (nI x) (nI j) (nI y) (nI c) := by
                unfold k6_addSight
                rw [isM_y h1 h2, some_b, if_neg z10, isJ_y hj, some_b, if_neg z10, isC_y hc, some_b, if_neg z10, l999, show k7_isWithin F S (nI y) 0 (nI 999) = some 1 from isW_y (lo := 0) (by omega) hy (by omega), some_b, if_neg z10, a2, l7, if_pos (nI_lt hT (by omega))]
                by_cases q : T = 0
                · rw [if_pos (by rw [q]; decide)]
                · have hd := hdy (T - 1) (by omega)
                  rw [if_neg (nI_nle (by omega) (by omega)), l1, sbN (by omega), rdA_n (by omega) (by omega), some_b, (a4 (T - 1) (by omega)).2.2.1, if_pos (nI_le hd (by omega))]
              have hJM : k8_see F M (nI x) (nI j) (nI y) (nI c) = k8_see_J73 F M (nI x) (nI j) (nI y) (nI c) := by
                unfold k8_see
                rw [lt4, lt5, in_y h1 h2 (by omega), some_b, if_neg z10, jM_y hj, some_b, if_neg z10, l999, show k8_in F M (nI y) 0 (nI 999) = some 1 from in_y (lo := 0) (by omega) hy (by omega), some_b, if_neg z10, cM_y hc, some_b, if_neg z10, b2, l7, if_neg (fun z => absurd ((nI_eq (by omega) (by omega)).mp z) (by omega))]
                by_cases q : T = 0
                · rw [if_pos (by rw [q]; decide)]
                · have hd := hdy (T - 1) (by omega)
                  rw [if_neg (nI_nle (by omega) (by omega)), l1, sbN (by omega), rdA_n (by omega) (by omega), some_b, (b4 (T - 1) (by omega)).2.2.1, if_pos (nI_le hd (by omega))]
              obtain ⟨S', s1, s2, s3⟩ := sightK (F := F) hT hK0 (x := x) (j := j) (y := y) (c := c)
              obtain ⟨M', m1, m2, m3, m4⟩ := sightM (F := F) hT hM0 (x := x) (j := j) (y := y) (c := c)
              refine Or.inr ⟨S', M', _, _, _, _, hJK.trans s1, hJM.trans m1, ⟨p1, by omega, p3, fun t ht => ?_, fun t ht => ?_⟩, s2, m2, s3, m3, m4⟩
              · by_cases e : t = T
                · subst e; simp only [push_s]; exact ⟨h1, h2, hj, hy, hc⟩
                · rw [push_o (by omega), push_o (by omega), push_o (by omega), push_o (by omega)]; exact p4 t (by omega)
              · by_cases e : t + 1 = T
                · rw [e, push_s, push_o (by omega)]; exact hdy t e
                · rw [push_o (by omega), push_o (by omega)]; exact p5 t (by omega)
            · have hdy : ∃ t, t + 1 = T ∧ ¬ dy t ≤ y := Classical.byContradiction fun z => hdy fun t ht => Classical.byContradiction fun z2 => z ⟨t, ht, z2⟩
              obtain ⟨t, rfl, hd⟩ := hdy
              have hyt := (p4 t (by omega)).2.2.2.1
              refine Or.inl ⟨?_, ?_⟩
              · unfold k6_addSight
                rw [isM_y h1 h2, some_b, if_neg z10, isJ_y hj, some_b, if_neg z10, isC_y hc, some_b, if_neg z10, l999, show k7_isWithin F S (nI y) 0 (nI 999) = some 1 from isW_y (lo := 0) (by omega) hy (by omega), some_b, if_neg z10, a2, l7, if_pos (nI_lt hT (by omega)), if_neg (nI_nle (by omega) (by omega)), nI_pred, rdA_n (by omega) (by omega), some_b, (a4 t (by omega)).2.2.1, if_neg (nI_ge (by omega) (by omega))]
              · unfold k8_see
                rw [lt4, lt5, in_y h1 h2 (by omega), some_b, if_neg z10, jM_y hj, some_b, if_neg z10, l999, show k8_in F M (nI y) 0 (nI 999) = some 1 from in_y (lo := 0) (by omega) hy (by omega), some_b, if_neg z10, cM_y hc, some_b, if_neg z10, b2, l7, if_neg (fun z => absurd ((nI_eq (by omega) (by omega)).mp z) (by omega)), if_neg (nI_nle (by omega) (by omega)), nI_pred, rdA_n (by omega) (by omega), some_b, (b4 t (by omega)).2.2.1, if_neg (nI_ge (by omega) (by omega))]
          · have hT : T = 7 := by omega
            subst hT
            refine Or.inl ⟨?_, ?_⟩
            · unfold k6_addSight
              rw [isM_y h1 h2, some_b, if_neg z10, isJ_y hj, some_b, if_neg z10, isC_y hc, some_b, if_neg z10, l999, show k7_isWithin F S (nI y) 0 (nI 999) = some 1 from isW_y (lo := 0) (by omega) hy (by omega), some_b, if_neg z10, a2, l7, if_neg (nI_nlt (Nat.le_refl 7) (by omega))]
            · unfold k8_see
              rw [lt4, lt5, in_y h1 h2 (by omega), some_b, if_neg z10, jM_y hj, some_b, if_neg z10, l999, show k8_in F M (nI y) 0 (nI 999) = some 1 from in_y (lo := 0) (by omega) hy (by omega), some_b, if_neg z10, cM_y hc, some_b, if_neg z10, b2, l7, if_pos rfl]
        · refine Or.inl ⟨?_, ?_⟩
          · unfold k6_addSight
            rw [isM_y h1 h2, some_b, if_neg z10, isJ_y hj, some_b, if_neg z10, isC_y hc, some_b, if_neg z10, l999, show k7_isWithin F S x3 0 (nI 999) = some 0 from isW_n h, some_b, if_pos rfl]
          · unfold k8_see
            rw [lt4, lt5, in_y h1 h2 (by omega), some_b, if_neg z10, jM_y hj, some_b, if_neg z10, l999, show k8_in F M x3 0 (nI 999) = some 0 from in_n h, some_b, if_pos rfl]
      · refine Or.inl ⟨?_, ?_⟩
        · unfold k6_addSight
          rw [isM_y h1 h2, some_b, if_neg z10, isJ_y hj, some_b, if_neg z10, isC_n h, some_b, if_pos rfl]
        · unfold k8_see
          rw [lt4, lt5, in_y h1 h2 (by omega), some_b, if_neg z10, jM_y hj, some_b, if_neg z10]
          rcases rng2 x3 0 999 (by omega) with ⟨y, -, hy, rfl⟩ | h3
          · rw [l999, show k8_in F M (nI y) 0 (nI 999) = some 1 from in_y (lo := 0) (by omega) hy (by omega), some_b, if_neg z10, cM_n h, some_b, if_pos rfl]
          · rw [l999, show k8_in F M x3 0 (nI 999) = some 0 from in_n h3, some_b, if_pos rfl]
    · refine Or.inl ⟨?_, ?_⟩
      · unfold k6_addSight; rw [isM_y h1 h2, some_b, if_neg z10, isJ_n h, some_b, if_pos rfl]
      · unfold k8_see; rw [lt4, lt5, in_y h1 h2 (by omega), some_b, if_neg z10, jM_n h, some_b, if_pos rfl]
  · refine Or.inl ⟨?_, ?_⟩
    · unfold k6_addSight; rw [isM_n h, some_b, if_pos rfl]
    · unfold k8_see; rw [lt4, lt5, in_n h, some_b, if_pos rfl]

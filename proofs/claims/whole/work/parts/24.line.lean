/-! tests -/
theorem ckB0 : ckB 0 = some () := by decide
theorem ckB1 : ckB 1 = some () := by decide
theorem z10 : ¬ (1 : Int32) = 0 := by decide
theorem rng (x : Int32) (k : Nat) (hk : k < 2147483648) : (∃ n : Nat, n < k ∧ x = nI n) ∨ (x < 0 ∨ nI k ≤ x) := by
  rcases pk_ix x (n := k) hk with h | h | h
  · exact Or.inr (Or.inl h)
  · exact Or.inr (Or.inr h)
  · exact Or.inl h
/-- between lo and hi (both in), or not -/
theorem rng2 (x : Int32) (lo hi : Nat) (hl : lo < 2147483648) : (∃ n : Nat, lo ≤ n ∧ n ≤ hi ∧ x = nI n) ∨ (x < nI lo ∨ nI hi < x) := by
  rcases i32_nat x with h | ⟨n, hn, e⟩
  · exact Or.inr (Or.inl (neg_lt h hl))
  · subst e
    by_cases h1 : lo ≤ n
    · by_cases h2 : n ≤ hi
      · exact Or.inl ⟨n, h1, h2, rfl⟩
      · exact Or.inr (Or.inr (nI_lt (by omega) hn))
    · exact Or.inr (Or.inl (nI_lt (by omega) hl))
theorem isJ_y {F : Nat} {S : SS} {n : Nat} (h : n < 12) : k7_isJunction F S (nI n) = some 1 := by
  unfold k7_isJunction; rw [if_neg (nI_nn (by omega)), l12, if_neg (nI_ge h (by omega))]
theorem isJ_n {F : Nat} {S : SS} {x : Int32} (h : x < 0 ∨ nI 12 ≤ x) : k7_isJunction F S x = some 0 := by
  unfold k7_isJunction
  by_cases q : x < 0
  · rw [if_pos q]
  · rw [if_neg q, l12, if_pos (h.resolve_left q)]
theorem isC_y {F : Nat} {S : SS} {n : Nat} (h : n < 8) : k7_isCompany F S (nI n) = some 1 := by
  unfold k7_isCompany; rw [if_neg (nI_nn (by omega)), l8, if_neg (nI_ge h (by omega))]
theorem isC_n {F : Nat} {S : SS} {x : Int32} (h : x < 0 ∨ nI 8 ≤ x) : k7_isCompany F S x = some 0 := by
  unfold k7_isCompany
  by_cases q : x < 0
  · rw [if_pos q]
  · rw [if_neg q, l8, if_pos (h.resolve_left q)]
theorem isW_y {F : Nat} {S : SS} {n lo hi : Nat} (h1 : lo ≤ n) (h2 : n ≤ hi) (hh : hi < 2147483648) : k7_isWithin F S (nI n) (nI lo) (nI hi) = some 1 := by
  unfold k7_isWithin; rw [if_neg (nI_nlt h1 (by omega)), if_neg (nI_nlt h2 (by omega))]
theorem isW_n {F : Nat} {S : SS} {x a b : Int32} (h : x < a ∨ b < x) : k7_isWithin F S x a b = some 0 := by
  unfold k7_isWithin
  by_cases q : x < a
  · rw [if_pos q]
  · rw [if_neg q, if_pos (h.resolve_left q)]
theorem in_y {F : Nat} {S : SM} {n lo hi : Nat} (h1 : lo ≤ n) (h2 : n ≤ hi) (hh : hi < 2147483648) : k8_in F S (nI n) (nI lo) (nI hi) = some 1 := by
  unfold k8_in; rw [if_neg (nI_nlt h1 (by omega)), if_neg (nI_nlt h2 (by omega))]
theorem in_n {F : Nat} {S : SM} {x a b : Int32} (h : x < a ∨ b < x) : k8_in F S x a b = some 0 := by
  unfold k8_in
  by_cases q : x < a
  · rw [if_pos q]
  · rw [if_neg q, if_pos (h.resolve_left q)]
theorem lt_of_nle {x : Int32} {n : Nat} (hn : n < 2147483647) (h : nI (n + 1) ≤ x) : nI n < x := by
  rw [Int32.le_iff_toInt_le, nI_toInt (by omega)] at h
  rw [Int32.lt_iff_toInt_lt, nI_toInt (by omega)]
  omega
theorem jM_y {F : Nat} {S : SM} {n : Nat} (h : n < 12) : k8_isJunction F S (nI n) = some 1 := by
  unfold k8_isJunction; rw [l0, l11, in_y (by omega) (by omega) (by omega), some_b, ckB1, some_b]
theorem jM_n {F : Nat} {S : SM} {x : Int32} (h : x < 0 ∨ nI 12 ≤ x) : k8_isJunction F S x = some 0 := by
  unfold k8_isJunction
  rw [l11, in_n (h.elim Or.inl fun q => Or.inr (lt_of_nle (n := 11) (by omega) q)), some_b, ckB0, some_b]
theorem cM_y {F : Nat} {S : SM} {n : Nat} (h : n < 8) : k8_isCompany F S (nI n) = some 1 := by
  unfold k8_isCompany; rw [l0, l7, in_y (by omega) (by omega) (by omega), some_b, ckB1, some_b]
theorem cM_n {F : Nat} {S : SM} {x : Int32} (h : x < 0 ∨ nI 8 ≤ x) : k8_isCompany F S x = some 0 := by
  unfold k8_isCompany
  rw [l7, in_n (h.elim Or.inl fun q => Or.inr (lt_of_nle (n := 7) (by omega) q)), some_b, ckB0, some_b]
/-! the network of both -/
def NetP (N : Nat) (A B C L : Nat → Nat) (d : Nat → Nat → Nat) : Prop := N ≤ 24 ∧ Lns N A B L ∧ (∀ l, l < N → C l < 8) ∧ Dst N A B L d
def NetK (S : SS) (N : Nat) (A B C L : Nat → Nat) (d : Nat → Nat → Nat) : Prop :=
  S 1 5 = nI N ∧ (∀ l, l < N → S 8 l = nI (A l) ∧ S 9 l = nI (B l) ∧ S 10 l = nI (C l) ∧ S 11 l = nI (L l)) ∧ ∀ u v, u < 12 → v < 12 → S 12 (u * 12 + v) = nI (d u v)
def NetM (m : SS) (N : Nat) (A B C L : Nat → Nat) (d : Nat → Nat → Nat) : Prop :=
  m 0 0 = nI N ∧ (∀ l, l < N → m 1 l = nI (A l) ∧ m 2 l = nI (B l) ∧ m 3 l = nI (C l) ∧ m 4 l = nI (L l)) ∧ ∀ u v, u < 12 → v < 12 → m 5 (12 * u + v) = nI (d u v)
theorem NetK.cong {S S' : SS} {N : Nat} {A B C L : Nat → Nat} {d : Nat → Nat → Nat} (h : NetK S N A B C L d) (h1 : S' 1 5 = S 1 5) (h2 : ∀ q, 8 ≤ q → q ≤ 12 → S' q = S q) : NetK S' N A B C L d :=
  ⟨h1.trans h.1, fun l hl => by rw [h2 8 (by omega) (by omega), h2 9 (by omega) (by omega), h2 10 (by omega) (by omega), h2 11 (by omega) (by omega)]; exact h.2.1 l hl, fun u v hu hv => by rw [h2 12 (by omega) (by omega)]; exact h.2.2 u v hu hv⟩
theorem NetM.cong {S S' : SS} {N : Nat} {A B C L : Nat → Nat} {d : Nat → Nat → Nat} (h : NetM S N A B C L d) (h1 : S' 0 0 = S 0 0) (h2 : ∀ q, 1 ≤ q → q ≤ 5 → S' q = S q) : NetM S' N A B C L d :=
  ⟨h1.trans h.1, fun l hl => by rw [h2 1 (by omega) (by omega), h2 2 (by omega) (by omega), h2 3 (by omega) (by omega), h2 4 (by omega) (by omega)]; exact h.2.1 l hl, fun u v hu hv => by rw [h2 5 (by omega) (by omega)]; exact h.2.2 u v hu hv⟩
def push (f : Nat → Nat) (N x : Nat) : Nat → Nat := fun l => if l = N then x else f l
theorem push_s {f : Nat → Nat} {N x : Nat} : push f N x N = x := if_pos rfl
theorem push_o {f : Nat → Nat} {N x l : Nat} (h : l < N) : push f N x l = f l := if_neg (by omega)
theorem NetP.psh {N : Nat} {A B C L : Nat → Nat} {d : Nat → Nat → Nat} (h : NetP N A B C L d) {a b c w : Nat} (hN : N < 24) (ha : a < 12) (hb : b < 12) (hab : a ≠ b) (hc : c < 8) (h1 : 1 ≤ w) (h2 : w ≤ 200) :
    NetP (N + 1) (push A N a) (push B N b) (push C N c) (push L N w) (fun u v => min (min (d u v) (d u a + w + d b v)) (min (d u b) (d u a + w + d b b) + w + min (d a v) (d a a + w + d b v))) := by
  obtain ⟨-, hL, hC, hd⟩ := h
  have hL' : Lns (N + 1) (push A N a) (push B N b) (push L N w) := by
    intro l hl
    by_cases e : l = N
    · subst e; rw [push_s, push_s, push_s]; exact ⟨ha, hb, hab, h1, h2⟩
    · rw [push_o (by omega), push_o (by omega), push_o (by omega)]; exact hL l (by omega)
  refine ⟨by omega, hL', fun l hl => ?_, ?_⟩
  · by_cases e : l = N
    · subst e; rw [push_s]; exact hc
    · rw [push_o (by omega)]; exact hC l (by omega)
  · have := Dst.add hL' (hd.cong (fun l hl => ⟨(push_o hl).symm, (push_o hl).symm, (push_o hl).symm⟩))
    rw [push_s, push_s, push_s] at this
    exact this
theorem addLine_y {F : Nat} (hF : 1000000000 < F) {S : SS} {N : Nat} {A B C L : Nat → Nat} {d : Nat → Nat → Nat} (hP : NetP N A B C L d) (hK : NetK S N A B C L d) {a b c w : Nat} (hN : N < 24) (ha : a < 12) (hb : b < 12) (hab : a ≠ b) (hc : c < 8) (h1 : 1 ≤ w) (h2 : w ≤ 200) :
    ∃ S', k4_addLine F S (nI a) (nI b) (nI c) (nI w) = some (nI N, S') ∧ (∀ q, q ≠ 1 → (q < 8 ∨ 12 < q) → S' q = S q) ∧
      NetK S' (N + 1) (push A N a) (push B N b) (push C N c) (push L N w) (fun u v => min (min (d u v) (d u a + w + d b v)) (min (d u b) (d u a + w + d b b) + w + min (d a v) (d a a + w + d b v))) := by
  obtain ⟨k1, k2, k3⟩ := hK
  have hdb := hP.2.2.2.1.2.1
  obtain ⟨S5, e5⟩ : ∃ z, z = st (st (st (st (st S 8 N (nI a)) 9 N (nI b)) 10 N (nI c)) 11 N (nI w)) 1 5 (nI (N + 1)) := ⟨_, rfl⟩
  have o5 : ∀ q, q ≠ 1 → q ≠ 8 → q ≠ 9 → q ≠ 10 → q ≠ 11 → S5 q = S q := fun q g1 g2 g3 g4 g5 => by rw [e5, st_o g1, st_o g5, st_o g4, st_o g3, st_o g2]
  obtain ⟨S6, s1, s2, s3⟩ := shorten_out (F := F) (by omega) (S0 := S5) ha hb h2 hdb (fun x y hx hy => by rw [o5 12 (by decide) (by decide) (by decide) (by decide) (by decide)]; exact k3 x y hx hy)
  have hdb2 : ∀ x y, x < 12 → y < 12 → min (d x y) (d x a + w + d b y) ≤ 1000000 := fun x y hx hy => by have := hdb x y hx hy; omega
  obtain ⟨S7, t1, t2, t3⟩ := shorten_out (F := F) (by omega) (S0 := S6) hb ha h2 hdb2 s3
  have r1 : S7 1 5 = nI (N + 1) := by rw [t2 1 (by decide), s2 1 (by decide), e5, st_st, if_pos rfl]
  refine ⟨S7, ?_, fun q g1 g2 => ?_, r1, fun l hl => ?_, fun u v hu hv => ?_⟩
  · unfold k4_addLine
    rw [isJ_y ha, some_b, if_neg z10, isJ_y hb, some_b, if_neg z10, if_neg (fun q => hab ((nI_eq (by omega) (by omega)).mp q)), isC_y hc, some_b, if_neg z10, l1, l200, isW_y h1 h2 (by omega), some_b, if_neg z10, k1, l24, if_pos (nI_lt hN (by omega)), ckA_n (by omega) (by omega), some_b, clN (by omega), bnd_e]
    have g1 : st S 8 N (nI a) 1 5 = nI N := by rw [st_o (by decide)]; exact k1
    rw [g1, ckA_n (by omega) (by omega), some_b, clN (by omega), bnd_e]
    have g2 : st (st S 8 N (nI a)) 9 N (nI b) 1 5 = nI N := by rw [st_o (by decide)]; exact g1
    rw [g2, ckA_n (by omega) (by omega), some_b, clN (by omega), bnd_e]
    have g3 : st (st (st S 8 N (nI a)) 9 N (nI b)) 10 N (nI c) 1 5 = nI N := by rw [st_o (by decide)]; exact g2
    rw [g3, ckA_n (by omega) (by omega), some_b, clN (by omega), bnd_e]
    have g4 : st (st (st (st S 8 N (nI a)) 9 N (nI b)) 10 N (nI c)) 11 N (nI w) 1 5 = nI N := by rw [st_o (by decide)]; exact g3
    rw [g4, nI_add, bnd_e, ← e5, s1, some_b, t1, some_b, r1, sbN (by omega)]
    rfl
  · rw [t2 q (by omega), s2 q (by omega), o5 q g1 (by omega) (by omega) (by omega) (by omega)]
  · have q8 : S7 8 = upd (S 8) N (nI a) := by rw [t2 8 (by decide), s2 8 (by decide), e5, st_o (by decide), st_o (by decide), st_o (by decide), st_o (by decide), st_s]
    have q9 : S7 9 = upd (S 9) N (nI b) := by rw [t2 9 (by decide), s2 9 (by decide), e5, st_o (by decide), st_o (by decide), st_o (by decide), st_s, st_o (by decide)]
    have q10 : S7 10 = upd (S 10) N (nI c) := by rw [t2 10 (by decide), s2 10 (by decide), e5, st_o (by decide), st_o (by decide), st_s, st_o (by decide), st_o (by decide)]
    have q11 : S7 11 = upd (S 11) N (nI w) := by rw [t2 11 (by decide), s2 11 (by decide), e5, st_o (by decide), st_s, st_o (by decide), st_o (by decide), st_o (by decide)]
    rw [q8, q9, q10, q11]
    by_cases e : l = N
    · subst e; simp only [upd_s, push_s]; exact ⟨trivial, trivial, trivial, trivial⟩
    · rw [upd_o e, upd_o e, upd_o e, upd_o e, push_o (by omega), push_o (by omega), push_o (by omega), push_o (by omega)]
      exact k2 l (by omega)
  · rw [t3 u v hu hv]
theorem lineM_y {F : Nat} (hF : 1000000000 < F) {M : SM} {N : Nat} {A B C L : Nat → Nat} {d : Nat → Nat → Nat} (hP : NetP N A B C L d) (hM : NetM M.1 N A B C L d) {a b c w : Nat} (hN : N < 24) (ha : a < 12) (hb : b < 12) (hab : a ≠ b) (hc : c < 8) (h1 : 1 ≤ w) (h2 : w ≤ 200) :
    ∃ M', k8_line F M (nI a) (nI b) (nI c) (nI w) = some (nI N, M') ∧ (∀ q, q ≠ 0 → 5 < q → M'.1 q = M.1 q) ∧ (∀ k, k ≠ 0 → M'.1 0 k = M.1 0 k) ∧
      NetM M'.1 (N + 1) (push A N a) (push B N b) (push C N c) (push L N w) (fun u v => min (min (d u v) (d u a + w + d b v)) (min (d u b) (d u a + w + d b b) + w + min (d a v) (d a a + w + d b v))) := by
  have hP' := hP.psh (c := c) hN ha hb hab hc h1 h2
  obtain ⟨k1, k2, k3⟩ := hM
  obtain ⟨M5, e5⟩ : ∃ z, z = stM (stM (stM (stM (stM M 1 N (nI a)) 2 N (nI b)) 3 N (nI c)) 4 N (nI w)) 0 0 (nI (N + 1)) := ⟨_, rfl⟩
  have e6 : M5.1 = st (st (st (st (st M.1 1 N (nI a)) 2 N (nI b)) 3 N (nI c)) 4 N (nI w)) 0 0 (nI (N + 1)) := by rw [e5]; rfl
  have q0 : M5.1 0 0 = nI (N + 1) := by rw [e6, st_st, if_pos rfl]
  have q1 : M5.1 1 = upd (M.1 1) N (nI a) := by rw [e6, st_o (by decide), st_o (by decide), st_o (by decide), st_o (by decide), st_s]
  have q2 : M5.1 2 = upd (M.1 2) N (nI b) := by rw [e6, st_o (by decide), st_o (by decide), st_o (by decide), st_s, st_o (by decide)]
  have q3 : M5.1 3 = upd (M.1 3) N (nI c) := by rw [e6, st_o (by decide), st_o (by decide), st_s, st_o (by decide), st_o (by decide)]
  have q4 : M5.1 4 = upd (M.1 4) N (nI w) := by rw [e6, st_o (by decide), st_s, st_o (by decide), st_o (by decide), st_o (by decide)]
  have hl5 : ∀ l, l < N + 1 → M5.1 1 l = nI (push A N a l) ∧ M5.1 2 l = nI (push B N b l) ∧ M5.1 3 l = nI (push C N c l) ∧ M5.1 4 l = nI (push L N w l) := by
    intro l hl
    rw [q1, q2, q3, q4]
    by_cases e : l = N
    · subst e; simp only [upd_s, push_s]; exact ⟨trivial, trivial, trivial, trivial⟩
    · rw [upd_o e, upd_o e, upd_o e, upd_o e, push_o (by omega), push_o (by omega), push_o (by omega), push_o (by omega)]
      exact k2 l (by omega)
  obtain ⟨M', d', r1, r2, r3⟩ := reckons_ok hF hP'.2.1 (S0 := M5) ⟨q0, by omega, fun l hl => ⟨(hl5 l hl).1, (hl5 l hl).2.1, (hl5 l hl).2.2.2⟩⟩
  have r0 : M'.1 0 0 = nI (N + 1) := by rw [r2.1 0 (by decide)]; exact q0
  refine ⟨M', ?_, fun q g1 g2 => ?_, fun k hk => ?_, r0, fun l hl => ?_, fun u v hu hv => ?_⟩
  · unfold k8_line
    rw [jM_y ha, some_b, if_neg z10, jM_y hb, some_b, if_neg z10, if_neg (fun q => hab ((nI_eq (by omega) (by omega)).mp q)), cM_y hc, some_b, if_neg z10, l1, l200, in_y h1 h2 (by omega), some_b, if_neg z10, k1, l24, if_neg (fun q => absurd ((nI_eq (by omega) (by omega)).mp q) (by omega)), ckA_n (by omega) (by omega), some_b, clN (by omega), bnd_e]
    have g1 : (stM M 1 N (nI a)).1 0 0 = nI N := by show st M.1 1 N (nI a) 0 0 = _; rw [st_o (by decide)]; exact k1
    rw [g1, ckA_n (by omega) (by omega), some_b, clN (by omega), bnd_e]
    have g2 : (stM (stM M 1 N (nI a)) 2 N (nI b)).1 0 0 = nI N := by show st _ 2 N (nI b) 0 0 = _; rw [st_o (by decide)]; exact g1
    rw [g2, ckA_n (by omega) (by omega), some_b, clN (by omega), bnd_e]
    have g3 : (stM (stM (stM M 1 N (nI a)) 2 N (nI b)) 3 N (nI c)).1 0 0 = nI N := by show st _ 3 N (nI c) 0 0 = _; rw [st_o (by decide)]; exact g2
    rw [g3, ckA_n (by omega) (by omega), some_b, clN (by omega), bnd_e]
    have g4 : (stM (stM (stM (stM M 1 N (nI a)) 2 N (nI b)) 3 N (nI c)) 4 N (nI w)).1 0 0 = nI N := by show st _ 4 N (nI w) 0 0 = _; rw [st_o (by decide)]; exact g3
    rw [g4, nI_add, bnd_e, ← e5, r1, some_b, r0, sbN (by omega)]
    rfl
  · rw [r2.1 q (by omega), e6, st_o g1, st_o (by omega), st_o (by omega), st_o (by omega), st_o (by omega)]
  · rw [r2.1 0 (by decide), e6, st_st, if_neg hk, st_o (by decide), st_o (by decide), st_o (by decide), st_o (by decide)]
  · rw [r2.1 1 (by decide), r2.1 2 (by decide), r2.1 3 (by decide), r2.1 4 (by decide)]
    exact hl5 l hl
  · rw [r2.2.2 u v hu hv, r3.one hP'.2.2.2 hu hv]
/-- both take a line, or both refuse -/
theorem line_both {F : Nat} (hF : 1000000000 < F) {S : SS} {M : SM} {N : Nat} {A B C L : Nat → Nat} {d : Nat → Nat → Nat} (hP : NetP N A B C L d) (hK : NetK S N A B C L d) (hM : NetM M.1 N A B C L d) (x1 x2 x3 x4 : Int32) :
    (k4_addLine F S x1 x2 x3 x4 = some (-1, S) ∧ k8_line F M x1 x2 x3 x4 = some (-1, M)) ∨
    ∃ S' M' A' B' C' L' d', k4_addLine F S x1 x2 x3 x4 = some (nI N, S') ∧ k8_line F M x1 x2 x3 x4 = some (nI N, M') ∧ NetP (N + 1) A' B' C' L' d' ∧ NetK S' (N + 1) A' B' C' L' d' ∧ NetM M'.1 (N + 1) A' B' C' L' d' ∧ N < 24 ∧
      (∀ q, q ≠ 1 → (q < 8 ∨ 12 < q) → S' q = S q) ∧ (∀ q, q ≠ 0 → 5 < q → M'.1 q = M.1 q) ∧ (∀ k, k ≠ 0 → M'.1 0 k = M.1 0 k) := by
  rcases rng x1 12 (by omega) with ⟨a, ha, rfl⟩ | h
  · rcases rng x2 12 (by omega) with ⟨b, hb, rfl⟩ | h
    · by_cases hab : a = b
      · subst hab
        refine Or.inl ⟨?_, ?_⟩
        · unfold k4_addLine; rw [isJ_y ha, some_b, if_neg z10, some_b, if_neg z10, if_pos rfl]
        · unfold k8_line; rw [jM_y ha, some_b, if_neg z10, some_b, if_neg z10, if_pos rfl]
      · have hne : ¬ nI a = nI b := fun q => hab ((nI_eq (by omega) (by omega)).mp q)
        rcases rng x3 8 (by omega) with ⟨c, hc, rfl⟩ | h
        · rcases rng2 x4 1 200 (by omega) with ⟨w, h1, h2, rfl⟩ | h
          · by_cases hN : N < 24
            · obtain ⟨S', s1, s2, s3⟩ := addLine_y hF hP hK hN ha hb hab hc h1 h2
              obtain ⟨M', m1, m2, m3, m4⟩ := lineM_y hF hP hM hN ha hb hab hc h1 h2
              exact Or.inr ⟨S', M', _, _, _, _, _, s1, m1, hP.psh hN ha hb hab hc h1 h2, s3, m4, hN, s2, m2, m3⟩
            · have hN : N = 24 := by have := hP.1; omega
              subst hN
              refine Or.inl ⟨?_, ?_⟩
              · unfold k4_addLine
                rw [isJ_y ha, some_b, if_neg z10, isJ_y hb, some_b, if_neg z10, if_neg hne, isC_y hc, some_b, if_neg z10, l1, l200, isW_y h1 h2 (by omega), some_b, if_neg z10, hK.1, l24, if_neg (nI_nlt (Nat.le_refl 24) (by omega))]
              · unfold k8_line
                rw [jM_y ha, some_b, if_neg z10, jM_y hb, some_b, if_neg z10, if_neg hne, cM_y hc, some_b, if_neg z10, l1, l200, in_y h1 h2 (by omega), some_b, if_neg z10, hM.1, l24, if_pos rfl]
          · refine Or.inl ⟨?_, ?_⟩
            · unfold k4_addLine
              rw [isJ_y ha, some_b, if_neg z10, isJ_y hb, some_b, if_neg z10, if_neg hne, isC_y hc, some_b, if_neg z10, l1, l200, isW_n h, some_b, if_pos rfl]
            · unfold k8_line
              rw [jM_y ha, some_b, if_neg z10, jM_y hb, some_b, if_neg z10, if_neg hne, cM_y hc, some_b, if_neg z10, l1, l200, in_n h, some_b, if_pos rfl]
        · refine Or.inl ⟨?_, ?_⟩
          · unfold k4_addLine
            rw [isJ_y ha, some_b, if_neg z10, isJ_y hb, some_b, if_neg z10, if_neg hne, isC_n h, some_b, if_pos rfl]
          · unfold k8_line
            rw [jM_y ha, some_b, if_neg z10, jM_y hb, some_b, if_neg z10, if_neg hne, cM_n h, some_b, if_pos rfl]
    · refine Or.inl ⟨?_, ?_⟩
      · unfold k4_addLine; rw [isJ_y ha, some_b, if_neg z10, isJ_n h, some_b, if_pos rfl]
      · unfold k8_line; rw [jM_y ha, some_b, if_neg z10, jM_n h, some_b, if_pos rfl]
  · refine Or.inl ⟨?_, ?_⟩
    · unfold k4_addLine; rw [isJ_n h, some_b, if_pos rfl]
    · unfold k8_line; rw [jM_n h, some_b, if_pos rfl]

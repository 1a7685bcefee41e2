def f0R (th : Nat → Nat) (x : Nat → Nat → Nat) (n : Nat) : Nat := if n < 12 ∧ rwS x n < th n then 0 else 1000000
def encB : Option Nat → Int32
  | none => -1
  | some e => nI (12 + e)
/-- the nearest that lacks -/
def SK (wa : Nat → Nat) (x : Nat → Nat → Nat) (far : Nat → Nat) (J : Nat) : Option Nat → Prop
  | none => ∀ b, b < J → clS x b < wa b → far (12 + b) = 1000000
  | some e => e < J ∧ clS x e < wa e ∧ far (12 + e) < 1000000 ∧ ∀ b, b < J → clS x b < wa b → far (12 + e) ≤ far (12 + b)
/-- the reference's world for leading -/
def RW (d : Nat → Nat → Nat) (th wa : Nat → Nat) (x : Nat → Nat → Nat) (M : SM) : Prop :=
  (∀ a b, a < 12 → b < 12 → M.1 5 (12 * a + b) = nI (d a b)) ∧ (∀ j, j < 12 → M.1 13 j = nI (th j) ∧ M.1 14 j = nI (wa j)) ∧ ∀ a b, a < 12 → b < 12 → M.1 21 (12 * a + b) = nI (x a b)
theorem seeksM {F : Nat} (hF : 1000000000 < F) {d : Nat → Nat → Nat} {th wa : Nat → Nat} (hd : ∀ a b, a < 12 → b < 12 → d a b ≤ 2200 ∨ d a b = 1000000) (h9 : ∀ j, j < 12 → th j ≤ 9 ∧ wa j ≤ 9) {lam : Nat} {π : Nat → Nat} {x : Nat → Nat → Nat} (hC : NC 24 gR idN tbR (ER d) d th wa lam π x) (hlam : lam ≤ 1000000) {M : SM} (hM : RW d th wa x M) :
    ∃ M' far pr en, k8_seeks F M = some (encB en, M') ∧ (∀ q, q ≠ 22 → q ≠ 23 → M'.1 q = M.1 q) ∧ (∀ n, n < 24 → M'.1 22 n = nI (far n) ∧ M'.1 23 n = encL (pr n)) ∧ BF 24 (WR d) (AR d) (BR x) π (SR2 th x) far pr ∧ FX (WR d) (AR d) (BR x) far ∧ SK wa x far 12 en := by
  obtain ⟨m5, m13, m21⟩ := hM
  obtain ⟨c1, c2, c3, c4, c5, c6⟩ := hC
  have hx9 : ∀ a b, a < 12 → b < 12 → x a b < 1000000 := fun a b ha hb => by
    have h1 := sm_part (f := x a) (n := 12) hb
    have h2 := c4 a ha
    have h3 := (h9 a ha).1
    have h4 : rwS x a = sm (x a) 12 := rfl
    omega
  -- the beginning
  obtain ⟨S1, ⟨a1, a2⟩, a3⟩ := lp_cps (z := fun _ _ => none) (f := fun k rec => k8_seeks_B2 F rec k) (fun (s : SM × Nat) g => g s.1 (nI s.2)) (fun (t : SM) k => k t) (fun s => ((∀ q, q ≠ 22 → q ≠ 23 → s.1.1 q = M.1 q) ∧ ∀ n, n < s.2 → s.1.1 22 n = nI (f0R th x n) ∧ s.1.1 23 n = encL none) ∧ s.2 ≤ 24) (fun s => 24 - s.2) (fun S => (∀ q, q ≠ 22 → q ≠ 23 → S.1 q = M.1 q) ∧ ∀ n, n < 24 → S.1 22 n = nI (f0R th x n) ∧ S.1 23 n = encL none) (by
    rintro ⟨S, j⟩ ⟨⟨k1, k2⟩, hj⟩
    dsimp only at k1 k2 hj
    by_cases e : j = 24
    · subst e
      refine Or.inr ⟨S, ⟨k1, k2⟩, fun k rec => ?_⟩
      dsimp only [k8_seeks_B2]
      rw [l24, if_pos (nI_le (Nat.le_refl 24) (by omega))]
    · have hj : j < 24 := by omega
      have put : ((∀ q, q ≠ 22 → q ≠ 23 → (stM (stM S 22 j (nI (f0R th x j))) 23 j (-1)).1 q = M.1 q) ∧ ∀ n, n < j + 1 → (stM (stM S 22 j (nI (f0R th x j))) 23 j (-1)).1 22 n = nI (f0R th x n) ∧ (stM (stM S 22 j (nI (f0R th x j))) 23 j (-1)).1 23 n = encL none) ∧ j + 1 ≤ 24 := by
        refine ⟨⟨fun q u1 u2 => by rw [m_o u2, m_o u1]; exact k1 q u1 u2, fun n hn => ?_⟩, by omega⟩
        rw [m_o (by decide), m_s, m_s, m_o (by decide)]
        by_cases e2 : n = j
        · rw [if_pos e2, if_pos e2, e2]; exact ⟨rfl, rfl⟩
        · rw [if_neg e2, if_neg e2]; exact k2 n (by omega)
      refine Or.inl ⟨(stM (stM S 22 j (nI (f0R th x j))) 23 j (-1), j + 1), put, by dsimp only; omega, fun k rec => ?_⟩
      dsimp only [k8_seeks_B2]
      simp only [bnd_e]
      unfold f0R
      rw [l24, if_neg (nI_ge hj (by omega)), l12]
      by_cases q1 : j < 12
      · have e1 : k8_left F S (nI j) = some (nI (th j - rwS x j)) := leftM (by omega) q1 (by rw [k1 13 (by decide) (by decide)]; exact (m13 j q1).1) (fun b hb => by rw [k1 21 (by decide) (by decide)]; exact m21 j b q1 hb) (c4 j q1)
        have h9j := (h9 j q1).1
        rw [if_neg (nI_ge q1 (by omega)), e1, some_b, ckA_n hj (by omega), some_b, some_b, some_b, some_b, clN (by omega), nI_1]
        by_cases q2 : rwS x j < th j
        · rw [if_neg (show ¬ nI (th j - rwS x j) ≤ (0 : Int32) from nI_ge (show 0 < th j - rwS x j by omega) (by omega)), if_pos ⟨q1, q2⟩]; rfl
        · rw [if_pos (show nI (th j - rwS x j) ≤ (0 : Int32) from nI_le (show th j - rwS x j ≤ 0 by omega) (by decide)), if_neg (fun z => q2 z.2)]; rfl
      · rw [if_pos (nI_le (by omega) (by omega)), ckA_n hj (by omega), some_b, some_b, clN (by omega), if_neg (fun z => q1 z.1), nI_1]
        rfl) F (M, 0) ⟨⟨fun _ _ _ => rfl, fun n hn => absurd hn (Nat.not_lt_zero n)⟩, Nat.zero_le 24⟩ (by dsimp only; omega)
  have hB0 : BF 24 (WR d) (AR d) (BR x) π (SR2 th x) (f0R th x) (fun _ => none) := BF.start c1 (fun n hn => Nat.le_trans (c2 n hn) hlam) (fun n hn => by
    unfold f0R
    by_cases q : n < 12 ∧ rwS x n < th n
    · rw [if_pos q]; exact Or.inl ⟨⟨gR_t q.1, q.2⟩, rfl⟩
    · rw [if_neg q]; exact Or.inr ⟨fun z => q ⟨gR_lt z.1, z.2⟩, rfl⟩) (fun _ _ => rfl)
  have hsum0 : sm (f0R th x) 24 ≤ 24 * 1000000 := sm_bd fun n _ => by unfold f0R; split <;> omega
  -- sweep by sweep
  obtain ⟨⟨S2, far, pr⟩, ⟨b1, b2⟩, b3⟩ := lp_cps (z := fun _ _ => none) (f := fun k rec => k8_seeks_B49 F rec k) (fun (s : SM × (Nat → Nat) × (Nat → Option Nat) × Bool) g => g s.1 (bI s.2.2.2)) (fun (t : SM × (Nat → Nat) × (Nat → Option Nat)) k => k t.1) (fun s => SB d th π x M 24000000 s.1 s.2.1 s.2.2.1 ∧ (s.2.2.2 = false → FX (WR d) (AR d) (BR x) s.2.1)) (fun s => 2 * sm s.2.1 24 + (if s.2.2.2 = true then 1 else 0)) (fun t => SB d th π x M 24000000 t.1 t.2.1 t.2.2 ∧ FX (WR d) (AR d) (BR x) t.2.1) (by
    rintro ⟨S, far, pr, mo⟩ ⟨k1, k2⟩
    dsimp only at k1 k2
    cases mo with
    | false =>
      refine Or.inr ⟨(S, far, pr), ⟨k1, k2 rfl⟩, fun k rec => ?_⟩
      dsimp only [k8_seeks_B49]
      rw [bI_f, if_pos rfl]
    | true =>
      obtain ⟨⟨S', far', pr', mo'⟩, t1, t2⟩ := sweepR (F := F) (by omega) c1 m5 hd (fun a b ha hb => ⟨m21 a b ha hb, hx9 a b ha hb⟩) S far pr 24000000 k1
      dsimp only at t1 t2
      obtain ⟨t3, t4, t5⟩ := t1
      have hle := t3.2.2.2
      have hle2 := k1.2.2.2
      refine Or.inl ⟨(S', far', pr', mo'), ⟨⟨t3.1, t3.2.1, t3.2.2.1, by dsimp only; omega⟩, fun z m n hm => ⟨fun ha => ?_, fun hb => ?_⟩⟩, ?_, fun k rec => ?_⟩
      · obtain ⟨b, u1, u2, u3, u4⟩ := AR_e ha
        dsimp only at hm ⊢
        rw [u3, WR_f u1]
        exact (t5 z m b u1 u2 (by omega) u4).1 hm
      · obtain ⟨b, u1, u2, u3, u4⟩ := BR_e hb
        dsimp only at hm ⊢
        rw [u3, WR_b]
        rw [u3] at hm
        exact (t5 z n b u1 u2 (by omega) (c3 n b u1 u2 u4)).2 u4 hm
      · dsimp only
        rw [if_pos rfl]
        cases mo' with
        | false => rw [if_neg (by decide)]; omega
        | true => rw [if_pos rfl]; have := t4 rfl; omega
      · dsimp only [k8_seeks_B49]
        simp only [bnd_e]
        rw [bI_t, if_neg z10]
        exact t2 _) F (S1, f0R th x, fun _ => none, true) ⟨⟨a1, a2, hB0, by dsimp only; omega⟩, fun z => (by cases z)⟩ (by dsimp only; rw [if_pos rfl]; omega)
  dsimp only at b1 b2 b3
  -- the nearest
  obtain ⟨r, ⟨en, e1, e2⟩, he⟩ := lp_inv (z := fun _ _ => none) (f := fun rec => k8_seeks_B235 F S2 rec) (fun (s : Option Nat × Nat) g => g (encB s.1) (nI s.2)) (fun s => SK wa x far s.2 s.1 ∧ s.2 ≤ 12) (fun s => 12 - s.2) (fun r => ∃ en, r = some (encB en, S2) ∧ SK wa x far 12 en) (by
    rintro ⟨en, j⟩ ⟨k1, hj⟩
    dsimp only at k1 hj
    by_cases e : j = 12
    · subst e
      refine Or.inr ⟨_, ⟨en, rfl, k1⟩, fun rec => ?_⟩
      dsimp only [k8_seeks_B235]
      rw [l12, if_pos (nI_le (Nat.le_refl 12) (by omega))]
    · have hj : j < 12 := by omega
      have fj := b1.2.2.1.1 (12 + j) (by omega)
      have h9j := (h9 j hj).2
      have el : k8_lacks F S2 (nI j) = some (nI (wa j - clS x j)) := lackM (by omega) hj (by rw [b1.1 14 (by decide) (by decide)]; exact (m13 j hj).2) (fun a ha => by rw [b1.1 21 (by decide) (by decide)]; exact m21 a j ha hj) (c5 j hj)
      have key : ∀ rec, k8_seeks_B235 F S2 rec (encB en) (nI j) = if nI 500000 ≤ nI (far (12 + j)) then rec (encB en) (nI (j + 1)) else if nI (wa j - clS x j) ≤ 0 then rec (encB en) (nI (j + 1)) else if encB en = -1 then rec (nI (12 + j)) (nI (j + 1)) else ((rdA 24 (S2.1 22) (encB en)).bind fun v_71 => if v_71 ≤ nI (far (12 + j)) then rec (encB en) (nI (j + 1)) else rec (nI (12 + j)) (nI (j + 1))) := by
        intro rec
        unfold k8_seeks_B235
        simp only [bnd_e]
        rw [l12, if_neg (nI_ge hj (by omega)), nI_add, rdA_n (by omega) (by omega), some_b, (b1.2.1 (12 + j) (by omega)).1, el, some_b, some_b, nI_1, lH]
      have stay : (clS x j < wa j → far (12 + j) = 1000000) → SK wa x far (j + 1) en := by
        intro z
        cases en with
        | none => exact fun b hb hl => if q : b = j then by rw [q] at hl ⊢; exact z hl else k1 b (by omega) hl
        | some e =>
          obtain ⟨z1, z2, z3, z4⟩ := k1
          exact ⟨by omega, z2, z3, fun b hb hl => if q : b = j then by rw [q] at hl ⊢; rw [z hl]; omega else z4 b (by omega) hl⟩
      by_cases q1 : far (12 + j) < 1000000
      · have hfin := b1.2.2.1.fin (Nat.le_refl 24) (show 12 + j < 24 by omega) q1
        by_cases q2 : clS x j < wa j
        · have n2 : ¬ nI (wa j - clS x j) ≤ (0 : Int32) := nI_ge (show 0 < wa j - clS x j by omega) (by omega)
          cases en with
          | none =>
            refine Or.inl ⟨(some j, j + 1), ⟨⟨by omega, q2, q1, fun b hb hl => if q : b = j then by rw [q]; exact Nat.le_refl _ else by rw [k1 b (by omega) hl]; omega⟩, by dsimp only; omega⟩, by dsimp only; omega, fun rec => ?_⟩
            dsimp only
            rw [key, if_neg (nI_ge (by omega) (by omega)), if_neg n2, if_pos (show encB none = -1 from rfl)]; rfl
          | some e =>
            obtain ⟨z1, z2, z3, z4⟩ := k1
            have hfe := b1.2.2.1.fin (Nat.le_refl 24) (show 12 + e < 24 by omega) z3
            by_cases q3 : far (12 + e) ≤ far (12 + j)
            · refine Or.inl ⟨(some e, j + 1), ⟨⟨by omega, z2, z3, fun b hb hl => if q : b = j then by rw [q]; exact q3 else z4 b (by omega) hl⟩, by dsimp only; omega⟩, by dsimp only; omega, fun rec => ?_⟩
              dsimp only
              rw [key, if_neg (nI_ge (by omega) (by omega)), if_neg n2, if_neg (show ¬ encB (some e) = -1 from nI_m1 (n := 12 + e) (by omega)), show encB (some e) = nI (12 + e) from rfl, rdA_n (by omega) (by omega), some_b, (b1.2.1 (12 + e) (by omega)).1, if_pos (nI_le q3 (by omega))]
            · refine Or.inl ⟨(some j, j + 1), ⟨⟨by omega, q2, q1, fun b hb hl => if q : b = j then by rw [q]; exact Nat.le_refl _ else by have := z4 b (by omega) hl; omega⟩, by dsimp only; omega⟩, by dsimp only; omega, fun rec => ?_⟩
              dsimp only
              rw [key, if_neg (nI_ge (by omega) (by omega)), if_neg n2, if_neg (show ¬ encB (some e) = -1 from nI_m1 (n := 12 + e) (by omega)), show encB (some e) = nI (12 + e) from rfl, rdA_n (by omega) (by omega), some_b, (b1.2.1 (12 + e) (by omega)).1, if_neg (nI_ge (by omega) (by omega))]; rfl
        · refine Or.inl ⟨(en, j + 1), ⟨stay fun z => absurd z q2, by dsimp only; omega⟩, by dsimp only; omega, fun rec => ?_⟩
          dsimp only
          rw [key, if_neg (nI_ge (by omega) (by omega)), if_pos (show nI (wa j - clS x j) ≤ (0 : Int32) from nI_le (show wa j - clS x j ≤ 0 by omega) (by decide))]
      · refine Or.inl ⟨(en, j + 1), ⟨stay fun _ => by omega, by dsimp only; omega⟩, by dsimp only; omega, fun rec => ?_⟩
        dsimp only
        rw [key, if_pos (nI_le (by omega) (by omega))]) F (none, 0) ⟨fun b hb => absurd hb (Nat.not_lt_zero b), Nat.zero_le 12⟩ (by dsimp only; omega)
  refine ⟨S2, far, pr, en, ?_, b1.1, b1.2.1, b1.2.2.1, b2, e2⟩
  unfold k8_seeks
  simp only [bnd_e]
  refine (a3 _).trans ?_
  refine (b3 _).trans ?_
  rw [← e1]; exact he
/-! a chain is led along by the reference -/
theorem chainM {F : Nat} {d : Nat → Nat → Nat} {th wa : Nat → Nat} (hN : Nod 24 gR idN tbR (ER d) d) {lam : Nat} {π : Nat → Nat} {x0 : Nat → Nat → Nat} (hG : Gph 24 (WR d) (AR d) (BR x0) π (SR2 th x0)) {far : Nat → Nat} {pr : Nat → Option Nat} (hB : BF 24 (WR d) (AR d) (BR x0) π (SR2 th x0) far pr) (hX : FX (WR d) (AR d) (BR x0) far) {Δ en : Nat} {M1 : SM} (h23 : ∀ n, n < 24 → M1.1 23 n = encL (pr n)) {x1 : Int32} :
    ∀ (k n m : Nat) (S : SM) (x : Nat → Nat → Nat), k + 2 ≤ m → exD pr k n → n < 24 → AUG 24 gR idN tbR (ER d) d (npot far π Δ) far pr x0 1 en k n x → (∀ q, q ≠ 21 → S.1 q = M1.1 q) → (∀ a b, a < 12 → b < 12 → S.1 21 (12 * a + b) = nI (x a b)) →
      ∃ S' x' n', AUG 24 gR idN tbR (ER d) d (npot far π Δ) far pr x0 1 en 0 n' x' ∧ pr n' = none ∧ n' < 24 ∧ (∀ q, q ≠ 21 → S'.1 q = M1.1 q) ∧ (∀ a b, a < 12 → b < 12 → S'.1 21 (12 * a + b) = nI (x' a b)) ∧ ∀ kk, lpN (fun _ _ => none) (fun rec => k8_leads_B59 F x1 rec kk) m S (nI n) = kk S' := by
  intro k
  induction k with
  | zero =>
    intro n m S x hm hk hn hA h1 h2
    obtain ⟨m, rfl⟩ : ∃ q, m = q + 2 := ⟨m - 2, by omega⟩
    have hk : pr n = none := hk
    refine ⟨S, x, n, hA, hk, hn, h1, h2, fun kk => ?_⟩
    show k8_leads_B59 F x1 (k8_leads_B59 F x1 (lpN (fun _ _ => none) (fun rec => k8_leads_B59 F x1 rec kk) m) kk) kk S (nI n) = kk S
    unfold k8_leads_B59
    simp only [bnd_e]
    rw [if_neg (nI_m1 (by omega)), rdA_n hn (by omega), some_b, h1 23 (by decide), h23 n hn, hk, show encL none = -1 from rfl, if_pos rfl, if_pos rfl]
  | succ k ih =>
    intro n m S x hm hk hn hA h1 h2
    obtain ⟨m, rfl⟩ : ∃ q, m = q + 1 := ⟨m - 1, by omega⟩
    obtain ⟨j, e1, e2⟩ := hk
    obtain ⟨p1, p2⟩ := hB.par hG hn e1
    obtain ⟨p3, p4⟩ := hB.2.2.2.2.1 n j hn e1
    have hfn : far n ≤ π n + Δ := by
      have := hA.2.2.2.2.2.1
      unfold npot at this
      split at this <;> omega
    have hfj := hB.chain hG hn hfn e1
    have hpj := npot_le hfj
    rcases p4 with ⟨ha, e⟩ | ⟨hb, e⟩
    · obtain ⟨b, u1, u2, u3, u4⟩ := AR_e ha
      subst u3
      have hx1 := (hX j (12 + b) p3).1 ha
      rw [WR_f u1] at e hx1
      have hA' := hA.fwd hN ha (by unfold idN tbR; rw [Nat.add_sub_cancel_left]; omega) hpj
      unfold idN tbR at hA'
      rw [Nat.add_sub_cancel_left] at hA'
      obtain ⟨S', x', n', r1, r2, r3, r4, r5, r6⟩ := ih j m (stM S 21 (12 * j + b) (nI (x j b + 1))) _ (by omega) e2 p1 hA' (fun q hq => by rw [m_o hq]; exact h1 q hq) (fun a c ha hc => by
        rw [m_s]
        by_cases q : 12 * a + c = 12 * j + b
        · have q1 : a = j := by omega
          have q2 : c = b := by omega
          rw [if_pos q, q1, q2, xadd_s]
        · rw [if_neg q, xadd_o (fun z => q (by rw [z.1, z.2])), h2 a c ha hc])
      refine ⟨S', x', n', r1, r2, r3, r4, r5, fun kk => ?_⟩
      refine Eq.trans ?_ (r6 kk)
      have key : ∀ rec, k8_leads_B59 F x1 rec kk S (nI (12 + b)) = rec (stM S 21 (12 * j + b) (nI (x j b + 1))) (nI j) := by
        intro rec
        unfold k8_leads_B59
        simp only [bnd_e]
        rw [if_neg (nI_m1 (by omega)), rdA_n hn (by omega), some_b, h1 23 (by decide), h23 _ hn, e1, show encL (some j) = nI j from rfl, if_neg (nI_m1 (by omega)), l12, if_neg (nI_nlt (by omega) (by omega)), mulN, nI_add, sbN (by omega), show 12 * j + (12 + b) - 12 = 12 * j + b by omega, rdA_n (by omega) (by omega), some_b, ckA_n (by omega) (by omega), some_b, clN (by omega), h2 j b u1 u2, nI_1]
      exact key _
    · obtain ⟨b, u1, u2, u3, u4⟩ := BR_e hb
      subst u3
      have hx1 := (hX (12 + b) n p3).2 hb
      rw [WR_b] at e hx1
      obtain ⟨hA', hge⟩ := hA.bck hN hb (by unfold idN tbR; rw [Nat.add_sub_cancel_left]; omega) hpj p3 ⟨12 + b, e1, e2⟩ (by unfold idN tbR; rw [Nat.add_sub_cancel_left]; omega)
      unfold idN tbR at hA' hge
      rw [Nat.add_sub_cancel_left] at hA' hge
      obtain ⟨S', x', n', r1, r2, r3, r4, r5, r6⟩ := ih (12 + b) m (stM S 21 (12 * n + b) (nI (x n b - 1))) _ (by omega) e2 p1 hA' (fun q hq => by rw [m_o hq]; exact h1 q hq) (fun a c ha hc => by
        rw [m_s]
        by_cases q : 12 * a + c = 12 * n + b
        · have q1 : a = n := by omega
          have q2 : c = b := by omega
          rw [if_pos q, q1, q2, xsub_s]
        · rw [if_neg q, xsub_o (fun z => q (by rw [z.1, z.2])), h2 a c ha hc])
      refine ⟨S', x', n', r1, r2, r3, r4, r5, fun kk => ?_⟩
      refine Eq.trans ?_ (r6 kk)
      have key : ∀ rec, k8_leads_B59 F x1 rec kk S (nI n) = rec (stM S 21 (12 * n + b) (nI (x n b - 1))) (nI (12 + b)) := by
        intro rec
        unfold k8_leads_B59
        simp only [bnd_e]
        rw [if_neg (nI_m1 (by omega)), rdA_n hn (by omega), some_b, h1 23 (by decide), h23 _ hn, e1, show encL (some (12 + b)) = nI (12 + b) from rfl, if_neg (nI_m1 (by omega)), l12, if_pos (nI_lt u1 (by omega)), mulN, nI_add, sbN (by omega), show 12 * n + (12 + b) - 12 = 12 * n + b by omega, rdA_n (by omega) (by omega), some_b, ckA_n (by omega) (by omega), some_b, clN (by omega), h2 n b u1 u2, l1, sbN hge]
      exact key _

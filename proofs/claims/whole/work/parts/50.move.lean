/-! how much goes along a chain -/
theorem okC_le {g : Nat → Bool} {ga tb : Nat → Nat} {x : Nat → Nat → Nat} {pr : Nat → Option Nat} {e e' : Nat} (h : e' ≤ e) : ∀ {k n : Nat}, okC g ga tb x pr e k n → okC g ga tb x pr e' k n
  | 0, _, _ => trivial
  | k + 1, n, hk => fun m hm => ⟨fun hg => Nat.le_trans h ((hk m hm).1 hg), okC_le h (hk m hm).2⟩
theorem rtC_s {pr : Nat → Option Nat} {k n j : Nat} (e : pr n = some j) : rtC pr (k + 1) n = rtC pr k j := by
  show (match pr n with | none => n | some m => rtC pr k m) = _
  rw [e]
theorem amountL {F : Nat} {d : Nat → Nat → Nat} {th wa : Nat → Nat} (h9 : ∀ j, j < 12 → th j ≤ 9 ∧ wa j ≤ 9) {π : Nat → Nat} {x : Nat → Nat → Nat} (hG : Gph 12 (WC d th wa) (AC d th wa) (BC th wa x) π (SC th wa x)) {far : Nat → Nat} {pr : Nat → Option Nat} (hB : BF 12 (WC d th wa) (AC d th wa) (BC th wa x) π (SC th wa x) far pr) {S : SS} (hT : ∀ j, j < 12 → S 29 j = nI (th j) ∧ S 30 j = nI (wa j)) (h32 : ∀ a b, a < 12 → b < 12 → S 32 (a * 12 + b) = nI (x a b)) (hx : ∀ a b, a < 12 → b < 12 → x a b < 1000000) (h34 : ∀ n, n < 12 → S 34 n = encL (pr n)) :
    ∀ (k n m stp a : Nat), k + 1 ≤ m → stp + k ≤ 11 → exD pr k n → n < 12 → 1 ≤ a → a ≤ 1000000 → far n < 1000000 →
      ∃ a', 1 ≤ a' ∧ a' ≤ a ∧ okC (gK th wa) idN idN x pr a' k n ∧ rtC pr k n < 12 ∧ pr (rtC pr k n) = none ∧ far (rtC pr k n) < 1000000 ∧ ∀ kk, lpN (fun _ _ _ => none) (fun rec => k3_amountTo_B13 F S rec kk) m (nI a) (nI n) (nI stp) = kk (nI a') (nI (rtC pr k n)) := by
  intro k
  induction k with
  | zero =>
    intro n m stp a hm hs hk hn ha ha2 hf
    obtain ⟨m, rfl⟩ : ∃ q, m = q + 1 := ⟨m - 1, by omega⟩
    have hk : pr n = none := hk
    refine ⟨a, ha, Nat.le_refl _, trivial, hn, hk, hf, fun kk => ?_⟩
    show k3_amountTo_B13 F S (lpN (fun _ _ _ => none) (fun rec => k3_amountTo_B13 F S rec kk) m) kk (nI a) (nI n) (nI stp) = kk (nI a) (nI n)
    unfold k3_amountTo_B13
    simp only [bnd_e]
    rw [l12, if_neg (nI_ge (show stp < 12 by omega) (by omega)), rdA_n hn (by omega), some_b, h34 n hn, hk, encL_n, if_pos rfl]
  | succ k ih =>
    intro n m stp a hm hs hk hn ha ha2 hf
    obtain ⟨m, rfl⟩ : ∃ q, m = q + 1 := ⟨m - 1, by omega⟩
    obtain ⟨j, e1, e2⟩ := hk
    obtain ⟨p1, p2⟩ := hB.par hG hn e1
    obtain ⟨p3, p4⟩ := hB.2.2.2.2.1 n j hn e1
    have hxj := hx n j hn p1
    have key : ∀ rec kk, k3_amountTo_B13 F S rec kk (nI a) (nI n) (nI stp) = if gK th wa n = true then rec (nI (if x n j < a then x n j else a)) (nI j) (nI (stp + 1)) else rec (nI a) (nI j) (nI (stp + 1)) := by
      intro rec kk
      unfold k3_amountTo_B13
      simp only [bnd_e]
      rw [l12, if_neg (nI_ge (show stp < 12 by omega) (by omega))]
      simp only [rdA_n hn (show 12 < 2147483648 by omega), some_b, h34 n hn, e1, encL_s]
      rw [if_neg (nI_m1 (show j < 2147483648 by omega)), isGv hn (hT n hn) (h9 n hn), some_b, mulN, nI_add, rdA_n (show n * 12 + j < 144 by omega) (by omega), some_b, h32 n j hn p1, nI_1]
      by_cases q : wa n < th n
      · rw [decide_eq_true q, if_neg (by decide), if_pos (gK_t q)]
        by_cases q2 : x n j < a
        · rw [if_pos (nI_lt q2 (by omega)), if_pos q2]
        · rw [if_neg (nI_nlt (by omega) (by omega)), if_neg q2]
      · rw [decide_eq_false q, if_pos (by decide), if_neg (by rw [gK_f q]; decide)]
    by_cases q : gK th wa n = true
    · have hb : BC th wa x j n := by
        rcases p4 with ⟨z, -⟩ | ⟨z, -⟩
        · have z4 := z.2.2.2.1; rw [q] at z4; cases z4
        · exact z
      have hpos : 0 < x n j := hb.2.2.2.2
      obtain ⟨a', r1, r2, r3, r4, r5, r6, r7⟩ := ih j m (stp + 1) (if x n j < a then x n j else a) (by omega) (by omega) e2 p1 (by split <;> omega) (by split <;> omega) p3
      have hle : a' ≤ a ∧ a' ≤ x n j := by split at r2 <;> omega
      rw [rtC_s e1]
      refine ⟨a', r1, hle.1, fun i hi => ?_, r4, r5, r6, fun kk => ?_⟩
      · rw [e1] at hi; cases hi
        exact ⟨fun _ => hle.2, r3⟩
      · refine Eq.trans ?_ (r7 kk)
        refine (key _ _).trans ?_
        rw [if_pos q]
    · obtain ⟨a', r1, r2, r3, r4, r5, r6, r7⟩ := ih j m (stp + 1) a (by omega) (by omega) e2 p1 ha ha2 p3
      rw [rtC_s e1]
      refine ⟨a', r1, r2, fun i hi => ?_, r4, r5, r6, fun kk => ?_⟩
      · rw [e1] at hi; cases hi
        exact ⟨fun z => absurd z q, r3⟩
      · refine Eq.trans ?_ (r7 kk)
        refine (key _ _).trans ?_
        rw [if_neg q]
theorem amountK {F : Nat} (hF : 300 < F) {d : Nat → Nat → Nat} {th wa : Nat → Nat} (h9 : ∀ j, j < 12 → th j ≤ 9 ∧ wa j ≤ 9) {lam : Nat} {π : Nat → Nat} {x : Nat → Nat → Nat} (hC : NCC d th wa lam π x) {far : Nat → Nat} {pr : Nat → Option Nat} (hB : BF 12 (WC d th wa) (AC d th wa) (BC th wa x) π (SC th wa x) far pr) {S : SS} (hK : KW d th wa x S) (h34 : ∀ n, n < 12 → S 34 n = encL (pr n)) {e k : Nat} (he : e < 12) (hk : exD pr k e) (hs : spv th wa x e < 0) (hf : far e < 1000000) :
    ∃ A, 1 ≤ A ∧ A ≤ wa e - th e - clS x e ∧ okC (gK th wa) idN idN x pr A k e ∧ rtC pr k e < 12 ∧ pr (rtC pr k e) = none ∧ SC th wa x (rtC pr k e) ∧ A ≤ th (rtC pr k e) - wa (rtC pr k e) - rwS x (rtC pr k e) ∧ A ≤ 9 ∧ k3_amountTo F S (nI e) = some (nI A) := by
  obtain ⟨k1, k2, k3, k4⟩ := hK
  have hG : Gph 12 (WC d th wa) (AC d th wa) (BC th wa x) π (SC th wa x) := hC.1
  have hkl := exD_lt (N := 12) (fun i j hi hj => (hB.par hG hi hj).1) hk he
  obtain ⟨n1, n2⟩ := (hC.neg he).mp hs
  have h9e := h9 e he
  obtain ⟨a', r1, r2, r3, r4, r5, r6, r7⟩ := amountL (F := F) h9 hG hB k2 k3 (hC.x9 h9) h34 k e F 0 (wa e - th e - clS x e) (by omega) (by omega) hk he (by omega) (by omega) hf
  have hsc : SC th wa x (rtC pr k e) := (hB.2.2.2.1 _ r4 r5).resolve_left (by omega)
  obtain ⟨c1, c2⟩ := SC_i.mp hsc
  have e31 := k4 _ r4
  have e31e := k4 e he
  rw [spv_g c1, show (th (rtC pr k e) : Int) - wa (rtC pr k e) - rwS x (rtC pr k e) = ((th (rtC pr k e) - wa (rtC pr k e) - rwS x (rtC pr k e) : Nat) : Int) by omega, ← iI_n] at e31
  have hng : - S 31 e = nI (wa e - th e - clS x e) := by
    rw [e31e, spv_t (by omega), show - iI ((th e : Int) - wa e + clS x e) = iI (-((th e : Int) - wa e + clS x e)) from (Int32.ofInt_neg _).symm, iI_n]
    congr 1
    omega
  have h9r := h9 _ r4
  refine ⟨if th (rtC pr k e) - wa (rtC pr k e) - rwS x (rtC pr k e) < a' then th (rtC pr k e) - wa (rtC pr k e) - rwS x (rtC pr k e) else a', by split <;> omega, by split <;> omega, okC_le (by split <;> omega) r3, r4, r5, hsc, by split <;> omega, by split <;> omega, ?_⟩
  unfold k3_amountTo
  simp only [bnd_e]
  rw [rdA_n he (by omega), some_b, hng]
  refine (r7 _).trans ?_
  unfold k3_amountTo_J72
  rw [rdA_n r4 (by omega), some_b, e31]
  by_cases q : th (rtC pr k e) - wa (rtC pr k e) - rwS x (rtC pr k e) < a'
  · rw [if_pos (nI_lt q (by omega)), if_pos q]
  · rw [if_neg (nI_nlt (by omega) (by omega)), if_neg q]
/-! and it is moved -/
theorem chainK {F : Nat} {d : Nat → Nat → Nat} {th wa : Nat → Nat} (hN : Nod 12 (gK th wa) idN idN (EC d th wa) d) (h9 : ∀ j, j < 12 → th j ≤ 9 ∧ wa j ≤ 9) {π : Nat → Nat} {x0 : Nat → Nat → Nat} (hG : Gph 12 (WC d th wa) (AC d th wa) (BC th wa x0) π (SC th wa x0)) {far : Nat → Nat} {pr : Nat → Option Nat} (hB : BF 12 (WC d th wa) (AC d th wa) (BC th wa x0) π (SC th wa x0) far pr) (hX : FX (WC d th wa) (AC d th wa) (BC th wa x0) far) {Δ en e : Nat} {M1 : SS} (hT : ∀ j, j < 12 → M1 29 j = nI (th j) ∧ M1 30 j = nI (wa j)) (h34 : ∀ n, n < 12 → M1 34 n = encL (pr n)) {x1 : Int32} :
    ∀ (k n m stp : Nat) (S : SS) (x : Nat → Nat → Nat), k + 1 ≤ m → stp + k ≤ 11 → exD pr k n → n < 12 → AUG 12 (gK th wa) idN idN (EC d th wa) d (npot far π Δ) far pr x0 e en k n x → okC (gK th wa) idN idN x0 pr e k n → (∀ q, q ≠ 32 → S q = M1 q) → (∀ a b, a < 12 → b < 12 → S 32 (a * 12 + b) = nI (x a b)) →
      ∃ S' x', AUG 12 (gK th wa) idN idN (EC d th wa) d (npot far π Δ) far pr x0 e en 0 (rtC pr k n) x' ∧ (∀ q, q ≠ 32 → S' q = M1 q) ∧ (∀ a b, a < 12 → b < 12 → S' 32 (a * 12 + b) = nI (x' a b)) ∧ ∀ kk, lpN (fun _ _ _ => none) (fun rec => k3_moveTo_B5 F x1 (nI e) rec kk) m S (nI n) (nI stp) = kk S' (nI (rtC pr k n)) := by
  intro k
  induction k with
  | zero =>
    intro n m stp S x hm hs hk hn hA hO h1 h2
    obtain ⟨m, rfl⟩ : ∃ q, m = q + 1 := ⟨m - 1, by omega⟩
    have hk : pr n = none := hk
    refine ⟨S, x, hA, h1, h2, fun kk => ?_⟩
    show k3_moveTo_B5 F x1 (nI e) (lpN (fun _ _ _ => none) (fun rec => k3_moveTo_B5 F x1 (nI e) rec kk) m) kk S (nI n) (nI stp) = kk S (nI n)
    unfold k3_moveTo_B5
    simp only [bnd_e]
    rw [l12, if_neg (nI_ge (show stp < 12 by omega) (by omega)), rdA_n hn (by omega), some_b, h1 34 (by decide), h34 n hn, hk, encL_n, if_pos rfl]
  | succ k ih =>
    intro n m stp S x hm hs hk hn hA hO h1 h2
    obtain ⟨m, rfl⟩ : ∃ q, m = q + 1 := ⟨m - 1, by omega⟩
    obtain ⟨j, e1, e2⟩ := hk
    obtain ⟨o1, o2⟩ := hO j e1
    obtain ⟨p1, p2⟩ := hB.par hG hn e1
    obtain ⟨p3, p4⟩ := hB.2.2.2.2.1 n j hn e1
    have hfn : far n ≤ π n + Δ := by
      have := hA.2.2.2.2.2.1
      unfold npot at this
      split at this <;> omega
    have hfj := hB.chain hG hn hfn e1
    have hpj := npot_le hfj
    have e34 : S 34 n = nI j := by rw [h1 34 (by decide), h34 n hn, e1]; rfl
    have eT : S 29 n = nI (th n) ∧ S 30 n = nI (wa n) := by rw [h1 29 (by decide), h1 30 (by decide)]; exact hT n hn
    rw [rtC_s e1]
    rcases p4 with ⟨ha, ew⟩ | ⟨hb, ew⟩
    · have hx1 := (hX j n p3).1 ha
      have gj := gK_lt ha.2.2.1
      have gn := gK_ge ha.2.2.2.1
      rw [WC_f gj] at ew hx1
      have hA' := hA.fwd hN ha (show far j + d j n = far n by omega) hpj
      obtain ⟨S', x', r1, r4, r5, r6⟩ := ih j m (stp + 1) (st S 32 (j * 12 + n) (nI (x j n + e))) _ (by omega) (by omega) e2 p1 hA' o2 (fun q hq => by rw [st_o hq]; exact h1 q hq) (fun a c ha hc => by
        rw [st_st]
        by_cases q : a * 12 + c = j * 12 + n
        · have q1 : a = j := by omega
          have q2 : c = n := by omega
          rw [if_pos q, q1, q2]; exact congrArg nI xadd_s.symm
        · rw [if_neg q, h2 a c ha hc]; exact congrArg nI (xadd_o (fun z => q (by rw [show a = j from z.1, show c = n from z.2]))).symm)
      refine ⟨S', x', r1, r4, r5, fun kk => ?_⟩
      refine Eq.trans ?_ (r6 kk)
      have key : ∀ rec, k3_moveTo_B5 F x1 (nI e) rec kk S (nI n) (nI stp) = rec (st S 32 (j * 12 + n) (nI (x j n + e))) (nI j) (nI (stp + 1)) := by
        intro rec
        unfold k3_moveTo_B5
        simp only [bnd_e]
        rw [l12, if_neg (nI_ge (show stp < 12 by omega) (by omega))]
        simp only [rdA_n hn (show 12 < 2147483648 by omega), some_b, e34]
        rw [if_neg (nI_m1 (by omega)), isGv hn eT (h9 n hn), some_b, decide_eq_false gn, if_pos (by decide), mulN, nI_add, rdA_n (show j * 12 + n < 144 by omega) (by omega), some_b, ckA_n (show j * 12 + n < 144 by omega) (by omega), some_b, clN (by omega), h2 j n p1 hn, nI_add, nI_1]
      exact key _
    · have hx1 := (hX j n p3).2 hb
      have gj := gK_ge hb.2.2.1
      have gn := gK_lt hb.2.2.2.1
      rw [WC_b gj] at ew hx1
      obtain ⟨hA', hge⟩ := hA.bck hN hb (show far n + d n j = far j by omega) hpj p3 ⟨j, e1, e2⟩ (o1 hb.2.2.2.1)
      have hge : e ≤ x n j := hge
      obtain ⟨S', x', r1, r4, r5, r6⟩ := ih j m (stp + 1) (st S 32 (n * 12 + j) (nI (x n j - e))) _ (by omega) (by omega) e2 p1 hA' o2 (fun q hq => by rw [st_o hq]; exact h1 q hq) (fun a c ha hc => by
        rw [st_st]
        by_cases q : a * 12 + c = n * 12 + j
        · have q1 : a = n := by omega
          have q2 : c = j := by omega
          rw [if_pos q, q1, q2]; exact congrArg nI xsub_s.symm
        · rw [if_neg q, h2 a c ha hc]; exact congrArg nI (xsub_o (fun z => q (by rw [show a = n from z.1, show c = j from z.2]))).symm)
      refine ⟨S', x', r1, r4, r5, fun kk => ?_⟩
      refine Eq.trans ?_ (r6 kk)
      have key : ∀ rec, k3_moveTo_B5 F x1 (nI e) rec kk S (nI n) (nI stp) = rec (st S 32 (n * 12 + j) (nI (x n j - e))) (nI j) (nI (stp + 1)) := by
        intro rec
        unfold k3_moveTo_B5
        simp only [bnd_e]
        rw [l12, if_neg (nI_ge (show stp < 12 by omega) (by omega))]
        simp only [rdA_n hn (show 12 < 2147483648 by omega), some_b, e34]
        rw [if_neg (nI_m1 (by omega)), isGv hn eT (h9 n hn), some_b, decide_eq_true gn, if_neg (by decide)]
        simp only [mulN, nI_add]
        rw [rdA_n (show n * 12 + j < 144 by omega) (by omega), some_b, ckA_n (show n * 12 + j < 144 by omega) (by omega), some_b, clN (by omega), h2 n j hn p1, sbN hge, nI_1]
      exact key _
theorem leadMoreK {F : Nat} (hF : 1000000000 < F) {d : Nat → Nat → Nat} {th wa : Nat → Nat} (hN : Nod 12 (gK th wa) idN idN (EC d th wa) d) (hd : ∀ a b, a < 12 → b < 12 → d a b ≤ 2200 ∨ d a b = 1000000) (hsy : ∀ a b, a < 12 → b < 12 → d a b = d b a) (h9 : ∀ j, j < 12 → th j ≤ 9 ∧ wa j ≤ 9) {lam : Nat} {π : Nat → Nat} {x : Nat → Nat → Nat} (hC : NCC d th wa lam π x) (hlam : lam ≤ 1000000) {S : SS} (hM : KW d th wa x S) {c : Nat} (h72 : S 7 2 = nI (c + s2 x)) (h73 : S 7 3 = nI (cst2 d x)) :
    (∃ S' π', k3_leadMore F S = some (0, S') ∧ NCC d th wa 1000000 π' x ∧ ∀ q, q ≠ 33 → q ≠ 34 → S' q = S q) ∨
    ∃ S' lam' π' x', k3_leadMore F S = some (1, S') ∧ lam' ≤ 1000000 ∧ NCC d th wa lam' π' x' ∧ KW d th wa x' S' ∧ s2 x < s2 x' ∧ S' 7 2 = nI (c + s2 x') ∧ S' 7 3 = nI (cst2 d x') ∧ ∀ q, q ≠ 7 → q ≠ 31 → q ≠ 32 → q ≠ 33 → q ≠ 34 → S' q = S q := by
  obtain ⟨S1, far, pr, a1, a2, a3⟩ := measureK hF hd hsy h9 hC hlam hM
  have hK1 := a2.kw hM
  have hB := a2.2.2
  have hG : Gph 12 (WC d th wa) (AC d th wa) (BC th wa x) π (SC th wa x) := hC.1
  obtain ⟨en, b1, b2⟩ := goalK (F := F) (by omega) hK1.2.2.2 (fun j hj => hC.spb hj (h9 j hj)) (fun n hn => (a2.2.1 n hn).1) (fun n hn => (hB.1 n hn).2)
  cases en with
  | none =>
    refine Or.inl ⟨S1, _, ?_, hC.rise hN hB a3 hlam (Nat.le_refl 1000000) (fun n hn hg hc => ?_), a2.1⟩
    · unfold k3_leadMore
      simp only [bnd_e]
      rw [a1, some_b, b1, some_b, encL_n, if_pos rfl]
    · have hc : clS x n < wa n - th n := hc
      have := b2 n hn ((hC.neg hn).mpr ⟨by omega, hc⟩)
      omega
  | some e =>
    obtain ⟨z1, z2, z3, z4⟩ := b2
    obtain ⟨n1, n2⟩ := (hC.neg z1).mp z2
    have hg : gK th wa e = false := gK_f (by omega)
    have hpe : π e = lam := hC.2.2.2.2.2 e z1 hg n2
    have hfe := (hB.1 e z1).1
    have hC' := hC.rise hN hB a3 (lam' := far e) (by omega) (by omega) (fun n hn hgn hc => by
      have hc : clS x n < wa n - th n := hc
      exact z4 n hn ((hC.neg hn).mpr ⟨by omega, hc⟩))
    have hnp : npot far π (far e - lam) e = far e := npot_le (by omega)
    obtain ⟨k, hk⟩ := hB.2.2.2.2.2 e z1
    have hkl := exD_lt (N := 12) (fun i j hi hj => (hB.par hG hi hj).1) hk z1
    obtain ⟨A, A1, A2, A3, A4, A5, A6, A7, A8, A9⟩ := amountK (F := F) (by omega) h9 hC hB hK1 (fun n hn => (a2.2.1 n hn).2) z1 hk z2 z3
    obtain ⟨c1, c2⟩ := SC_i.mp A6
    obtain ⟨S2, x', q1, q4, q5, q6⟩ := chainK (F := F) hN h9 hG hB a3 (Δ := far e - lam) (en := e) (e := A) (M1 := S1) hK1.2.1 (fun n hn => (a2.2.1 n hn).2) (x1 := nI e) k e F 0 S1 x (by omega) (by omega) hk z1 (AUG.start hC' hg hnp z3) A3 (fun _ _ => rfl) hK1.2.2.1
    obtain ⟨r, hr⟩ : ∃ r, r = rtC pr k e := ⟨_, rfl⟩
    rw [← hr] at A4 A5 A6 A7 c1 c2 q1 q6
    have hfz := (hB.2.2.1 r A4 A6).1
    have hcl := hC.col z1
    have hrw := hC.row A4
    obtain ⟨w1, w2, w3⟩ := NC.led hN hC' q1 A6 hfz (show rwS x r + A ≤ th r - wa r by omega) (show clS x e + A ≤ wa e - th e by omega) A4 z1
    have rw1 : ∀ a, a < 12 → rwS x' a = rwS x a + (if r = a then A else 0) := fun a ha => by
      rw [q1.2.1 a ha]
      by_cases q : r = a
      · rw [if_pos ⟨A6.1, q⟩, if_pos q]
      · rw [if_neg (fun z => q z.2), if_neg q]
    have cl1 : ∀ b, b < 12 → clS x' b = clS x b + (if e = b then A else 0) := fun b hb => by
      have := q1.2.2.1 b hb
      rw [if_neg (fun z => by rw [A6.1] at z; cases z.1)] at this
      exact this
    have her : e ≠ r := fun z => by rw [← z] at c1; omega
    have s31 : ∀ j, j < 12 → S2 31 j = iI (spv th wa x j) := fun j hj => by rw [q4 31 (by decide)]; exact hK1.2.2.2 j hj
    obtain ⟨S3, eS3⟩ : ∃ z, z = st (st S2 31 r (S2 31 r - nI A)) 31 e (S2 31 e + nI A) := ⟨_, rfl⟩
    have hmv : k3_moveTo F S1 (nI e) (nI A) = some S3 := by
      unfold k3_moveTo
      simp only [bnd_e]
      refine (q6 _).trans ?_
      unfold k3_moveTo_J82
      simp only [bnd_e]
      rw [rdA_n A4 (by omega), some_b, ckA_n A4 (by omega), some_b, clN (by omega), rdA_n z1 (by omega), some_b, ckA_n z1 (by omega), some_b, clN (by omega), st_st, if_neg her, eS3]
    have f3 : ∀ q, q ≠ 31 → q ≠ 32 → S3 q = S1 q := fun q u v => by rw [eS3, st_o u, st_o u]; exact q4 q v
    have e72 : S3 7 2 = nI (c + s2 x) := by rw [f3 7 (by decide) (by decide), a2.1 7 (by decide) (by decide)]; exact h72
    have e73 : S3 7 3 = nI (cst2 d x) := by rw [f3 7 (by decide) (by decide), a2.1 7 (by decide) (by decide)]; exact h73
    have e33 : S3 33 e = nI (far e) := by rw [f3 33 (by decide) (by decide)]; exact (a2.2.1 e z1).1
    refine Or.inr ⟨st (st S3 7 2 (nI (c + s2 x'))) 7 3 (nI (cst2 d x')), far e, _, x', ?_, by omega, w1, ⟨fun a b ha hb => ?_, fun j hj => ?_, fun a b ha hb => ?_, fun j hj => ?_⟩, by omega, ?_, ?_, fun q u0 u1 u2 u3 u4 => ?_⟩
    · unfold k3_leadMore
      simp only [bnd_e]
      rw [a1, some_b, b1, some_b, encL_s, if_neg (nI_m1 (by omega)), A9, some_b, if_pos (show (0 : Int32) < nI A from nI_lt (show 0 < A by omega) (by omega)), hmv, some_b, rdA_n z1 (by omega), some_b, st_st, if_neg (by decide), st_o (show (33 : Nat) ≠ 7 by decide), e72, e73, e33, mulN, nI_add, nI_add, w2, w3, Nat.add_assoc]
    · rw [st_o (by decide), st_o (by decide), f3 12 (by decide) (by decide)]; exact hK1.1 a b ha hb
    · rw [st_o (by decide), st_o (by decide), st_o (by decide), st_o (by decide), f3 29 (by decide) (by decide), f3 30 (by decide) (by decide)]; exact hK1.2.1 j hj
    · rw [st_o (by decide), st_o (by decide), eS3, st_o (by decide), st_o (by decide)]; exact q5 a b ha hb
    · rw [st_o (by decide), st_o (by decide), eS3, st_st, st_st, s31 j hj, s31 e z1, s31 r A4]
      have r1 := rw1 j hj
      have r2 := cl1 j hj
      by_cases qe : j = e
      · rw [if_pos qe, iI_addN]
        rw [if_pos qe.symm, qe] at r2
        congr 1
        rw [qe, spv_t (by omega), spv_t (by omega)]
        omega
      · rw [if_neg qe]
        rw [if_neg (fun z => qe z.symm)] at r2
        by_cases qr : j = r
        · rw [if_pos qr, iI_subN]
          rw [if_pos qr.symm, qr] at r1
          congr 1
          rw [qr, spv_g c1, spv_g c1]
          omega
        · rw [if_neg qr]
          rw [if_neg (fun z => qr z.symm)] at r1
          congr 1
          by_cases qg : wa j < th j
          · rw [spv_g qg, spv_g qg]; omega
          · rw [spv_t qg, spv_t qg]; omega
    · rw [st_st, if_neg (by decide), st_st, if_pos rfl]
    · rw [st_st, if_pos rfl]
    · rw [st_o u0, st_o u0, f3 q u1 u2]; exact a2.1 q u3 u4

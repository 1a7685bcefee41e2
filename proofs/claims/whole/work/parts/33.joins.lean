/-! the class solves -/
theorem fill25 {F : Nat} (hF : 8 < F) {S : SS} {x : Int32} : ∃ S', k7_fill_25 F S x = some S' ∧ (∀ q, q ≠ 25 → S' q = S q) ∧ ∀ c, c < 4 → S' 25 c = x := by
  obtain ⟨t, ⟨S', h1, h2⟩, he⟩ := lp_inv (z := fun _ _ => none) (f := fun rec => k7_fill_25_B5 F x (nI 4) rec) (fun (s : SS × Nat) g => g s.1 (nI s.2)) (fun s => ((∀ q, q ≠ 25 → s.1 q = S q) ∧ ∀ c, c < s.2 → s.1 25 c = x) ∧ s.2 ≤ 4) (fun s => 4 - s.2) (fun r => ∃ S', r = some S' ∧ (∀ q, q ≠ 25 → S' q = S q) ∧ ∀ c, c < 4 → S' 25 c = x) (by
    rintro ⟨T, j⟩ ⟨⟨k1, k2⟩, hj⟩
    dsimp only at k1 k2 hj
    by_cases h : j = 4
    · subst h
      refine Or.inr ⟨some T, ⟨T, rfl, k1, k2⟩, fun rec => ?_⟩
      dsimp only [k7_fill_25_B5]
      rw [if_pos (nI_le (Nat.le_refl 4) (by omega))]
    · refine Or.inl ⟨(st T 25 j x, j + 1), ⟨⟨fun q hq => ?_, fun c hc => ?_⟩, by dsimp only; omega⟩, by dsimp only; omega, fun rec => ?_⟩
      · dsimp only; rw [st_o hq]; exact k1 q hq
      · dsimp only at hc ⊢
        rw [st_st]
        by_cases e : c = j
        · rw [if_pos e]
        · rw [if_neg e]; exact k2 c (by omega)
      · dsimp only [k7_fill_25_B5]
        simp only [bnd_e]
        rw [if_neg (nI_ge (by omega) (by omega)), ckA_n (by omega) (by omega), some_b, clN (by omega), nI_1]) F (S, 0) ⟨⟨fun _ _ => rfl, fun c hc => absurd hc (Nat.not_lt_zero c)⟩, by dsimp only; omega⟩ (by dsimp only; omega)
  exact ⟨S', by rw [← h1]; exact he, h2⟩
def solOf (W T : Nat) (mk wm jn dy : Nat → Nat) (d : Nat → Nat → Nat) : Nat × (Nat → Nat) := sol W (eE mk wm) (tT d jn dy) T
/-- the class's best joining is known -/
def JY (S : SS) (W T : Nat) (s : Nat × (Nat → Nat)) : Prop := S 4 8 = 1 ∧ S 4 7 = nI s.1 ∧ ∀ k, k < T → S 26 k = enc W (s.2 k)
def JC (S : SS) (W T : Nat) (s : Nat × (Nat → Nat)) : Prop := S 4 8 = 0 ∨ JY S W T s
theorem solveK {F : Nat} (hF : 24 < F) {N : Nat} {A B C L : Nat → Nat} {d : Nat → Nat → Nat} (hN : NetP N A B C L d) {W T : Nat} {mk ow wm jn dy cp : Nat → Nat} (hP : RegP W T mk ow wm jn dy cp) {S : SS} (hNK : NetK S N A B C L d) (hK : RegK S W T mk ow wm jn dy cp) (hJ : JC S W T (solOf W T mk wm jn dy d)) :
    ∃ S', k2_solve F S = some S' ∧ JF S S' ∧ JY S' W T (solOf W T mk wm jn dy d) := by
  rcases hJ with h0 | hY
  · obtain ⟨S1, a1, a2, a3, a4⟩ := measure_ok (F := F) (by omega) hP hK
    obtain ⟨S2, b1, b2, b3⟩ := fill25 (F := F) (by omega) (S := S1) (x := -1)
    obtain ⟨S3, eS3⟩ : ∃ z, z = st S2 4 7 (nI (3 * T + 1)) := ⟨_, rfl⟩
    have f3 : JF S S3 := fun q g1 g2 => by rw [eS3, st_o g1, b2 q (by omega), a2 q (by omega) (by omega)]
    have e22 : S3 22 = S1 22 := by rw [eS3, st_o (by decide), b2 22 (by decide)]
    have e23 : S3 23 = S1 23 := by rw [eS3, st_o (by decide), b2 23 (by decide)]
    have p2 := hP.2.1
    have p1 := hP.1
    obtain ⟨S4, c1, c2⟩ := srchK (S0 := S3) hF hN hP (f3.net hNK) (f3.reg hK) (fun t w ht hw => by rw [e22]; exact a3 t w ht hw) (fun t ht => by rw [e23]; exact a4 t ht) T 9 0 (fun _ => 0) (3 * T + 1, fun _ => 0) S3 (by omega) (by omega)
      ⟨JF.rf, rfl, rfl, fun _ _ => rfl, fun w hw => by rw [eS3, st_o (by decide)]; exact b3 w (by omega), fun k hk => absurd hk (Nat.not_lt_zero k), by rw [eS3, st_st, if_pos rfl], Nat.le_refl _, fun z => by dsimp only at z; omega⟩ (Nat.le_refl 0)
    obtain ⟨u1, u2, u3, u4, u5, u6, u7, u8, u9⟩ := c2
    have hsl : (solOf W T mk wm jn dy d).1 ≤ 3 * T := sol_le
    refine ⟨st S4 4 8 1, ?_, fun q g1 g2 => by rw [st_o g1, u1 q g1 g2]; exact f3 q g1 g2, by rw [st_st, if_pos rfl], by rw [st_st, if_neg (by decide)]; exact u7, fun k hk => by rw [st_o (by decide)]; exact u9 hsl k hk⟩
    unfold k2_solve
    simp only [bnd_e]
    have hT2 : S2 3 7 = nI T := by rw [b2 3 (by decide), a2 3 (by decide) (by decide)]; exact hK.2.1
    have e3 : nI T * 3 + 1 = nI (3 * T + 1) := by rw [l3, mulN, nI_1, Nat.mul_comm]
    rw [h0, if_pos rfl, a1, some_b, b1, some_b, hT2, e3, ← eS3, show k2_searchFrom F 9 S3 0 0 = some S4 from c1, some_b]
  · refine ⟨S, ?_, JF.rf, hY⟩
    unfold k2_solve
    rw [hY.1, if_neg z10]
/-! the reference joins -/
def stpR {α β σ : Type} (ev : σ → α → β) (z : α) (f : α → α) (k : Nat) (s s' : σ) : Prop := ∀ F, ev s (lpN z f (F + k)) = ev s' (lpN z f F)
theorem stpR.one {α β σ : Type} {ev : σ → α → β} {z : α} {f : α → α} {s s' : σ} (h : ∀ rec, ev s (f rec) = ev s' rec) : stpR ev z f 1 s s' := fun F => h (lpN z f F)
theorem stpR.tr {α β σ : Type} {ev : σ → α → β} {z : α} {f : α → α} {k1 k2 : Nat} {s s1 s2 : σ} (h1 : stpR ev z f k1 s s1) (h2 : stpR ev z f k2 s1 s2) : stpR ev z f (k2 + k1) s s2 := fun F => by
  rw [← Nat.add_assoc, h1 (F + k2), h2 F]
theorem lastM {F : Nat} (hF : 8 < F) {S : SM} {W t : Nat} {c : Nat → Nat} (hW : W ≤ 4) (ht : t ≤ 7) (hc : ∀ k, k < t → S.1 17 k = nI (c k) ∧ c k ≤ W) {w : Nat} (hw : w ≤ W) {x1 : Int32} (k : Int32 → Option Int32) :
    lpN (fun _ => none) (fun rec => k8_canBe_B42 F S x1 (nI w) rec k) F (nI t - 1) = match lastOf c w t with | none => some 1 | some i => k (nI i) := by
  have key : ∀ (j n : Nat), j ≤ t → j < n → lpN (fun _ => none) (fun rec => k8_canBe_B42 F S x1 (nI w) rec k) n (nI j - 1) = match lastOf c w j with | none => some 1 | some i => k (nI i) := by
    intro j
    induction j with
    | zero =>
      intro n _ hn
      obtain ⟨n, rfl⟩ : ∃ q, n = q + 1 := ⟨n - 1, by omega⟩
      show k8_canBe_B42 F S x1 (nI w) (lpN _ _ n) k (nI 0 - 1) = _
      unfold k8_canBe_B42
      rw [if_pos (by decide)]
      rfl
    | succ j ih =>
      intro n hj hn
      obtain ⟨n, rfl⟩ : ∃ q, n = q + 1 := ⟨n - 1, by omega⟩
      obtain ⟨e1, e2⟩ := hc j (by omega)
      have hB : ∀ rec, k8_canBe_B42 F S x1 (nI w) rec k (nI (j + 1) - 1) = if c j = w then k (nI j) else rec (nI j - 1) := by
        intro rec
        unfold k8_canBe_B42
        rw [nI_pred, if_neg (nI_nn (by omega)), rdA_n (by omega) (by omega), some_b, e1, bnd_e, addm1]
        by_cases q : c j = w
        · rw [if_pos (by rw [q]), if_pos q]
        · rw [if_neg (fun z => q ((nI_eq (by omega) (by omega)).mp z)), if_neg q]
      show k8_canBe_B42 F S x1 (nI w) (lpN _ _ n) k (nI (j + 1) - 1) = _
      rw [hB]
      unfold lastOf
      by_cases q : c j = w
      · rw [if_pos q, if_pos q]
      · rw [if_neg q, if_neg q]; exact ih n (by omega) (by omega)
  exact key t F (Nat.le_refl t) (by omega)
theorem canBeM {F : Nat} (hF : 24 < F) {N : Nat} {A B C L : Nat → Nat} {d : Nat → Nat → Nat} (hN : NetP N A B C L d) {W T : Nat} {mk ow wm jn dy cp : Nat → Nat} (hP : RegP W T mk ow wm jn dy cp) {S : SM} (hNM : NetM S.1 N A B C L d) (hM : RegM S.1 W T mk ow wm jn dy cp) {t w : Nat} {c : Nat → Nat} (ht : t < T) (hw : w ≤ W) (hc : ∀ k, k < t → S.1 17 k = nI (c k) ∧ c k ≤ W) (hcw : S.1 17 t = nI w) :
    k8_canBe F S (nI t) = some (bI (okc W (eE mk wm) (tT d jn dy) c t w)) := by
  have hP0 := hP
  obtain ⟨p1, p2, p3, p4, p5⟩ := hP
  unfold k8_canBe okc
  rw [rdA_n (by omega) (by omega), some_b, hcw, bnd_e, hM.1]
  by_cases q : w = W
  · rw [if_pos (by rw [q]), if_pos q]; rfl
  · have hw : w < W := by omega
    have he9 := er_le (wm t) (mk w)
    rw [if_neg (fun z => q ((nI_eq (by omega) (by omega)).mp z)), if_neg q, rdA_n (by omega) (by omega), some_b, rdA_n (by omega) (by omega), some_b, (hM.2.2.2 t ht).1, (hM.2.2.1 w hw).1, errM_ok (by omega) (p4 t ht).2.1 (p3 w hw).2.1, some_b, l2]
    show (if nI (eE mk wm t w) ≤ nI 2 then _ else _) = _
    by_cases q2 : eE mk wm t w ≤ 2
    · rw [if_pos (nI_le q2 (by omega)), bnd_e, lastM (by omega) p1 (by omega) hc (by omega)]
      cases hlo : lastOf c w t with
      | none => simp [lastOk, q2, bI]
      | some k =>
        obtain ⟨hk, -, -⟩ := lastOf_lt hlo
        have hk7 : k < T := by omega
        obtain ⟨-, e9, e10, -⟩ := hM.2.2.2 k hk7
        obtain ⟨-, g9, g10, -⟩ := hM.2.2.2 t ht
        have hjk := (p4 k hk7).2.2.1
        have hjt := (p4 t ht).2.2.1
        have hyk := (p4 k hk7).2.2.2.1
        have hyt := (p4 t ht).2.2.2.1
        have hmo := dy_mono hP0 (k := k) (t := t) (by omega) ht
        dsimp only
        simp only [bnd_e]
        rw [rdA_n (by omega) (by omega), some_b, rdA_n (by omega) (by omega), some_b, e9, g9, leastM_v hN hNM hjk hjt, some_b]
        show _ = some (bI (decide (eE mk wm t w ≤ 2) && tT d jn dy k t))
        unfold tT
        by_cases q3 : d (jn k) (jn t) < 1000000
        · rw [lsV_lt q3, if_neg (nI_m1 (by omega)), rdA_n (by omega) (by omega), some_b, rdA_n (by omega) (by omega), some_b, e10, g10, sbN hmo, l99, nI_add, l100, pk_div (by omega) (by omega) (by omega)]
          by_cases q4 : (d (jn k) (jn t) + 99) / 100 ≤ dy t - dy k
          · rw [if_neg (nI_nlt q4 (by omega))]; simp [q2, q3, q4, bI]
          · rw [if_pos (nI_lt (by omega) (by omega))]; simp [q4, bI]
        · rw [lsV_ge q3, if_pos rfl]; simp [q3, bI]
    · rw [if_neg (nI_ge (by omega) (by show er (wm t) (mk w) < _; omega))]; simp [q2, bI]
def MR (W T : Nat) (M0 : SM) (t : Nat) (c : Nat → Nat) (b : Nat × (Nat → Nat)) (S : SM) : Prop :=
  (∀ q, q ≠ 17 → q ≠ 18 → S.1 q = M0.1 q) ∧ (∀ k, k < t → S.1 17 k = nI (c k) ∧ c k ≤ W) ∧ b.1 ≤ 1000000 ∧ (b.1 ≤ 3 * T → ∀ k, k < T → S.1 18 k = nI (b.2 k))
theorem sumM {F : Nat} (hF : 8 < F) {W T : Nat} {mk ow wm jn dy cp : Nat → Nat} (hP : RegP W T mk ow wm jn dy cp) {S : SM} (hM : RegM S.1 W T mk ow wm jn dy cp) {c : Nat → Nat} (hc : ∀ k, k < T → S.1 17 k = nI (c k) ∧ c k ≤ W) {x1 x2 : Int32} (k : Int32 → Option (Int32 × SM)) :
    lpN (fun _ _ => none) (fun rec => k8_joins_B93 F S x1 x2 rec k) F (nI 0) (nI 0) = k (nI (tot W (eE mk wm) c T)) := by
  obtain ⟨p1, p2, p3, p4, p5⟩ := hP
  refine lp_seq (z := fun _ _ => none) (f := fun rec => k8_joins_B93 F S x1 x2 rec k) (fun (j : Nat) g => g (nI (tot W (eE mk wm) c j)) (nI j)) (fun j => j) T _ (fun j hj rec => ?_) (fun rec => ?_) (by omega)
  · obtain ⟨e1, e2⟩ := hc j hj
    show k8_joins_B93 F S x1 x2 rec k (nI (tot W (eE mk wm) c j)) (nI j) = rec (nI (tot W (eE mk wm) c j + cst W (eE mk wm) j (c j))) (nI (j + 1))
    unfold k8_joins_B93 cst
    simp only [bnd_e]
    rw [hM.2.1, if_neg (nI_ge hj (by omega)), rdA_n (by omega) (by omega), some_b, e1, hM.1, nI_1]
    by_cases q : c j = W
    · rw [if_pos (by rw [q]), if_pos q, l3, nI_add]
    · have hw : c j < W := by omega
      rw [if_neg (fun z => q ((nI_eq (by omega) (by omega)).mp z)), if_neg q, rdA_n (by omega) (by omega), some_b, some_b, rdA_n (by omega) (by omega), some_b, (hM.2.2.2 j hj).1, (hM.2.2.1 (c j) hw).1, errM_ok (by omega) (p4 j hj).2.1 (p3 (c j) hw).2.1, some_b, nI_add]
      rfl
  · unfold k8_joins_B93
    rw [hM.2.1, if_pos (nI_le (Nat.le_refl T) (by omega))]
theorem copyM {F : Nat} (hF : 8 < F) {T : Nat} {c : Nat → Nat} (hT : T ≤ 7) {S0 : SM} (h9 : S0.1 0 9 = nI T) (hc : ∀ k, k < T → S0.1 17 k = nI (c k)) {x1 x2 : Int32} :
    ∃ S', (∀ q, q ≠ 18 → S'.1 q = S0.1 q) ∧ (∀ k, k < T → S'.1 18 k = nI (c k)) ∧ ∀ k, lpN (fun _ _ => none) (fun rec => k8_joins_B164 F x1 x2 rec k) F S0 (nI 0) = k S' := by
  have h := lp_cps (f := fun k rec => k8_joins_B164 F x1 x2 rec k) (z := fun _ _ => none) (fun (s : SM × Nat) g => g s.1 (nI s.2)) (fun (t : SM) k => k t) (fun s => ((∀ q, q ≠ 18 → s.1.1 q = S0.1 q) ∧ ∀ k, k < s.2 → s.1.1 18 k = nI (c k)) ∧ s.2 ≤ T) (fun s => T - s.2) (fun t => (∀ q, q ≠ 18 → t.1 q = S0.1 q) ∧ ∀ k, k < T → t.1 18 k = nI (c k)) (by
    rintro ⟨S, j⟩ ⟨⟨k1, k2⟩, hj⟩
    dsimp only at k1 k2 hj
    have h9' : S.1 0 9 = nI T := by rw [k1 0 (by decide)]; exact h9
    by_cases h : j = T
    · subst h
      refine Or.inr ⟨S, ⟨k1, k2⟩, fun k rec => ?_⟩
      dsimp only [k8_joins_B164]
      rw [h9', if_pos (nI_le (Nat.le_refl j) (by omega))]
    · have e17 : S.1 17 j = nI (c j) := by rw [k1 17 (by decide)]; exact hc j (by omega)
      refine Or.inl ⟨(stM S 18 j (nI (c j)), j + 1), ⟨⟨fun q hq => ?_, fun k hk => ?_⟩, by dsimp only; omega⟩, by dsimp only; omega, fun k rec => ?_⟩
      · dsimp only; rw [m_o hq]; exact k1 q hq
      · dsimp only at hk ⊢
        rw [m_s]
        by_cases e : k = j
        · rw [if_pos e, e]
        · rw [if_neg e]; exact k2 k (by omega)
      · dsimp only [k8_joins_B164]
        simp only [bnd_e]
        rw [h9', if_neg (nI_ge (by omega) (by omega)), rdA_n (by omega) (by omega), some_b, ckA_n (by omega) (by omega), some_b, clN (by omega), e17, nI_1]) F (S0, 0) ⟨⟨fun _ _ => rfl, fun k hk => absurd hk (Nat.not_lt_zero k)⟩, Nat.zero_le T⟩ (by dsimp only; omega)
  obtain ⟨t, ⟨t1, t2⟩, t3⟩ := h
  exact ⟨t, t1, t2, t3⟩
/-- how many steps r sights take at most -/
def Kb : Nat → Nat
  | 0 => 0
  | r + 1 => 5 * (1 + Kb r) + 1
def jev (s : SM × Nat × Int32) (g : SM → Int32 → Int32 → Option (Int32 × SM)) : Option (Int32 × SM) := g s.1 (nI s.2.1) s.2.2
theorem MR.f1 {W T : Nat} {M0 : SM} {t : Nat} {c : Nat → Nat} {b : Nat × (Nat → Nat)} {S : SM} (h : MR W T M0 t c b S) (x : Int32) : MR W T M0 t c b (stM S 17 t x) :=
  ⟨fun q g1 g2 => by rw [m_o g1]; exact h.1 q g1 g2, fun k hk => by rw [m_s, if_neg (by omega)]; exact h.2.1 k hk, h.2.2.1, fun hb k hk => by rw [m_o (by decide)]; exact h.2.2.2 hb k hk⟩
theorem MR.net {W T : Nat} {M0 : SM} {t : Nat} {c : Nat → Nat} {b : Nat × (Nat → Nat)} {S : SM} (h : MR W T M0 t c b S) {N : Nat} {A B C L : Nat → Nat} {d : Nat → Nat → Nat} (hNM : NetM M0.1 N A B C L d) : NetM S.1 N A B C L d :=
  hNM.cong (by rw [h.1 0 (by decide) (by decide)]) (fun q h1 h2 => h.1 q (by omega) (by omega))
theorem MR.reg {W T : Nat} {M0 : SM} {t : Nat} {c : Nat → Nat} {b : Nat × (Nat → Nat)} {S : SM} (h : MR W T M0 t c b S) {mk ow wm jn dy cp : Nat → Nat} (hM : RegM M0.1 W T mk ow wm jn dy cp) : RegM S.1 W T mk ow wm jn dy cp :=
  hM.cong (by rw [h.1 0 (by decide) (by decide)]) (by rw [h.1 0 (by decide) (by decide)]) (fun q h1 h2 => h.1 q (by omega) (by omega))
/-- the head of the loop at a choice w of sight t -/
theorem joins_head {F : Nat} (hF : 24 < F) {N : Nat} {A B C L : Nat → Nat} {d : Nat → Nat → Nat} (hN : NetP N A B C L d) {W T : Nat} {mk ow wm jn dy cp : Nat → Nat} (hP : RegP W T mk ow wm jn dy cp) {M0 : SM} (hNM : NetM M0.1 N A B C L d) (hM : RegM M0.1 W T mk ow wm jn dy cp)
    {t w : Nat} {c : Nat → Nat} {b : Nat × (Nat → Nat)} {S : SM} (ht : t < T) (hwW : w ≤ W) (hS : MR W T M0 t c b S) (h17 : S.1 17 t = nI w - 1) (rec : SM → Int32 → Int32 → Option (Int32 × SM)) :
    k8_joins_B21 F rec S (nI b.1) (nI t) = if bI (okc W (eE mk wm) (tT d jn dy) c t w) = 0 then rec (stM S 17 t (nI w)) (nI b.1) (nI t) else
      (if nI T ≤ nI (t + 1) then (lpN (fun _ _ => none) (fun rec93 => k8_joins_B93 F (stM S 17 t (nI w)) (nI b.1) (nI t) rec93 (fun x3_30 => if x3_30 < nI b.1 then (lpN (fun _ _ => none) (fun rec164 => k8_joins_B164 F x3_30 (nI t) rec164 (fun S_38 => rec S_38 x3_30 (nI t))) F (stM S 17 t (nI w)) 0) else (rec (stM S 17 t (nI w)) (nI b.1) (nI t)))) F 0 0) else ((ckA 7 (nI (t + 1))).bind fun _ => rec (stM (stM S 17 t (nI w)) 17 (Int32.toNatClampNeg (nI (t + 1))) (-1)) (nI b.1) (nI (t + 1)))) := by
  have p1 := hP.1
  have p2 := hP.2.1
  have hS1 := hS.f1 (nI w)
  have t17 : (stM S 17 t (nI w)).1 17 t = nI w := by rw [m_s, if_pos rfl]
  have hcb := canBeM hF hN hP (hS1.net hNM) (hS1.reg hM) (t := t) (w := w) (c := c) ht hwW hS1.2.1 t17
  have hM1 := hS1.reg hM
  have e1 : (nI w - 1 : Int32) + 1 = nI w := by rw [Int32.sub_add_cancel]
  unfold k8_joins_B21
  simp only [bnd_e]
  rw [if_neg (nI_nn (by omega)), rdA_n (by omega) (by omega), some_b, ckA_n (by omega) (by omega), some_b, clN (by omega), h17, e1, rdA_n (by omega) (by omega), some_b, t17, hM1.1, if_pos (nI_le hwW (by omega)), hcb, some_b, nI_1, hM1.2.1]
theorem joins_lvl {F : Nat} (hF : 24 < F) {N : Nat} {A B C L : Nat → Nat} {d : Nat → Nat → Nat} (hN : NetP N A B C L d) {W T : Nat} {mk ow wm jn dy cp : Nat → Nat} (hP : RegP W T mk ow wm jn dy cp) {M0 : SM} (hNM : NetM M0.1 N A B C L d) (hM : RegM M0.1 W T mk ow wm jn dy cp) {r t : Nat} {c : Nat → Nat} (ht : t < T)
    (hdown : ∀ (w : Nat) (b : Nat × (Nat → Nat)) (S : SM), w ≤ W → okc W (eE mk wm) (tT d jn dy) c t w = true → MR W T M0 t c b S → S.1 17 t = nI w - 1 → ∃ k S2, k ≤ 1 + Kb r ∧ stpR jev (fun _ _ _ => none) (fun rec => k8_joins_B21 F rec) k (S, b.1, nI t) (S2, (bfd W (eE mk wm) T b (brn W (eE mk wm) (tT d jn dy) r t c w)).1, nI t) ∧ MR W T M0 t c (bfd W (eE mk wm) T b (brn W (eE mk wm) (tT d jn dy) r t c w)) S2 ∧ S2.1 17 t = nI w) (b : Nat × (Nat → Nat)) :
    ∀ (m w : Nat) (S : SM), w + m = W + 1 → MR W T M0 t c (bfd W (eE mk wm) T b (cat (brn W (eE mk wm) (tT d jn dy) r t c) w)) S → S.1 17 t = nI w - 1 →
      ∃ k S', k ≤ m * (1 + Kb r) + 1 ∧ stpR jev (fun _ _ _ => none) (fun rec => k8_joins_B21 F rec) k (S, (bfd W (eE mk wm) T b (cat (brn W (eE mk wm) (tT d jn dy) r t c) w)).1, nI t) (S', (bfd W (eE mk wm) T b (lvs W (eE mk wm) (tT d jn dy) (r + 1) t c)).1, nI t - 1) ∧ MR W T M0 t c (bfd W (eE mk wm) T b (lvs W (eE mk wm) (tT d jn dy) (r + 1) t c)) S' := by
  have p1 := hP.1
  have p2 := hP.2.1
  intro m
  induction m with
  | zero =>
    intro w S hw hS h17
    have hw : w = W + 1 := by omega
    subst hw
    refine ⟨1, stM S 17 t (nI (W + 1)), by omega, ?_, hS.f1 _⟩
    refine stpR.one fun rec => ?_
    have h6 : (stM S 17 t (nI (W + 1))).1 0 6 = nI W := by rw [m_o (by decide), hS.1 0 (by decide) (by decide)]; exact hM.1
    unfold jev k8_joins_B21
    dsimp only
    simp only [bnd_e]
    rw [if_neg (nI_nn (by omega)), rdA_n (by omega) (by omega), some_b, ckA_n (by omega) (by omega), some_b, clN (by omega), h17, nI_pred, nI_1, rdA_n (by omega) (by omega), some_b, m_s, if_pos rfl, h6, if_neg (nI_ge (by omega) (by omega)), addm1]
    rfl
  | succ m ihm =>
    intro w S hw hS h17
    have hwW : w ≤ W := by omega
    have hcat : cat (brn W (eE mk wm) (tT d jn dy) r t c) (w + 1) = cat (brn W (eE mk wm) (tT d jn dy) r t c) w ++ brn W (eE mk wm) (tT d jn dy) r t c w := rfl
    have hsm : (m + 1) * (1 + Kb r) = m * (1 + Kb r) + (1 + Kb r) := Nat.succ_mul _ _
    cases hok : okc W (eE mk wm) (tT d jn dy) c t w with
    | false =>
      have hbr : brn W (eE mk wm) (tT d jn dy) r t c w = [] := by unfold brn; rw [hok]; rfl
      have hb1 : bfd W (eE mk wm) T b (cat (brn W (eE mk wm) (tT d jn dy) r t c) (w + 1)) = bfd W (eE mk wm) T b (cat (brn W (eE mk wm) (tT d jn dy) r t c) w) := by rw [hcat, hbr, List.append_nil]
      obtain ⟨k, S', hk, hst, hmr⟩ := ihm (w + 1) (stM S 17 t (nI w)) (by omega) (by rw [hb1]; exact hS.f1 _) (by rw [nI_pred, m_s, if_pos rfl])
      rw [hb1] at hst
      refine ⟨k + 1, S', by omega, stpR.tr (stpR.one fun rec => ?_) hst, hmr⟩
      refine (joins_head hF hN hP hNM hM ht hwW hS h17 rec).trans ?_
      rw [hok, bI_f, if_pos rfl]
      rfl
    | true =>
      obtain ⟨k1, S2, g1, g2, g3, g4⟩ := hdown w _ S hwW hok hS h17
      rw [← bfd_app, ← hcat] at g2 g3
      obtain ⟨k, S', hk, hst, hmr⟩ := ihm (w + 1) S2 (by omega) g3 (by rw [nI_pred]; exact g4)
      exact ⟨k + k1, S', by omega, stpR.tr g2 hst, hmr⟩
theorem joins_w {F : Nat} (hF : 24 < F) {N : Nat} {A B C L : Nat → Nat} {d : Nat → Nat → Nat} (hN : NetP N A B C L d) {W T : Nat} {mk ow wm jn dy cp : Nat → Nat} (hP : RegP W T mk ow wm jn dy cp) {M0 : SM} (hNM : NetM M0.1 N A B C L d) (hM : RegM M0.1 W T mk ow wm jn dy cp) :
    ∀ (r t : Nat) (c : Nat → Nat) (b : Nat × (Nat → Nat)) (S : SM), t + (r + 1) = T → MR W T M0 t c b S → S.1 17 t = -1 →
      ∃ k S', k ≤ Kb (r + 1) ∧ stpR jev (fun _ _ _ => none) (fun rec => k8_joins_B21 F rec) k (S, b.1, nI t) (S', (bfd W (eE mk wm) T b (lvs W (eE mk wm) (tT d jn dy) (r + 1) t c)).1, nI t - 1) ∧ MR W T M0 t c (bfd W (eE mk wm) T b (lvs W (eE mk wm) (tT d jn dy) (r + 1) t c)) S' := by
  have p1 := hP.1
  have p2 := hP.2.1
  have fin : ∀ (r t : Nat) (c : Nat → Nat) (b : Nat × (Nat → Nat)) (S : SM), t < T → (∀ (w : Nat) (b : Nat × (Nat → Nat)) (S : SM), w ≤ W → okc W (eE mk wm) (tT d jn dy) c t w = true → MR W T M0 t c b S → S.1 17 t = nI w - 1 → ∃ k S2, k ≤ 1 + Kb r ∧ stpR jev (fun _ _ _ => none) (fun rec => k8_joins_B21 F rec) k (S, b.1, nI t) (S2, (bfd W (eE mk wm) T b (brn W (eE mk wm) (tT d jn dy) r t c w)).1, nI t) ∧ MR W T M0 t c (bfd W (eE mk wm) T b (brn W (eE mk wm) (tT d jn dy) r t c w)) S2 ∧ S2.1 17 t = nI w) → MR W T M0 t c b S → S.1 17 t = -1 →
      ∃ k S', k ≤ Kb (r + 1) ∧ stpR jev (fun _ _ _ => none) (fun rec => k8_joins_B21 F rec) k (S, b.1, nI t) (S', (bfd W (eE mk wm) T b (lvs W (eE mk wm) (tT d jn dy) (r + 1) t c)).1, nI t - 1) ∧ MR W T M0 t c (bfd W (eE mk wm) T b (lvs W (eE mk wm) (tT d jn dy) (r + 1) t c)) S' := by
    intro r t c b S ht hdown hS h17
    obtain ⟨k, S', h1, h2, h3⟩ := joins_lvl hF hN hP hNM hM ht hdown b (W + 1) 0 S (by omega) hS (by rw [h17]; decide)
    refine ⟨k, S', ?_, h2, h3⟩
    have : (W + 1) * (1 + Kb r) ≤ 5 * (1 + Kb r) := Nat.mul_le_mul_right _ (by omega)
    show k ≤ 5 * (1 + Kb r) + 1
    omega
  intro r
  induction r with
  | zero =>
    intro t c b S ht hS h17
    refine fin 0 t c b S (by omega) (fun w b S hwW hok hS h17 => ?_) hS h17
    obtain ⟨S1, eS1⟩ : ∃ z, z = stM S 17 t (nI w) := ⟨_, rfl⟩
    have hS1 : MR W T M0 t c b S1 := by rw [eS1]; exact hS.f1 _
    have t17 : S1.1 17 t = nI w := by rw [eS1, m_s, if_pos rfl]
    obtain ⟨c1, ec1⟩ : ∃ z, z = setc c t w := ⟨_, rfl⟩
    have hbr : brn W (eE mk wm) (tT d jn dy) 0 t c w = [c1] := by unfold brn; rw [hok, if_pos rfl, ← ec1]; rfl
    have hc1 : ∀ k, k < T → S1.1 17 k = nI (c1 k) ∧ c1 k ≤ W := by
      intro k hk
      by_cases q : k = t
      · rw [q, ec1, setc_s]; exact ⟨t17, hwW⟩
      · rw [ec1, setc_o q]; exact hS1.2.1 k (by omega)
    have htot : tot W (eE mk wm) c1 T ≤ T * 9 := sm_bd fun k hk => by
      unfold cst; split
      · omega
      · exact er_le _ _
    have hb9 := hS.2.2.1
    have hM1 := hS1.reg hM
    rw [hbr]
    show ∃ k S2, k ≤ 1 + Kb 0 ∧ stpR _ _ _ k _ (S2, (bst W (eE mk wm) T b c1).1, nI t) ∧ MR W T M0 t c (bst W (eE mk wm) T b c1) S2 ∧ S2.1 17 t = nI w
    have hsum : ∀ kk, lpN (fun _ _ => none) (fun rec => k8_joins_B93 F S1 (nI b.1) (nI t) rec kk) F 0 0 = kk (nI (tot W (eE mk wm) c1 T)) := fun kk => sumM (by omega) hP hM1 hc1 kk
    unfold bst
    by_cases q : tot W (eE mk wm) c1 T < b.1
    · obtain ⟨S2, u1, u2, u3⟩ := copyM (F := F) (by omega) p2 hM1.2.1 (fun k hk => (hc1 k hk).1) (x1 := nI (tot W (eE mk wm) c1 T)) (x2 := nI t)
      refine ⟨1, S2, by omega, stpR.one fun rec => ?_, ?_, by rw [u1 17 (by decide)]; exact t17⟩
      · refine (joins_head hF hN hP hNM hM (by omega) hwW hS h17 rec).trans ?_
        rw [hok, bI_t, if_neg z10, if_pos (nI_le (by omega : T ≤ t + 1) (by omega)), ← eS1, hsum, if_pos (nI_lt q (by omega)), if_pos q]
        exact u3 _
      · rw [if_pos q]
        exact ⟨fun q' g1 g2 => by rw [u1 q' g2]; exact hS1.1 q' g1 g2, fun k hk => by rw [u1 17 (by decide)]; exact hS1.2.1 k hk, by dsimp only; omega, fun _ k hk => u2 k hk⟩
    · refine ⟨1, S1, by omega, stpR.one fun rec => ?_, by rw [if_neg q]; exact hS1, t17⟩
      refine (joins_head hF hN hP hNM hM (by omega) hwW hS h17 rec).trans ?_
      rw [hok, bI_t, if_neg z10, if_pos (nI_le (by omega : T ≤ t + 1) (by omega)), ← eS1, hsum, if_neg (nI_nlt (by omega) (by omega)), if_neg q]
      rfl
  | succ r ih =>
    intro t c b S ht hS h17
    refine fin (r + 1) t c b S (by omega) (fun w b S hwW hok hS h17 => ?_) hS h17
    obtain ⟨S1, eS1⟩ : ∃ z, z = stM S 17 t (nI w) := ⟨_, rfl⟩
    have hS1 : MR W T M0 t c b S1 := by rw [eS1]; exact hS.f1 _
    have t17 : S1.1 17 t = nI w := by rw [eS1, m_s, if_pos rfl]
    obtain ⟨c1, ec1⟩ : ∃ z, z = setc c t w := ⟨_, rfl⟩
    have hbr : brn W (eE mk wm) (tT d jn dy) (r + 1) t c w = lvs W (eE mk wm) (tT d jn dy) (r + 1) (t + 1) c1 := by unfold brn; rw [hok, if_pos rfl, ← ec1]
    have hc1 : ∀ k, k < t + 1 → S1.1 17 k = nI (c1 k) ∧ c1 k ≤ W := by
      intro k hk
      by_cases q : k = t
      · rw [q, ec1, setc_s]; exact ⟨t17, hwW⟩
      · rw [ec1, setc_o q]; exact hS1.2.1 k (by omega)
    have hS2 : MR W T M0 (t + 1) c1 b (stM S1 17 (t + 1) (-1)) := MR.f1 ⟨hS1.1, hc1, hS1.2.2.1, hS1.2.2.2⟩ _
    obtain ⟨k, S', hk, hst, hmr⟩ := ih (t + 1) c1 b (stM S1 17 (t + 1) (-1)) (by omega) hS2 (by rw [m_s, if_pos rfl])
    rw [nI_pred] at hst
    rw [hbr]
    refine ⟨k + 1, S', by omega, stpR.tr (stpR.one fun rec => ?_) hst, ⟨hmr.1, fun k hk => ?_, hmr.2.2.1, hmr.2.2.2⟩, ?_⟩
    · refine (joins_head hF hN hP hNM hM (by omega) hwW hS h17 rec).trans ?_
      rw [hok, bI_t, if_neg z10, if_neg (nI_ge (by omega) (by omega)), ckA_n (by omega) (by omega), some_b, clN (by omega), ← eS1]
      rfl
    · have := hmr.2.1 k (by omega)
      rw [ec1, setc_o (by omega)] at this
      exact this
    · have := (hmr.2.1 t (by omega)).1
      rw [ec1, setc_s] at this
      exact this
theorem joinsM {F : Nat} (hF : 1000000000 < F) {N : Nat} {A B C L : Nat → Nat} {d : Nat → Nat → Nat} (hN : NetP N A B C L d) {W T : Nat} {mk ow wm jn dy cp : Nat → Nat} (hP : RegP W T mk ow wm jn dy cp) {M : SM} (hNM : NetM M.1 N A B C L d) (hM : RegM M.1 W T mk ow wm jn dy cp) :
    ∃ M', k8_joins F M = some (nI (solOf W T mk wm jn dy d).1, M') ∧ (∀ q, q ≠ 17 → q ≠ 18 → M'.1 q = M.1 q) ∧ ∀ k, k < T → M'.1 18 k = nI ((solOf W T mk wm jn dy d).2 k) := by
  have p2 := hP.2.1
  have hsl : (solOf W T mk wm jn dy d).1 ≤ 3 * T := sol_le
  obtain ⟨M1, eM1⟩ : ∃ z, z = stM M 17 0 (-1) := ⟨_, rfl⟩
  have f1 : ∀ q, q ≠ 17 → M1.1 q = M.1 q := fun q g => by rw [eM1, m_o g]
  have hT1 : M1.1 0 9 = nI T := by rw [f1 0 (by decide)]; exact hM.2.1
  have h0 : k8_joins F M = if nI T = 0 then some (0, M1) else lpN (fun _ _ _ => none) (fun rec21 => k8_joins_B21 F rec21) F M1 (nI 1000000) (nI 0) := by
    unfold k8_joins
    simp only [bnd_e]
    rw [show ckA 7 0 = some () from by decide, some_b, show Int32.toNatClampNeg 0 = 0 from by decide, ← eM1, hT1]
    rfl
  by_cases q : T = 0
  · subst q
    refine ⟨M1, ?_, fun q g1 g2 => f1 q g1, fun k hk => absurd hk (Nat.not_lt_zero k)⟩
    rw [h0, if_pos (by decide), show (solOf W 0 mk wm jn dy d).1 = 0 by omega]
    rfl
  · obtain ⟨r, rfl⟩ : ∃ r, T = r + 1 := ⟨T - 1, by omega⟩
    have hMR : MR W (r + 1) M 0 (fun _ => 0) (1000000, fun _ => 0) M1 := ⟨fun q g1 g2 => f1 q g1, fun k hk => absurd hk (Nat.not_lt_zero k), Nat.le_refl _, fun z => by dsimp only at z; omega⟩
    obtain ⟨k, S', hk, hst, hmr⟩ := joins_w (F := F) (by omega) hN hP hNM hM r 0 (fun _ => 0) (1000000, fun _ => 0) M1 (by omega) hMR (by rw [eM1, m_s, if_pos rfl])
    rw [sol_any (b := (1000000, fun _ => 0)) (by dsimp only; omega)] at hst hmr
    have hK7 : Kb (r + 1) ≤ 117186 := by
      have : ∀ n, n ≤ 7 → Kb n ≤ 117186 := by decide
      exact this _ p2
    have hs := hst (F - k)
    rw [show F - k + k = F by omega] at hs
    refine ⟨S', ?_, hmr.1, fun k hk => hmr.2.2.2 hsl k hk⟩
    rw [h0, if_neg (nI_ne0 (by omega) (by omega))]
    refine hs.trans ?_
    obtain ⟨F', hF'⟩ : ∃ q, F - k = q + 1 := ⟨F - k - 1, by omega⟩
    rw [hF']
    have hB : ∀ rec, k8_joins_B21 F rec S' (nI (sol W (eE mk wm) (tT d jn dy) (r + 1)).1) (nI 0 - 1) = some (nI (sol W (eE mk wm) (tT d jn dy) (r + 1)).1, S') := by
      intro rec
      unfold k8_joins_B21
      rw [if_pos (by decide)]
    exact hB (lpN (fun _ _ _ => none) (fun rec => k8_joins_B21 F rec) F')

/-! the class's search -/
def eE (mk wm : Nat → Nat) : Nat → Nat → Nat := fun t w => er (wm t) (mk w)
def tT (d : Nat → Nat → Nat) (jn dy : Nat → Nat) : Nat → Nat → Bool := fun k t => decide (d (jn k) (jn t) < 1000000) && decide ((d (jn k) (jn t) + 99) / 100 ≤ dy t - dy k)
def JF (S S' : SS) : Prop := ∀ q, q ≠ 4 → (q < 22 ∨ 26 < q) → S' q = S q
theorem JF.rf {S : SS} : JF S S := fun _ _ _ => rfl
theorem JF.tr {S S' S'' : SS} (h : JF S S') (h' : JF S' S'') : JF S S'' := fun q a b => (h' q a b).trans (h q a b)
theorem JF.net {S S' : SS} (h : JF S S') {N : Nat} {A B C L : Nat → Nat} {d : Nat → Nat → Nat} (hK : NetK S N A B C L d) : NetK S' N A B C L d :=
  hK.cong (by rw [h 1 (by decide) (by omega)]) (fun q h1 h2 => h q (by omega) (by omega))
theorem JF.reg {S S' : SS} (h : JF S S') {W T : Nat} {mk ow wm jn dy cp : Nat → Nat} (hK : RegK S W T mk ow wm jn dy cp) : RegK S' W T mk ow wm jn dy cp :=
  hK.cong (h 3 (by decide) (by omega)) (fun q h1 h2 => h q (by omega) (by omega))
theorem addm1 (x : Int32) : x + (-1) = x - 1 := (Int32.sub_eq_add_neg x 1).symm
theorem measure_in {F : Nat} (hF : 8 < F) {W T : Nat} {mk ow wm jn dy cp : Nat → Nat} (hP : RegP W T mk ow wm jn dy cp) {S0 : SS} (hK : RegK S0 W T mk ow wm jn dy cp) {i : Nat} (hi : i < T) :
    ∀ (n : Nat) (s : SS × Nat), (((∀ q, q ≠ 22 → s.1 q = S0 q) ∧ (∀ t w, t < T → w < W → (t ≠ i) → s.1 22 (t * 4 + w) = S0 22 (t * 4 + w)) ∧ ∀ w, w < s.2 → s.1 22 (i * 4 + w) = nI (eE mk wm i w)) ∧ s.2 ≤ W) → W - s.2 < n →
      ∃ t : SS, ((∀ q, q ≠ 22 → t q = S0 q) ∧ (∀ t' w, t' < T → w < W → (t' ≠ i) → t 22 (t' * 4 + w) = S0 22 (t' * 4 + w)) ∧ ∀ w, w < W → t 22 (i * 4 + w) = nI (eE mk wm i w)) ∧ ∀ k, (fun (g : SS → Int32 → Int32 → Option SS) => g s.1 (nI (low (eE mk wm) i s.2)) (nI s.2)) (lpN (fun _ _ _ => none) (fun rec => k2_measureErrors_B31 F (nI i) rec k) n) = k t (nI (low (eE mk wm) i W)) := by
  obtain ⟨p1, p2, p3, p4, p5⟩ := hP
  obtain ⟨a1, a2, a3, a4⟩ := hK
  refine lp_cps (f := fun k rec => k2_measureErrors_B31 F (nI i) rec k) (fun (s : SS × Nat) g => g s.1 (nI (low (eE mk wm) i s.2)) (nI s.2)) (fun (t : SS) k => k t (nI (low (eE mk wm) i W))) (fun s => ((∀ q, q ≠ 22 → s.1 q = S0 q) ∧ (∀ t w, t < T → w < W → (t ≠ i) → s.1 22 (t * 4 + w) = S0 22 (t * 4 + w)) ∧ ∀ w, w < s.2 → s.1 22 (i * 4 + w) = nI (eE mk wm i w)) ∧ s.2 ≤ W) (fun s => W - s.2) (fun t => (∀ q, q ≠ 22 → t q = S0 q) ∧ (∀ t' w, t' < T → w < W → (t' ≠ i) → t 22 (t' * 4 + w) = S0 22 (t' * 4 + w)) ∧ ∀ w, w < W → t 22 (i * 4 + w) = nI (eE mk wm i w)) ?_
  rintro ⟨S, w⟩ ⟨⟨k1, k2, k3⟩, hw⟩
  dsimp only at k1 k2 k3 hw
  have hW : S 3 2 = nI W := by rw [k1 3 (by decide)]; exact a1
  by_cases h : w = W
  · subst h
    refine Or.inr ⟨S, ⟨k1, k2, k3⟩, fun k rec => ?_⟩
    dsimp only [k2_measureErrors_B31]
    rw [hW, if_pos (nI_le (Nat.le_refl w) (by omega))]
  · have hw : w < W := by omega
    have e18 : S 18 i = nI (wm i) := by rw [k1 18 (by decide)]; exact (a4 i hi).1
    have e16 : S 16 w = nI (mk w) := by rw [k1 16 (by decide)]; exact (a3 w hw).1
    have hm := p3 w hw
    have hs := p4 i hi
    have he9 := er_le (wm i) (mk w)
    have hl3 := low_3 (eE mk wm) i w
    refine Or.inl ⟨(st S 22 (i * 4 + w) (nI (eE mk wm i w)), w + 1), ⟨⟨fun q hq => ?_, fun t w' ht hw' hne => ?_, fun w' hw' => ?_⟩, by dsimp only; omega⟩, by dsimp only; omega, fun k rec => ?_⟩
    · dsimp only; rw [st_o hq]; exact k1 q hq
    · dsimp only; rw [st_st, if_neg (by omega)]; exact k2 t w' ht hw' hne
    · dsimp only at hw' ⊢
      rw [st_st]
      by_cases q : w' = w
      · rw [if_pos (by rw [q]), q]
      · rw [if_neg (by omega)]; exact k3 w' (by omega)
    · dsimp only [k2_measureErrors_B31]
      simp only [bnd_e]
      rw [hW, if_neg (nI_ge hw (by omega)), rdA_n (by omega) (by omega), some_b, rdA_n (by omega) (by omega), some_b, e18, e16, diff_ok hF (by omega) (by omega), some_b, l4, mulN, nI_add, ckA_n (by omega) (by omega), some_b, clN (by omega), nI_1]
      have em : (if nI (er (wm i) (mk w)) < nI (low (eE mk wm) i w) then nI (er (wm i) (mk w)) else nI (low (eE mk wm) i w)) = nI (low (eE mk wm) i (w + 1)) := by
        show _ = nI (min (er (wm i) (mk w)) (low (eE mk wm) i w))
        by_cases q : er (wm i) (mk w) < low (eE mk wm) i w
        · rw [if_pos (nI_lt q (by omega))]; congr 1; omega
        · rw [if_neg (nI_nlt (by omega) (by omega))]; congr 1; omega
      rw [em]
      rfl
theorem measure_ok {F : Nat} (hF : 8 < F) {W T : Nat} {mk ow wm jn dy cp : Nat → Nat} (hP : RegP W T mk ow wm jn dy cp) {S0 : SS} (hK : RegK S0 W T mk ow wm jn dy cp) :
    ∃ S', k2_measureErrors F S0 = some S' ∧ (∀ q, q ≠ 22 → q ≠ 23 → S' q = S0 q) ∧ (∀ t w, t < T → w < W → S' 22 (t * 4 + w) = nI (eE mk wm t w)) ∧ ∀ t, t ≤ T → S' 23 t = nI (flr W (eE mk wm) (T - t) t) := by
  have hP0 := hP
  obtain ⟨p1, p2, p3, p4, p5⟩ := hP
  have flb : ∀ r t, flr W (eE mk wm) r t ≤ 3 * r := by
    intro r
    induction r with
    | zero => intro t; exact Nat.le_refl 0
    | succ r ih => intro t; have := ih (t + 1); have := low_3 (eE mk wm) t W; unfold flr; omega
  obtain ⟨t, ⟨S', h1, h2⟩, he⟩ := lp_inv (z := fun _ _ => none) (f := fun rec => k2_measureErrors_B23 F rec) (fun (s : SS × Nat) g => g s.1 (nI s.2 - 1))
    (fun s => ((∀ q, q ≠ 22 → q ≠ 23 → s.1 q = S0 q) ∧ (∀ t w, s.2 ≤ t → t < T → w < W → s.1 22 (t * 4 + w) = nI (eE mk wm t w)) ∧ ∀ t, s.2 ≤ t → t ≤ T → s.1 23 t = nI (flr W (eE mk wm) (T - t) t)) ∧ s.2 ≤ T) (fun s => s.2)
    (fun r => ∃ S', r = some S' ∧ (∀ q, q ≠ 22 → q ≠ 23 → S' q = S0 q) ∧ (∀ t w, t < T → w < W → S' 22 (t * 4 + w) = nI (eE mk wm t w)) ∧ ∀ t, t ≤ T → S' 23 t = nI (flr W (eE mk wm) (T - t) t)) (by
    rintro ⟨S, j⟩ ⟨⟨k1, k2, k3⟩, hj⟩
    dsimp only at k1 k2 k3 hj
    cases j with
    | zero =>
      refine Or.inr ⟨some S, ⟨S, rfl, k1, fun t w ht hw => k2 t w (Nat.zero_le t) ht hw, fun t ht => k3 t (Nat.zero_le t) ht⟩, fun rec => ?_⟩
      dsimp only [k2_measureErrors_B23]
      rw [if_pos (by decide)]
    | succ i =>
      have hKS : RegK S W T mk ow wm jn dy cp := hK.cong (k1 3 (by decide) (by decide)) (fun q a b => k1 q (by omega) (by omega))
      obtain ⟨S1, ⟨t1, t2, t3⟩, te⟩ := measure_in hF hP0 hKS (i := i) (by omega) F (S, 0) ⟨⟨fun _ _ => rfl, fun _ _ _ _ _ => rfl, fun w hw => absurd hw (Nat.not_lt_zero w)⟩, Nat.zero_le W⟩ (by dsimp only; omega)
      have e23 : S1 23 (i + 1) = nI (flr W (eE mk wm) (T - (i + 1)) (i + 1)) := by rw [t1 23 (by decide)]; exact k3 (i + 1) (Nat.le_refl _) (by omega)
      have f1 := flb (T - (i + 1)) (i + 1)
      have f2 := low_3 (eE mk wm) i W
      have ef : flr W (eE mk wm) (T - i) i = flr W (eE mk wm) (T - (i + 1)) (i + 1) + low (eE mk wm) i W := by
        rw [show T - i = T - (i + 1) + 1 by omega]; rfl
      refine Or.inl ⟨(st S1 23 i (nI (flr W (eE mk wm) (T - i) i)), i), ⟨⟨fun q g1 g2 => ?_, fun t w h1 h2 h3 => ?_, fun t h1 h2 => ?_⟩, by dsimp only; omega⟩, by dsimp only; omega, fun rec => ?_⟩
      · dsimp only; rw [st_o g2, t1 q g1]; exact k1 q g1 g2
      · dsimp only at h1 ⊢
        rw [st_o (by decide)]
        by_cases q : t = i
        · rw [q]; exact t3 w h3
        · rw [t2 t w h2 h3 q]; exact k2 t w (by omega) h2 h3
      · dsimp only at h1 ⊢
        rw [st_st]
        by_cases q : t = i
        · rw [if_pos q, q]
        · rw [if_neg q, t1 23 (by decide)]; exact k3 t (by omega) h2
      · dsimp only [k2_measureErrors_B23]
        simp only [bnd_e]
        rw [nI_pred, if_neg (nI_nn (by omega))]
        refine (te _).trans ?_
        rw [nI_1, rdA_n (by omega) (by omega), some_b, ckA_n (by omega) (by omega), some_b, clN (by omega), e23, nI_add, ← ef, addm1]) F (st S0 23 T (nI 0), T) ⟨⟨fun q g1 g2 => by dsimp only; rw [st_o g2], fun t w h1 h2 h3 => by dsimp only at h1; omega, fun t h1 h2 => by
        dsimp only at h1 ⊢
        have : t = T := by omega
        rw [this, st_st, if_pos rfl, Nat.sub_self]; rfl⟩, Nat.le_refl T⟩ (by dsimp only; omega)
  refine ⟨S', ?_, h2⟩
  rw [← h1, ← he]
  unfold k2_measureErrors
  simp only [bnd_e]
  rw [hK.2.1, ckA_n (by omega) (by omega), some_b, clN (by omega), st_o (by decide), hK.2.1]
  rfl
def enc (W w : Nat) : Int32 := if w = W then -1 else nI w
def encL : Option Nat → Int32
  | none => -1
  | some k => nI k
theorem dy_mono {W T : Nat} {mk ow wm jn dy cp : Nat → Nat} (hP : RegP W T mk ow wm jn dy cp) {k : Nat} : ∀ {t : Nat}, k ≤ t → t < T → dy k ≤ dy t
  | 0, h1, _ => by rw [show k = 0 by omega]; exact Nat.le_refl _
  | t + 1, h1, h2 => by
    by_cases q : k = t + 1
    · rw [q]; exact Nat.le_refl _
    · exact Nat.le_trans (dy_mono hP (t := t) (by omega) (by omega)) (hP.2.2.2.2 t h2)
theorem inTime_ok {F : Nat} {N : Nat} {A B C L : Nat → Nat} {d : Nat → Nat → Nat} (hN : NetP N A B C L d) {W T : Nat} {mk ow wm jn dy cp : Nat → Nat} (hP : RegP W T mk ow wm jn dy cp) {S : SS} (hNK : NetK S N A B C L d) (hK : RegK S W T mk ow wm jn dy cp) {t : Nat} (ht : t < T) {o : Option Nat} (ho : ∀ k, o = some k → k < t) :
    k2_isInTime F S (encL o) (nI t) = some (bI (lastOk (tT d jn dy) t o)) := by
  unfold k2_isInTime
  cases o with
  | none => rw [show encL none = -1 from rfl, if_pos rfl]; rfl
  | some k =>
    have hk := ho k rfl
    obtain ⟨p1, p2, p3, p4, p5⟩ := hP
    have hk7 : k < T := by omega
    obtain ⟨-, e19, e20, -⟩ := hK.2.2.2 k hk7
    obtain ⟨-, g19, g20, -⟩ := hK.2.2.2 t ht
    have hjk := (p4 k hk7).2.2.1
    have hjt := (p4 t ht).2.2.1
    have hyk := (p4 k hk7).2.2.2.1
    have hyt := (p4 t ht).2.2.2.1
    have hdb := hN.2.2.2.1.2.1 (jn k) (jn t) hjk hjt
    have hmo := dy_mono ⟨p1, p2, p3, p4, p5⟩ (k := k) (t := t) (by omega) ht
    simp only [bnd_e]
    rw [show encL (some k) = nI k from rfl, if_neg (nI_m1 (by omega)), rdA_n (by omega) (by omega), some_b, rdA_n (by omega) (by omega), some_b, e19, g19, l12, mulN, nI_add, rdA_n (by omega) (by omega), some_b, hNK.2.2 _ _ hjk hjt, lM]
    show _ = some (bI (tT d jn dy k t))
    unfold tT
    by_cases q : d (jn k) (jn t) < 1000000
    · rw [if_pos (nI_lt q (by omega)), rdA_n (by omega) (by omega), some_b, rdA_n (by omega) (by omega), some_b, e20, g20, sbN hmo, l100, nI_add, l1, sbN (by omega), pk_div (by omega) (by omega) (by omega), show d (jn k) (jn t) + 100 - 1 = d (jn k) (jn t) + 99 by omega]
      by_cases q2 : (d (jn k) (jn t) + 99) / 100 ≤ dy t - dy k
      · rw [if_neg (nI_nlt q2 (by omega))]; simp [q, q2, bI]; rfl
      · rw [if_pos (nI_lt (by omega) (by omega))]; simp [q2, bI]
    · rw [if_neg (nI_nlt (by omega) (by omega))]; simp [q, bI]
/-- what a state of the search holds -/
def SR (W T : Nat) (e : Nat → Nat → Nat) (S0 : SS) (t : Nat) (c : Nat → Nat) (b : Nat × (Nat → Nat)) (S : SS) : Prop :=
  JF S0 S ∧ S 22 = S0 22 ∧ S 23 = S0 23 ∧ (∀ k, k ≠ 7 → S 4 k = S0 4 k) ∧ (∀ w, w < W → S 25 w = encL (lastOf c w t)) ∧ (∀ k, k < t → S 24 k = enc W (c k)) ∧ S 4 7 = nI b.1 ∧ b.1 ≤ 3 * T + 1 ∧ (b.1 ≤ 3 * T → ∀ k, k < T → S 26 k = enc W (b.2 k))
theorem bI_if {b : Bool} {α : Type} (x y : α) : (if bI b = 0 then x else y) = if b then y else x := by
  cases b with
  | true => rw [bI_t, if_neg z10]; rfl
  | false => rw [bI_f, if_pos rfl]; rfl
theorem srchK {F : Nat} (hF : 24 < F) {N : Nat} {A B C L : Nat → Nat} {d : Nat → Nat → Nat} (hN : NetP N A B C L d) {W T : Nat} {mk ow wm jn dy cp : Nat → Nat} (hP : RegP W T mk ow wm jn dy cp) {S0 : SS} (hNK : NetK S0 N A B C L d) (hK : RegK S0 W T mk ow wm jn dy cp)
    (h22 : ∀ t w, t < T → w < W → S0 22 (t * 4 + w) = nI (eE mk wm t w)) (h23 : ∀ t, t ≤ T → S0 23 t = nI (flr W (eE mk wm) (T - t) t)) :
    ∀ (r dp t : Nat) (c : Nat → Nat) (b : Nat × (Nat → Nat)) (S : SS), t + r = T → r < dp → SR W T (eE mk wm) S0 t c b S → tot W (eE mk wm) c t ≤ 3 * t → ∃ S', k2_searchFrom F dp S (nI t) (nI (tot W (eE mk wm) c t)) = some S' ∧ SR W T (eE mk wm) S0 t c (bfd W (eE mk wm) T b (lvs W (eE mk wm) (tT d jn dy) r t c)) S' := by
  have hP0 := hP
  obtain ⟨p1, p2, p3, p4, p5⟩ := hP
  have flb : ∀ r t, flr W (eE mk wm) r t ≤ 3 * r := by
    intro r
    induction r with
    | zero => intro t; exact Nat.le_refl 0
    | succ r ih => intro t; have := ih (t + 1); have := low_3 (eE mk wm) t W; unfold flr; omega
  intro r
  induction r with
  | zero =>
    intro dp t c b S ht hd hS hsp
    obtain ⟨dp, rfl⟩ : ∃ q, dp = q + 1 := ⟨dp - 1, by omega⟩
    obtain ⟨s1, s2, s3, s4, s5, s6, s7, s8, s9⟩ := hS
    have hT : S 3 7 = nI T := by rw [s1 3 (by decide) (by omega)]; exact hK.2.1
    have hfl : S 23 t = nI 0 := by rw [s3, h23 t (by omega), show T - t = 0 by omega]; rfl
    have hl : lvs W (eE mk wm) (tT d jn dy) 0 t c = [c] := rfl
    have htt : t = T := by omega
    subst htt
    have hR : k2_searchFrom F (dp + 1) S (nI t) (nI (tot W (eE mk wm) c t)) = k2_searchFrom_R F (k2_searchFrom F dp) S (nI t) (nI (tot W (eE mk wm) c t)) := rfl
    rw [hR]
    unfold k2_searchFrom_R
    rw [hT, if_neg (nI_nlt (Nat.le_refl t) (by omega)), rdA_n (by omega) (by omega), some_b, hfl, nI_add, Nat.add_zero, s7]
    show ∃ S', _ = some S' ∧ SR W t (eE mk wm) S0 t c (bst W (eE mk wm) t b c) S'
    unfold bst
    by_cases q : tot W (eE mk wm) c t < b.1
    · rw [if_pos (nI_lt q (by omega)), if_pos (rfl : nI t = nI t)]
      refine ⟨st (stW S 26 (va_cpy (S 24) (S 26) 0 0 7)) 4 7 (nI (tot W (eE mk wm) c t)), ?_, ?_⟩
      · unfold k2_keep; rfl
      · rw [if_pos q]
        refine ⟨fun q a1 a2 => ?_, ?_, ?_, fun k hk => ?_, fun w hw => ?_, fun k hk => ?_, ?_, by dsimp only; omega, fun _ k hk => ?_⟩
        · rw [st_o a1, stW_o (by omega)]; exact s1 q a1 a2
        · rw [st_o (by decide), stW_o (by decide)]; exact s2
        · rw [st_o (by decide), stW_o (by decide)]; exact s3
        · rw [st_st, if_neg hk, stW_o (by decide)]; exact s4 k hk
        · rw [st_o (by decide), stW_o (by decide)]; exact s5 w hw
        · rw [st_o (by decide), stW_o (by decide)]; exact s6 k hk
        · rw [st_st, if_pos rfl]
        · rw [st_o (by decide), stW_s, pk_cpy_in (by omega) (by omega), Nat.zero_add, Nat.sub_zero]; exact s6 k hk
    · rw [if_neg (nI_nlt (by omega) (by omega)), if_neg q]
      exact ⟨S, rfl, s1, s2, s3, s4, s5, s6, s7, s8, s9⟩
  | succ r ih =>
    intro dp t c b S ht hd hS hsp
    obtain ⟨dp, rfl⟩ : ∃ q, dp = q + 1 := ⟨dp - 1, by omega⟩
    have hS0 := hS
    obtain ⟨s1, s2, s3, s4, s5, s6, s7, s8, s9⟩ := hS
    have htT : t < T := by omega
    have hT : S 3 7 = nI T := by rw [s1 3 (by decide) (by omega)]; exact hK.2.1
    have hfl : S 23 t = nI (flr W (eE mk wm) (r + 1) t) := by rw [s3, h23 t (by omega), show T - t = r + 1 by omega]
    have hfb := flb (r + 1) t
    have hR : k2_searchFrom F (dp + 1) S (nI t) (nI (tot W (eE mk wm) c t)) = k2_searchFrom_R F (k2_searchFrom F dp) S (nI t) (nI (tot W (eE mk wm) c t)) := rfl
    rw [hR]
    unfold k2_searchFrom_R
    rw [hT, if_neg (nI_nlt (by omega) (by omega)), rdA_n (by omega) (by omega), some_b, hfl, nI_add, s7]
    by_cases q : tot W (eE mk wm) c t + flr W (eE mk wm) (r + 1) t < b.1
    · rw [if_pos (nI_lt q (by omega)), if_neg (fun z => absurd ((nI_eq (by omega) (by omega)).mp z) (by omega)), bnd_e]
      -- the loop over the wagons
      have hloop : ∃ S1, SR W T (eE mk wm) S0 t c (bfd W (eE mk wm) T b (cat (brn W (eE mk wm) (tT d jn dy) r t c) W)) S1 ∧ ∀ k, (fun (g : SS → Int32 → Option SS) => g S (nI 0)) (lpN (fun _ _ => none) (fun rec => k2_searchFrom_B46 F (k2_searchFrom F dp) (nI t) (nI (tot W (eE mk wm) c t)) rec k) F) = k S1 := by
        refine lp_cps (f := fun k rec => k2_searchFrom_B46 F (k2_searchFrom F dp) (nI t) (nI (tot W (eE mk wm) c t)) rec k) (z := fun _ _ => none) (fun (s : SS × Nat) g => g s.1 (nI s.2)) (fun (S1 : SS) k => k S1) (fun s => SR W T (eE mk wm) S0 t c (bfd W (eE mk wm) T b (cat (brn W (eE mk wm) (tT d jn dy) r t c) s.2)) s.1 ∧ s.2 ≤ W) (fun s => W - s.2) (fun S1 => SR W T (eE mk wm) S0 t c (bfd W (eE mk wm) T b (cat (brn W (eE mk wm) (tT d jn dy) r t c) W)) S1) ?_ F (S, 0) ⟨hS0, Nat.zero_le W⟩ (by dsimp only; omega)
        rintro ⟨S1, w⟩ ⟨hS1, hw⟩
        dsimp only at hS1 hw
        have hW1 : S1 3 2 = nI W := by rw [hS1.1 3 (by decide) (by omega)]; exact hK.1
        by_cases hwW : w = W
        · subst hwW
          refine Or.inr ⟨S1, hS1, fun k rec => ?_⟩
          dsimp only [k2_searchFrom_B46]
          rw [hW1, if_pos (nI_le (Nat.le_refl w) (by omega))]
        · have hw : w < W := by omega
          have he9 := er_le (wm t) (mk w)
          have e22 : S1 22 (t * 4 + w) = nI (eE mk wm t w) := by rw [hS1.2.1]; exact h22 t w htT hw
          have e25 := hS1.2.2.2.2.1 w hw
          have hcat : cat (brn W (eE mk wm) (tT d jn dy) r t c) (w + 1) = cat (brn W (eE mk wm) (tT d jn dy) r t c) w ++ brn W (eE mk wm) (tT d jn dy) r t c w := rfl
          have hokd : okc W (eE mk wm) (tT d jn dy) c t w = (decide (eE mk wm t w ≤ 2) && (lastOk (tT d jn dy) t (lastOf c w t))) := by unfold okc; rw [if_neg hwW]
          -- not taken
          have skip : okc W (eE mk wm) (tT d jn dy) c t w = false → SR W T (eE mk wm) S0 t c (bfd W (eE mk wm) T b (cat (brn W (eE mk wm) (tT d jn dy) r t c) (w + 1))) S1 := by
            intro hno
            have : brn W (eE mk wm) (tT d jn dy) r t c w = [] := by unfold brn; rw [hno]; rfl
            rw [hcat, bfd_app, this, bfd_nil]
            exact hS1
          by_cases q2 : eE mk wm t w ≤ 2
          · have hit := inTime_ok (F := F) hN hP0 (hS1.1.net hNK) (hS1.1.reg hK) htT (o := lastOf c w t) (fun k hk => (lastOf_lt hk).1)
            cases hm : (lastOk (tT d jn dy) t (lastOf c w t)) with
            | false =>
              refine Or.inl ⟨(S1, w + 1), ⟨skip (by rw [hokd, hm, Bool.and_false]), by dsimp only; omega⟩, by dsimp only; omega, fun k rec => ?_⟩
              dsimp only [k2_searchFrom_B46]
              simp only [bnd_e]
              rw [hW1, if_neg (nI_ge hw (by omega)), l4, mulN, nI_add, rdA_n (by omega) (by omega), some_b, e22, l2, if_neg (nI_nlt q2 (by omega)), rdA_n (by omega) (by omega), some_b, e25, hit, some_b, hm, bI_f, if_pos rfl, nI_1]
            | true =>
              have hyes : okc W (eE mk wm) (tT d jn dy) c t w = true := by rw [hokd, hm]; simp [q2]
              obtain ⟨c1, ec1⟩ : ∃ z, z = setc c t w := ⟨_, rfl⟩
              have c1s : c1 t = w := by rw [ec1]; exact setc_s
              have c1o : ∀ k, k < t → c1 k = c k := fun k hk => by rw [ec1]; exact setc_o (by omega)
              have htot : tot W (eE mk wm) c1 (t + 1) = tot W (eE mk wm) c t + eE mk wm t w := by
                rw [tot_s, c1s, tot_cong c1o]; unfold cst; rw [if_neg hwW]
              have hb2 : brn W (eE mk wm) (tT d jn dy) r t c w = lvs W (eE mk wm) (tT d jn dy) r (t + 1) c1 := by unfold brn; rw [if_pos hyes, ← ec1]
              obtain ⟨g1, g2, g3, g4, g5, g6, g7, g8, g9⟩ := hS1
              obtain ⟨S2, eS2⟩ : ∃ z, z = st (st S1 25 w (nI t)) 24 t (nI w) := ⟨_, rfl⟩
              have hS2 : SR W T (eE mk wm) S0 (t + 1) c1 (bfd W (eE mk wm) T b (cat (brn W (eE mk wm) (tT d jn dy) r t c) w)) S2 := by
                refine ⟨fun q a1 a2 => ?_, ?_, ?_, fun k hk => ?_, fun w' hw' => ?_, fun k hk => ?_, ?_, g8, fun hb k hk => ?_⟩
                · rw [eS2, st_o (by omega), st_o (by omega)]; exact g1 q a1 a2
                · rw [eS2, st_o (by decide), st_o (by decide)]; exact g2
                · rw [eS2, st_o (by decide), st_o (by decide)]; exact g3
                · rw [eS2, st_o (by decide), st_o (by decide)]; exact g4 k hk
                · rw [eS2, st_o (by decide), st_st]
                  show _ = encL (if c1 t = w' then some t else lastOf c1 w' t)
                  rw [c1s]
                  by_cases qq : w' = w
                  · rw [if_pos qq, if_pos qq.symm]; rfl
                  · rw [if_neg qq, if_neg (fun z => qq z.symm), lastOf_cong c1o]; exact g5 w' hw'
                · rw [eS2, st_st]
                  by_cases qq : k = t
                  · rw [if_pos qq, qq, c1s]; unfold enc; rw [if_neg hwW]
                  · rw [if_neg qq, st_o (by decide), c1o k (by omega)]; exact g6 k (by omega)
                · rw [eS2, st_o (by decide), st_o (by decide)]; exact g7
                · rw [eS2, st_o (by decide), st_o (by decide)]; exact g9 hb k hk
              obtain ⟨S3, i1, i2⟩ := ih dp (t + 1) c1 _ S2 (by omega) (by omega) hS2 (by rw [htot]; omega)
              rw [htot] at i1
              rw [← hb2, ← bfd_app, ← hcat] at i2
              obtain ⟨u1, u2, u3, u4, u5, u6, u7, u8, u9⟩ := i2
              refine Or.inl ⟨(st S3 25 w (encL (lastOf c w t)), w + 1), ⟨⟨fun q a1 a2 => ?_, ?_, ?_, fun k hk => ?_, fun w' hw' => ?_, fun k hk => ?_, ?_, u8, fun hb k hk => ?_⟩, by dsimp only; omega⟩, by dsimp only; omega, fun k rec => ?_⟩
              · dsimp only; rw [st_o (by omega)]; exact u1 q a1 a2
              · dsimp only; rw [st_o (by decide)]; exact u2
              · dsimp only; rw [st_o (by decide)]; exact u3
              · dsimp only; rw [st_o (by decide)]; exact u4 k hk
              · dsimp only
                rw [st_st]
                by_cases qq : w' = w
                · rw [if_pos qq, qq]
                · rw [if_neg qq, u5 w' hw']
                  show encL (if c1 t = w' then some t else lastOf c1 w' t) = _
                  rw [c1s, if_neg (fun z => qq z.symm), lastOf_cong c1o]
              · dsimp only; rw [st_o (by decide), u6 k (by omega), c1o k hk]
              · dsimp only; rw [st_o (by decide)]; exact u7
              · dsimp only; rw [st_o (by decide)]; exact u9 hb k hk
              · dsimp only [k2_searchFrom_B46]
                simp only [bnd_e]
                rw [hW1, if_neg (nI_ge hw (by omega)), l4, mulN, nI_add, rdA_n (by omega) (by omega), some_b, e22, l2, if_neg (nI_nlt q2 (by omega)), rdA_n (by omega) (by omega), some_b, e25, hit, some_b, hm, bI_t, if_neg z10, some_b, ckA_n (by omega) (by omega), some_b, ckA_n (by omega) (by omega), some_b, clN (by omega), clN (by omega), ← eS2, nI_1, nI_add, i1, some_b, some_b, nI_1]
          · refine Or.inl ⟨(S1, w + 1), ⟨skip (by rw [hokd]; simp [q2]), by dsimp only; omega⟩, by dsimp only; omega, fun k rec => ?_⟩
            dsimp only [k2_searchFrom_B46]
            simp only [bnd_e]
            rw [hW1, if_neg (nI_ge hw (by omega)), l4, mulN, nI_add, rdA_n (by omega) (by omega), some_b, e22, l2, if_pos (nI_lt (by omega) (by show er (wm t) (mk w) < _; omega)), nI_1]
      obtain ⟨S1, hS1, hk⟩ := hloop
      -- nobody's
      obtain ⟨c1, ec1⟩ : ∃ z, z = setc c t W := ⟨_, rfl⟩
      have c1s : c1 t = W := by rw [ec1]; exact setc_s
      have c1o : ∀ k, k < t → c1 k = c k := fun k hk => by rw [ec1]; exact setc_o (by omega)
      have htot : tot W (eE mk wm) c1 (t + 1) = tot W (eE mk wm) c t + 3 := by
        rw [tot_s, c1s, tot_cong c1o]; unfold cst; rw [if_pos rfl]
      have hb2 : brn W (eE mk wm) (tT d jn dy) r t c W = lvs W (eE mk wm) (tT d jn dy) r (t + 1) c1 := by unfold brn; rw [if_pos (by unfold okc; rw [if_pos rfl]), ← ec1]
      have hcat : cat (brn W (eE mk wm) (tT d jn dy) r t c) (W + 1) = cat (brn W (eE mk wm) (tT d jn dy) r t c) W ++ brn W (eE mk wm) (tT d jn dy) r t c W := rfl
      obtain ⟨g1, g2, g3, g4, g5, g6, g7, g8, g9⟩ := hS1
      obtain ⟨S2, eS2⟩ : ∃ z, z = st S1 24 t (-1) := ⟨_, rfl⟩
      have hS2 : SR W T (eE mk wm) S0 (t + 1) c1 (bfd W (eE mk wm) T b (cat (brn W (eE mk wm) (tT d jn dy) r t c) W)) S2 := by
        refine ⟨fun q a1 a2 => ?_, ?_, ?_, fun k hk => ?_, fun w' hw' => ?_, fun k hk => ?_, ?_, g8, fun hb k hk => ?_⟩
        · rw [eS2, st_o (by omega)]; exact g1 q a1 a2
        · rw [eS2, st_o (by decide)]; exact g2
        · rw [eS2, st_o (by decide)]; exact g3
        · rw [eS2, st_o (by decide)]; exact g4 k hk
        · rw [eS2, st_o (by decide)]
          show _ = encL (if c1 t = w' then some t else lastOf c1 w' t)
          rw [c1s, if_neg (by omega), lastOf_cong c1o]; exact g5 w' hw'
        · rw [eS2, st_st]
          by_cases qq : k = t
          · rw [if_pos qq, qq, c1s]; unfold enc; rw [if_pos rfl]
          · rw [if_neg qq, c1o k (by omega)]; exact g6 k (by omega)
        · rw [eS2, st_o (by decide)]; exact g7
        · rw [eS2, st_o (by decide)]; exact g9 hb k hk
      obtain ⟨S3, i1, i2⟩ := ih dp (t + 1) c1 _ S2 (by omega) (by omega) hS2 (by rw [htot]; omega)
      rw [htot] at i1
      rw [← hb2, ← bfd_app, ← hcat, ← lvs_s] at i2
      obtain ⟨u1, u2, u3, u4, u5, u6, u7, u8, u9⟩ := i2
      refine ⟨S3, ?_, u1, u2, u3, u4, fun w' hw' => ?_, fun k hk => ?_, u7, u8, u9⟩
      · refine (hk _).trans ?_
        simp only [bnd_e]
        rw [ckA_n (by omega) (by omega), some_b, clN (by omega), ← eS2, nI_1, l3, nI_add, i1, some_b]
      · rw [u5 w' hw']
        show encL (if c1 t = w' then some t else lastOf c1 w' t) = _
        rw [c1s, if_neg (by omega), lastOf_cong c1o]
      · rw [u6 k (by omega), c1o k hk]
    · rw [if_neg (nI_nlt (by omega) (by omega))]
      refine ⟨S, rfl, ?_⟩
      rw [bfd_id _ _ (fun c' hc' => by
        have := (lvs_ok _ _ _ _ hc').2.1
        rw [ht] at this
        omega)]
      exact hS0

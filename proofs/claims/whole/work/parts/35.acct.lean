/-! whole numbers -/
def iI (z : Int) : Int32 := Int32.ofInt z
theorem iI_n (n : Nat) : nI n = iI (n : Int) := (Int32.ofInt_eq_ofNat).symm
theorem iI_add (a b : Int) : iI a + iI b = iI (a + b) := (Int32.ofInt_add a b).symm
theorem iI_sub (a b : Int) : iI a - iI b = iI (a - b) := (Int32.ofInt_sub a b).symm
theorem iI_addN (a : Int) (n : Nat) : iI a + nI n = iI (a + n) := by rw [iI_n, iI_add]
theorem iI_subN (a : Int) (n : Nat) : iI a - nI n = iI (a - n) := by rw [iI_n, iI_sub]
theorem iI_toInt {z : Int} (h1 : -2147483648 ≤ z) (h2 : z < 2147483648) : (iI z).toInt = z := Int32.toInt_ofInt_of_le h1 h2
theorem iI_0 {z : Int} (h1 : -2147483648 ≤ z) (h2 : z < 2147483648) : iI z = 0 ↔ z = 0 := by
  constructor
  · intro h
    have := iI_toInt h1 h2
    rw [h] at this
    have e : (0 : Int32).toInt = 0 := by decide
    omega
  · intro h; rw [h]; rfl
def si (f : Nat → Int) : Nat → Int
  | 0 => 0
  | n + 1 => si f n + f n
theorem si_cong {f g : Nat → Int} : ∀ {n : Nat}, (∀ k, k < n → g k = f k) → si g n = si f n
  | 0, _ => rfl
  | n + 1, h => by unfold si; rw [si_cong (n := n) (fun k hk => h k (by omega)), h n (by omega)]
theorem si_add (f g : Nat → Int) : ∀ n, si (fun c => f c + g c) n = si f n + si g n
  | 0 => rfl
  | n + 1 => by unfold si; rw [si_add f g n]; omega
theorem si_sub (f g : Nat → Int) : ∀ n, si (fun c => f c - g c) n = si f n - si g n
  | 0 => rfl
  | n + 1 => by unfold si; rw [si_sub f g n]; omega
theorem si_neg (f : Nat → Int) : ∀ n, si (fun c => -f c) n = - si f n
  | 0 => rfl
  | n + 1 => by unfold si; rw [si_neg f n]; omega
theorem si_nat (p : Nat → Nat) : ∀ n, si (fun c => (p c : Int)) n = (sm p n : Int)
  | 0 => rfl
  | n + 1 => by unfold si sm; rw [si_nat p n]; omega
theorem si_one {B : Int} {t : Nat} : ∀ n, si (fun x => if x = t then B else 0) n = if t < n then B else 0
  | 0 => by rw [if_neg (Nat.not_lt_zero t)]; rfl
  | n + 1 => by
    unfold si
    rw [si_one n]
    by_cases q : n = t
    · rw [if_neg (by omega), if_pos q, if_pos (by omega)]; omega
    · rw [if_neg q]
      by_cases q2 : t < n
      · rw [if_pos q2, if_pos (by omega)]; omega
      · rw [if_neg q2, if_neg (by omega)]; omega
def L1 (f : Nat → Int) (n : Nat) : Nat := sm (fun c => (f c).natAbs) n
/-- what k of the parts p do to the accounts: each gets its own, t gives all -/
def bkv (f : Nat → Int) (p : Nat → Nat) (t k x : Nat) : Int := f x + (if x < k then (p x : Int) else 0) - (if x = t then (sm p k : Int) else 0)
theorem bkv_0 {f : Nat → Int} {p : Nat → Nat} {t x : Nat} : bkv f p t 0 x = f x := by
  unfold bkv
  rw [if_neg (Nat.not_lt_zero x)]
  by_cases q : x = t
  · rw [if_pos q]; show f x + 0 - 0 = f x; omega
  · rw [if_neg q]; omega
theorem bkv_s {f : Nat → Int} {p : Nat → Nat} {t k x : Nat} : bkv f p t (k + 1) x = bkv f p t k x + (if x = k then (p k : Int) else 0) - (if x = t then (p k : Int) else 0) := by
  unfold bkv
  have e : (sm p (k + 1) : Int) = sm p k + p k := by
    have : sm p (k + 1) = sm p k + p k := rfl
    omega
  rw [e]
  by_cases q : x = k
  · subst q; omega
  · omega
theorem bkv_si {f : Nat → Int} {p : Nat → Nat} {t : Nat} (ht : t < 8) : si (bkv f p t 8) 8 = si f 8 := by
  have h : si (bkv f p t 8) 8 = si (fun c => (fun c => f c + (p c : Int)) c - (fun x => if x = t then (sm p 8 : Int) else 0) c) 8 := si_cong fun k hk => by
    unfold bkv; rw [if_pos hk]
  rw [h, si_sub, si_add, si_nat, si_one, if_pos ht]; omega
theorem bkv_L1 {f : Nat → Int} {p : Nat → Nat} {t : Nat} : L1 (bkv f p t 8) 8 ≤ L1 f 8 + 2 * sm p 8 := by
  have h : L1 (bkv f p t 8) 8 ≤ sm (fun c => (fun c => (fun c => (f c).natAbs) c + p c) c + (fun x => if x = t then sm p 8 else 0) c) 8 := sm_le fun k hk => by
    unfold bkv
    rw [if_pos hk]
    dsimp only
    by_cases q : k = t
    · rw [if_pos q, if_pos q]; omega
    · rw [if_neg q, if_neg q]; omega
  rw [sm_add, sm_add] at h
  have h1 := sm_one (B := sm p 8) (a := t) 8
  have h2 : L1 f 8 = sm (fun c => (f c).natAbs) 8 := rfl
  omega
/-- the other way about -/
def chr (f : Nat → Int) (o : Nat → Nat) (t k x : Nat) : Int := f x - (if x < k then (o x : Int) else 0) + (if x = t then (sm o k : Int) else 0)
theorem chr_bkv {f : Nat → Int} {o : Nat → Nat} {t k x : Nat} : chr f o t k x = - bkv (fun x => - f x) o t k x := by
  unfold chr bkv; dsimp only; omega
theorem chr_0 {f : Nat → Int} {o : Nat → Nat} {t x : Nat} : chr f o t 0 x = f x := by rw [chr_bkv, bkv_0]; omega
theorem chr_s {f : Nat → Int} {o : Nat → Nat} {t k x : Nat} : chr f o t (k + 1) x = chr f o t k x - (if x = k then (o k : Int) else 0) + (if x = t then (o k : Int) else 0) := by
  rw [chr_bkv, bkv_s, chr_bkv]; omega
theorem chr_si {f : Nat → Int} {o : Nat → Nat} {t : Nat} (ht : t < 8) : si (chr f o t 8) 8 = si f 8 := by
  have h : si (chr f o t 8) 8 = si (fun x => - bkv (fun x => - f x) o t 8 x) 8 := si_cong fun k _ => chr_bkv
  rw [h, si_neg, bkv_si ht, si_neg]; omega
theorem chr_L1 {f : Nat → Int} {o : Nat → Nat} {t : Nat} : L1 (chr f o t 8) 8 ≤ L1 f 8 + 2 * sm o 8 := by
  have h : L1 (chr f o t 8) 8 = L1 (bkv (fun x => - f x) o t 8) 8 := sm_cong fun k _ => by rw [chr_bkv, Int.natAbs_neg]
  have h2 : L1 (fun x => - f x) 8 = L1 f 8 := sm_cong fun k _ => by rw [Int.natAbs_neg]
  have := bkv_L1 (f := fun x => - f x) (p := o) (t := t)
  omega
/-- the accounts with what is owed for w wagons -/
def chv (f : Nat → Int) (o : Nat → Nat → Nat) (ow : Nat → Nat) : Nat → Nat → Int
  | 0 => f
  | w + 1 => chr (chv f o ow w) (o w) (ow w) 8
theorem chv_si {f : Nat → Int} {o : Nat → Nat → Nat} {ow : Nat → Nat} : ∀ {W : Nat}, (∀ w, w < W → ow w < 8) → si (chv f o ow W) 8 = si f 8
  | 0, _ => rfl
  | W + 1, h => (chr_si (h W (by omega))).trans (chv_si (W := W) fun w hw => h w (by omega))
theorem chv_L1 {f : Nat → Int} {o : Nat → Nat → Nat} {ow : Nat → Nat} : ∀ {W : Nat}, L1 (chv f o ow W) 8 ≤ L1 f 8 + 2 * sm (fun w => sm (o w) 8) W
  | 0 => by unfold chv sm; omega
  | W + 1 => by
    have h1 := chv_L1 (f := f) (o := o) (ow := ow) (W := W)
    have h2 := chr_L1 (f := chv f o ow W) (o := o W) (t := ow W)
    have h3 : sm (fun w => sm (o w) 8) (W + 1) = sm (fun w => sm (o w) 8) W + sm (o W) 8 := rfl
    have h4 : chv f o ow (W + 1) = chr (chv f o ow W) (o W) (ow W) 8 := rfl
    rw [h4]; omega
/-- two writes -/
theorem tr2 {S : SS} {c k t p : Nat} {f : Nat → Int} (h : ∀ x, x < 8 → S c x = iI (f x)) (hk : k < 8) (ht : t < 8) {x : Nat} (hx : x < 8) :
    st (st S c k (S c k + nI p)) c t ((st S c k (S c k + nI p)) c t - nI p) c x = iI (f x + (if x = k then (p : Int) else 0) - (if x = t then (p : Int) else 0)) := by
  have e : ∀ y, y < 8 → (st S c k (S c k + nI p)) c y = iI (f y + (if y = k then (p : Int) else 0)) := by
    intro y hy
    rw [st_st]
    by_cases q : y = k
    · rw [if_pos q, if_pos q, h k hk, iI_addN, q]
    · rw [if_neg q, if_neg q, h y hy]; congr 1; omega
  rw [st_st]
  by_cases q : x = t
  · rw [if_pos q, if_pos q, e t ht, iI_subN, q]
  · rw [if_neg q, if_neg q, e x hx]; congr 1; omega
theorem tr2' {S : SS} {c k t p : Nat} {f : Nat → Int} (h : ∀ x, x < 8 → S c x = iI (f x)) (hk : k < 8) (ht : t < 8) {x : Nat} (hx : x < 8) :
    st (st S c k (S c k - nI p)) c t ((st S c k (S c k - nI p)) c t + nI p) c x = iI (f x - (if x = k then (p : Int) else 0) + (if x = t then (p : Int) else 0)) := by
  have e : ∀ y, y < 8 → (st S c k (S c k - nI p)) c y = iI (f y - (if y = k then (p : Int) else 0)) := by
    intro y hy
    rw [st_st]
    by_cases q : y = k
    · rw [if_pos q, if_pos q, h k hk, iI_subN, q]
    · rw [if_neg q, if_neg q, h y hy]; congr 1; omega
  rw [st_st]
  by_cases q : x = t
  · rw [if_pos q, if_pos q, e t ht, iI_addN, q]
  · rw [if_neg q, if_neg q, e x hx]; congr 1; omega
/-! a sum is booked -/
theorem bookK {F : Nat} (hF : 8 < F) {t : Nat} (ht : t < 8) {p : Nat → Nat} {f : Nat → Int} {S0 : SS} (h0 : ∀ x, x < 8 → S0 35 x = iI (f x)) (hp : ∀ c, c < 8 → S0 13 c = nI (p c)) (k : SS → Option (Int32 × SS)) :
    ∃ S', lpN (fun _ _ => none) (fun rec => k7_book_B36 F (nI t) rec k) F S0 (nI 0) = k S' ∧ (∀ q, q ≠ 35 → S' q = S0 q) ∧ ∀ x, x < 8 → S' 35 x = iI (bkv f p t 8 x) := by
  obtain ⟨r, ⟨S', h1, h2⟩, he⟩ := lp_inv (z := fun _ _ => none) (f := fun rec => k7_book_B36 F (nI t) rec k) (fun (s : SS × Nat) g => g s.1 (nI s.2)) (fun s => ((∀ q, q ≠ 35 → s.1 q = S0 q) ∧ ∀ x, x < 8 → s.1 35 x = iI (bkv f p t s.2 x)) ∧ s.2 ≤ 8) (fun s => 8 - s.2) (fun r => ∃ S', r = k S' ∧ (∀ q, q ≠ 35 → S' q = S0 q) ∧ ∀ x, x < 8 → S' 35 x = iI (bkv f p t 8 x)) (by
    rintro ⟨S, j⟩ ⟨⟨k1, k2⟩, hj⟩
    dsimp only at k1 k2 hj
    by_cases h : j = 8
    · subst h
      refine Or.inr ⟨_, ⟨S, rfl, k1, k2⟩, fun rec => ?_⟩
      dsimp only [k7_book_B36]
      rw [l8, if_pos (nI_le (Nat.le_refl 8) (by omega))]
    · have hj : j < 8 := by omega
      have e13 : S 13 j = nI (p j) := by rw [k1 13 (by decide)]; exact hp j hj
      refine Or.inl ⟨(st (st S 35 j (S 35 j + nI (p j))) 35 t ((st S 35 j (S 35 j + nI (p j))) 35 t - nI (p j)), j + 1), ⟨⟨fun q hq => ?_, fun x hx => ?_⟩, by dsimp only; omega⟩, by dsimp only; omega, fun rec => ?_⟩
      · dsimp only; rw [st_o hq, st_o hq]; exact k1 q hq
      · dsimp only; rw [tr2 k2 hj ht hx, bkv_s]
      · dsimp only [k7_book_B36]
        simp only [bnd_e]
        rw [l8, if_neg (nI_ge (by omega) (by omega)), rdA_n hj (by omega), some_b, rdA_n hj (by omega), some_b, ckA_n hj (by omega), some_b, clN (by omega), e13, rdA_n ht (by omega), some_b, rdA_n hj (by omega), some_b, ckA_n ht (by omega), some_b, clN (by omega), st_o (show (13 : Nat) ≠ 35 by decide), e13, nI_1]) F (S0, 0) ⟨⟨fun _ _ => rfl, fun x hx => by dsimp only; rw [bkv_0]; exact h0 x hx⟩, by dsimp only; omega⟩ (by dsimp only; omega)
  exact ⟨S', by rw [← h1]; exact he, h2⟩
theorem bookM {F : Nat} (hF : 8 < F) {t : Nat} (ht : t < 8) {p : Nat → Nat} {f : Nat → Int} {S0 : SM} (h0 : ∀ x, x < 8 → S0.1 12 x = iI (f x)) (hp : ∀ c, c < 8 → S0.1 15 c = nI (p c)) (k : SM → Option (Int32 × SM)) :
    ∃ S', lpN (fun _ _ => none) (fun rec => k8_book_B33 F (nI t) rec k) F S0 (nI 0) = k S' ∧ (∀ q, q ≠ 12 → S'.1 q = S0.1 q) ∧ ∀ x, x < 8 → S'.1 12 x = iI (bkv f p t 8 x) := by
  obtain ⟨r, ⟨S', h1, h2⟩, he⟩ := lp_inv (z := fun _ _ => none) (f := fun rec => k8_book_B33 F (nI t) rec k) (fun (s : SM × Nat) g => g s.1 (nI s.2)) (fun s => ((∀ q, q ≠ 12 → s.1.1 q = S0.1 q) ∧ ∀ x, x < 8 → s.1.1 12 x = iI (bkv f p t s.2 x)) ∧ s.2 ≤ 8) (fun s => 8 - s.2) (fun r => ∃ S', r = k S' ∧ (∀ q, q ≠ 12 → S'.1 q = S0.1 q) ∧ ∀ x, x < 8 → S'.1 12 x = iI (bkv f p t 8 x)) (by
    rintro ⟨S, j⟩ ⟨⟨k1, k2⟩, hj⟩
    dsimp only at k1 k2 hj
    by_cases h : j = 8
    · subst h
      refine Or.inr ⟨_, ⟨S, rfl, k1, k2⟩, fun rec => ?_⟩
      dsimp only [k8_book_B33]
      rw [l8, if_pos (nI_le (Nat.le_refl 8) (by omega))]
    · have hj : j < 8 := by omega
      have e13 : S.1 15 j = nI (p j) := by rw [k1 15 (by decide)]; exact hp j hj
      refine Or.inl ⟨(stM (stM S 12 j (S.1 12 j + nI (p j))) 12 t ((stM S 12 j (S.1 12 j + nI (p j))).1 12 t - nI (p j)), j + 1), ⟨⟨fun q hq => ?_, fun x hx => ?_⟩, by dsimp only; omega⟩, by dsimp only; omega, fun rec => ?_⟩
      · dsimp only; rw [m_o hq, m_o hq]; exact k1 q hq
      · dsimp only; rw [bkv_s]; exact tr2 k2 hj ht hx
      · dsimp only [k8_book_B33]
        simp only [bnd_e]
        rw [l8, if_neg (nI_ge (by omega) (by omega)), rdA_n hj (by omega), some_b, rdA_n hj (by omega), some_b, ckA_n hj (by omega), some_b, clN (by omega), e13, rdA_n ht (by omega), some_b, rdA_n hj (by omega), some_b, ckA_n ht (by omega), some_b, clN (by omega), m_o (show (15 : Nat) ≠ 12 by decide), e13, nI_1]) F (S0, 0) ⟨⟨fun _ _ => rfl, fun x hx => by dsimp only; rw [bkv_0]; exact h0 x hx⟩, by dsimp only; omega⟩ (by dsimp only; omega)
  exact ⟨S', by rw [← h1]; exact he, h2⟩
theorem PTs_sum {N : Nat} {A B C L : Nat → Nat} {d : Nat → Nat → Nat} (hP : NetP N A B C L d) {u v s : Nat} (hu : u < 12) (hv : v < 12) (hne : u ≠ v) (hf : d u v < 1000000) : sm (PTs A B C L d N u v s) 8 = s := by
  obtain ⟨l, w, hrt, hlN, hw, ho, hd⟩ := rt_ex hP hu hv hne hf
  obtain ⟨-, -, -, g4, -⟩ := hP.2.1 l hlN
  have hs0 : sm (fun _ => 0) 8 = 0 := by decide
  obtain ⟨p1, p2⟩ := pth_sum hP hv 11 u (fun _ => 0) 0 hu hf (nearer_11 d v hu) (fun z => absurd z hne)
  rw [hs0, Nat.zero_add] at p1
  unfold PTs
  rw [hrt]
  rw [PT_sum (by omega) p1 (hP.2.2.1 l hlN) (hP.2.2.1 _ p2)]
  omega
/-! what is owed goes into the accounts: cell 35 -/
theorem chgK35 {F : Nat} (hF : 24 < F) {N : Nat} {A B C L : Nat → Nat} {d : Nat → Nat → Nat} (hN : NetP N A B C L d) {W T : Nat} {mk ow wm jn dy cp : Nat → Nat} (hP : RegP W T mk ow wm jn dy cp) {S : SS} (hNK : NetK S N A B C L d) (hK : RegK S W T mk ow wm jn dy cp) (hJ : JC S W T (solOf W T mk wm jn dy d)) {fr pr : Nat} (hT : TermP fr pr) (h2 : S 5 2 = nI fr) (h3 : S 5 3 = nI pr) {f : Nat → Int} (h0 : ∀ x, x < 8 → S 35 x = iI (f x)) :
    ∃ S', k0_addCharges_35 F S = some S' ∧ (∀ q, q ≠ 4 → (q < 22 ∨ 26 < q) → q ≠ 35 → S' q = S q) ∧ JY S' W T (solOf W T mk wm jn dy d) ∧ ∀ x, x < 8 → S' 35 x = iI (chv f (oN ow (solOf W T mk wm jn dy d).2 dy cp fr pr T) ow W x) := by
  obtain ⟨S0, g1, g2, g3⟩ := solveK hF hN hP hNK hK hJ
  have r0 := g2.reg hK
  have t2 : S0 5 2 = nI fr := by rw [g2 5 (by decide) (by omega)]; exact h2
  have t3 : S0 5 3 = nI pr := by rw [g2 5 (by decide) (by omega)]; exact h3
  have hb : ∀ k, k < T → S0 26 k = enc W ((solOf W T mk wm jn dy d).2 k) ∧ (solOf W T mk wm jn dy d).2 k ≤ W := fun k hk => ⟨g3.2.2 k hk, sol_W hk⟩
  have e0 : ∀ x, x < 8 → S0 35 x = iI (f x) := fun x hx => by rw [g2 35 (by decide) (by omega)]; exact h0 x hx
  have p1 := hP.1
  obtain ⟨o, eo⟩ : ∃ o, o = oN ow (solOf W T mk wm jn dy d).2 dy cp fr pr T := ⟨_, rfl⟩
  have inner : ∀ (w : Nat), w < W → ∀ (g : Nat → Int) (S1 : SS), (∀ q, q ≠ 35 → S1 q = S0 q) → (∀ x, x < 8 → S1 35 x = iI (g x)) → ∃ S2, ((∀ q, q ≠ 35 → S2 q = S0 q) ∧ ∀ x, x < 8 → S2 35 x = iI (chr g (o w) (ow w) 8 x)) ∧ ∀ k, lpN (fun _ _ => none) (fun rec => k0_addCharges_35_B30 F (nI w) rec k) F S1 (nI 0) = k S2 := by
    intro w hw g S1 a1 a2
    have how := (hP.2.2.1 w hw).2.2
    exact lp_cps (z := fun _ _ => none) (f := fun k rec => k0_addCharges_35_B30 F (nI w) rec k) (fun (s : SS × Nat) g => g s.1 (nI s.2)) (fun (t : SS) k => k t) (fun s => ((∀ q, q ≠ 35 → s.1 q = S0 q) ∧ ∀ x, x < 8 → s.1 35 x = iI (chr g (o w) (ow w) s.2 x)) ∧ s.2 ≤ 8) (fun s => 8 - s.2) (fun t => (∀ q, q ≠ 35 → t q = S0 q) ∧ ∀ x, x < 8 → t 35 x = iI (chr g (o w) (ow w) 8 x)) (by
      rintro ⟨S3, j⟩ ⟨⟨k1, k2⟩, hj⟩
      dsimp only at k1 k2 hj
      by_cases h : j = 8
      · subst h
        refine Or.inr ⟨S3, ⟨k1, k2⟩, fun k rec => ?_⟩
        dsimp only [k0_addCharges_35_B30]
        rw [l8, if_pos (nI_le (Nat.le_refl 8) (by omega))]
      · have hj : j < 8 := by omega
        have r3 : RegK S3 W T mk ow wm jn dy cp := r0.cong (k1 3 (by decide)) (fun q u1 u2 => k1 q (by omega))
        have ew : k0_owedAsJoined F S3 (nI w) (nI j) = some (nI (o w j)) := by
          rw [eo]
          exact owedK hF hP r3 hT (by rw [k1 5 (by decide)]; exact t2) (by rw [k1 5 (by decide)]; exact t3) (fun k hk => by rw [k1 26 (by decide)]; exact hb k hk) hw hj
        have e17 : S3 17 w = nI (ow w) := (r3.2.2.1 w hw).2
        refine Or.inl ⟨(st (st S3 35 j (S3 35 j - nI (o w j))) 35 (ow w) ((st S3 35 j (S3 35 j - nI (o w j))) 35 (ow w) + nI (o w j)), j + 1), ⟨⟨fun q hq => ?_, fun x hx => ?_⟩, by dsimp only; omega⟩, by dsimp only; omega, fun k rec => ?_⟩
        · dsimp only; rw [st_o hq, st_o hq]; exact k1 q hq
        · dsimp only; rw [tr2' k2 hj how hx, chr_s]
        · dsimp only [k0_addCharges_35_B30]
          simp only [bnd_e]
          rw [l8, if_neg (nI_ge (by omega) (by omega)), ew, some_b, rdA_n hj (by omega), some_b, ckA_n hj (by omega), some_b, clN (by omega), rdA_n (by omega) (by omega), some_b, st_o (show (17 : Nat) ≠ 35 by decide), e17, rdA_n how (by omega), some_b, ckA_n how (by omega), some_b, clN (by omega), nI_1]) F (S1, 0) ⟨⟨a1, fun x hx => by dsimp only; rw [chr_0]; exact a2 x hx⟩, by dsimp only; omega⟩ (by dsimp only; omega)
  obtain ⟨r, ⟨S', q1, q2, q3⟩, he⟩ := lp_inv (z := fun _ _ => none) (f := fun rec => k0_addCharges_35_B17 F rec) (fun (s : SS × Nat) g => g s.1 (nI s.2)) (fun s => ((∀ q, q ≠ 35 → s.1 q = S0 q) ∧ ∀ x, x < 8 → s.1 35 x = iI (chv f o ow s.2 x)) ∧ s.2 ≤ W) (fun s => W - s.2) (fun r => ∃ S', r = some S' ∧ (∀ q, q ≠ 35 → S' q = S0 q) ∧ ∀ x, x < 8 → S' 35 x = iI (chv f o ow W x)) (by
    rintro ⟨S1, w⟩ ⟨⟨k1, k2⟩, hw⟩
    dsimp only at k1 k2 hw
    have hW : S1 3 2 = nI W := by rw [k1 3 (by decide)]; exact r0.1
    by_cases h : w = W
    · subst h
      refine Or.inr ⟨_, ⟨S1, rfl, k1, k2⟩, fun rec => ?_⟩
      dsimp only [k0_addCharges_35_B17]
      rw [hW, if_pos (nI_le (Nat.le_refl w) (by omega))]
    · have hw : w < W := by omega
      obtain ⟨S2, ⟨b1, b2⟩, b3⟩ := inner w hw (chv f o ow w) S1 k1 k2
      refine Or.inl ⟨(S2, w + 1), ⟨⟨b1, b2⟩, by dsimp only; omega⟩, by dsimp only; omega, fun rec => ?_⟩
      dsimp only [k0_addCharges_35_B17]
      simp only [bnd_e]
      rw [hW, if_neg (nI_ge (by omega) (by omega)), nI_1]
      exact b3 _) F (S0, 0) ⟨⟨fun _ _ => rfl, e0⟩, Nat.zero_le W⟩ (by dsimp only; omega)
  refine ⟨S', ?_, fun q u1 u2 u3 => by rw [q2 q u3]; exact g2 q u1 u2, ⟨by rw [q2 4 (by decide)]; exact g3.1, by rw [q2 4 (by decide)]; exact g3.2.1, fun k hk => by rw [q2 26 (by decide)]; exact g3.2.2 k hk⟩, by rw [← eo]; exact q3⟩
  unfold k0_addCharges_35
  simp only [bnd_e]
  rw [if_pos (by decide), g1, some_b, ← q1]
  exact he
/-! what is owed goes into the accounts: cell 36 -/
theorem chgK36 {F : Nat} (hF : 24 < F) {N : Nat} {A B C L : Nat → Nat} {d : Nat → Nat → Nat} (hN : NetP N A B C L d) {W T : Nat} {mk ow wm jn dy cp : Nat → Nat} (hP : RegP W T mk ow wm jn dy cp) {S : SS} (hNK : NetK S N A B C L d) (hK : RegK S W T mk ow wm jn dy cp) (hJ : JC S W T (solOf W T mk wm jn dy d)) {fr pr : Nat} (hT : TermP fr pr) (h2 : S 5 2 = nI fr) (h3 : S 5 3 = nI pr) {f : Nat → Int} (h0 : ∀ x, x < 8 → S 36 x = iI (f x)) :
    ∃ S', k0_addCharges_36 F S = some S' ∧ (∀ q, q ≠ 4 → (q < 22 ∨ 26 < q) → q ≠ 36 → S' q = S q) ∧ JY S' W T (solOf W T mk wm jn dy d) ∧ ∀ x, x < 8 → S' 36 x = iI (chv f (oN ow (solOf W T mk wm jn dy d).2 dy cp fr pr T) ow W x) := by
  obtain ⟨S0, g1, g2, g3⟩ := solveK hF hN hP hNK hK hJ
  have r0 := g2.reg hK
  have t2 : S0 5 2 = nI fr := by rw [g2 5 (by decide) (by omega)]; exact h2
  have t3 : S0 5 3 = nI pr := by rw [g2 5 (by decide) (by omega)]; exact h3
  have hb : ∀ k, k < T → S0 26 k = enc W ((solOf W T mk wm jn dy d).2 k) ∧ (solOf W T mk wm jn dy d).2 k ≤ W := fun k hk => ⟨g3.2.2 k hk, sol_W hk⟩
  have e0 : ∀ x, x < 8 → S0 36 x = iI (f x) := fun x hx => by rw [g2 36 (by decide) (by omega)]; exact h0 x hx
  have p1 := hP.1
  obtain ⟨o, eo⟩ : ∃ o, o = oN ow (solOf W T mk wm jn dy d).2 dy cp fr pr T := ⟨_, rfl⟩
  have inner : ∀ (w : Nat), w < W → ∀ (g : Nat → Int) (S1 : SS), (∀ q, q ≠ 36 → S1 q = S0 q) → (∀ x, x < 8 → S1 36 x = iI (g x)) → ∃ S2, ((∀ q, q ≠ 36 → S2 q = S0 q) ∧ ∀ x, x < 8 → S2 36 x = iI (chr g (o w) (ow w) 8 x)) ∧ ∀ k, lpN (fun _ _ => none) (fun rec => k0_addCharges_36_B30 F (nI w) rec k) F S1 (nI 0) = k S2 := by
    intro w hw g S1 a1 a2
    have how := (hP.2.2.1 w hw).2.2
    exact lp_cps (z := fun _ _ => none) (f := fun k rec => k0_addCharges_36_B30 F (nI w) rec k) (fun (s : SS × Nat) g => g s.1 (nI s.2)) (fun (t : SS) k => k t) (fun s => ((∀ q, q ≠ 36 → s.1 q = S0 q) ∧ ∀ x, x < 8 → s.1 36 x = iI (chr g (o w) (ow w) s.2 x)) ∧ s.2 ≤ 8) (fun s => 8 - s.2) (fun t => (∀ q, q ≠ 36 → t q = S0 q) ∧ ∀ x, x < 8 → t 36 x = iI (chr g (o w) (ow w) 8 x)) (by
      rintro ⟨S3, j⟩ ⟨⟨k1, k2⟩, hj⟩
      dsimp only at k1 k2 hj
      by_cases h : j = 8
      · subst h
        refine Or.inr ⟨S3, ⟨k1, k2⟩, fun k rec => ?_⟩
        dsimp only [k0_addCharges_36_B30]
        rw [l8, if_pos (nI_le (Nat.le_refl 8) (by omega))]
      · have hj : j < 8 := by omega
        have r3 : RegK S3 W T mk ow wm jn dy cp := r0.cong (k1 3 (by decide)) (fun q u1 u2 => k1 q (by omega))
        have ew : k0_owedAsJoined F S3 (nI w) (nI j) = some (nI (o w j)) := by
          rw [eo]
          exact owedK hF hP r3 hT (by rw [k1 5 (by decide)]; exact t2) (by rw [k1 5 (by decide)]; exact t3) (fun k hk => by rw [k1 26 (by decide)]; exact hb k hk) hw hj
        have e17 : S3 17 w = nI (ow w) := (r3.2.2.1 w hw).2
        refine Or.inl ⟨(st (st S3 36 j (S3 36 j - nI (o w j))) 36 (ow w) ((st S3 36 j (S3 36 j - nI (o w j))) 36 (ow w) + nI (o w j)), j + 1), ⟨⟨fun q hq => ?_, fun x hx => ?_⟩, by dsimp only; omega⟩, by dsimp only; omega, fun k rec => ?_⟩
        · dsimp only; rw [st_o hq, st_o hq]; exact k1 q hq
        · dsimp only; rw [tr2' k2 hj how hx, chr_s]
        · dsimp only [k0_addCharges_36_B30]
          simp only [bnd_e]
          rw [l8, if_neg (nI_ge (by omega) (by omega)), ew, some_b, rdA_n hj (by omega), some_b, ckA_n hj (by omega), some_b, clN (by omega), rdA_n (by omega) (by omega), some_b, st_o (show (17 : Nat) ≠ 36 by decide), e17, rdA_n how (by omega), some_b, ckA_n how (by omega), some_b, clN (by omega), nI_1]) F (S1, 0) ⟨⟨a1, fun x hx => by dsimp only; rw [chr_0]; exact a2 x hx⟩, by dsimp only; omega⟩ (by dsimp only; omega)
  obtain ⟨r, ⟨S', q1, q2, q3⟩, he⟩ := lp_inv (z := fun _ _ => none) (f := fun rec => k0_addCharges_36_B17 F rec) (fun (s : SS × Nat) g => g s.1 (nI s.2)) (fun s => ((∀ q, q ≠ 36 → s.1 q = S0 q) ∧ ∀ x, x < 8 → s.1 36 x = iI (chv f o ow s.2 x)) ∧ s.2 ≤ W) (fun s => W - s.2) (fun r => ∃ S', r = some S' ∧ (∀ q, q ≠ 36 → S' q = S0 q) ∧ ∀ x, x < 8 → S' 36 x = iI (chv f o ow W x)) (by
    rintro ⟨S1, w⟩ ⟨⟨k1, k2⟩, hw⟩
    dsimp only at k1 k2 hw
    have hW : S1 3 2 = nI W := by rw [k1 3 (by decide)]; exact r0.1
    by_cases h : w = W
    · subst h
      refine Or.inr ⟨_, ⟨S1, rfl, k1, k2⟩, fun rec => ?_⟩
      dsimp only [k0_addCharges_36_B17]
      rw [hW, if_pos (nI_le (Nat.le_refl w) (by omega))]
    · have hw : w < W := by omega
      obtain ⟨S2, ⟨b1, b2⟩, b3⟩ := inner w hw (chv f o ow w) S1 k1 k2
      refine Or.inl ⟨(S2, w + 1), ⟨⟨b1, b2⟩, by dsimp only; omega⟩, by dsimp only; omega, fun rec => ?_⟩
      dsimp only [k0_addCharges_36_B17]
      simp only [bnd_e]
      rw [hW, if_neg (nI_ge (by omega) (by omega)), nI_1]
      exact b3 _) F (S0, 0) ⟨⟨fun _ _ => rfl, e0⟩, Nat.zero_le W⟩ (by dsimp only; omega)
  refine ⟨S', ?_, fun q u1 u2 u3 => by rw [q2 q u3]; exact g2 q u1 u2, ⟨by rw [q2 4 (by decide)]; exact g3.1, by rw [q2 4 (by decide)]; exact g3.2.1, fun k hk => by rw [q2 26 (by decide)]; exact g3.2.2 k hk⟩, by rw [← eo]; exact q3⟩
  unfold k0_addCharges_36
  simp only [bnd_e]
  rw [if_pos (by decide), g1, some_b, ← q1]
  exact he

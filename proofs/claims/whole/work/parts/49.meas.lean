/-! the class measures the ways -/
theorem encL_s (j : Nat) : encL (some j) = nI j := rfl
theorem encL_n : encL none = -1 := rfl
theorem iI_le0 {z : Int} (h1 : -1000 ≤ z) (h2 : z ≤ 1000) : (iI z ≤ (0 : Int32)) ↔ z ≤ 0 := by
  rw [Int32.le_iff_toInt_le, iI_toInt (by omega) (by omega), show (0 : Int32).toInt = 0 from by decide]
theorem iI_ge0 {z : Int} (h1 : -1000 ≤ z) (h2 : z ≤ 1000) : ((0 : Int32) ≤ iI z) ↔ 0 ≤ z := by
  rw [Int32.le_iff_toInt_le, iI_toInt (by omega) (by omega), show (0 : Int32).toInt = 0 from by decide]
theorem NCC.row {d : Nat → Nat → Nat} {th wa : Nat → Nat} {lam : Nat} {π : Nat → Nat} {x : Nat → Nat → Nat} (h : NCC d th wa lam π x) {a : Nat} (ha : a < 12) : rwS x a ≤ th a - wa a := h.2.2.2.1 a ha
theorem NCC.col {d : Nat → Nat → Nat} {th wa : Nat → Nat} {lam : Nat} {π : Nat → Nat} {x : Nat → Nat → Nat} (h : NCC d th wa lam π x) {a : Nat} (ha : a < 12) : clS x a ≤ wa a - th a := h.2.2.2.2.1 a ha
theorem spv_g {th wa : Nat → Nat} {x : Nat → Nat → Nat} {j : Nat} (h : wa j < th j) : spv th wa x j = (th j : Int) - wa j - rwS x j := if_pos h
theorem spv_t {th wa : Nat → Nat} {x : Nat → Nat → Nat} {j : Nat} (h : ¬ wa j < th j) : spv th wa x j = (th j : Int) - wa j + clS x j := if_neg h
theorem NCC.pos {d : Nat → Nat → Nat} {th wa : Nat → Nat} {lam : Nat} {π : Nat → Nat} {x : Nat → Nat → Nat} (h : NCC d th wa lam π x) {j : Nat} (hj : j < 12) : 0 < spv th wa x j ↔ (wa j < th j ∧ rwS x j < th j - wa j) := by
  have h1 := h.row hj
  have h2 := h.col hj
  by_cases q : wa j < th j
  · rw [spv_g q]
    exact ⟨fun z => ⟨q, by omega⟩, fun z => by have := z.2; omega⟩
  · rw [spv_t q]
    exact ⟨fun z => by omega, fun z => absurd z.1 q⟩
theorem NCC.neg {d : Nat → Nat → Nat} {th wa : Nat → Nat} {lam : Nat} {π : Nat → Nat} {x : Nat → Nat → Nat} (h : NCC d th wa lam π x) {j : Nat} (hj : j < 12) : spv th wa x j < 0 ↔ (th j < wa j ∧ clS x j < wa j - th j) := by
  have h1 := h.row hj
  have h2 := h.col hj
  by_cases q : wa j < th j
  · rw [spv_g q]
    exact ⟨fun z => by omega, fun z => by have := z.1; omega⟩
  · rw [spv_t q]
    exact ⟨fun z => ⟨by omega, by omega⟩, fun z => by have := z.2; omega⟩
theorem NCC.spb {d : Nat → Nat → Nat} {th wa : Nat → Nat} {lam : Nat} {π : Nat → Nat} {x : Nat → Nat → Nat} (h : NCC d th wa lam π x) {j : Nat} (hj : j < 12) (h9 : th j ≤ 9 ∧ wa j ≤ 9) : -9 ≤ spv th wa x j ∧ spv th wa x j ≤ 9 := by
  have h1 := h.row hj
  have h2 := h.col hj
  obtain ⟨h3, h4⟩ := h9
  by_cases q : wa j < th j
  · rw [spv_g q]; omega
  · rw [spv_t q]; omega
theorem NCC.x9 {d : Nat → Nat → Nat} {th wa : Nat → Nat} {lam : Nat} {π : Nat → Nat} {x : Nat → Nat → Nat} (h : NCC d th wa lam π x) (h9 : ∀ j, j < 12 → th j ≤ 9 ∧ wa j ≤ 9) : ∀ a b, a < 12 → b < 12 → x a b < 1000000 := fun a b ha hb => by
  have h1 := sm_part (f := x a) (n := 12) hb
  have h2 := h.row ha
  have h3 := (h9 a ha).1
  have h4 : rwS x a = sm (x a) 12 := rfl
  omega
theorem SC_i {th wa : Nat → Nat} {x : Nat → Nat → Nat} {n : Nat} : SC th wa x n ↔ (wa n < th n ∧ rwS x n < th n - wa n) := ⟨fun h => ⟨gK_lt h.1, h.2⟩, fun h => ⟨gK_t h.1, h.2⟩⟩
theorem stepFromK {F : Nat} (hF : 12 < F) {d : Nat → Nat → Nat} {th wa π : Nat → Nat} {x : Nat → Nat → Nat} {M0 : SS} (hM : KW d th wa x M0) (h9 : ∀ j, j < 12 → th j ≤ 9 ∧ wa j ≤ 9) (hx : ∀ a b, a < 12 → b < 12 → x a b < 1000000) (hd : ∀ a b, a < 12 → b < 12 → d a b ≤ 2200 ∨ d a b = 1000000) (hsy : ∀ a b, a < 12 → b < 12 → d a b = d b a) (hG : Gph 12 (WC d th wa) (AC d th wa) (BC th wa x) π (SC th wa x)) {m : Nat} (hm : m < 12) {S : SS} {far0 : Nat → Nat} {pr0 : Nat → Option Nat} (hfm : far0 m < 1000000) (h : KB d th wa π x M0 S far0 pr0) :
    ∃ S' far' pr' mo, KS d th wa π x M0 far0 m 12 S' far' pr' mo ∧ far' m = far0 m ∧ k3_stepFrom F S (nI m) = some (bI mo, S') := by
  obtain ⟨r, ⟨S', far', pr', mo, e1, e2, e3⟩, he⟩ := lp_inv (z := fun _ _ _ => none) (f := fun rec => k3_stepFrom_B4 F (nI m) rec) (fun (s : (SS × (Nat → Nat) × (Nat → Option Nat) × Bool) × Nat) g => g s.1.1 (bI s.1.2.2.2) (nI s.2)) (fun s => KS d th wa π x M0 far0 m s.2 s.1.1 s.1.2.1 s.1.2.2.1 s.1.2.2.2 ∧ s.1.2.1 m = far0 m ∧ s.2 ≤ 12) (fun s => 12 - s.2) (fun r => ∃ S' far' pr' mo, KS d th wa π x M0 far0 m 12 S' far' pr' mo ∧ far' m = far0 m ∧ r = some (bI mo, S')) (by
    rintro ⟨⟨S, far, pr, mo⟩, b⟩ ⟨k1, k2, hb⟩
    dsimp only at k1 k2 hb
    by_cases e : b = 12
    · subst e
      refine Or.inr ⟨_, ⟨S, far, pr, mo, k1, k2, rfl⟩, fun rec => ?_⟩
      dsimp only [k3_stepFrom_B4]
      rw [l12, if_pos (nI_le (Nat.le_refl 12) (by omega)), show ckB (bI mo) = some () by cases mo <;> rfl, some_b]
    · have hb : b < 12 := by omega
      obtain ⟨S', far', pr', mo', s1, s2', s3, s4, s5⟩ := pairK (F := F) hM h9 hx hd hsy hG hm hb (by rw [k2]; exact hfm) k1
      exact Or.inl ⟨((S', far', pr', mo'), b + 1), ⟨s1, s2'.trans k2, by dsimp only; omega⟩, by dsimp only; omega, s5⟩) F ((S, far0, pr0, false), 0) ⟨⟨h, fun _ _ => Nat.le_refl _, fun _ _ _ => rfl, fun n hn => absurd hn (Nat.not_lt_zero n)⟩, rfl, Nat.zero_le 12⟩ (by dsimp only; omega)
  exact ⟨S', far', pr', mo, e1, e2, by unfold k3_stepFrom; simp only [bnd_e]; rw [← e3]; exact he⟩
def f0K (th wa : Nat → Nat) (x : Nat → Nat → Nat) (n : Nat) : Nat := if wa n < th n ∧ rwS x n < th n - wa n then 0 else 1000000
theorem firstReach {F : Nat} (hF : 12 < F) {d : Nat → Nat → Nat} {th wa : Nat → Nat} (h9 : ∀ j, j < 12 → th j ≤ 9 ∧ wa j ≤ 9) {lam : Nat} {π : Nat → Nat} {x : Nat → Nat → Nat} (hC : NCC d th wa lam π x) {M : SS} (hM : KW d th wa x M) :
    ∃ S1, ((∀ q, q ≠ 33 → q ≠ 34 → S1 q = M q) ∧ ∀ n, n < 12 → S1 33 n = nI (f0K th wa x n) ∧ S1 34 n = encL none) ∧ ∀ k, lpN (fun _ _ => none) (fun rec => k3_measureReach_B2 F rec k) F M (nI 0) = k S1 := by
  exact lp_cps (z := fun _ _ => none) (f := fun k rec => k3_measureReach_B2 F rec k) (fun (s : SS × Nat) g => g s.1 (nI s.2)) (fun (t : SS) k => k t) (fun s => ((∀ q, q ≠ 33 → q ≠ 34 → s.1 q = M q) ∧ ∀ n, n < s.2 → s.1 33 n = nI (f0K th wa x n) ∧ s.1 34 n = encL none) ∧ s.2 ≤ 12) (fun s => 12 - s.2) (fun S => (∀ q, q ≠ 33 → q ≠ 34 → S q = M q) ∧ ∀ n, n < 12 → S 33 n = nI (f0K th wa x n) ∧ S 34 n = encL none) (by
    rintro ⟨S, j⟩ ⟨⟨k1, k2⟩, hj⟩
    dsimp only at k1 k2 hj
    by_cases e : j = 12
    · subst e
      refine Or.inr ⟨S, ⟨k1, k2⟩, fun k rec => ?_⟩
      dsimp only [k3_measureReach_B2]
      rw [l12, if_pos (nI_le (Nat.le_refl 12) (by omega))]
    · have hj : j < 12 := by omega
      have put : ((∀ q, q ≠ 33 → q ≠ 34 → (st (st S 33 j (nI (f0K th wa x j))) 34 j (-1)) q = M q) ∧ ∀ n, n < j + 1 → (st (st S 33 j (nI (f0K th wa x j))) 34 j (-1)) 33 n = nI (f0K th wa x n) ∧ (st (st S 33 j (nI (f0K th wa x j))) 34 j (-1)) 34 n = encL none) ∧ j + 1 ≤ 12 := by
        refine ⟨⟨fun q u1 u2 => by rw [st_o u2, st_o u1]; exact k1 q u1 u2, fun n hn => ?_⟩, by omega⟩
        rw [st_o (by decide), st_st, st_st, st_o (by decide)]
        by_cases e2 : n = j
        · rw [if_pos e2, if_pos e2, e2]; exact ⟨rfl, rfl⟩
        · rw [if_neg e2, if_neg e2]; exact k2 n (by omega)
      refine Or.inl ⟨(st (st S 33 j (nI (f0K th wa x j))) 34 j (-1), j + 1), put, by dsimp only; omega, fun k rec => ?_⟩
      have e31 : S 31 j = iI (spv th wa x j) := by rw [k1 31 (by decide) (by decide)]; exact hM.2.2.2 j hj
      have hb := hC.spb hj (h9 j hj)
      have hp := hC.pos hj
      dsimp only [k3_measureReach_B2]
      simp only [bnd_e]
      unfold f0K
      rw [l12, if_neg (nI_ge hj (by omega)), rdA_n hj (by omega), some_b, e31, ckA_n hj (by omega), some_b, some_b, some_b, some_b, clN (by omega), nI_1]
      by_cases q : wa j < th j ∧ rwS x j < th j - wa j
      · have h0 := hp.mpr q
        rw [if_neg (fun z => by have := (iI_le0 (by omega) (by omega)).mp z; omega), if_pos q]; rfl
      · have h0 := mt hp.mp q
        rw [if_pos ((iI_le0 (by omega) (by omega)).mpr (by omega)), if_neg q]; rfl) F (M, 0) ⟨⟨fun _ _ _ => rfl, fun n hn => absurd hn (Nat.not_lt_zero n)⟩, Nat.zero_le 12⟩ (by dsimp only; omega)
def KR (d : Nat → Nat → Nat) (th wa π : Nat → Nat) (x : Nat → Nat → Nat) (M0 : SS) (far0 : Nat → Nat) (m : Nat) (S : SS) (far : Nat → Nat) (pr : Nat → Option Nat) (mo : Bool) : Prop :=
  KB d th wa π x M0 S far pr ∧ (∀ n, n < 12 → far n ≤ far0 n) ∧ (mo = false → ∀ n, n < 12 → far n = far0 n) ∧ ∀ m' n, m' < m → n < 12 → PP d th wa x far0 far m' n
theorem roundK {F : Nat} (hF : 300 < F) {d : Nat → Nat → Nat} {th wa π : Nat → Nat} {x : Nat → Nat → Nat} {M0 : SS} (hM : KW d th wa x M0) (h9 : ∀ j, j < 12 → th j ≤ 9 ∧ wa j ≤ 9) (hx : ∀ a b, a < 12 → b < 12 → x a b < 1000000) (hd : ∀ a b, a < 12 → b < 12 → d a b ≤ 2200 ∨ d a b = 1000000) (hsy : ∀ a b, a < 12 → b < 12 → d a b = d b a) (hG : Gph 12 (WC d th wa) (AC d th wa) (BC th wa x) π (SC th wa x)) {S0 : SS} {far0 : Nat → Nat} {pr0 : Nat → Option Nat} (h : KB d th wa π x M0 S0 far0 pr0) (x2 : Int32) :
    ∃ t : SS × (Nat → Nat) × (Nat → Option Nat) × Bool, KR d th wa π x M0 far0 12 t.1 t.2.1 t.2.2.1 t.2.2.2 ∧ ∀ k, lpN (fun _ _ _ => none) (fun rec => k3_measureReach_B60 F x2 rec k) F S0 (bI false) (nI 0) = k t.1 (bI t.2.2.2) := by
  exact lp_cps (z := fun _ _ _ => none) (f := fun k rec => k3_measureReach_B60 F x2 rec k) (fun (s : (SS × (Nat → Nat) × (Nat → Option Nat) × Bool) × Nat) g => g s.1.1 (bI s.1.2.2.2) (nI s.2)) (fun (t : SS × (Nat → Nat) × (Nat → Option Nat) × Bool) k => k t.1 (bI t.2.2.2)) (fun s => KR d th wa π x M0 far0 s.2 s.1.1 s.1.2.1 s.1.2.2.1 s.1.2.2.2 ∧ s.2 ≤ 12) (fun s => 12 - s.2) (fun t => KR d th wa π x M0 far0 12 t.1 t.2.1 t.2.2.1 t.2.2.2) (by
    rintro ⟨⟨S, far, pr, mo⟩, m⟩ ⟨k1, hm⟩
    dsimp only at k1 hm
    by_cases e : m = 12
    · subst e
      refine Or.inr ⟨(S, far, pr, mo), k1, fun k rec => ?_⟩
      dsimp only [k3_measureReach_B60]
      rw [l12, if_pos (nI_le (Nat.le_refl 12) (by omega))]
    · have hm : m < 12 := by omega
      obtain ⟨c1, c2, c3, c4⟩ := k1
      have fm := c1.2.2.1 m hm
      have c2m := c2 m hm
      by_cases q : far m < 1000000
      · obtain ⟨S', far', pr', b, ⟨s1, s2', s3, s4⟩, s5, s6⟩ := stepFromK (F := F) (by omega) hM h9 hx hd hsy hG hm q c1
        have g3 : (mo || b) = false → ∀ n, n < 12 → far' n = far0 n := by
          intro z n hn
          cases mo with
          | true => cases z
          | false => rw [s3 z n hn]; exact c3 rfl n hn
        have g4 : ∀ m' n, m' < m + 1 → n < 12 → PP d th wa x far0 far' m' n := by
          intro m' n hm' hn hf
          have hle := s2' n hn
          by_cases e2 : m' = m
          · rw [e2] at hf ⊢
            obtain ⟨y1, y2⟩ := s4 n hn q
            exact ⟨fun z => by have := y1 z; omega, fun z => by have := y2 z; omega⟩
          · obtain ⟨y1, y2⟩ := c4 m' n (by omega) hn hf
            exact ⟨fun z => by have := y1 z; omega, fun z => by have := y2 z; omega⟩
        refine Or.inl ⟨((S', far', pr', mo || b), m + 1), ⟨⟨s1, fun n hn => Nat.le_trans (s2' n hn) (c2 n hn), g3, g4⟩, by dsimp only; omega⟩, by dsimp only; omega, fun k rec => ?_⟩
        dsimp only [k3_measureReach_B60]
        simp only [bnd_e]
        rw [l12, if_neg (nI_ge hm (by omega)), rdA_n hm (by omega), some_b, (c1.2.1 m hm).1, lM, if_neg (nI_ge q (by omega)), s6, ob2_s, nI_1]
        cases b with
        | false => rw [bI_f, if_pos rfl, Bool.or_false]
        | true => rw [bI_t, if_neg z10, Bool.or_true]; rfl
      · have g4 : ∀ m' n, m' < m + 1 → n < 12 → PP d th wa x far0 far m' n := by
          intro m' n hm' hn hf
          by_cases e2 : m' = m
          · rw [e2] at hf; omega
          · exact c4 m' n (by omega) hn hf
        refine Or.inl ⟨((S, far, pr, mo), m + 1), ⟨⟨c1, c2, c3, g4⟩, by dsimp only; omega⟩, by dsimp only; omega, fun k rec => ?_⟩
        dsimp only [k3_measureReach_B60]
        simp only [bnd_e]
        rw [l12, if_neg (nI_ge hm (by omega)), rdA_n hm (by omega), some_b, (c1.2.1 m hm).1, lM, if_pos (nI_le (by omega) (by omega)), nI_1]) F ((S0, far0, pr0, false), 0) ⟨⟨h, fun _ _ => Nat.le_refl _, fun _ _ _ => rfl, fun m' n hm' => absurd hm' (Nat.not_lt_zero m')⟩, Nat.zero_le 12⟩ (by dsimp only; omega)
theorem measureK {F : Nat} (hF : 1000000000 < F) {d : Nat → Nat → Nat} {th wa : Nat → Nat} (hd : ∀ a b, a < 12 → b < 12 → d a b ≤ 2200 ∨ d a b = 1000000) (hsy : ∀ a b, a < 12 → b < 12 → d a b = d b a) (h9 : ∀ j, j < 12 → th j ≤ 9 ∧ wa j ≤ 9) {lam : Nat} {π : Nat → Nat} {x : Nat → Nat → Nat} (hC : NCC d th wa lam π x) (hlam : lam ≤ 1000000) {M : SS} (hM : KW d th wa x M) :
    ∃ S' far pr, k3_measureReach F M = some S' ∧ KB d th wa π x M S' far pr ∧ FX (WC d th wa) (AC d th wa) (BC th wa x) far := by
  have hx := hC.x9 h9
  obtain ⟨S1, ⟨a1, a2⟩, a3⟩ := firstReach (F := F) (by omega) h9 hC hM
  have hG : Gph 12 (WC d th wa) (AC d th wa) (BC th wa x) π (SC th wa x) := hC.1
  have hB0 : BF 12 (WC d th wa) (AC d th wa) (BC th wa x) π (SC th wa x) (f0K th wa x) (fun _ => none) := BF.start hG (fun n hn => Nat.le_trans (hC.2.1 n hn) hlam) (fun n hn => by
    unfold f0K
    by_cases q : wa n < th n ∧ rwS x n < th n - wa n
    · rw [if_pos q]; exact Or.inl ⟨SC_i.mpr q, rfl⟩
    · rw [if_neg q]; exact Or.inr ⟨fun z => q (SC_i.mp z), rfl⟩) (fun _ _ => rfl)
  have hK0 : KB d th wa π x M S1 (f0K th wa x) (fun _ => none) := ⟨a1, a2, hB0⟩
  have hF0 : Few 12 (WC d th wa) (AC d th wa) (BC th wa x) (SC th wa x) 0 (f0K th wa x) := fun i hi v c hp => by
    obtain rfl : i = 0 := by omega
    obtain ⟨h1, h2, h3⟩ := hp
    rw [(hB0.2.2.1 v h1 h2).1]; exact Nat.zero_le _
  obtain ⟨r, ⟨S', far, pr, e1, e2, e3⟩, he⟩ := lp_inv (z := fun _ _ _ => none) (f := fun rec => k3_measureReach_B46 F rec) (fun (s : (SS × (Nat → Nat) × (Nat → Option Nat) × Bool) × Nat) g => g s.1.1 (bI s.1.2.2.2) (nI s.2)) (fun s => KB d th wa π x M s.1.1 s.1.2.1 s.1.2.2.1 ∧ (s.1.2.2.2 = true → Few 12 (WC d th wa) (AC d th wa) (BC th wa x) (SC th wa x) s.2 s.1.2.1) ∧ (s.1.2.2.2 = false → FX (WC d th wa) (AC d th wa) (BC th wa x) s.1.2.1) ∧ s.2 ≤ 12) (fun s => 12 - s.2) (fun r => ∃ S' far pr, r = some S' ∧ KB d th wa π x M S' far pr ∧ FX (WC d th wa) (AC d th wa) (BC th wa x) far) (by
    rintro ⟨⟨S, far, pr, mo⟩, m⟩ ⟨k1, k2, k3, hm⟩
    dsimp only at k1 k2 k3 hm
    by_cases e : m = 12
    · subst e
      refine Or.inr ⟨_, ⟨S, far, pr, rfl, k1, ?_⟩, fun rec => ?_⟩
      · cases mo with
        | true => exact (k2 rfl).fx (Nat.le_refl 12) hG k1.2.2
        | false => exact k3 rfl
      · dsimp only [k3_measureReach_B46]
        rw [l12, if_pos (nI_le (Nat.le_refl 12) (by omega))]
    · have hm : m < 12 := by omega
      cases mo with
      | false =>
        refine Or.inr ⟨_, ⟨S, far, pr, rfl, k1, k3 rfl⟩, fun rec => ?_⟩
        dsimp only [k3_measureReach_B46]
        rw [l12, if_neg (nI_ge hm (by omega)), bI_f, if_pos rfl]
      | true =>
        obtain ⟨⟨S', far', pr', mo'⟩, ⟨t1, t2, t3, t4⟩, t5⟩ := roundK (F := F) (by omega) hM h9 hx hd hsy hG k1 (nI m)
        dsimp only at t1 t2 t3 t4 t5
        have g2 : Few 12 (WC d th wa) (AC d th wa) (BC th wa x) (SC th wa x) (m + 1) far' := (k2 rfl).next hG (by omega) (fun m' n' hf => ⟨fun ha => (t4 m' n' ha.1 ha.2.1 hf).1 ha, fun hb => (t4 m' n' hb.1 hb.2.1 hf).2 hb⟩) (fun n hn hs => (t1.2.2.2.2.1 n hn hs).1)
        have g3 : mo' = false → FX (WC d th wa) (AC d th wa) (BC th wa x) far' := by
          intro z m' n' hf
          refine ⟨fun ha => ?_, fun hb => ?_⟩
          · have e0 := t3 z m' ha.1
            have := (t4 m' n' ha.1 ha.2.1 (by omega)).1 ha
            omega
          · have e0 := t3 z m' hb.1
            have := (t4 m' n' hb.1 hb.2.1 (by omega)).2 hb
            omega
        refine Or.inl ⟨((S', far', pr', mo'), m + 1), ⟨t1, fun _ => g2, g3, by dsimp only; omega⟩, by dsimp only; omega, fun rec => ?_⟩
        dsimp only [k3_measureReach_B46]
        simp only [bnd_e]
        rw [l12, if_neg (nI_ge hm (by omega)), bI_t, if_neg z10]
        exact (t5 _).trans (by rw [nI_1])) F ((S1, f0K th wa x, fun _ => none, true), 0) ⟨hK0, fun _ => hF0, fun z => (by cases z), Nat.zero_le 12⟩ (by dsimp only; omega)
  refine ⟨S', far, pr, ?_, e2, e3⟩
  unfold k3_measureReach
  simp only [bnd_e]
  refine (a3 _).trans ?_
  rw [← e1]; exact he
/-- the nearest that lacks -/
def SKK (th wa : Nat → Nat) (x : Nat → Nat → Nat) (far : Nat → Nat) (J : Nat) : Option Nat → Prop
  | none => ∀ b, b < J → spv th wa x b < 0 → far b = 1000000
  | some e => e < J ∧ spv th wa x e < 0 ∧ far e < 1000000 ∧ ∀ b, b < J → spv th wa x b < 0 → far e ≤ far b
def nrv (far : Nat → Nat) : Option Nat → Nat
  | none => 1000000
  | some e => far e
theorem goalK {F : Nat} (hF : 12 < F) {th wa : Nat → Nat} {x : Nat → Nat → Nat} {far : Nat → Nat} {S : SS} (h31 : ∀ j, j < 12 → S 31 j = iI (spv th wa x j)) (hsp : ∀ j, j < 12 → -9 ≤ spv th wa x j ∧ spv th wa x j ≤ 9) (h33 : ∀ n, n < 12 → S 33 n = nI (far n)) (hfar : ∀ n, n < 12 → far n ≤ 1000000) : ∃ en, k3_nearestGoal F S = some (encL en) ∧ SKK th wa x far 12 en := by
  obtain ⟨r, ⟨en, e1, e2⟩, he⟩ := lp_inv (z := fun _ _ _ => none) (f := fun rec => k3_nearestGoal_B7 F S rec) (fun (s : Option Nat × Nat) g => g (encL s.1) (nI (nrv far s.1)) (nI s.2)) (fun s => SKK th wa x far s.2 s.1 ∧ s.2 ≤ 12) (fun s => 12 - s.2) (fun r => ∃ en, r = some (encL en) ∧ SKK th wa x far 12 en) (by
    rintro ⟨en, j⟩ ⟨k1, hj⟩
    dsimp only at k1 hj
    by_cases e : j = 12
    · subst e
      refine Or.inr ⟨_, ⟨en, rfl, k1⟩, fun rec => ?_⟩
      dsimp only [k3_nearestGoal_B7]
      rw [l12, if_pos (nI_le (Nat.le_refl 12) (by omega))]
    · have hj : j < 12 := by omega
      have fj := hfar j hj
      have sj := hsp j hj
      have hn : nrv far en ≤ 1000000 := by
        cases en with
        | none => exact Nat.le_refl _
        | some e => exact Nat.le_of_lt k1.2.2.1
      have key : ∀ rec, k3_nearestGoal_B7 F S rec (encL en) (nI (nrv far en)) (nI j) = if (0 : Int32) ≤ iI (spv th wa x j) then rec (encL en) (nI (nrv far en)) (nI (j + 1)) else if nI (nrv far en) ≤ nI (far j) then rec (encL en) (nI (nrv far en)) (nI (j + 1)) else rec (nI j) (nI (far j)) (nI (j + 1)) := by
        intro rec
        unfold k3_nearestGoal_B7
        simp only [bnd_e]
        rw [l12, if_neg (nI_ge hj (by omega))]
        simp only [rdA_n hj (show 12 < 2147483648 by omega), some_b, h31 j hj, h33 j hj, nI_1]
      have stay : (spv th wa x j < 0 → nrv far en ≤ far j) → SKK th wa x far (j + 1) en := by
        intro z
        cases en with
        | none =>
          intro b hb hl
          by_cases q : b = j
          · rw [q] at hl ⊢
            have z1 : 1000000 ≤ far j := z hl
            omega
          · exact k1 b (by omega) hl
        | some e =>
          obtain ⟨z1, z2, z3, z4⟩ := k1
          refine ⟨by omega, z2, z3, fun b hb hl => ?_⟩
          by_cases q : b = j
          · rw [q] at hl ⊢; exact z hl
          · exact z4 b (by omega) hl
      by_cases q1 : spv th wa x j < 0
      · have n1 : ¬ (0 : Int32) ≤ iI (spv th wa x j) := fun z => by have := (iI_ge0 (by omega) (by omega)).mp z; omega
        by_cases q2 : nrv far en ≤ far j
        · refine Or.inl ⟨(en, j + 1), ⟨stay fun _ => q2, by dsimp only; omega⟩, by dsimp only; omega, fun rec => ?_⟩
          dsimp only
          rw [key, if_neg n1, if_pos (nI_le q2 (by omega))]
        · have g : SKK th wa x far (j + 1) (some j) := by
            refine ⟨Nat.lt_succ_self j, q1, by omega, fun b hb hl => ?_⟩
            by_cases q : b = j
            · rw [q]; exact Nat.le_refl _
            · cases en with
              | none => have := k1 b (by omega) hl; omega
              | some e =>
                have z1 := k1.2.2.2 b (by omega) hl
                have z2 : ¬ far e ≤ far j := q2
                omega
          refine Or.inl ⟨(some j, j + 1), ⟨g, by dsimp only; omega⟩, by dsimp only; omega, fun rec => ?_⟩
          dsimp only
          rw [key, if_neg n1, if_neg (nI_ge (by omega) (by omega))]
          rfl
      · refine Or.inl ⟨(en, j + 1), ⟨stay fun z => absurd z q1, by dsimp only; omega⟩, by dsimp only; omega, fun rec => ?_⟩
        dsimp only
        rw [key, if_pos ((iI_ge0 (by omega) (by omega)).mpr (by omega))]) F (none, 0) ⟨fun b hb => absurd hb (Nat.not_lt_zero b), Nat.zero_le 12⟩ (by dsimp only; omega)
  exact ⟨en, by unfold k3_nearestGoal; simp only [bnd_e]; rw [← e1]; exact he, e2⟩

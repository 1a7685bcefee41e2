/-! what is owed for days -/
def owS (s dy cp : Nat → Nat) (fr pr w c : Nat) : Nat → Nat × Option Nat
  | 0 => (0, none)
  | k + 1 => if s k = w then ((owS s dy cp fr pr w c k).1 + (match (owS s dy cp fr pr w c k).2 with | none => 0 | some j => if cp j = c then (dy k - dy j - fr) * pr else 0), some k) else owS s dy cp fr pr w c k
def inc (dy cp : Nat → Nat) (fr pr c k : Nat) : Option Nat → Nat
  | none => 0
  | some j => if cp j = c then (dy k - dy j - fr) * pr else 0
theorem owS_y {s dy cp : Nat → Nat} {fr pr w c k : Nat} (h : s k = w) : owS s dy cp fr pr w c (k + 1) = ((owS s dy cp fr pr w c k).1 + inc dy cp fr pr c k (owS s dy cp fr pr w c k).2, some k) := by
  conv => lhs; unfold owS
  rw [if_pos h]
  rfl
theorem owS_n {s dy cp : Nat → Nat} {fr pr w c k : Nat} (h : ¬ s k = w) : owS s dy cp fr pr w c (k + 1) = owS s dy cp fr pr w c k := by
  conv => lhs; unfold owS
  rw [if_neg h]
theorem owS_last {s dy cp : Nat → Nat} {fr pr w c : Nat} : ∀ {k j : Nat}, (owS s dy cp fr pr w c k).2 = some j → j < k
  | 0, j, h => by cases h
  | k + 1, j, h => by
    by_cases q : s k = w
    · rw [owS_y q] at h; cases h; omega
    · rw [owS_n q] at h; have := owS_last h; omega
theorem inc_le {dy cp : Nat → Nat} {fr pr c k : Nat} (hd : dy k ≤ 999) (hp : pr ≤ 100) : ∀ o, inc dy cp fr pr c k o ≤ 99900
  | none => Nat.zero_le _
  | some j => by
    show (if cp j = c then (dy k - dy j - fr) * pr else 0) ≤ 99900
    by_cases q : cp j = c
    · rw [if_pos q]
      have : (dy k - dy j - fr) * pr ≤ 999 * 100 := Nat.mul_le_mul (by omega) hp
      omega
    · rw [if_neg q]; exact Nat.zero_le _
theorem owS_le {s dy cp : Nat → Nat} {fr pr w c : Nat} (hp : pr ≤ 100) : ∀ {k : Nat}, (∀ i, i < k → dy i ≤ 999) → (owS s dy cp fr pr w c k).1 ≤ 99900 * k
  | 0, _ => Nat.le_refl 0
  | k + 1, h => by
    have ih := owS_le (s := s) (cp := cp) (fr := fr) (w := w) (c := c) hp (k := k) (fun i hi => h i (by omega))
    by_cases q : s k = w
    · rw [owS_y q]
      have := inc_le (cp := cp) (fr := fr) (c := c) (h k (by omega)) hp (owS s dy cp fr pr w c k).2
      dsimp only; omega
    · rw [owS_n q]; omega
/-- what company c owes for wagon w -/
def oN (ow s dy cp : Nat → Nat) (fr pr T w c : Nat) : Nat := if ow w = c then 0 else (owS s dy cp fr pr w c T).1
def TermP (fr pr : Nat) : Prop := fr ≤ 30 ∧ pr ≤ 100
theorem priceK {F : Nat} {S : SS} {fr pr x y : Nat} (hT : TermP fr pr) (h2 : S 5 2 = nI fr) (h3 : S 5 3 = nI pr) (hx : y ≤ x) (hx2 : x ≤ 999) : k0_priceOf F S (nI x - nI y) = some (nI ((x - y - fr) * pr)) := by
  obtain ⟨t1, t2⟩ := hT
  unfold k0_priceOf
  rw [h2, h3, sbN hx]
  by_cases q : fr < x - y
  · rw [sbN (by omega), l0, if_pos (nI_lt (by omega) (by omega)), mulN]
  · have h0 : ¬ (0 : Int32) < nI (x - y) - nI fr := by
      rw [Int32.lt_iff_toInt_lt, pk_sub_toInt (by omega) (by omega)]
      have : (0 : Int32).toInt = 0 := by decide
      omega
    rw [if_neg h0, l0, mulN]
    congr 2
    rw [show x - y - fr = 0 by omega]
theorem enc_eq {W x w : Nat} (hW : W ≤ 4) (hx : x ≤ W) (hw : w < W) : (enc W x = nI w) ↔ x = w := by
  unfold enc
  by_cases q : x = W
  · rw [if_pos q]
    exact ⟨fun z => absurd z.symm (nI_m1 (by omega)), fun z => by omega⟩
  · rw [if_neg q]; exact nI_eq (by omega) (by omega)
theorem owedK {F : Nat} (hF : 24 < F) {W T : Nat} {mk ow wm jn dy cp : Nat → Nat} (hP : RegP W T mk ow wm jn dy cp) {S : SS} (hK : RegK S W T mk ow wm jn dy cp) {fr pr : Nat} (hT : TermP fr pr) (h2 : S 5 2 = nI fr) (h3 : S 5 3 = nI pr) {s : Nat → Nat} (hs : ∀ k, k < T → S 26 k = enc W (s k) ∧ s k ≤ W) {w c : Nat} (hw : w < W) (hc : c < 8) :
    k0_owedAsJoined F S (nI w) (nI c) = some (nI (oN ow s dy cp fr pr T w c)) := by
  have hP0 := hP
  obtain ⟨p1, p2, p3, p4, p5⟩ := hP
  have hpr := hT.2
  unfold k0_owedAsJoined oN
  simp only [bnd_e]
  have how := (p3 w hw).2.2
  rw [rdA_n (by omega) (by omega), some_b, (hK.2.2.1 w hw).2]
  by_cases q : ow w = c
  · rw [if_pos (by rw [q]), if_pos q]; rfl
  · rw [if_neg (fun z => q ((nI_eq (by omega) (by omega)).mp z)), if_neg q]
    refine lp_seq (z := fun _ _ _ => none) (f := fun rec => k0_owedAsJoined_B23 F S (nI w) (nI c) rec) (fun (j : Nat) g => g (nI (owS s dy cp fr pr w c j).1) (encL (owS s dy cp fr pr w c j).2) (nI j)) (fun j => j) T _ (fun j hj rec => ?_) (fun rec => ?_) (by omega)
    · obtain ⟨e1, e2⟩ := hs j hj
      have hyj := (p4 j hj).2.2.2.1
      have hle := owS_le (s := s) (cp := cp) (fr := fr) (w := w) (c := c) hpr (k := j) (fun i hi => (p4 i (by omega)).2.2.2.1)
      unfold k0_owedAsJoined_B23
      simp only [bnd_e]
      rw [hK.2.1, if_neg (nI_ge hj (by omega)), rdA_n (by omega) (by omega), some_b, e1, nI_1]
      by_cases q2 : s j = w
      · rw [if_pos ((enc_eq p1 e2 hw).mpr q2), owS_y q2]
        cases hl : (owS s dy cp fr pr w c j).2 with
        | none =>
          rw [show encL none = -1 from rfl, if_pos rfl]
          show _ = rec (nI ((owS s dy cp fr pr w c j).1 + 0)) (nI j) (nI (j + 1))
          rfl
        | some i =>
          have hi := owS_last hl
          have hci := (p4 i (by omega)).2.2.2.2
          have hmo := dy_mono hP0 (k := i) (t := j) (by omega) hj
          rw [show encL (some i) = nI i from rfl, if_neg (nI_m1 (by omega)), rdA_n (by omega) (by omega), some_b, (hK.2.2.2 i (by omega)).2.2.2]
          show _ = rec (nI ((owS s dy cp fr pr w c j).1 + (if cp i = c then (dy j - dy i - fr) * pr else 0))) (nI j) (nI (j + 1))
          by_cases q3 : cp i = c
          · rw [if_pos (by rw [q3]), rdA_n (by omega) (by omega), some_b, rdA_n (by omega) (by omega), some_b, (hK.2.2.2 i (by omega)).2.2.1, (hK.2.2.2 j hj).2.2.1, priceK hT h2 h3 hmo hyj, some_b, nI_add, if_pos q3]
          · rw [if_neg (fun z => q3 ((nI_eq (by omega) (by omega)).mp z)), if_neg q3] <;> rfl
      · rw [if_neg (fun z => q2 ((enc_eq p1 e2 hw).mp z)), owS_n q2]
    · unfold k0_owedAsJoined_B23
      rw [hK.2.1, if_pos (nI_le (Nat.le_refl T) (by omega))]
theorem owesM {F : Nat} (hF : 24 < F) {W T : Nat} {mk ow wm jn dy cp : Nat → Nat} (hP : RegP W T mk ow wm jn dy cp) {M : SM} (hM : RegM M.1 W T mk ow wm jn dy cp) {fr pr : Nat} (hT : TermP fr pr) (h2 : M.1 0 14 = nI fr) (h3 : M.1 0 15 = nI pr) {s : Nat → Nat} (hs : ∀ k, k < T → M.1 18 k = nI (s k) ∧ s k ≤ W) {w c : Nat} (hw : w < W) (hc : c < 8) :
    k8_owes F M (nI w) (nI c) = some (nI (oN ow s dy cp fr pr T w c)) := by
  have hP0 := hP
  obtain ⟨p1, p2, p3, p4, p5⟩ := hP
  obtain ⟨hfr, hpr⟩ := hT
  have how := (p3 w hw).2.2
  unfold k8_owes
  simp only [bnd_e]
  refine lp_seq (z := fun _ _ _ => none) (f := fun rec => k8_owes_B8 F M (nI w) (nI c) rec _) (fun (j : Nat) g => g (nI (owS s dy cp fr pr w c j).1) (encL (owS s dy cp fr pr w c j).2) (nI j)) (fun j => j) T _ (fun j hj rec => ?_) (fun rec => ?_) (by omega)
  · obtain ⟨e1, e2⟩ := hs j hj
    have hyj := (p4 j hj).2.2.2.1
    have hle := owS_le (s := s) (cp := cp) (fr := fr) (w := w) (c := c) hpr (k := j) (fun i hi => (p4 i (by omega)).2.2.2.1)
    unfold k8_owes_B8
    simp only [bnd_e]
    rw [hM.2.1, if_neg (nI_ge hj (by omega)), rdA_n (by omega) (by omega), some_b, e1, nI_1]
    by_cases q2 : s j = w
    · rw [if_pos (by rw [q2]), owS_y q2]
      unfold k8_owes_B8_J56
      simp only [bnd_e]
      rw [nI_1]
      cases hl : (owS s dy cp fr pr w c j).2 with
      | none =>
        rw [show encL none = -1 from rfl, if_pos rfl, if_pos rfl]
        show _ = rec (nI ((owS s dy cp fr pr w c j).1 + 0)) (nI j) (nI (j + 1))
        rfl
      | some i =>
        have hi := owS_last hl
        have hci := (p4 i (by omega)).2.2.2.2
        have hmo := dy_mono hP0 (k := i) (t := j) (by omega) hj
        rw [show encL (some i) = nI i from rfl, if_neg (nI_m1 (by omega)), rdA_n (by omega) (by omega), some_b, rdA_n (by omega) (by omega), some_b, if_neg (nI_m1 (by omega)), rdA_n (by omega) (by omega), some_b, (hM.2.2.2 i (by omega)).2.2.2, (hM.2.2.2 i (by omega)).2.2.1, (hM.2.2.2 j hj).2.2.1, sbN hmo, h2, h3]
        show _ = rec (nI ((owS s dy cp fr pr w c j).1 + (if cp i = c then (dy j - dy i - fr) * pr else 0))) (nI j) (nI (j + 1))
        by_cases q3 : cp i = c
        · rw [if_pos (by rw [q3]), if_pos q3]
          by_cases q4 : dy j - dy i ≤ fr
          · rw [if_pos (nI_le q4 (by omega)), show dy j - dy i - fr = 0 by omega, Nat.zero_mul] <;> rfl
          · rw [if_neg (nI_ge (by omega) (by omega)), sbN (by omega), mulN, nI_add]
        · rw [if_neg (fun z => q3 ((nI_eq (by omega) (by omega)).mp z)), if_neg q3] <;> rfl
    · have hsj : s j < 2147483648 := by omega
      rw [if_neg (fun z => q2 ((nI_eq (by omega) (by omega)).mp z)), owS_n q2]
  · unfold k8_owes_B8
    rw [hM.2.1, if_pos (nI_le (Nat.le_refl T) (by omega))]
    dsimp only
    rw [rdA_n (by omega) (by omega), some_b, (hM.2.2.1 w hw).2]
    unfold oN
    by_cases q : ow w = c
    · rw [if_pos (by rw [q]), if_pos q]; rfl
    · rw [if_neg (fun z => q ((nI_eq (by omega) (by omega)).mp z).symm), if_neg q]
/-! the sum of all that is owed -/
theorem sm_one {B a : Nat} : ∀ n, sm (fun x => if x = a then B else 0) n ≤ B
  | 0 => Nat.zero_le B
  | n + 1 => by
    have ih := sm_one (B := B) (a := a) n
    unfold sm
    by_cases q : n = a
    · rw [if_pos q]
      have : sm (fun x => if x = a then B else 0) n ≤ n * 0 := sm_bd fun k hk => by rw [if_neg (by omega)]; exact Nat.le_refl 0
      omega
    · rw [if_neg q]; omega
theorem owS_2 {s dy cp : Nat → Nat} {fr pr w c c' : Nat} : ∀ k, (owS s dy cp fr pr w c k).2 = (owS s dy cp fr pr w c' k).2
  | 0 => rfl
  | k + 1 => by
    by_cases q : s k = w
    · rw [owS_y q, owS_y q]
    · rw [owS_n q, owS_n q]; exact owS_2 k
theorem inc_sum {dy cp : Nat → Nat} {fr pr k : Nat} (hd : dy k ≤ 999) (hp : pr ≤ 100) (o : Option Nat) : sm (fun c => inc dy cp fr pr c k o) 8 ≤ 99900 := by
  cases o with
  | none => exact Nat.le_trans (sm_bd (c := 0) fun _ _ => Nat.le_refl 0) (by omega)
  | some j =>
    refine Nat.le_trans (sm_le (f := fun x => if x = cp j then 99900 else 0) fun c hc => ?_) (sm_one 8)
    show (if cp j = c then (dy k - dy j - fr) * pr else 0) ≤ _
    by_cases q : cp j = c
    · rw [if_pos q]
      show _ ≤ if c = cp j then 99900 else 0
      rw [if_pos q.symm]
      have : (dy k - dy j - fr) * pr ≤ 999 * 100 := Nat.mul_le_mul (by omega) hp
      omega
    · rw [if_neg q]; exact Nat.zero_le _
theorem owS_tot {s dy cp : Nat → Nat} {fr pr W : Nat} (hp : pr ≤ 100) : ∀ {k : Nat}, (∀ i, i < k → dy i ≤ 999) → sm (fun w => sm (fun c => (owS s dy cp fr pr w c k).1) 8) W ≤ 99900 * k
  | 0, _ => Nat.le_trans (sm_bd (c := 0) fun w _ => Nat.le_trans (sm_bd (c := 0) fun c _ => Nat.le_refl 0) (by omega)) (by omega)
  | k + 1, h => by
    have ih := owS_tot (s := s) (cp := cp) (fr := fr) (W := W) hp (k := k) (fun i hi => h i (by omega))
    have hle : sm (fun w => sm (fun c => (owS s dy cp fr pr w c (k + 1)).1) 8) W ≤ sm (fun w => sm (fun c => (owS s dy cp fr pr w c k).1) 8 + if w = s k then 99900 else 0) W := by
      refine sm_le fun w hw => ?_
      by_cases q : s k = w
      · rw [if_pos q.symm]
        have e : sm (fun c => (owS s dy cp fr pr w c (k + 1)).1) 8 = sm (fun c => (owS s dy cp fr pr w c k).1 + inc dy cp fr pr c k (owS s dy cp fr pr w 0 k).2) 8 := sm_cong fun c hc => by
          rw [owS_y q, owS_2 (c := 0) (c' := c)]
        rw [e, sm_add]
        have := inc_sum (cp := cp) (fr := fr) (h k (by omega)) hp (owS s dy cp fr pr w 0 k).2
        omega
      · rw [if_neg (fun z => q z.symm)]
        have e : sm (fun c => (owS s dy cp fr pr w c (k + 1)).1) 8 = sm (fun c => (owS s dy cp fr pr w c k).1) 8 := sm_cong fun c hc => by rw [owS_n q]
        omega
    rw [sm_add] at hle
    have := sm_one (B := 99900) (a := s k) W
    omega
theorem oN_tot {ow s dy cp : Nat → Nat} {fr pr T W : Nat} (hp : pr ≤ 100) (h : ∀ i, i < T → dy i ≤ 999) : sm (fun w => sm (oN ow s dy cp fr pr T w) 8) W ≤ 99900 * T := by
  refine Nat.le_trans (sm_le fun w hw => sm_le fun c hc => ?_) (owS_tot (s := s) (cp := cp) (fr := fr) (W := W) hp h)
  unfold oN
  split
  · exact Nat.zero_le _
  · exact Nat.le_refl _

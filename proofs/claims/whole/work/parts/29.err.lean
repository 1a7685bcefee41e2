/-! errors of marks -/
def rs (a : Nat) : Nat → Nat
  | 0 => a
  | j + 1 => rs a j / 10
def dg (a j : Nat) : Nat := rs a j % 10
theorem rs_le (a : Nat) : ∀ j, rs a j ≤ a
  | 0 => Nat.le_refl a
  | j + 1 => by have := rs_le a j; unfold rs; omega
theorem dg_lt (a j : Nat) : dg a j < 10 := Nat.mod_lt _ (by omega)
def df (a b : Nat) : Nat → Nat
  | 0 => 0
  | j + 1 => df a b j + if dg a j = dg b j then 0 else 1
theorem df_le (a b : Nat) : ∀ j, df a b j ≤ j
  | 0 => Nat.le_refl 0
  | j + 1 => by have := df_le a b j; unfold df; split <;> omega
/-- turned about: at one of the first j places and the next -/
def tn (a b : Nat) : Nat → Bool
  | 0 => false
  | j + 1 => tn a b j || (!decide (dg a j = dg b j) && (decide (dg a j = dg b (j + 1)) && decide (dg a (j + 1) = dg b j)))
def er (a b : Nat) : Nat := if df a b 5 = 2 ∧ tn a b 4 = true then 1 else if df a b 5 ≤ 2 then df a b 5 else 9
theorem er_le (a b : Nat) : er a b ≤ 9 := by unfold er; split; omega; split <;> omega
theorem er_a {a b : Nat} (h : df a b 5 = 2) (t : tn a b 4 = true) : er a b = 1 := if_pos ⟨h, t⟩
theorem er_b {a b : Nat} (h : ¬ (df a b 5 = 2 ∧ tn a b 4 = true)) (h2 : df a b 5 ≤ 2) : er a b = df a b 5 := by unfold er; rw [if_neg h, if_pos h2]
theorem er_c {a b : Nat} (h2 : ¬ df a b 5 ≤ 2) : er a b = 9 := by unfold er; rw [if_neg (fun z => h2 (by omega)), if_neg h2]
def bI (b : Bool) : Int32 := if b then 1 else 0
theorem bI_t : bI true = 1 := rfl
theorem bI_f : bI false = 0 := rfl
def bhd (a : Nat) : Nat → Int32
  | 0 => -1
  | j + 1 => nI (dg a j)
theorem diff_ok {F : Nat} (hF : 8 < F) {S : SS} {a b : Nat} (ha : a ≤ 99999) (hb : b ≤ 99999) : k6_difference F S (nI a) (nI b) = some (nI (er a b)) := by
  unfold k6_difference
  simp only [bnd_e]
  refine lp_seq (z := fun _ _ _ _ _ _ _ => none) (f := fun rec => k6_difference_B19 F S rec _) (fun (j : Nat) g => g (nI (df a b j)) (bI (tn a b (j - 1))) (bhd a j) (bhd b j) (nI (rs a j)) (nI (rs b j)) (nI j)) (fun j => j) 5 _ (fun j hj rec => ?_) (fun rec => ?_) (by omega)
  · have r1 := rs_le a j
    have r2 := rs_le b j
    have d1 := dg_lt a j
    have d2 := dg_lt b j
    have hdf := df_le a b j
    have e1 : nI (rs a j) - nI (rs a j) / nI 10 * nI 10 = nI (dg a j) := pk_rem (by omega) (by omega) (by omega)
    have e2 : nI (rs b j) - nI (rs b j) / nI 10 * nI 10 = nI (dg b j) := pk_rem (by omega) (by omega) (by omega)
    have e3 : nI (rs a j) / nI 10 = nI (rs a (j + 1)) := pk_div (by omega) (by omega) (by omega)
    have e4 : nI (rs b j) / nI 10 = nI (rs b (j + 1)) := pk_div (by omega) (by omega) (by omega)
    have hJ : ∀ (x2 : Nat) (x3 : Int32), k6_difference_B19_J73 F S rec (fun x2_22 x3_22 => if x2_22 = ((2 : Int32)) then (if x3_22 = 0 then (k6_difference_J112 F S (x2_22)) else (some ((1 : Int32)))) else (k6_difference_J112 F S (x2_22))) (nI x2) x3 (nI (rs a j)) (nI (rs b j)) (nI j) (nI (dg a j)) (nI (dg b j)) = rec (nI x2) x3 (bhd a (j + 1)) (bhd b (j + 1)) (nI (rs a (j + 1))) (nI (rs b (j + 1))) (nI (j + 1)) := by
      intro x2 x3
      unfold k6_difference_B19_J73
      simp only [bnd_e]
      rw [l10, e3, e4, nI_1]
      rfl
    unfold k6_difference_B19
    simp only [bnd_e]
    rw [l5, if_neg (nI_ge hj (by omega)), l10, e1, e2]
    by_cases q : dg a j = dg b j
    · rw [if_pos (by rw [q]), hJ]
      have ed : df a b (j + 1) = df a b j := by show df a b j + (if dg a j = dg b j then 0 else 1) = _; rw [if_pos q]; rfl
      have et : tn a b (j + 1 - 1) = tn a b (j - 1) := by
        cases j with
        | zero => rfl
        | succ i =>
          show (tn a b i || (!decide (dg a i = dg b i) && (decide (dg a i = dg b (i + 1)) && decide (dg a (i + 1) = dg b i)))) = tn a b i
          by_cases q2 : dg a i = dg b i
          · simp [q2]
          · have : ¬ (dg a i = dg b (i + 1) ∧ dg a (i + 1) = dg b i) := fun z => q2 (by rw [z.1, ← q, z.2])
            by_cases q3 : dg a i = dg b (i + 1)
            · have q4 : ¬ dg a (i + 1) = dg b i := fun z => this ⟨q3, z⟩
              simp [q4]
            · simp [q3]
      rw [ed, et]
    · rw [if_neg (fun z => q ((nI_eq (by omega) (by omega)).mp z)), nI_1]
      have ed : df a b (j + 1) = df a b j + 1 := by show df a b j + (if dg a j = dg b j then 0 else 1) = _; rw [if_neg q]
      rw [ed]
      unfold k6_difference_B19_J67 k6_difference_B19_J71 k6_difference_B19_J72
      simp only [bnd_e]
      rw [hJ, hJ]
      cases j with
      | zero =>
        rw [if_pos (show bI (tn a b (0 - 1)) = 0 from rfl)]
        show (if nI (dg a 0) = -1 then _ else _) = _
        rw [if_neg (nI_m1 (by omega))]
        rfl
      | succ i =>
        show (if bI (tn a b i) = 0 then _ else _) = rec _ (bI (tn a b i || (!decide (dg a i = dg b i) && (decide (dg a i = dg b (i + 1)) && decide (dg a (i + 1) = dg b i))))) _ _ _ _ _
        have d3 := dg_lt a i
        have d4 := dg_lt b i
        cases ht : tn a b i with
        | true => rw [bI_t, if_neg z10]; rfl
        | false =>
          rw [bI_f, if_pos rfl]
          show (if nI (dg a (i + 1)) = nI (dg b i) then (if nI (dg b (i + 1)) = nI (dg a i) then _ else _) else _) = _
          by_cases q3 : dg a (i + 1) = dg b i
          · rw [if_pos (by rw [q3])]
            by_cases q4 : dg b (i + 1) = dg a i
            · rw [if_pos (by rw [q4])]
              have q5 : ¬ dg a i = dg b i := fun z => q (by rw [q3, q4, z])
              simp [q3, q4, q5, bI]
            · rw [if_neg (fun z => q4 ((nI_eq (by omega) (by omega)).mp z))]
              have q6 : ¬ dg a i = dg b (i + 1) := fun z => q4 z.symm
              simp [q6, bI]
          · rw [if_neg (fun z => q3 ((nI_eq (by omega) (by omega)).mp z))]
            simp [q3, bI]
  · have hdf := df_le a b 5
    unfold k6_difference_B19
    rw [l5, if_pos (nI_le (Nat.le_refl 5) (by omega))]
    unfold k6_difference_J112
    show (if nI (df a b 5) = 2 then (if bI (tn a b 4) = 0 then _ else _) else _) = _
    rw [l2]
    by_cases q : df a b 5 = 2
    · rw [if_pos (by rw [q])]
      cases ht : tn a b 4 with
      | true => rw [bI_t, if_neg z10, er_a q ht]; rfl
      | false => rw [bI_f, if_pos rfl, er_b (fun z => by rw [ht] at z; cases z.2) (by omega), q, if_pos (nI_le (Nat.le_refl 2) (by omega))]
    · rw [if_neg (fun z => q ((nI_eq (by omega) (by omega)).mp z))]
      by_cases q2 : df a b 5 ≤ 2
      · rw [if_pos (nI_le q2 (by omega)), er_b (fun z => q z.1) q2]
      · rw [if_neg (nI_ge (by omega) (by omega)), er_c q2]; rfl
theorem digit_ok {F : Nat} (hF : 8 < F) {S : SM} {a k : Nat} (ha : a ≤ 99999) (hk : k ≤ 5) : k8_digit F S (nI a) (nI k) = some (nI (dg a k)) := by
  unfold k8_digit
  simp only [bnd_e]
  refine lp_seq (z := fun _ _ => none) (f := fun rec => k8_digit_B4 F S (nI k) rec) (fun (j : Nat) g => g (nI (rs a j)) (nI j)) (fun j => j) k _ (fun j hj rec => ?_) (fun rec => ?_) (by omega)
  · have r1 := rs_le a j
    unfold k8_digit_B4
    simp only [bnd_e]
    rw [if_neg (nI_ge hj (by omega)), l10, pk_div (by omega) (by omega) (by omega), nI_1]
    rfl
  · have r1 := rs_le a k
    unfold k8_digit_B4
    rw [if_pos (nI_le (Nat.le_refl k) (by omega)), l10, pk_rem (by omega) (by omega) (by omega)]
    rfl
theorem errM_ok {F : Nat} (hF : 8 < F) {S : SM} {a b : Nat} (ha : a ≤ 99999) (hb : b ≤ 99999) : k8_errorOf F S (nI a) (nI b) = some (nI (er a b)) := by
  unfold k8_errorOf
  simp only [bnd_e]
  refine lp_seq (z := fun _ _ _ => none) (f := fun rec => k8_errorOf_B7 F S (nI a) (nI b) rec _) (fun (j : Nat) g => g (nI (df a b j)) (bI (tn a b (min j 4))) (nI j)) (fun j => j) 5 _ (fun j hj rec => ?_) (fun rec => ?_) (by omega)
  · have d1 := dg_lt a j
    have d2 := dg_lt b j
    have d3 := dg_lt a (j + 1)
    have d4 := dg_lt b (j + 1)
    have hdf := df_le a b j
    have hJ : ∀ (x k), k8_errorOf_B7_J34 F S (nI a) (nI b) rec k (bI (tn a b (min j 4))) (nI j) (nI x) (nI (df a b j)) = rec (nI (df a b j + x)) (bI (tn a b (min (j + 1) 4))) (nI (j + 1)) := by
      intro x k
      unfold k8_errorOf_B7_J34
      simp only [bnd_e]
      rw [nI_add]
      by_cases h4 : j = 4
      · subst h4
        show (if bI (tn a b 4) = 0 then _ else _) = rec _ (bI (tn a b 4)) _
        cases ht : tn a b 4 with
        | true => rw [bI_t, if_neg z10, nI_1]
        | false => rw [bI_f, if_pos rfl, l4, if_pos (nI_le (Nat.le_refl 4) (by omega)), nI_1]
      · have e1 : min j 4 = j := by omega
        have e2 : min (j + 1) 4 = j + 1 := by omega
        rw [e1, e2]
        show _ = rec _ (bI (tn a b j || (!decide (dg a j = dg b j) && (decide (dg a j = dg b (j + 1)) && decide (dg a (j + 1) = dg b j))))) _
        cases ht : tn a b j with
        | true => rw [bI_t, if_neg z10, nI_1]; rfl
        | false =>
          rw [bI_f, if_pos rfl, l4, if_neg (nI_ge (by omega) (by omega)), nI_1, digit_ok hF ha (by omega), some_b, digit_ok hF hb (by omega), some_b, some_b, digit_ok hF hb (by omega), some_b, digit_ok hF ha (by omega), some_b, some_b]
          by_cases q1 : dg a j = dg b j
          · rw [if_pos (by rw [q1])]; simp [q1, bI]
          · rw [if_neg (fun z => q1 ((nI_eq (by omega) (by omega)).mp z))]
            by_cases q2 : dg a j = dg b (j + 1)
            · rw [if_pos (by rw [q2])]
              by_cases q3 : dg a (j + 1) = dg b j
              · rw [if_pos (by rw [q3])]
                have q1' : ¬ dg b (j + 1) = dg b j := fun z => q1 (q2.trans z)
                simp [q2, q3, q1', bI]
              · rw [if_neg (fun z => q3 ((nI_eq (by omega) (by omega)).mp z))]; simp [q3, bI]
            · rw [if_neg (fun z => q2 ((nI_eq (by omega) (by omega)).mp z))]; simp [q2, bI]
    unfold k8_errorOf_B7
    rw [l5, if_neg (nI_ge hj (by omega)), digit_ok hF ha (by omega), some_b, digit_ok hF hb (by omega), some_b]
    by_cases q : dg a j = dg b j
    · have ed : df a b (j + 1) = df a b j + 0 := by show df a b j + (if dg a j = dg b j then 0 else 1) = _; rw [if_pos q]
      rw [if_pos (by rw [q]), ed]
      exact hJ 0 _
    · have ed : df a b (j + 1) = df a b j + 1 := by show df a b j + (if dg a j = dg b j then 0 else 1) = _; rw [if_neg q]
      rw [if_neg (fun z => q ((nI_eq (by omega) (by omega)).mp z)), ed]
      exact hJ 1 _
  · have hdf := df_le a b 5
    unfold k8_errorOf_B7
    rw [l5, if_pos (nI_le (Nat.le_refl 5) (by omega))]
    show (if nI (df a b 5) ≤ 2 then (if nI (df a b 5) = 2 then (if bI (tn a b 4) = 0 then _ else _) else _) else _) = _
    rw [l2]
    by_cases q2 : df a b 5 ≤ 2
    · rw [if_pos (nI_le q2 (by omega))]
      by_cases q : df a b 5 = 2
      · rw [if_pos (by rw [q])]
        cases ht : tn a b 4 with
        | true => rw [bI_t, if_neg z10, er_a q ht]; rfl
        | false => rw [bI_f, if_pos rfl, er_b (fun z => by rw [ht] at z; cases z.2) q2]
      · rw [if_neg (fun z => q ((nI_eq (by omega) (by omega)).mp z)), er_b (fun z => q z.1) q2]
    · rw [if_neg (nI_ge (by omega) (by omega)), er_c q2]; rfl

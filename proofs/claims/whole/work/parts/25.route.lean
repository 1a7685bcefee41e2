/-! least and route, of both -/
def lsV (n : Nat) : Int32 := if n < 1000000 then nI n else -1
theorem leastK_v {F : Nat} {S : SS} {N : Nat} {A B C L : Nat → Nat} {d : Nat → Nat → Nat} (hP : NetP N A B C L d) (hK : NetK S N A B C L d) {u v : Nat} (hu : u < 12) (hv : v < 12) : k4_milesBetween F S (nI u) (nI v) = some (lsV (d u v)) := by
  have hb := hP.2.2.2.1.2.1 u v hu hv
  unfold k4_milesBetween lsV
  simp only [bnd_e]
  rw [isJ_y hu, some_b, if_neg z10, isJ_y hv, some_b, if_neg z10, l12, mulN, nI_add, rdA_n (by omega) (by omega), some_b, hK.2.2 u v hu hv, lM]
  by_cases q : d u v < 1000000
  · rw [if_pos (nI_lt q (by omega)), if_pos q]
  · rw [if_neg (nI_nlt (by omega) (by omega)), if_neg q]
theorem leastK_n {F : Nat} {S : SS} {x1 x2 : Int32} (h : (x1 < 0 ∨ nI 12 ≤ x1) ∨ (x2 < 0 ∨ nI 12 ≤ x2)) : k4_milesBetween F S x1 x2 = some (-1) := by
  unfold k4_milesBetween
  rcases rng x1 12 (by omega) with ⟨a, ha, rfl⟩ | h1
  · have h2 := h.resolve_left (fun q => q.elim (nI_nn (by omega)) (nI_ge ha (by omega)))
    rw [isJ_y ha, some_b, if_neg z10, isJ_n h2, some_b, if_pos rfl]
  · rw [isJ_n h1, some_b, if_pos rfl]
theorem leastM_v {F : Nat} {M : SM} {N : Nat} {A B C L : Nat → Nat} {d : Nat → Nat → Nat} (hP : NetP N A B C L d) (hM : NetM M.1 N A B C L d) {u v : Nat} (hu : u < 12) (hv : v < 12) : k8_least F M (nI u) (nI v) = some (lsV (d u v)) := by
  have hb := hP.2.2.2.1.2.1 u v hu hv
  unfold k8_least lsV
  simp only [bnd_e]
  rw [jM_y hu, some_b, if_neg z10, jM_y hv, some_b, if_neg z10, l12, mulN, nI_add, rdA_n (by omega) (by omega), some_b, hM.2.2 u v hu hv, lM]
  by_cases q : d u v < 1000000
  · rw [if_pos (nI_lt q (by omega)), if_pos q]
  · rw [if_neg (nI_nlt (by omega) (by omega)), if_neg q]
theorem leastM_n {F : Nat} {M : SM} {x1 x2 : Int32} (h : (x1 < 0 ∨ nI 12 ≤ x1) ∨ (x2 < 0 ∨ nI 12 ≤ x2)) : k8_least F M x1 x2 = some (-1) := by
  unfold k8_least
  rcases rng x1 12 (by omega) with ⟨a, ha, rfl⟩ | h1
  · have h2 := h.resolve_left (fun q => q.elim (nI_nn (by omega)) (nI_ge ha (by omega)))
    rw [jM_y ha, some_b, if_neg z10, jM_n h2, some_b, if_pos rfl]
  · rw [jM_n h1, some_b, if_pos rfl]
theorem lsV_lt {n : Nat} (h : n < 1000000) : lsV n = nI n := if_pos h
theorem lsV_ge {n : Nat} (h : ¬ n < 1000000) : lsV n = -1 := if_neg h
theorem nI_m1 {n : Nat} (h : n < 2147483648) : ¬ nI n = -1 := fun q => (m1N h).mp q
theorem lsV_m1 {n : Nat} : lsV n = -1 ↔ ¬ n < 1000000 := by
  unfold lsV
  split
  · rename_i h; exact ⟨fun q => absurd q (nI_m1 (by omega)), fun q => absurd h q⟩
  · rename_i h; exact ⟨fun _ => h, fun _ => rfl⟩
/-- the other end of a line -/
def oth (A B : Nat → Nat) (l u : Nat) : Option Nat := if A l = u then some (B l) else if B l = u then some (A l) else none
def othV : Option Nat → Int32
  | none => -1
  | some w => nI w
theorem farK {F : Nat} {S : SS} {N : Nat} {A B C L : Nat → Nat} {d : Nat → Nat → Nat} (hP : NetP N A B C L d) (hK : NetK S N A B C L d) {l u : Nat} (hl : l < N) (hu : u < 12) : k4_farEnd F S (nI l) (nI u) = some (othV (oth A B l u)) := by
  have hN := hP.1
  obtain ⟨g1, g2, -⟩ := hP.2.1 l hl
  obtain ⟨e1, e2, -⟩ := hK.2.1 l hl
  unfold k4_farEnd oth
  rw [if_neg (nI_nn (by omega)), hK.1, if_pos (nI_lt hl (by omega)), rdA_n (by omega) (by omega), some_b, rdA_n (by omega) (by omega), some_b, some_b, some_b, e1, e2]
  by_cases q : A l = u
  · rw [if_pos (by rw [q]), if_pos q]; rfl
  · rw [if_neg (fun z => q ((nI_eq (by omega) (by omega)).mp z)), if_neg q]
    by_cases q2 : B l = u
    · rw [if_pos (by rw [q2]), if_pos q2]; rfl
    · rw [if_neg (fun z => q2 ((nI_eq (by omega) (by omega)).mp z)), if_neg q2]; rfl
theorem farM {F : Nat} {M : SM} {N : Nat} {A B C L : Nat → Nat} {d : Nat → Nat → Nat} (hP : NetP N A B C L d) (hM : NetM M.1 N A B C L d) {l u : Nat} (hl : l < N) (hu : u < 12) : k8_otherEnd F M (nI l) (nI u) = some (othV (oth A B l u)) := by
  have hN := hP.1
  obtain ⟨g1, g2, -⟩ := hP.2.1 l hl
  obtain ⟨e1, e2, -⟩ := hM.2.1 l hl
  unfold k8_otherEnd oth
  rw [rdA_n (by omega) (by omega), some_b, rdA_n (by omega) (by omega), some_b, some_b, some_b, e1, e2]
  by_cases q : A l = u
  · rw [if_pos (by rw [q]), if_pos q]; rfl
  · rw [if_neg (fun z => q ((nI_eq (by omega) (by omega)).mp z)), if_neg q]
    by_cases q2 : B l = u
    · rw [if_pos (by rw [q2]), if_pos q2]; rfl
    · rw [if_neg (fun z => q2 ((nI_eq (by omega) (by omega)).mp z)), if_neg q2]; rfl
theorem oth_lt {N : Nat} {A B C L : Nat → Nat} {d : Nat → Nat → Nat} (hP : NetP N A B C L d) {l u w : Nat} (hl : l < N) (h : oth A B l u = some w) : w < 12 := by
  obtain ⟨g1, g2, -⟩ := hP.2.1 l hl
  unfold oth at h
  split at h
  · cases h; exact g2
  · split at h
    · cases h; exact g1
    · cases h
/-- the best of the first lines: its number, its junction -/
def rtS (A B L : Nat → Nat) (d : Nat → Nat → Nat) (u v : Nat) : Nat → Option (Nat × Nat)
  | 0 => none
  | l + 1 => match oth A B l u with
    | none => rtS A B L d u v l
    | some w => if L l + d w v = d u v ∧ (∀ q, rtS A B L d u v l = some q → w < q.2) then some (l, w) else rtS A B L d u v l
theorem rtS_ok {A B L : Nat → Nat} {d : Nat → Nat → Nat} {u v : Nat} : ∀ {n l w : Nat}, rtS A B L d u v n = some (l, w) → l < n ∧ oth A B l u = some w ∧ L l + d w v = d u v
  | 0, l, w, h => by cases h
  | n + 1, l, w, h => by
    unfold rtS at h
    split at h
    · have := rtS_ok h; exact ⟨by omega, this.2⟩
    · rename_i w' hw
      split at h
      · rename_i hc
        cases h
        exact ⟨by omega, hw, hc.1⟩
      · have := rtS_ok h; exact ⟨by omega, this.2⟩
theorem rtS_ex {A B L : Nat → Nat} {d : Nat → Nat → Nat} {u v l w : Nat} (ho : oth A B l u = some w) (hd : L l + d w v = d u v) : ∀ n, l < n → ∃ q, rtS A B L d u v n = some q
  | 0, h => absurd h (Nat.not_lt_zero l)
  | n + 1, h => by
    by_cases e : l = n
    · subst e
      unfold rtS
      rw [ho]
      dsimp only
      by_cases hc : L l + d w v = d u v ∧ (∀ q, rtS A B L d u v l = some q → w < q.2)
      · rw [if_pos hc]; exact ⟨_, rfl⟩
      · rw [if_neg hc]
        cases hr : rtS A B L d u v l with
        | none => exact absurd ⟨hd, fun q hq => by rw [hr] at hq; cases hq⟩ hc
        | some q => exact ⟨q, rfl⟩
    · obtain ⟨q, hq⟩ := rtS_ex ho hd n (by omega)
      unfold rtS
      split
      · exact ⟨q, hq⟩
      · split
        · exact ⟨_, rfl⟩
        · exact ⟨q, hq⟩
theorem rt_ex {N : Nat} {A B C L : Nat → Nat} {d : Nat → Nat → Nat} (hP : NetP N A B C L d) {u v : Nat} (hu : u < 12) (hv : v < 12) (hne : u ≠ v) (hf : d u v < 1000000) : ∃ l w, rtS A B L d u v N = some (l, w) ∧ l < N ∧ w < 12 ∧ oth A B l u = some w ∧ L l + d w v = d u v := by
  obtain ⟨l, hl, hc⟩ := hP.2.2.2.next hP.2.1 hu hv hne hf
  have : ∃ q, rtS A B L d u v N = some q := by
    rcases hc with ⟨e1, e2⟩ | ⟨e1, e2⟩
    · exact rtS_ex (l := l) (w := B l) (by unfold oth; rw [if_pos e1]) e2.symm N hl
    · obtain ⟨-, -, g3, -⟩ := hP.2.1 l hl
      exact rtS_ex (l := l) (w := A l) (by unfold oth; rw [if_neg (fun q => g3 (q.trans e1.symm)), if_pos e1]) e2.symm N hl
  obtain ⟨⟨l', w'⟩, hq⟩ := this
  obtain ⟨k1, k2, k3⟩ := rtS_ok hq
  exact ⟨l', w', hq, k1, oth_lt hP k1 k2, k2, k3⟩
def bL : Option (Nat × Nat) → Int32
  | none => -1
  | some q => nI q.1
def bJ : Option (Nat × Nat) → Nat
  | none => 12
  | some q => q.2
theorem routeK_in {F : Nat} {S : SS} {N : Nat} {A B C L : Nat → Nat} {d : Nat → Nat → Nat} (hF : 24 < F) (hP : NetP N A B C L d) (hK : NetK S N A B C L d) {u v : Nat} (hu : u < 12) (hv : v < 12) :
    lpN (fun _ _ _ => none) (fun rec => k4_lineTowards_B29 F S (nI u) (nI v) (nI (d u v)) rec) F (-1) (nI 12) (nI 0) = some (bL (rtS A B L d u v N)) := by
  have hN := hP.1
  have hdb := hP.2.2.2.1.2.1
  refine lp_seq (z := fun _ _ _ => none) (f := fun rec => k4_lineTowards_B29 F S (nI u) (nI v) (nI (d u v)) rec) (fun (s : Option (Nat × Nat) × Nat) g => g (bL s.1) (nI (bJ s.1)) (nI s.2)) (fun j => (rtS A B L d u v j, j)) N _ (fun j hj rec => ?_) (fun rec => ?_) (by omega)
  · obtain ⟨g1, g2, g3, g4, g5⟩ := hP.2.1 j hj
    obtain ⟨e1, e2, e3, e4⟩ := hK.2.1 j hj
    dsimp only
    unfold k4_lineTowards_B29
    simp only [bnd_e]
    rw [hK.1, if_neg (nI_ge hj (by omega)), farK hP hK hj hu, some_b, nI_1]
    cases ho : oth A B j u with
    | none =>
      have hrt : rtS A B L d u v (j + 1) = rtS A B L d u v j := by
        conv => lhs; unfold rtS
        rw [ho]
      rw [show othV none = -1 from rfl, if_pos rfl, hrt]
    | some w =>
      have hw := oth_lt hP hj ho
      have hwd := hdb w v hw hv
      rw [show othV (some w) = nI w from rfl, if_neg (nI_m1 (by omega)), rdA_n (by omega) (by omega), some_b, l12, mulN, nI_add, rdA_n (by omega) (by omega), some_b, e4, hK.2.2 w v hw hv, nI_add]
      have hbj : bJ (rtS A B L d u v j) ≤ 12 := by
        cases hr : rtS A B L d u v j with
        | none => exact Nat.le_refl 12
        | some q => obtain ⟨k1, k2, -⟩ := rtS_ok (l := q.1) (w := q.2) hr; exact Nat.le_of_lt (oth_lt hP (by omega) k2)
      have hrt : rtS A B L d u v (j + 1) = if L j + d w v = d u v ∧ (∀ q, rtS A B L d u v j = some q → w < q.2) then some (j, w) else rtS A B L d u v j := by
        conv => lhs; unfold rtS
        rw [ho]
      by_cases q1 : bJ (rtS A B L d u v j) ≤ w
      · rw [if_pos (nI_le q1 (by omega)), hrt, if_neg]
        rintro ⟨-, z⟩
        cases hr : rtS A B L d u v j with
        | none => rw [hr] at q1; exact absurd q1 (by show ¬ 12 ≤ w; omega)
        | some q => have := z q hr; rw [hr] at q1; exact absurd q1 (by show ¬ q.2 ≤ w; omega)
      · rw [if_neg (nI_ge (by omega) (by omega))]
        have z : ∀ q, rtS A B L d u v j = some q → w < q.2 := fun q hq => by rw [hq] at q1; exact Nat.not_le.mp q1
        by_cases q2 : L j + d w v = d u v
        · rw [if_pos (by rw [q2]), hrt, if_pos ⟨q2, z⟩]; rfl
        · have hdu := hdb u v hu hv
          rw [if_neg (fun e => q2 ((nI_eq (by omega) (by omega)).mp e)), hrt, if_neg (fun e => q2 e.1)]
  · dsimp only
    unfold k4_lineTowards_B29
    simp only [bnd_e]
    rw [hK.1, if_pos (nI_le (Nat.le_refl N) (by omega))]
theorem routeK_v {F : Nat} {S : SS} {N : Nat} {A B C L : Nat → Nat} {d : Nat → Nat → Nat} (hF : 24 < F) (hP : NetP N A B C L d) (hK : NetK S N A B C L d) {u v : Nat} (hu : u < 12) (hv : v < 12) (hne : u ≠ v) (hf : d u v < 1000000) : k4_lineTowards F S (nI u) (nI v) = some (bL (rtS A B L d u v N)) := by
  unfold k4_lineTowards
  simp only [bnd_e]
  rw [leastK_v hP hK hu hv, some_b, lsV_lt hf, if_neg (nI_m1 (by omega)), if_neg (fun q => hne ((nI_eq (by omega) (by omega)).mp q))]
  exact routeK_in hF hP hK hu hv
theorem routeK_n {F : Nat} {S : SS} {N : Nat} {A B C L : Nat → Nat} {d : Nat → Nat → Nat} (hP : NetP N A B C L d) (hK : NetK S N A B C L d) {x1 x2 : Int32} (h : ¬ ∃ u v, u < 12 ∧ v < 12 ∧ x1 = nI u ∧ x2 = nI v ∧ u ≠ v ∧ d u v < 1000000) : k4_lineTowards F S x1 x2 = some (-1) := by
  unfold k4_lineTowards
  simp only [bnd_e]
  rcases rng x1 12 (by omega) with ⟨u, hu, rfl⟩ | h1
  · rcases rng x2 12 (by omega) with ⟨v, hv, rfl⟩ | h2
    · rw [leastK_v hP hK hu hv, some_b]
      by_cases q : d u v < 1000000
      · rw [lsV_lt q, if_neg (nI_m1 (by omega))]
        by_cases e : u = v
        · rw [if_pos (by rw [e])]
        · exact absurd ⟨u, v, hu, hv, rfl, rfl, e, q⟩ h
      · rw [lsV_ge q, if_pos rfl]
    · rw [leastK_n (Or.inr h2), some_b, if_pos rfl]
  · rw [leastK_n (Or.inl h1), some_b, if_pos rfl]
theorem routeM_in {F : Nat} {M : SM} {N : Nat} {A B C L : Nat → Nat} {d : Nat → Nat → Nat} (hF : 24 < F) (hP : NetP N A B C L d) (hM : NetM M.1 N A B C L d) {u v : Nat} (hu : u < 12) (hv : v < 12) (hf : d u v < 1000000) :
    lpN (fun _ _ => none) (fun rec => k8_route_B22 F M (nI u) (nI v) rec) F (-1) (nI 0) = some (bL (rtS A B L d u v N)) := by
  have hN := hP.1
  have hdb := hP.2.2.2.1.2.1
  refine lp_seq (z := fun _ _ => none) (f := fun rec => k8_route_B22 F M (nI u) (nI v) rec) (fun (s : Option (Nat × Nat) × Nat) g => g (bL s.1) (nI s.2)) (fun j => (rtS A B L d u v j, j)) N _ (fun j hj rec => ?_) (fun rec => ?_) (by omega)
  · obtain ⟨g1, g2, g3, g4, g5⟩ := hP.2.1 j hj
    obtain ⟨e1, e2, e3, e4⟩ := hM.2.1 j hj
    dsimp only
    unfold k8_route_B22
    simp only [bnd_e]
    rw [hM.1, if_neg (nI_ge hj (by omega)), farM hP hM hj hu, some_b, nI_1]
    cases ho : oth A B j u with
    | none =>
      have hrt : rtS A B L d u v (j + 1) = rtS A B L d u v j := by
        conv => lhs; unfold rtS
        rw [ho]
      rw [show othV none = -1 from rfl, if_pos rfl, hrt]
    | some w =>
      have hw := oth_lt hP hj ho
      have hwd := hdb w v hw hv
      have hrt : rtS A B L d u v (j + 1) = if L j + d w v = d u v ∧ (∀ q, rtS A B L d u v j = some q → w < q.2) then some (j, w) else rtS A B L d u v j := by
        conv => lhs; unfold rtS
        rw [ho]
      rw [show othV (some w) = nI w from rfl, if_neg (nI_m1 (by omega)), leastM_v hP hM hw hv, some_b]
      by_cases q0 : d w v < 1000000
      · rw [lsV_lt q0, if_neg (nI_m1 (by omega)), rdA_n (by omega) (by omega), some_b, some_b, leastM_v hP hM hu hv, some_b, lsV_lt hf, e4, nI_add]
        by_cases q2 : L j + d w v = d u v
        · rw [if_pos (by rw [q2])]
          cases hr : rtS A B L d u v j with
          | none => rw [show bL none = -1 from rfl, if_pos rfl, hrt, if_pos ⟨q2, fun q hq => by rw [hr] at hq; cases hq⟩]; rfl
          | some q =>
            obtain ⟨k1, k2, -⟩ := rtS_ok (l := q.1) (w := q.2) hr
            have hq2 := oth_lt hP (by omega) k2
            rw [show bL (some q) = nI q.1 from rfl, if_neg (nI_m1 (by omega)), farM hP hM (by omega) hu, k2, some_b, show othV (some q.2) = nI q.2 from rfl]
            by_cases q3 : q.2 ≤ w
            · rw [if_pos (nI_le q3 (by omega)), hrt, if_neg (fun e => absurd (e.2 q hr) (by omega)), hr]; rfl
            · rw [if_neg (nI_ge (by omega) (by omega)), hrt, if_pos ⟨q2, fun q' hq' => by rw [hr] at hq'; cases hq'; omega⟩]; rfl
        · rw [if_neg (fun e => q2 ((nI_eq (by omega) (by omega)).mp e)), hrt, if_neg (fun e => q2 e.1)]
      · rw [lsV_ge q0, if_pos rfl, hrt, if_neg (fun e => by have := e.1; omega)]
  · dsimp only
    unfold k8_route_B22
    simp only [bnd_e]
    rw [hM.1, if_pos (nI_le (Nat.le_refl N) (by omega))]
theorem routeM_v {F : Nat} {M : SM} {N : Nat} {A B C L : Nat → Nat} {d : Nat → Nat → Nat} (hF : 24 < F) (hP : NetP N A B C L d) (hM : NetM M.1 N A B C L d) {u v : Nat} (hu : u < 12) (hv : v < 12) (hne : u ≠ v) (hf : d u v < 1000000) : k8_route F M (nI u) (nI v) = some (bL (rtS A B L d u v N)) := by
  unfold k8_route
  simp only [bnd_e]
  rw [if_neg (fun q => hne ((nI_eq (by omega) (by omega)).mp q)), leastM_v hP hM hu hv, some_b, lsV_lt hf, if_neg (nI_m1 (by omega))]
  exact routeM_in hF hP hM hu hv hf
theorem routeM_n {F : Nat} {M : SM} {N : Nat} {A B C L : Nat → Nat} {d : Nat → Nat → Nat} (hP : NetP N A B C L d) (hM : NetM M.1 N A B C L d) {x1 x2 : Int32} (h : ¬ ∃ u v, u < 12 ∧ v < 12 ∧ x1 = nI u ∧ x2 = nI v ∧ u ≠ v ∧ d u v < 1000000) : k8_route F M x1 x2 = some (-1) := by
  unfold k8_route
  simp only [bnd_e]
  by_cases e : x1 = x2
  · rw [if_pos e]
  · rw [if_neg e]
    rcases rng x1 12 (by omega) with ⟨u, hu, rfl⟩ | h1
    · rcases rng x2 12 (by omega) with ⟨v, hv, rfl⟩ | h2
      · rw [leastM_v hP hM hu hv, some_b]
        by_cases q : d u v < 1000000
        · exact absurd ⟨u, v, hu, hv, rfl, rfl, fun z => e (by rw [z]), q⟩ h
        · rw [lsV_ge q, if_pos rfl]
      · rw [leastM_n (Or.inr h2), some_b, if_pos rfl]
    · rw [leastM_n (Or.inl h1), some_b, if_pos rfl]

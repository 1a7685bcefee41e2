/-! the reference's nodes -/
def gR (n : Nat) : Bool := decide (n < 12)
def idN (n : Nat) : Nat := n
def tbR (n : Nat) : Nat := n - 12
def ER (d : Nat → Nat → Nat) : Nat → Nat → Prop := fun a b => d a b < 1000000
def WR (d : Nat → Nat → Nat) : Nat → Nat → Nat := wN gR idN tbR d
def AR (d : Nat → Nat → Nat) : Nat → Nat → Prop := AN 24 gR idN tbR (ER d)
def BR (x : Nat → Nat → Nat) : Nat → Nat → Prop := BN 24 gR idN tbR x
def SR2 (th : Nat → Nat) (x : Nat → Nat → Nat) : Nat → Prop := sN gR idN th x
theorem gR_t {n : Nat} (h : n < 12) : gR n = true := decide_eq_true h
theorem gR_f {n : Nat} (h : 12 ≤ n) : gR n = false := decide_eq_false (by omega)
theorem gR_lt {n : Nat} (h : gR n = true) : n < 12 := of_decide_eq_true h
theorem gR_ge {n : Nat} (h : gR n = false) : 12 ≤ n := Nat.le_of_not_lt (of_decide_eq_false h)
theorem NodR {N : Nat} {A B C L : Nat → Nat} {d : Nat → Nat → Nat} (hP : NetP N A B C L d) : Nod 24 gR idN tbR (ER d) d := by
  refine ⟨Nat.le_refl 24, fun n _ h => gR_lt h, fun n hn h => ?_, fun m n _ _ _ _ e => e, fun m n _ _ hm hn e => ?_, fun a b ha hb h => ?_⟩
  · unfold tbR; omega
  · have h1 := gR_ge hm
    have h2 := gR_ge hn
    unfold tbR at e
    omega
  · have h1 : d a b < 1000000 := h
    have := hP.2.2.2.b2200 hP.2.1 ha hb
    omega
theorem WR_f {d : Nat → Nat → Nat} {a b : Nat} (ha : a < 12) : WR d a (12 + b) = d a b := by
  unfold WR wN
  rw [if_pos (gR_t ha)]
  unfold idN tbR
  rw [Nat.add_sub_cancel_left]
theorem WR_b {d : Nat → Nat → Nat} {a b : Nat} : WR d (12 + b) a = d a b := by
  unfold WR wN
  rw [if_neg (by rw [gR_f (by omega)]; decide)]
  unfold idN tbR
  rw [Nat.add_sub_cancel_left]
theorem AR_i {d : Nat → Nat → Nat} {a b : Nat} (ha : a < 12) (hb : b < 12) (h : d a b < 1000000) : AR d a (12 + b) := ⟨by omega, by omega, gR_t ha, gR_f (by omega), by unfold idN tbR ER; rw [Nat.add_sub_cancel_left]; exact h⟩
theorem BR_i {x : Nat → Nat → Nat} {a b : Nat} (ha : a < 12) (hb : b < 12) (h : 0 < x a b) : BR x (12 + b) a := ⟨by omega, by omega, gR_f (by omega), gR_t ha, by unfold idN tbR; rw [Nat.add_sub_cancel_left]; exact h⟩
theorem AR_e {d : Nat → Nat → Nat} {m n : Nat} (h : AR d m n) : ∃ b, m < 12 ∧ b < 12 ∧ n = 12 + b ∧ d m b < 1000000 := by
  obtain ⟨h1, h2, h3, h4, h5⟩ := h
  have := gR_ge h4
  exact ⟨n - 12, gR_lt h3, by omega, by omega, h5⟩
theorem BR_e {x : Nat → Nat → Nat} {m n : Nat} (h : BR x m n) : ∃ b, n < 12 ∧ b < 12 ∧ m = 12 + b ∧ 0 < x n b := by
  obtain ⟨h1, h2, h3, h4, h5⟩ := h
  have := gR_ge h3
  exact ⟨m - 12, gR_lt h4, by omega, by omega, h5⟩
/-! what is left, what lacks -/
theorem leftM {F : Nat} (hF : 12 < F) {S : SM} {th : Nat → Nat} {x : Nat → Nat → Nat} {a : Nat} (ha : a < 12) (h13 : S.1 13 a = nI (th a)) (h21 : ∀ b, b < 12 → S.1 21 (12 * a + b) = nI (x a b)) (hr : rwS x a ≤ th a) : k8_left F S (nI a) = some (nI (th a - rwS x a)) := by
  unfold k8_left
  simp only [bnd_e]
  rw [rdA_n ha (by omega), some_b, h13]
  refine lp_seq (z := fun _ _ => none) (f := fun rec => k8_left_B9 F S (nI a) rec) (fun (j : Nat) g => g (nI (th a - sm (x a) j)) (nI j)) (fun j => j) 12 _ (fun j hj rec => ?_) (fun rec => ?_) hF
  · unfold k8_left_B9
    simp only [bnd_e]
    have e : sm (x a) (j + 1) = sm (x a) j + x a j := rfl
    have h1 := sm_mono (x a) (m := j + 1) (n := 12) (by omega)
    have h2 : rwS x a = sm (x a) 12 := rfl
    rw [l12, if_neg (nI_ge hj (by omega)), mulN, nI_add, rdA_n (by omega) (by omega), some_b, h21 j hj, sbN (by omega), nI_1, e, Nat.sub_sub]
  · unfold k8_left_B9
    rw [l12, if_pos (nI_le (Nat.le_refl 12) (by omega))]; rfl
theorem lackM {F : Nat} (hF : 12 < F) {S : SM} {wa : Nat → Nat} {x : Nat → Nat → Nat} {b : Nat} (hb : b < 12) (h14 : S.1 14 b = nI (wa b)) (h21 : ∀ a, a < 12 → S.1 21 (12 * a + b) = nI (x a b)) (hr : clS x b ≤ wa b) : k8_lacks F S (nI b) = some (nI (wa b - clS x b)) := by
  unfold k8_lacks
  simp only [bnd_e]
  rw [rdA_n hb (by omega), some_b, h14]
  refine lp_seq (z := fun _ _ => none) (f := fun rec => k8_lacks_B9 F S (nI b) rec) (fun (j : Nat) g => g (nI (wa b - sm (fun a => x a b) j)) (nI j)) (fun j => j) 12 _ (fun j hj rec => ?_) (fun rec => ?_) hF
  · unfold k8_lacks_B9
    simp only [bnd_e]
    have e : sm (fun a => x a b) (j + 1) = sm (fun a => x a b) j + x j b := rfl
    have h1 := sm_mono (fun a => x a b) (m := j + 1) (n := 12) (by omega)
    have h2 : clS x b = sm (fun a => x a b) 12 := rfl
    rw [l12, if_neg (nI_ge hj (by omega)), mulN, nI_add, rdA_n (by omega) (by omega), some_b, h21 j hj, sbN (by omega), nI_1, e, Nat.sub_sub]
  · unfold k8_lacks_B9
    rw [l12, if_pos (nI_le (Nat.le_refl 12) (by omega))]; rfl
/-! the ways are sought -/
def SB (d : Nat → Nat → Nat) (th π : Nat → Nat) (x : Nat → Nat → Nat) (M0 : SM) (f0 : Nat) (S : SM) (far : Nat → Nat) (pr : Nat → Option Nat) : Prop :=
  (∀ q, q ≠ 22 → q ≠ 23 → S.1 q = M0.1 q) ∧ (∀ n, n < 24 → S.1 22 n = nI (far n) ∧ S.1 23 n = encL (pr n)) ∧ BF 24 (WR d) (AR d) (BR x) π (SR2 th x) far pr ∧ sm far 24 ≤ f0
def FXp (d x : Nat → Nat → Nat) (far : Nat → Nat) (a b : Nat) : Prop := d a b < 1000000 → (far a < 1000000 → far (12 + b) ≤ far a + d a b) ∧ (0 < x a b → far (12 + b) < 1000000 → far a + d a b ≤ far (12 + b))
def SW (d : Nat → Nat → Nat) (th π : Nat → Nat) (x : Nat → Nat → Nat) (M0 : SM) (f0 pos : Nat) (S : SM) (far : Nat → Nat) (pr : Nat → Option Nat) (mo : Bool) : Prop :=
  SB d th π x M0 f0 S far pr ∧ (mo = true → sm far 24 < f0) ∧ (mo = false → ∀ a b, a < 12 → b < 12 → 12 * a + b < pos → FXp d x far a b)
theorem SB.set {d : Nat → Nat → Nat} {th π : Nat → Nat} {x : Nat → Nat → Nat} {M0 : SM} {f0 : Nat} {S : SM} {far : Nat → Nat} {pr : Nat → Option Nat} (hG : Gph 24 (WR d) (AR d) (BR x) π (SR2 th x)) (h : SB d th π x M0 f0 S far pr) {m n v : Nat} (hn : n < 24) (harc : (AR d m n ∧ v = far m + WR d m n) ∨ (BR x m n ∧ v + WR d m n = far m)) (hm : far m < 1000000) (hv : v < far n) :
    SB d th π x M0 f0 (stM (stM S 22 n (nI v)) 23 n (nI m)) (fset far n v) (fset pr n (some m)) ∧ sm (fset far n v) 24 < sm far 24 := by
  obtain ⟨h1, h2, h3, h4⟩ := h
  have hlt : sm (fset far n v) 24 < sm far 24 := sm_lt (fun k hk => by
    by_cases e : k = n
    · rw [e, fset_s]; omega
    · rw [fset_o e]; exact Nat.le_refl _) n hn (by rw [fset_s]; exact hv)
  refine ⟨⟨fun q a b => by rw [m_o b, m_o a]; exact h1 q a b, fun k hk => ?_, h3.relax hG harc hm hv, by omega⟩, hlt⟩
  rw [m_o (by decide), m_s, m_s, m_o (by decide)]
  by_cases e : k = n
  · rw [if_pos e, if_pos e, e, fset_s, fset_s]; exact ⟨rfl, rfl⟩
  · rw [if_neg e, if_neg e, fset_o e, fset_o e]; exact h2 k hk
theorem i32n {a b : Nat} (h : b ≤ a) : nI a - nI b = nI (a - b) := sbN h
theorem backR {F : Nat} {d : Nat → Nat → Nat} {th π : Nat → Nat} {x : Nat → Nat → Nat} {M0 : SM} {f0 : Nat} {S : SM} {far : Nat → Nat} {pr : Nat → Option Nat} (hG : Gph 24 (WR d) (AR d) (BR x) π (SR2 th x)) (h : SB d th π x M0 f0 S far pr) {a b : Nat} (ha : a < 12) (hb : b < 12) (hd : d a b < 1000000) (h21 : M0.1 21 (12 * a + b) = nI (x a b)) (hx9 : x a b < 1000000) (mo : Bool) :
    ∃ S' far' pr' mo', SB d th π x M0 f0 S' far' pr' ∧ ((mo' = mo ∧ far' = far ∧ (0 < x a b → far (12 + b) < 1000000 → far a + d a b ≤ far (12 + b))) ∨ (mo' = true ∧ sm far' 24 < sm far 24)) ∧ (mo = true → mo' = true) ∧ sm far' 24 ≤ sm far 24 ∧
      ∀ rec k, k8_seeks_B65_J145 F (nI a) rec k S (bI mo) (nI b) (nI (d a b)) (nI (12 + b)) = rec S' (bI mo') (nI (b + 1)) := by
  have h0 := h
  obtain ⟨h1, h2, h3, h4⟩ := h
  have fa := h3.1 a (by omega)
  have fb := h3.1 (12 + b) (by omega)
  have e21 : S.1 21 (12 * a + b) = nI (x a b) := by rw [h1 21 (by decide) (by decide)]; exact h21
  have key : ∀ rec (k : SM → Int32 → Option (Int32 × SM)), k8_seeks_B65_J145 F (nI a) rec k S (bI mo) (nI b) (nI (d a b)) (nI (12 + b)) = if nI (x a b) ≤ 0 then rec S (bI mo) (nI (b + 1)) else if nI 500000 ≤ nI (far (12 + b)) then rec S (bI mo) (nI (b + 1)) else if nI (far a) ≤ nI (far (12 + b)) - nI (d a b) then rec S (bI mo) (nI (b + 1)) else rec (stM (stM S 22 a (nI (far (12 + b)) - nI (d a b))) 23 a (nI (12 + b))) 1 (nI (b + 1)) := by
    intro rec k
    unfold k8_seeks_B65_J145
    simp only [bnd_e]
    rw [l12, mulN, nI_add, rdA_n (by omega) (by omega), some_b, e21, rdA_n (by omega) (by omega), some_b, (h2 (12 + b) (by omega)).1, some_b, rdA_n (by omega) (by omega), some_b, (h2 a (by omega)).1, some_b, ckA_n (by omega) (by omega), some_b, some_b, clN (by omega), nI_1, lH]
  by_cases q1 : x a b = 0
  · refine ⟨S, far, pr, mo, h0, Or.inl ⟨rfl, rfl, fun z => by omega⟩, fun z => z, Nat.le_refl _, fun rec k => ?_⟩
    rw [key, if_pos (by rw [q1]; decide)]
  · have n1 : ¬ nI (x a b) ≤ (0 : Int32) := nI_ge (show 0 < x a b by omega) (by omega)
    by_cases q2 : far (12 + b) < 1000000
    · have hfin := h3.fin (Nat.le_refl 24) (show 12 + b < 24 by omega) q2
      have hbr : BR x (12 + b) a := BR_i ha hb (by omega)
      have hpi := (hG.2.1 _ _ hbr).2.2
      rw [WR_b] at hpi
      have hs : nI (far (12 + b)) - nI (d a b) = nI (far (12 + b) - d a b) := sbN (by omega)
      by_cases q3 : far a ≤ far (12 + b) - d a b
      · refine ⟨S, far, pr, mo, h0, Or.inl ⟨rfl, rfl, fun _ _ => by omega⟩, fun z => z, Nat.le_refl _, fun rec k => ?_⟩
        rw [key, if_neg n1, if_neg (nI_ge (by omega) (by omega)), hs, if_pos (nI_le q3 (by omega))]
      · obtain ⟨s1, s2'⟩ := h0.set hG (m := 12 + b) (n := a) (v := far (12 + b) - d a b) (by omega) (Or.inr ⟨hbr, by rw [WR_b]; omega⟩) q2 (by omega)
        refine ⟨_, _, _, true, s1, Or.inr ⟨rfl, s2'⟩, fun _ => rfl, by omega, fun rec k => ?_⟩
        rw [key, if_neg n1, if_neg (nI_ge (by omega) (by omega)), hs, if_neg (nI_ge (by omega) (by omega))]
        rfl
    · refine ⟨S, far, pr, mo, h0, Or.inl ⟨rfl, rfl, fun _ z => absurd z q2⟩, fun z => z, Nat.le_refl _, fun rec k => ?_⟩
      rw [key, if_neg n1, if_pos (nI_le (by omega) (by omega))]
theorem pairR {F : Nat} {d : Nat → Nat → Nat} {th π : Nat → Nat} {x : Nat → Nat → Nat} {M0 : SM} {f0 : Nat} {S : SM} {far : Nat → Nat} {pr : Nat → Option Nat} {mo : Bool} (hG : Gph 24 (WR d) (AR d) (BR x) π (SR2 th x)) {a b : Nat} (ha : a < 12) (hb : b < 12) (h : SW d th π x M0 f0 (12 * a + b) S far pr mo) (h5 : M0.1 5 (12 * a + b) = nI (d a b)) (hd : d a b ≤ 2200 ∨ d a b = 1000000) (h21 : M0.1 21 (12 * a + b) = nI (x a b)) (hx9 : x a b < 1000000) :
    ∃ S' far' pr' mo', SW d th π x M0 f0 (12 * a + (b + 1)) S' far' pr' mo' ∧ ∀ rec k, k8_seeks_B65 F (nI a) rec k S (bI mo) (nI b) = rec S' (bI mo') (nI (b + 1)) := by
  obtain ⟨h1, h2, h3⟩ := h
  have hB := h1.2.2.1
  have fa := hB.1 a (by omega)
  have fb := hB.1 (12 + b) (by omega)
  have e5 : S.1 5 (12 * a + b) = nI (d a b) := by rw [h1.1 5 (by decide) (by decide)]; exact h5
  have key : ∀ rec (k : SM → Int32 → Option (Int32 × SM)), k8_seeks_B65 F (nI a) rec k S (bI mo) (nI b) = if nI (d a b) < nI 1000000 then (if nI (far (12 + b)) ≤ nI (far a + d a b) then k8_seeks_B65_J145 F (nI a) rec k S (bI mo) (nI b) (nI (d a b)) (nI (12 + b)) else k8_seeks_B65_J145 F (nI a) rec k (stM (stM S 22 (12 + b) (nI (far a + d a b))) 23 (12 + b) (nI a)) (bI true) (nI b) (nI (d a b)) (nI (12 + b))) else rec S (bI mo) (nI (b + 1)) := by
    intro rec k
    unfold k8_seeks_B65
    simp only [bnd_e]
    rw [l12, if_neg (nI_ge hb (by omega)), mulN, nI_add, rdA_n (by omega) (by omega), some_b, e5, lM, nI_add, rdA_n (by omega) (by omega), some_b, (h1.2.1 a (by omega)).1, rdA_n (by omega) (by omega), some_b, (h1.2.1 (12 + b) (by omega)).1, some_b, ckA_n (by omega) (by omega), some_b, some_b, clN (by omega), nI_add, nI_1]
    rfl
  have fxx : ∀ {far' : Nat → Nat}, (∀ a' b', a' < 12 → b' < 12 → 12 * a' + b' < 12 * a + b → FXp d x far' a' b') → FXp d x far' a b → ∀ a' b', a' < 12 → b' < 12 → 12 * a' + b' < 12 * a + (b + 1) → FXp d x far' a' b' := by
    intro far' z1 z2 a' b' ha' hb' hl
    by_cases e : 12 * a' + b' = 12 * a + b
    · have e1 : a' = a := by omega
      have e2 : b' = b := by omega
      rw [e1, e2]; exact z2
    · exact z1 a' b' ha' hb' (by omega)
  by_cases q1 : d a b < 1000000
  · by_cases q2 : far (12 + b) ≤ far a + d a b
    · obtain ⟨S', far', pr', mo', s1, s2', s3, s4, s5⟩ := backR (F := F) hG h1 ha hb q1 h21 hx9 mo
      refine ⟨S', far', pr', mo', ⟨s1, fun z => ?_, fun z => ?_⟩, fun rec k => ?_⟩
      · rcases s2' with ⟨u1, u2, u3⟩ | ⟨u1, u2⟩
        · have := h2 (by rw [← u1]; exact z); omega
        · have := h1.2.2.2; omega
      · rcases s2' with ⟨u1, u2, u3⟩ | ⟨u1, u2⟩
        · rw [u2]; exact fxx (h3 (by rw [← u1]; exact z)) fun _ => ⟨fun _ => q2, u3⟩
        · rw [u1] at z; cases z
      · rw [key, if_pos (nI_lt q1 (by omega)), if_pos (nI_le q2 (by omega)), s5]
    · obtain ⟨t1, t2⟩ := h1.set hG (m := a) (n := 12 + b) (v := far a + d a b) (by omega) (Or.inl ⟨AR_i ha hb q1, by rw [WR_f ha]⟩) (by omega) (by omega)
      obtain ⟨S', far', pr', mo', s1, s2', s3, s4, s5⟩ := backR (F := F) hG t1 ha hb q1 h21 hx9 true
      refine ⟨S', far', pr', mo', ⟨s1, fun z => ?_, fun z => ?_⟩, fun rec k => ?_⟩
      · have := h1.2.2.2; omega
      · rw [s3 rfl] at z; cases z
      · rw [key, if_pos (nI_lt q1 (by omega)), if_neg (nI_ge (by omega) (by omega)), s5]
  · refine ⟨S, far, pr, mo, ⟨h1, h2, fun z => fxx (h3 z) fun z => absurd z q1⟩, fun rec k => ?_⟩
    rw [key, if_neg (nI_nlt (by omega) (by omega))]
/-- one sweep -/
theorem sweepR {F : Nat} (hF : 300 < F) {d : Nat → Nat → Nat} {th π : Nat → Nat} {x : Nat → Nat → Nat} {M0 : SM} (hG : Gph 24 (WR d) (AR d) (BR x) π (SR2 th x)) (h5 : ∀ a b, a < 12 → b < 12 → M0.1 5 (12 * a + b) = nI (d a b)) (hd : ∀ a b, a < 12 → b < 12 → d a b ≤ 2200 ∨ d a b = 1000000) (h21 : ∀ a b, a < 12 → b < 12 → M0.1 21 (12 * a + b) = nI (x a b) ∧ x a b < 1000000) (S0 : SM) (far0 : Nat → Nat) (pr0 : Nat → Option Nat) (f0 : Nat) (h : SB d th π x M0 f0 S0 far0 pr0) :
    ∃ t : SM × (Nat → Nat) × (Nat → Option Nat) × Bool, SW d th π x M0 (sm far0 24) 144 t.1 t.2.1 t.2.2.1 t.2.2.2 ∧ ∀ k, lpN (fun _ _ _ => none) (fun rec => k8_seeks_B57 F rec k) F S0 (bI false) (nI 0) = k t.1 (bI t.2.2.2) := by
  have inner : ∀ a, a < 12 → ∀ (s : SM × (Nat → Nat) × (Nat → Option Nat) × Bool), SW d th π x M0 (sm far0 24) (12 * a) s.1 s.2.1 s.2.2.1 s.2.2.2 → ∃ t : SM × (Nat → Nat) × (Nat → Option Nat) × Bool, SW d th π x M0 (sm far0 24) (12 * a + 12) t.1 t.2.1 t.2.2.1 t.2.2.2 ∧ ∀ k, lpN (fun _ _ _ => none) (fun rec => k8_seeks_B65 F (nI a) rec k) F s.1 (bI s.2.2.2) (nI 0) = k t.1 (bI t.2.2.2) := by
    intro a ha s hs
    exact lp_cps (z := fun _ _ _ => none) (f := fun k rec => k8_seeks_B65 F (nI a) rec k) (fun (s : (SM × (Nat → Nat) × (Nat → Option Nat) × Bool) × Nat) g => g s.1.1 (bI s.1.2.2.2) (nI s.2)) (fun (t : SM × (Nat → Nat) × (Nat → Option Nat) × Bool) k => k t.1 (bI t.2.2.2)) (fun s => SW d th π x M0 (sm far0 24) (12 * a + s.2) s.1.1 s.1.2.1 s.1.2.2.1 s.1.2.2.2 ∧ s.2 ≤ 12) (fun s => 12 - s.2) (fun t => SW d th π x M0 (sm far0 24) (12 * a + 12) t.1 t.2.1 t.2.2.1 t.2.2.2) (by
      rintro ⟨⟨S, far, pr, mo⟩, b⟩ ⟨k1, hb⟩
      dsimp only at k1 hb
      by_cases e : b = 12
      · subst e
        refine Or.inr ⟨(S, far, pr, mo), k1, fun k rec => ?_⟩
        dsimp only [k8_seeks_B65]
        rw [l12, if_pos (nI_le (Nat.le_refl 12) (by omega))]
      · have hb : b < 12 := by omega
        obtain ⟨S', far', pr', mo', s1, s2'⟩ := pairR (F := F) hG ha hb k1 (h5 a b ha hb) (hd a b ha hb) (h21 a b ha hb).1 (h21 a b ha hb).2
        exact Or.inl ⟨((S', far', pr', mo'), b + 1), ⟨s1, by dsimp only; omega⟩, by dsimp only; omega, fun k rec => s2' rec k⟩) F (s, 0) ⟨hs, Nat.zero_le 12⟩ (by dsimp only; omega)
  exact lp_cps (z := fun _ _ _ => none) (f := fun k rec => k8_seeks_B57 F rec k) (fun (s : (SM × (Nat → Nat) × (Nat → Option Nat) × Bool) × Nat) g => g s.1.1 (bI s.1.2.2.2) (nI s.2)) (fun (t : SM × (Nat → Nat) × (Nat → Option Nat) × Bool) k => k t.1 (bI t.2.2.2)) (fun s => SW d th π x M0 (sm far0 24) (12 * s.2) s.1.1 s.1.2.1 s.1.2.2.1 s.1.2.2.2 ∧ s.2 ≤ 12) (fun s => 12 - s.2) (fun t => SW d th π x M0 (sm far0 24) 144 t.1 t.2.1 t.2.2.1 t.2.2.2) (by
    rintro ⟨s, a⟩ ⟨k1, ha⟩
    dsimp only at k1 ha
    by_cases e : a = 12
    · subst e
      refine Or.inr ⟨s, k1, fun k rec => ?_⟩
      dsimp only [k8_seeks_B57]
      rw [l12, if_pos (nI_le (Nat.le_refl 12) (by omega))]
    · have ha : a < 12 := by omega
      obtain ⟨t, t1, t2⟩ := inner a ha s k1
      refine Or.inl ⟨(t, a + 1), ⟨by dsimp only; rw [Nat.mul_add]; exact t1, by dsimp only; omega⟩, by dsimp only; omega, fun k rec => ?_⟩
      dsimp only [k8_seeks_B57]
      simp only [bnd_e]
      rw [l12, if_neg (nI_ge ha (by omega)), nI_1]
      exact t2 _) F ((S0, far0, pr0, false), 0) ⟨⟨⟨h.1, h.2.1, h.2.2.1, Nat.le_refl _⟩, fun z => (by cases z), fun _ a b _ _ z => absurd z (Nat.not_lt_zero _)⟩, Nat.zero_le 12⟩ (by dsimp only; omega)

/-! loops of mirrored functions -/
theorem lp_cps {α β σ τ κ : Type} {z : α} {f : κ → α → α} (ev : σ → α → β) (evk : τ → κ → β) (I : σ → Prop) (μ : σ → Nat) (Q : τ → Prop)
    (h : ∀ s, I s → (∃ s', I s' ∧ μ s' < μ s ∧ ∀ k rec, ev s (f k rec) = ev s' rec) ∨ (∃ t, Q t ∧ ∀ k rec, ev s (f k rec) = evk t k)) :
    ∀ (n : Nat) (s : σ), I s → μ s < n → ∃ t, Q t ∧ ∀ k, ev s (lpN z (f k) n) = evk t k := by
  intro n
  induction n with
  | zero => intro s _ hn; exact absurd hn (Nat.not_lt_zero _)
  | succ n ih =>
    intro s hs hn
    rcases h s hs with ⟨s', hs', hm, he⟩ | ⟨t, ht, he⟩
    · obtain ⟨t, ht, hk⟩ := ih s' hs' (by omega)
      exact ⟨t, ht, fun k => (he k _).trans (hk k)⟩
    · exact ⟨t, ht, fun k => he k _⟩
/-- a loop that only returns -/
theorem lp_inv {α β σ : Type} {z : α} {f : α → α} (ev : σ → α → β) (I : σ → Prop) (μ : σ → Nat) (Q : β → Prop)
    (h : ∀ s, I s → (∃ s', I s' ∧ μ s' < μ s ∧ ∀ rec, ev s (f rec) = ev s' rec) ∨ (∃ t, Q t ∧ ∀ rec, ev s (f rec) = t)) :
    ∀ (n : Nat) (s : σ), I s → μ s < n → ∃ t, Q t ∧ ev s (lpN z f n) = t := by
  intro n s hs hn
  obtain ⟨t, ht, hk⟩ := lp_cps (κ := Unit) (f := fun _ => f) (z := z) ev (fun t _ => t) I μ Q (fun s hs => by
    rcases h s hs with ⟨s', hs', hm, he⟩ | ⟨t, ht, he⟩
    · exact Or.inl ⟨s', hs', hm, fun _ rec => he rec⟩
    · exact Or.inr ⟨t, ht, fun _ rec => he rec⟩) n s hs hn
  exact ⟨t, ht, hk ()⟩
/-- a counted loop whose states are known -/
theorem lp_seq {α β σ : Type} {z : α} {f : α → α} (ev : σ → α → β) (sq : Nat → σ) (m : Nat) (r : β)
    (hs : ∀ j, j < m → ∀ rec, ev (sq j) (f rec) = ev (sq (j + 1)) rec) (hx : ∀ rec, ev (sq m) (f rec) = r) {F : Nat} (hF : m < F) : ev (sq 0) (lpN z f F) = r := by
  have key : ∀ (d j n : Nat), j + d = m → d < n → ev (sq j) (lpN z f n) = r := by
    intro d
    induction d with
    | zero =>
      intro j n hj hn
      obtain ⟨n, rfl⟩ : ∃ q, n = q + 1 := ⟨n - 1, by omega⟩
      have : j = m := by omega
      subst this
      exact hx _
    | succ d ih =>
      intro j n hj hn
      obtain ⟨n, rfl⟩ : ∃ q, n = q + 1 := ⟨n - 1, by omega⟩
      exact (hs j (by omega) _).trans (ih (j + 1) n (by omega) (by omega))
  exact key m 0 F (by omega) hF
/-! reads, writes, numbers -/
theorem rdA_n {α : Type} {n k : Nat} {f : Nat → α} (h : k < n) (hn : n < 2147483648) : rdA n f (nI k) = some (f k) := by
  have h1 : vp_in (nI k) n := vp_in_nI h hn
  unfold rdA
  rw [if_neg h1, nI_clamp (by omega)]
theorem ckA_n {n k : Nat} (h : k < n) (hn : n < 2147483648) : ckA n (nI k) = some () := by
  have h1 : vp_in (nI k) n := vp_in_nI h hn
  unfold ckA
  rw [if_neg h1]
theorem clN {k : Nat} (h : k < 2147483648) : (nI k).toNatClampNeg = k := nI_clamp h
theorem eqN {a b : Nat} (ha : a < 2147483648) (hb : b < 2147483648) : (nI a = nI b) = (a = b) := propext (nI_eq ha hb)
theorem leN {a b : Nat} (ha : a < 2147483648) (hb : b < 2147483648) : (nI a ≤ nI b) = (a ≤ b) := propext (nI_leI ha hb)
theorem ltN {a b : Nat} (ha : a < 2147483648) (hb : b < 2147483648) : (nI a < nI b) = (a < b) := propext (nI_ltI ha hb)
theorem sbN {a b : Nat} (h : b ≤ a) : nI a - nI b = nI (a - b) := pk_sub h
theorem l0 : (0 : Int32) = nI 0 := rfl
theorem l1 : (1 : Int32) = nI 1 := rfl
theorem l2 : (2 : Int32) = nI 2 := rfl
theorem l3 : (3 : Int32) = nI 3 := rfl
theorem l4 : (4 : Int32) = nI 4 := rfl
theorem l5 : (5 : Int32) = nI 5 := rfl
theorem l7 : (7 : Int32) = nI 7 := rfl
theorem l8 : (8 : Int32) = nI 8 := rfl
theorem l9 : (9 : Int32) = nI 9 := rfl
theorem l10 : (10 : Int32) = nI 10 := rfl
theorem l11 : (11 : Int32) = nI 11 := rfl
theorem l12 : (12 : Int32) = nI 12 := rfl
theorem l13 : (13 : Int32) = nI 13 := rfl
theorem l24 : (24 : Int32) = nI 24 := rfl
theorem l99 : (99 : Int32) = nI 99 := rfl
theorem l100 : (100 : Int32) = nI 100 := rfl
theorem l108 : (108 : Int32) = nI 108 := rfl
theorem l144 : (144 : Int32) = nI 144 := rfl
theorem l200 : (200 : Int32) = nI 200 := rfl
theorem l256 : (256 : Int32) = nI 256 := rfl
theorem lM : (1000000 : Int32) = nI 1000000 := rfl
theorem lH : (500000 : Int32) = nI 500000 := rfl
theorem mulN (a b : Nat) : nI a * nI b = nI (a * b) := pk_mul a b
theorem m1N {a : Nat} (ha : a < 2147483648) : (nI a = -1) = False := by
  apply propext
  constructor
  · intro h
    have h1 : (nI a).toInt = (-1 : Int32).toInt := by rw [h]
    rw [nI_toInt ha, show (-1 : Int32).toInt = -1 from by decide] at h1
    omega
  · exact False.elim
theorem m1N' {a : Nat} (ha : a < 2147483648) : (-1 = nI a) = False := propext ⟨fun h => (m1N ha).mp h.symm, False.elim⟩
theorem some_b {α β : Type} (x : α) (k : α → Option β) : (some x).bind k = k x := rfl
theorem ob2_s {α β γ : Type} (x : α) (y : β) (k : α → β → Option γ) : ob2 (some (x, y)) k = k x y := rfl
theorem bnd_e {α β : Type} (e : α) (k : α → β) : bnd e k = k e := rfl
theorem st_o {S : SS} {c k : Nat} {x : Int32} {q : Nat} (h : q ≠ c) : st S c k x q = S q := by unfold st; rw [if_neg h]
theorem st_s {S : SS} {c k : Nat} {x : Int32} : st S c k x c = upd (S c) k x := by unfold st; rw [if_pos rfl]
theorem stW_o {S : SS} {c : Nat} {f : Nat → Int32} {q : Nat} (h : q ≠ c) : stW S c f q = S q := by unfold stW; rw [if_neg h]
theorem stW_s {S : SS} {c : Nat} {f : Nat → Int32} : stW S c f c = f := by unfold stW; rw [if_pos rfl]
theorem upd_s {f : Nat → Int32} {k : Nat} {x : Int32} : upd f k x k = x := pk_us
theorem upd_o {f : Nat → Int32} {k j : Nat} {x : Int32} (h : j ≠ k) : upd f k x j = f j := pk_un h
theorem st_st {S : SS} {c k j : Nat} {x : Int32} : st S c k x c j = if j = k then x else S c j := by
  rw [st_s]; by_cases h : j = k
  · subst h; rw [upd_s, if_pos rfl]
  · rw [upd_o h, if_neg h]
/-- an Int32 is below 0, or a number; in a range it is a number below its end -/
theorem i32_nat (x : Int32) : x < 0 ∨ ∃ n : Nat, n < 2147483648 ∧ x = nI n := by
  by_cases h : x < 0
  · exact Or.inl h
  · obtain ⟨j, hj, e⟩ := nI_of h; exact Or.inr ⟨j, hj, e⟩
theorem nI_nn {n : Nat} (h : n < 2147483648) : ¬ nI n < 0 := nI_pos h
theorem neg_lt {x : Int32} (h : x < 0) {n : Nat} (hn : n < 2147483648) : x < nI n := by
  rw [Int32.lt_iff_toInt_lt] at h ⊢
  rw [nI_toInt hn]
  have : (0 : Int32).toInt = 0 := by decide
  omega
theorem neg_ne {x : Int32} (h : x < 0) {n : Nat} (hn : n < 2147483648) : x ≠ nI n := by
  intro e; rw [e] at h; exact nI_pos hn h

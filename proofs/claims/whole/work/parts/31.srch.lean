/-! joinings in their order -/
def lastOf (c : Nat → Nat) (w : Nat) : Nat → Option Nat
  | 0 => none
  | t + 1 => if c t = w then some t else lastOf c w t
theorem lastOf_lt {c : Nat → Nat} {w : Nat} : ∀ {t k : Nat}, lastOf c w t = some k → k < t ∧ c k = w ∧ ∀ j, k < j → j < t → c j ≠ w
  | 0, k, h => by cases h
  | t + 1, k, h => by
    unfold lastOf at h
    split at h
    · rename_i q; cases h; exact ⟨by omega, q, fun j h1 h2 => by omega⟩
    · rename_i q
      obtain ⟨a, b, e⟩ := lastOf_lt h
      refine ⟨by omega, b, fun j h1 h2 => ?_⟩
      by_cases e2 : j = t
      · rw [e2]; exact q
      · exact e j h1 (by omega)
theorem lastOf_none {c : Nat → Nat} {w : Nat} : ∀ {t : Nat}, lastOf c w t = none → ∀ j, j < t → c j ≠ w
  | 0, _, j, hj => absurd hj (Nat.not_lt_zero j)
  | t + 1, h, j, hj => by
    unfold lastOf at h
    split at h
    · cases h
    · rename_i q
      by_cases e2 : j = t
      · rw [e2]; exact q
      · exact lastOf_none h j (by omega)
theorem lastOf_cong {c c' : Nat → Nat} {w : Nat} : ∀ {t : Nat}, (∀ k, k < t → c' k = c k) → lastOf c' w t = lastOf c w t
  | 0, _ => rfl
  | t + 1, h => by
    unfold lastOf
    rw [h t (by omega), lastOf_cong (t := t) (fun k hk => h k (by omega))]
def setc (c : Nat → Nat) (t w : Nat) : Nat → Nat := fun k => if k = t then w else c k
theorem setc_s {c : Nat → Nat} {t w : Nat} : setc c t w t = w := if_pos rfl
theorem setc_o {c : Nat → Nat} {t w k : Nat} (h : k ≠ t) : setc c t w k = c k := if_neg h
def lastOk (tm : Nat → Nat → Bool) (t : Nat) : Option Nat → Bool
  | none => true
  | some k => tm k t
def okc (W : Nat) (e : Nat → Nat → Nat) (tm : Nat → Nat → Bool) (c : Nat → Nat) (t w : Nat) : Bool :=
  if w = W then true else decide (e t w ≤ 2) && lastOk tm t (lastOf c w t)
def cat {α : Type} (f : Nat → List α) : Nat → List α
  | 0 => []
  | n + 1 => cat f n ++ f n
theorem mem_cat {α : Type} {f : Nat → List α} {x : α} : ∀ {n : Nat}, x ∈ cat f n → ∃ w, w < n ∧ x ∈ f w
  | 0, h => by cases h
  | n + 1, h => by
    rcases List.mem_append.mp h with h | h
    · obtain ⟨w, a, b⟩ := mem_cat h; exact ⟨w, by omega, b⟩
    · exact ⟨n, by omega, h⟩
theorem cat_mem {α : Type} {f : Nat → List α} {x : α} {w : Nat} : ∀ {n : Nat}, w < n → x ∈ f w → x ∈ cat f n
  | 0, h, _ => absurd h (Nat.not_lt_zero w)
  | n + 1, h, hx => by
    by_cases e : w = n
    · subst e; exact List.mem_append_right _ hx
    · exact List.mem_append_left _ (cat_mem (by omega) hx)
/-- all joinings that begin as c does before t -/
def lvs (W : Nat) (e : Nat → Nat → Nat) (tm : Nat → Nat → Bool) : Nat → Nat → (Nat → Nat) → List (Nat → Nat)
  | 0, _, c => [c]
  | r + 1, t, c => cat (fun w => if okc W e tm c t w = true then lvs W e tm r (t + 1) (setc c t w) else []) (W + 1)
def brn (W : Nat) (e : Nat → Nat → Nat) (tm : Nat → Nat → Bool) (r t : Nat) (c : Nat → Nat) (w : Nat) : List (Nat → Nat) := if okc W e tm c t w = true then lvs W e tm r (t + 1) (setc c t w) else []
theorem lvs_s {W : Nat} {e : Nat → Nat → Nat} {tm : Nat → Nat → Bool} {r t : Nat} {c : Nat → Nat} : lvs W e tm (r + 1) t c = cat (brn W e tm r t c) (W + 1) := rfl
def cst (W : Nat) (e : Nat → Nat → Nat) (t w : Nat) : Nat := if w = W then 3 else e t w
def tot (W : Nat) (e : Nat → Nat → Nat) (c : Nat → Nat) (n : Nat) : Nat := sm (fun k => cst W e k (c k)) n
theorem tot_s {W : Nat} {e : Nat → Nat → Nat} {c : Nat → Nat} {n : Nat} : tot W e c (n + 1) = tot W e c n + cst W e n (c n) := rfl
theorem tot_cong {W : Nat} {e : Nat → Nat → Nat} {c c' : Nat → Nat} {n : Nat} (h : ∀ k, k < n → c' k = c k) : tot W e c' n = tot W e c n := sm_cong fun k hk => by rw [h k hk]
/-- the least that a sight costs -/
def low (e : Nat → Nat → Nat) (t : Nat) : Nat → Nat
  | 0 => 3
  | w + 1 => min (e t w) (low e t w)
theorem low_3 (e : Nat → Nat → Nat) (t : Nat) : ∀ n, low e t n ≤ 3
  | 0 => Nat.le_refl 3
  | n + 1 => by have := low_3 e t n; unfold low; omega
theorem low_le (e : Nat → Nat → Nat) (t : Nat) : ∀ {n w : Nat}, w < n → low e t n ≤ e t w
  | 0, w, h => absurd h (Nat.not_lt_zero w)
  | n + 1, w, h => by
    by_cases q : w = n
    · subst q; unfold low; omega
    · have := low_le e t (n := n) (w := w) (by omega)
      unfold low; omega
/-- floors: the least that sights from t on cost, r of them -/
def flr (W : Nat) (e : Nat → Nat → Nat) : Nat → Nat → Nat
  | 0, _ => 0
  | r + 1, t => flr W e r (t + 1) + low e t W
theorem okc_cst {W : Nat} {e : Nat → Nat → Nat} {tm : Nat → Nat → Bool} {c : Nat → Nat} {t w : Nat} (h : okc W e tm c t w = true) (hw : w ≤ W) : low e t W ≤ cst W e t w ∧ cst W e t w ≤ 3 := by
  unfold cst
  by_cases q : w = W
  · rw [if_pos q]; exact ⟨low_3 e t W, Nat.le_refl 3⟩
  · rw [if_neg q]
    unfold okc at h
    rw [if_neg q] at h
    have h1 : e t w ≤ 2 := by
      have := (Bool.and_eq_true _ _ ▸ h : _ ∧ _).1
      exact of_decide_eq_true this
    exact ⟨low_le e t (by omega), by omega⟩
theorem lvs_ok {W : Nat} {e : Nat → Nat → Nat} {tm : Nat → Nat → Bool} : ∀ (r t : Nat) (c c' : Nat → Nat), c' ∈ lvs W e tm r t c → (∀ k, k < t → c' k = c k) ∧ tot W e c t + flr W e r t ≤ tot W e c' (t + r) ∧ tot W e c' (t + r) ≤ tot W e c t + 3 * r ∧ ∀ k, t ≤ k → k < t + r → c' k ≤ W := by
  intro r
  induction r with
  | zero =>
    intro t c c' h
    have h : c' = c := by simpa [lvs] using h
    subst h
    exact ⟨fun _ _ => rfl, Nat.le_refl _, Nat.le_refl _, fun k h1 h2 => absurd h2 (by omega)⟩
  | succ r ih =>
    intro t c c' h
    rw [lvs_s] at h
    obtain ⟨w, hw, h⟩ := mem_cat h
    unfold brn at h
    split at h
    · rename_i hok
      obtain ⟨i1, i2, i3, i4⟩ := ih (t + 1) (setc c t w) c' h
      obtain ⟨o1, o2⟩ := okc_cst hok (by omega)
      have e1 : tot W e (setc c t w) (t + 1) = tot W e c t + cst W e t w := by
        rw [tot_s, setc_s, tot_cong (c := c) (fun k hk => setc_o (by omega))]
      have e2 : t + (r + 1) = t + 1 + r := by omega
      rw [e1] at i2 i3
      rw [e2]
      refine ⟨fun k hk => ?_, ?_, ?_, fun k h1 h2 => ?_⟩
      · rw [i1 k (by omega), setc_o (by omega)]
      · unfold flr; omega
      · omega
      · by_cases q : k = t
        · subst q
          have := i1 k (by omega)
          rw [setc_s] at this
          omega
        · exact i4 k (by omega) (by omega)
    · cases h
theorem lvs_nobody {W : Nat} {e : Nat → Nat → Nat} {tm : Nat → Nat → Bool} : ∀ (r t : Nat) (c : Nat → Nat), ∃ c', c' ∈ lvs W e tm r t c ∧ tot W e c' (t + r) = tot W e c t + 3 * r := by
  intro r
  induction r with
  | zero => intro t c; exact ⟨c, by simp [lvs], rfl⟩
  | succ r ih =>
    intro t c
    obtain ⟨c', h1, h2⟩ := ih (t + 1) (setc c t W)
    have e1 : tot W e (setc c t W) (t + 1) = tot W e c t + 3 := by
      rw [tot_s, setc_s, tot_cong (c := c) (fun k hk => setc_o (by omega))]
      unfold cst; rw [if_pos rfl]
    refine ⟨c', ?_, ?_⟩
    · rw [lvs_s]
      refine cat_mem (w := W) (by omega) ?_
      unfold brn
      rw [if_pos (by unfold okc; rw [if_pos rfl])]
      exact h1
    · rw [show t + (r + 1) = t + 1 + r by omega, h2, e1]; omega
def bst (W : Nat) (e : Nat → Nat → Nat) (T : Nat) (b : Nat × (Nat → Nat)) (c : Nat → Nat) : Nat × (Nat → Nat) := if tot W e c T < b.1 then (tot W e c T, c) else b
def bfd (W : Nat) (e : Nat → Nat → Nat) (T : Nat) (b : Nat × (Nat → Nat)) (l : List (Nat → Nat)) : Nat × (Nat → Nat) := l.foldl (bst W e T) b
theorem bfd_app {W : Nat} {e : Nat → Nat → Nat} {T : Nat} {b : Nat × (Nat → Nat)} {l l' : List (Nat → Nat)} : bfd W e T b (l ++ l') = bfd W e T (bfd W e T b l) l' := List.foldl_append
theorem bfd_nil {W : Nat} {e : Nat → Nat → Nat} {T : Nat} {b : Nat × (Nat → Nat)} : bfd W e T b [] = b := rfl
theorem bfd_le {W : Nat} {e : Nat → Nat → Nat} {T : Nat} : ∀ (l : List (Nat → Nat)) (b : Nat × (Nat → Nat)), (bfd W e T b l).1 ≤ b.1 ∧ ∀ c ∈ l, (bfd W e T b l).1 ≤ tot W e c T := by
  intro l
  induction l with
  | nil => intro b; exact ⟨Nat.le_refl _, fun c h => by cases h⟩
  | cons x l ih =>
    intro b
    obtain ⟨h1, h2⟩ := ih (bst W e T b x)
    have h3 : (bst W e T b x).1 ≤ b.1 ∧ (bst W e T b x).1 ≤ tot W e x T := by
      unfold bst; split
      · dsimp only; omega
      · omega
    show (bfd W e T (bst W e T b x) l).1 ≤ b.1 ∧ ∀ c ∈ x :: l, (bfd W e T (bst W e T b x) l).1 ≤ _
    refine ⟨by omega, fun c hc => ?_⟩
    rcases List.mem_cons.mp hc with q | q
    · rw [q]; omega
    · exact h2 c q
theorem bfd_id {W : Nat} {e : Nat → Nat → Nat} {T : Nat} : ∀ (l : List (Nat → Nat)) (b : Nat × (Nat → Nat)), (∀ c ∈ l, b.1 ≤ tot W e c T) → bfd W e T b l = b := by
  intro l
  induction l with
  | nil => intro b _; rfl
  | cons x l ih =>
    intro b h
    show bfd W e T (bst W e T b x) l = b
    have : bst W e T b x = b := by unfold bst; rw [if_neg (by have := h x List.mem_cons_self; omega)]
    rw [this]
    exact ih b fun c hc => h c (List.mem_cons_of_mem _ hc)
/-- the first cost doesn't matter -/
theorem bfd_ind {W : Nat} {e : Nat → Nat → Nat} {T : Nat} : ∀ (l : List (Nat → Nat)) (b b' : Nat × (Nat → Nat)), (∃ c ∈ l, tot W e c T < b.1 ∧ tot W e c T < b'.1) → bfd W e T b l = bfd W e T b' l := by
  intro l
  induction l with
  | nil => intro b b' h; obtain ⟨c, hc, -⟩ := h; cases hc
  | cons x l ih =>
    intro b b' h
    show bfd W e T (bst W e T b x) l = bfd W e T (bst W e T b' x) l
    obtain ⟨c, hc, h1, h2⟩ := h
    by_cases q1 : tot W e x T < b.1
    · by_cases q2 : tot W e x T < b'.1
      · unfold bst; rw [if_pos q1, if_pos q2]
      · have hcl : c ∈ l := by
          rcases List.mem_cons.mp hc with q | q
          · rw [q] at h2; omega
          · exact q
        refine ih _ _ ⟨c, hcl, ?_, ?_⟩
        · unfold bst; rw [if_pos q1]; dsimp only; omega
        · unfold bst; rw [if_neg q2]; exact h2
    · have hcl : c ∈ l := by
        rcases List.mem_cons.mp hc with q | q
        · rw [q] at h1; omega
        · exact q
      refine ih _ _ ⟨c, hcl, ?_, ?_⟩
      · unfold bst; rw [if_neg q1]; exact h1
      · unfold bst; split
        · dsimp only
          omega
        · exact h2
theorem bfd_mem {W : Nat} {e : Nat → Nat → Nat} {T : Nat} : ∀ (l : List (Nat → Nat)) (b : Nat × (Nat → Nat)), bfd W e T b l = b ∨ ∃ c ∈ l, bfd W e T b l = (tot W e c T, c) := by
  intro l
  induction l with
  | nil => intro b; exact Or.inl rfl
  | cons x l ih =>
    intro b
    show bfd W e T (bst W e T b x) l = b ∨ ∃ c ∈ x :: l, bfd W e T (bst W e T b x) l = _
    rcases ih (bst W e T b x) with h | ⟨c, hc, h⟩
    · rw [h]
      unfold bst
      split
      · exact Or.inr ⟨x, List.mem_cons_self, rfl⟩
      · exact Or.inl rfl
    · exact Or.inr ⟨c, List.mem_cons_of_mem _ hc, h⟩
/-- the best joining -/
def sol (W : Nat) (e : Nat → Nat → Nat) (tm : Nat → Nat → Bool) (T : Nat) : Nat × (Nat → Nat) := bfd W e T (3 * T + 1, fun _ => 0) (lvs W e tm T 0 (fun _ => 0))
theorem tot_0 {W : Nat} {e : Nat → Nat → Nat} {c : Nat → Nat} : tot W e c 0 = 0 := rfl
theorem sol_le {W : Nat} {e : Nat → Nat → Nat} {tm : Nat → Nat → Bool} {T : Nat} : (sol W e tm T).1 ≤ 3 * T := by
  obtain ⟨c', h1, h2⟩ := lvs_nobody (W := W) (e := e) (tm := tm) T 0 (fun _ => 0)
  have := (bfd_le (W := W) (e := e) (T := T) (lvs W e tm T 0 (fun _ => 0)) (3 * T + 1, fun _ => 0)).2 c' h1
  rw [tot_0, Nat.zero_add, Nat.zero_add] at h2
  unfold sol
  omega
theorem sol_any {W : Nat} {e : Nat → Nat → Nat} {tm : Nat → Nat → Bool} {T : Nat} {b : Nat × (Nat → Nat)} (hb : 3 * T < b.1) : bfd W e T b (lvs W e tm T 0 (fun _ => 0)) = sol W e tm T := by
  obtain ⟨c', h1, h2⟩ := lvs_nobody (W := W) (e := e) (tm := tm) T 0 (fun _ => 0)
  rw [tot_0, Nat.zero_add, Nat.zero_add] at h2
  exact bfd_ind _ _ _ ⟨c', h1, by omega, by dsimp only; omega⟩
theorem sol_W {W : Nat} {e : Nat → Nat → Nat} {tm : Nat → Nat → Bool} {T : Nat} {k : Nat} (hk : k < T) : (sol W e tm T).2 k ≤ W := by
  rcases bfd_mem (W := W) (e := e) (T := T) (lvs W e tm T 0 (fun _ => 0)) (3 * T + 1, fun _ => 0) with h | ⟨c, hc, h⟩
  · have h1 := sol_le (W := W) (e := e) (tm := tm) (T := T)
    unfold sol at h1
    rw [h] at h1
    dsimp only at h1
    omega
  · have := (lvs_ok T 0 (fun _ => 0) c hc).2.2.2 k (Nat.zero_le k) (by omega)
    unfold sol
    rw [h]
    exact this

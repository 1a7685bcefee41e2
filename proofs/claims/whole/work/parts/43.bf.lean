theorem Dst.sym {N : Nat} {A B L : Nat → Nat} {d : Nat → Nat → Nat} (hL : Lns N A B L) (h : Dst N A B L d) {u v : Nat} (hu : u < 12) (hv : v < 12) : d u v = d v u := by
  have hc : Clo N A B L (fun x y => d y x) := by
    refine ⟨fun x hx => h.1.1 x hx, fun x y hx hy => h.1.2.1 y x hy hx, fun l hl y hy => ?_⟩
    obtain ⟨g1, g2, -⟩ := hL l hl
    have t1 := h.tri' hL hy g2 g1
    have t2 := h.tri' hL hy g1 g2
    have c1 := (h.1.2.2 l hl (A l) g1).2
    have c2 := (h.1.2.2 l hl (B l) g2).1
    rw [h.1.1 _ g1] at c1
    rw [h.1.1 _ g2] at c2
    dsimp only
    omega
  have h1 := h.2 _ hc u v hu hv
  have h2 := h.2 _ hc v u hv hu
  omega
/-! chains of parents -/
def fset {α : Type} (f : Nat → α) (n : Nat) (v : α) : Nat → α := fun k => if k = n then v else f k
theorem fset_s {α : Type} {f : Nat → α} {n : Nat} {v : α} : fset f n v n = v := if_pos rfl
theorem fset_o {α : Type} {f : Nat → α} {n k : Nat} {v : α} (h : k ≠ n) : fset f n v k = f k := if_neg h
theorem pig : ∀ (N : Nat) (f : Nat → Nat), (∀ i, i ≤ N → f i < N) → ∃ i j, i < j ∧ j ≤ N ∧ f i = f j
  | 0, f, h => absurd (h 0 (Nat.le_refl 0)) (Nat.not_lt_zero _)
  | N + 1, f, h => by
    by_cases q : ∃ i, i ≤ N ∧ f i = f (N + 1)
    · obtain ⟨i, hi, e⟩ := q
      exact ⟨i, N + 1, by omega, Nat.le_refl _, e⟩
    · have hne : ∀ i, i ≤ N → f i ≠ f (N + 1) := fun i hi e => q ⟨i, hi, e⟩
      have hN := h (N + 1) (Nat.le_refl _)
      obtain ⟨i, j, h1, h2, h3⟩ := pig N (fun i => if f (N + 1) < f i then f i - 1 else f i) (fun i hi => by
        have a := hne i hi
        have b := h i (by omega)
        split <;> omega)
      refine ⟨i, j, h1, by omega, ?_⟩
      have a := hne i (by omega)
      have b := hne j h2
      split at h3 <;> split at h3 <;> omega
def exD (pr : Nat → Option Nat) : Nat → Nat → Prop
  | 0, n => pr n = none
  | k + 1, n => ∃ m, pr n = some m ∧ exD pr k m
theorem exD_u {pr : Nat → Option Nat} : ∀ {k k' n : Nat}, exD pr k n → exD pr k' n → k = k'
  | 0, 0, _, _, _ => rfl
  | 0, k' + 1, n, h, ⟨m, e, _⟩ => by rw [show pr n = none from h] at e; cases e
  | k + 1, 0, n, ⟨m, e, _⟩, h => by rw [show pr n = none from h] at e; cases e
  | k + 1, k' + 1, n, ⟨m, e, h⟩, ⟨m', e', h'⟩ => by
    rw [e] at e'
    cases e'
    rw [exD_u h h']
def wlk (pr : Nat → Option Nat) : Nat → Nat → Nat
  | 0, n => n
  | i + 1, n => wlk pr i ((pr n).getD 0)
theorem wlk_ok {pr : Nat → Option Nat} {N : Nat} (hp : ∀ n m, n < N → pr n = some m → m < N) : ∀ {i k n : Nat}, exD pr k n → i ≤ k → n < N → exD pr (k - i) (wlk pr i n) ∧ wlk pr i n < N
  | 0, k, n, h, _, hn => ⟨h, hn⟩
  | i + 1, 0, n, _, hi, _ => absurd hi (Nat.not_succ_le_zero i)
  | i + 1, k + 1, n, ⟨m, e, h⟩, hi, hn => by
    unfold wlk
    rw [e, show k + 1 - (i + 1) = k - i by omega]
    exact wlk_ok hp h (by omega) (hp n m hn e)
theorem exD_lt {pr : Nat → Option Nat} {N : Nat} (hp : ∀ n m, n < N → pr n = some m → m < N) {k n : Nat} (h : exD pr k n) (hn : n < N) : k < N := by
  refine Nat.lt_of_not_le fun hk => ?_
  obtain ⟨i, j, h1, h2, h3⟩ := pig N (fun i => wlk pr i n) (fun i hi => (wlk_ok hp h (by omega) hn).2)
  have a := (wlk_ok hp h (i := i) (by omega) hn).1
  have b := (wlk_ok hp h (i := j) (by omega) hn).1
  rw [h3] at a
  have := exD_u a b
  omega
/-! ways with arcs there and back -/
def Gph (N : Nat) (w : Nat → Nat → Nat) (A Bk : Nat → Nat → Prop) (π : Nat → Nat) (sr : Nat → Prop) : Prop :=
  (∀ m n, A m n → m < N ∧ n < N ∧ w m n ≤ 2200 ∧ π n ≤ π m + w m n) ∧ (∀ m n, Bk m n → A n m ∧ w n m = w m n ∧ π m = π n + w m n) ∧ ∀ n, n < N → sr n → π n = 0
def cntF (N : Nat) (far : Nat → Nat) : Nat := sm (fun n => if far n < 1000000 then 1 else 0) N
def BF (N : Nat) (w : Nat → Nat → Nat) (A Bk : Nat → Nat → Prop) (π : Nat → Nat) (sr : Nat → Prop) (far : Nat → Nat) (pr : Nat → Option Nat) : Prop :=
  (∀ n, n < N → π n ≤ far n ∧ far n ≤ 1000000) ∧ (∀ n, n < N → far n < 1000000 → far n ≤ 2200 * cntF N far) ∧ (∀ n, n < N → sr n → far n = 0 ∧ pr n = none) ∧ (∀ n, n < N → pr n = none → far n = 1000000 ∨ sr n) ∧
  (∀ n m, n < N → pr n = some m → far m < 1000000 ∧ ((A m n ∧ far m + w m n ≤ far n) ∨ (Bk m n ∧ far m ≤ far n + w m n))) ∧ ∀ n, n < N → ∃ k, exD pr k n
theorem cntF_le (N : Nat) (far : Nat → Nat) : cntF N far ≤ N := by
  have : cntF N far ≤ N * 1 := sm_bd fun n _ => by split <;> omega
  omega
theorem Gph.arc {N : Nat} {w : Nat → Nat → Nat} {A Bk : Nat → Nat → Prop} {π : Nat → Nat} {sr : Nat → Prop} (hG : Gph N w A Bk π sr) {m n v x : Nat} (h : (A m n ∧ v = x + w m n) ∨ (Bk m n ∧ v + w m n = x)) : m < N ∧ n < N ∧ x + π n ≤ v + π m ∧ v ≤ x + 2200 := by
  rcases h with ⟨ha, e⟩ | ⟨hb, e⟩
  · obtain ⟨a1, a2, a3, a4⟩ := hG.1 m n ha
    exact ⟨a1, a2, by omega, by omega⟩
  · obtain ⟨b1, b2, b3⟩ := hG.2.1 m n hb
    obtain ⟨a1, a2, a3, a4⟩ := hG.1 n m b1
    exact ⟨a2, a1, by omega, by omega⟩
theorem BF.par {N : Nat} {w : Nat → Nat → Nat} {A Bk : Nat → Nat → Prop} {π : Nat → Nat} {sr : Nat → Prop} (hG : Gph N w A Bk π sr) {far : Nat → Nat} {pr : Nat → Option Nat} (h : BF N w A Bk π sr far pr) {n m : Nat} (hn : n < N) (e : pr n = some m) : m < N ∧ far m + π n ≤ far n + π m := by
  obtain ⟨h1, h2⟩ := h.2.2.2.2.1 n m hn e
  rcases h2 with ⟨ha, e⟩ | ⟨hb, e⟩
  · obtain ⟨a1, a2, a3, a4⟩ := hG.1 m n ha
    exact ⟨a1, by omega⟩
  · obtain ⟨b1, b2, b3⟩ := hG.2.1 m n hb
    obtain ⟨a1, a2, a3, a4⟩ := hG.1 n m b1
    exact ⟨a2, by omega⟩
theorem BF.start {N : Nat} {w : Nat → Nat → Nat} {A Bk : Nat → Nat → Prop} {π : Nat → Nat} {sr : Nat → Prop} (hG : Gph N w A Bk π sr) (hπ : ∀ n, n < N → π n ≤ 1000000) {far : Nat → Nat} {pr : Nat → Option Nat} (h1 : ∀ n, n < N → (sr n ∧ far n = 0) ∨ (¬ sr n ∧ far n = 1000000)) (h2 : ∀ n, n < N → pr n = none) : BF N w A Bk π sr far pr := by
  refine ⟨fun n hn => ?_, fun n hn hf => ?_, fun n hn hs => ?_, fun n hn _ => ?_, fun n m hn e => ?_, fun n hn => ⟨0, h2 n hn⟩⟩
  · rcases h1 n hn with ⟨a, b⟩ | ⟨a, b⟩
    · have := hG.2.2 n hn a; omega
    · have := hπ n hn; omega
  · rcases h1 n hn with ⟨a, b⟩ | ⟨a, b⟩
    · omega
    · omega
  · rcases h1 n hn with ⟨a, b⟩ | ⟨a, b⟩
    · exact ⟨b, h2 n hn⟩
    · exact absurd hs a
  · rcases h1 n hn with ⟨a, b⟩ | ⟨a, b⟩
    · exact Or.inr a
    · exact Or.inl b
  · rw [h2 n hn] at e; cases e
theorem BF.relax {N : Nat} {w : Nat → Nat → Nat} {A Bk : Nat → Nat → Prop} {π : Nat → Nat} {sr : Nat → Prop} (hG : Gph N w A Bk π sr) {far : Nat → Nat} {pr : Nat → Option Nat} (h : BF N w A Bk π sr far pr) {m n v : Nat} (harc : (A m n ∧ v = far m + w m n) ∨ (Bk m n ∧ v + w m n = far m)) (hm : far m < 1000000) (hv : v < far n) :
    BF N w A Bk π sr (fset far n v) (fset pr n (some m)) := by
  obtain ⟨hm1, hn1, hs, hv2⟩ := hG.arc harc
  obtain ⟨b1, b2, b3, b4, b5, b6⟩ := h
  have hmn : m ≠ n := fun e => by subst e; omega
  have hfn := (b1 n hn1).2
  have hfm := (b1 m hm1).1
  have hcm := b2 m hm1 hm
  have hcnt : cntF N far ≤ cntF N (fset far n v) := sm_le fun k hk => by
    by_cases e : k = n
    · subst e; rw [fset_s, if_pos (show v < 1000000 by omega)]; split <;> omega
    · rw [fset_o e]; exact Nat.le_refl _
  have hcnt2 : far n = 1000000 → cntF N far + 1 ≤ cntF N (fset far n v) := fun e0 => sm_lt (fun k hk => by
    by_cases e : k = n
    · subst e; rw [fset_s, if_pos (show v < 1000000 by omega)]; split <;> omega
    · rw [fset_o e]; exact Nat.le_refl _) n hn1 (by rw [fset_s, if_pos (show v < 1000000 by omega), if_neg (by omega)]; omega)
  refine ⟨fun k hk => ?_, fun k hk hf => ?_, fun k hk hsr => ?_, fun k hk e => ?_, fun k j hk e => ?_, ?_⟩
  · by_cases e : k = n
    · subst e; rw [fset_s]; omega
    · rw [fset_o e]; exact b1 k hk
  · by_cases e : k = n
    · subst e
      rw [fset_s]
      by_cases e0 : far k = 1000000
      · have := hcnt2 e0; omega
      · have := b2 k hk (by omega); omega
    · rw [fset_o e] at hf ⊢
      have := b2 k hk hf; omega
  · have hk3 := b3 k hk hsr
    have e : k ≠ n := fun e => by subst e; omega
    rw [fset_o e, fset_o e]; exact hk3
  · by_cases e2 : k = n
    · subst e2; rw [fset_s] at e; cases e
    · rw [fset_o e2] at e ⊢; exact b4 k hk e
  · by_cases e2 : k = n
    · subst e2
      rw [fset_s] at e
      cases e
      rw [fset_o hmn, fset_s]
      refine ⟨hm, ?_⟩
      rcases harc with ⟨ha, e⟩ | ⟨hb, e⟩
      · exact Or.inl ⟨ha, by omega⟩
      · exact Or.inr ⟨hb, by omega⟩
    · rw [fset_o e2] at e
      obtain ⟨c1, c2⟩ := b5 k j hk e
      rw [fset_o e2]
      by_cases e3 : j = n
      · subst e3
        rw [fset_s]
        refine ⟨by omega, ?_⟩
        rcases c2 with ⟨ha, e⟩ | ⟨hb, e⟩
        · exact Or.inl ⟨ha, by omega⟩
        · exact Or.inr ⟨hb, by omega⟩
      · rw [fset_o e3]; exact ⟨c1, c2⟩
  · have l1 : ∀ (k p : Nat), p < N → exD pr k p → far p + π n < far n + π p → exD (fset pr n (some m)) k p := by
      intro k
      induction k with
      | zero =>
        intro p hp hx hl
        have e : p ≠ n := fun e => by subst e; omega
        show fset pr n (some m) p = none
        rw [fset_o e]; exact hx
      | succ k ih =>
        intro p hp hx hl
        obtain ⟨q, e1, e2⟩ := hx
        have e : p ≠ n := fun e => by subst e; omega
        obtain ⟨p1, p2⟩ := BF.par hG ⟨b1, b2, b3, b4, b5, b6⟩ hp e1
        exact ⟨q, by rw [fset_o e]; exact e1, ih q p1 e2 (by omega)⟩
    have l2 : ∀ (k p : Nat), p < N → exD pr k p → ∃ k', exD (fset pr n (some m)) k' p := by
      intro k
      induction k with
      | zero =>
        intro p hp hx
        by_cases e : p = n
        · obtain ⟨km, hkm⟩ := b6 m hm1
          exact ⟨km + 1, m, by rw [e, fset_s], l1 km m hm1 hkm (by omega)⟩
        · exact ⟨0, by show fset pr n (some m) p = none; rw [fset_o e]; exact hx⟩
      | succ k ih =>
        intro p hp hx
        by_cases e : p = n
        · obtain ⟨km, hkm⟩ := b6 m hm1
          exact ⟨km + 1, m, by rw [e, fset_s], l1 km m hm1 hkm (by omega)⟩
        · obtain ⟨q, e1, e2⟩ := hx
          obtain ⟨p1, -⟩ := BF.par hG ⟨b1, b2, b3, b4, b5, b6⟩ hp e1
          obtain ⟨k', hk'⟩ := ih q p1 e2
          exact ⟨k' + 1, q, by rw [fset_o e]; exact e1, hk'⟩
    intro k hk
    obtain ⟨j, hj⟩ := b6 k hk
    exact l2 j k hk hj
/-- nothing more is to be had -/
def FX (w : Nat → Nat → Nat) (A Bk : Nat → Nat → Prop) (far : Nat → Nat) : Prop := ∀ m n, far m < 1000000 → (A m n → far n ≤ far m + w m n) ∧ (Bk m n → far n + w m n ≤ far m)
def npot (far π : Nat → Nat) (Δ : Nat) : Nat → Nat := fun n => if far n ≤ π n + Δ then far n else π n + Δ
theorem BF.fin {N : Nat} {w : Nat → Nat → Nat} {A Bk : Nat → Nat → Prop} {π : Nat → Nat} {sr : Nat → Prop} {far : Nat → Nat} {pr : Nat → Option Nat} (hN : N ≤ 24) (h : BF N w A Bk π sr far pr) {n : Nat} (hn : n < N) (hf : far n < 1000000) : far n ≤ 52800 := by
  have := h.2.1 n hn hf
  have := cntF_le N far
  omega
theorem BF.newp {N : Nat} {w : Nat → Nat → Nat} {A Bk : Nat → Nat → Prop} {π : Nat → Nat} {sr : Nat → Prop} (hN : N ≤ 24) (hG : Gph N w A Bk π sr) {far : Nat → Nat} {pr : Nat → Option Nat} (h : BF N w A Bk π sr far pr) (hx : FX w A Bk far) {Δ : Nat} (hΔ : ∀ n, n < N → π n + Δ ≤ 1000000) :
    Gph N w A Bk (npot far π Δ) sr := by
  refine ⟨fun m n ha => ?_, fun m n hb => ?_, fun n hn hs => ?_⟩
  · obtain ⟨a1, a2, a3, a4⟩ := hG.1 m n ha
    refine ⟨a1, a2, a3, ?_⟩
    have c1 := hΔ m a1
    have c2 := (h.1 m a1).2
    unfold npot
    by_cases q : far m < 1000000
    · have := (hx m n q).1 ha
      split <;> split <;> omega
    · split <;> split <;> omega
  · obtain ⟨b1, b2, b3⟩ := hG.2.1 m n hb
    obtain ⟨a1, a2, a3, a4⟩ := hG.1 n m b1
    refine ⟨b1, b2, ?_⟩
    have c1 := hΔ m a2
    have c2 := (h.1 m a2).2
    have c3 := (h.1 n a1).2
    have c4 := hΔ n a1
    unfold npot
    by_cases q : far m < 1000000
    · have e1 := (hx m n q).2 hb
      have e2 := (hx n m (by omega)).1 b1
      split <;> split <;> omega
    · have q2 : far n = 1000000 := by
        refine Nat.le_antisymm c3 (Nat.le_of_not_lt fun z => ?_)
        have e2 := (hx n m z).1 b1
        have e3 := h.fin hN a1 z
        omega
      split <;> split <;> omega
  · have := (h.2.2.1 n hn hs).1
    unfold npot
    rw [this, if_pos (Nat.zero_le _)]
/-- along a chain from the end, the new numbers are the ways -/
theorem BF.chain {N : Nat} {w : Nat → Nat → Nat} {A Bk : Nat → Nat → Prop} {π : Nat → Nat} {sr : Nat → Prop} (hG : Gph N w A Bk π sr) {far : Nat → Nat} {pr : Nat → Option Nat} (h : BF N w A Bk π sr far pr) {Δ n m : Nat} (hn : n < N) (hl : far n ≤ π n + Δ) (e : pr n = some m) : far m ≤ π m + Δ := by
  have := (h.par hG hn e).2
  omega
theorem npot_le {far π : Nat → Nat} {Δ n : Nat} (hl : far n ≤ π n + Δ) : npot far π Δ n = far n := if_pos hl

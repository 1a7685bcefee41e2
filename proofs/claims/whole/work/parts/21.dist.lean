/-! shortest ways -/
/-- closed under all lines -/
def Clo (N : Nat) (A B L : Nat → Nat) (e : Nat → Nat → Nat) : Prop :=
  (∀ u, u < 12 → e u u = 0) ∧ (∀ u v, u < 12 → v < 12 → e u v ≤ 1000000) ∧ ∀ l, l < N → ∀ v, v < 12 → e (A l) v ≤ e (B l) v + L l ∧ e (B l) v ≤ e (A l) v + L l
/-- the largest closed one -/
def Dst (N : Nat) (A B L : Nat → Nat) (d : Nat → Nat → Nat) : Prop := Clo N A B L d ∧ ∀ e, Clo N A B L e → ∀ u v, u < 12 → v < 12 → e u v ≤ d u v
/-- the lines are lines -/
def Lns (N : Nat) (A B L : Nat → Nat) : Prop := ∀ l, l < N → A l < 12 ∧ B l < 12 ∧ A l ≠ B l ∧ 1 ≤ L l ∧ L l ≤ 200
theorem Dst.one {N : Nat} {A B L : Nat → Nat} {d d' : Nat → Nat → Nat} (h : Dst N A B L d) (h' : Dst N A B L d') {u v : Nat} (hu : u < 12) (hv : v < 12) : d u v = d' u v :=
  Nat.le_antisymm (h'.2 d h.1 u v hu hv) (h.2 d' h'.1 u v hu hv)
theorem Dst.tri {N : Nat} {A B L : Nat → Nat} {d e : Nat → Nat → Nat} (hL : Lns N A B L) (h : Dst N A B L d) (he : Clo N A B L e) {u w v : Nat} (hu : u < 12) (hw : w < 12) (hv : v < 12) : e u v ≤ d u w + e w v := by
  have hg : Clo N A B L (fun x y => if x < 12 ∧ y < 12 then e x v - e y v else 0) := by
    refine ⟨fun x hx => by simp, fun x y hx hy => ?_, fun l hl y hy => ?_⟩
    · dsimp only
      rw [if_pos ⟨hx, hy⟩]
      have := he.2.1 x v hx hv
      omega
    · obtain ⟨h1, h2, -⟩ := hL l hl
      dsimp only
      rw [if_pos ⟨h1, hy⟩, if_pos ⟨h2, hy⟩]
      have := he.2.2 l hl v hv
      omega
  have h1 := h.2 _ hg u w hu hw
  rw [if_pos ⟨hu, hw⟩] at h1
  omega
theorem Dst.tri' {N : Nat} {A B L : Nat → Nat} {d : Nat → Nat → Nat} (hL : Lns N A B L) (h : Dst N A B L d) {u w v : Nat} (hu : u < 12) (hw : w < 12) (hv : v < 12) : d u v ≤ d u w + d w v := h.tri hL h.1 hu hw hv
/-- the least way begins with a line -/
theorem Dst.next {N : Nat} {A B L : Nat → Nat} {d : Nat → Nat → Nat} (hL : Lns N A B L) (h : Dst N A B L d) {u v : Nat} (hu : u < 12) (hv : v < 12) (h0 : u ≠ v) (h1 : d u v < 1000000) :
    ∃ l, l < N ∧ ((A l = u ∧ d u v = L l + d (B l) v) ∨ (B l = u ∧ d u v = L l + d (A l) v)) := by
  refine Classical.byContradiction fun hn => ?_
  have hn : ∀ l, l < N → (A l = u → d u v ≠ L l + d (B l) v) ∧ (B l = u → d u v ≠ L l + d (A l) v) := fun l hl => ⟨fun a b => hn ⟨l, hl, Or.inl ⟨a, b⟩⟩, fun a b => hn ⟨l, hl, Or.inr ⟨a, b⟩⟩⟩
  have hg : Clo N A B L (fun x y => if x = u ∧ y = v then d u v + 1 else d x y) := by
    refine ⟨fun x hx => ?_, fun x y hx hy => ?_, fun l hl y hy => ?_⟩
    · dsimp only
      rw [if_neg (by omega)]
      exact h.1.1 x hx
    · dsimp only
      split
      · omega
      · exact h.1.2.1 x y hx hy
    · obtain ⟨g1, g2, g3, g4, g5⟩ := hL l hl
      obtain ⟨n1, n2⟩ := hn l hl
      have hc := h.1.2.2 l hl y hy
      dsimp only
      by_cases hy2 : y = v
      · subst hy2
        by_cases ha : A l = u
        · have n1 := n1 ha
          have hb : B l ≠ u := fun q => g3 (ha.trans q.symm)
          rw [if_pos ⟨ha, rfl⟩, if_neg (fun q => hb q.1)]
          rw [ha] at hc
          omega
        · rw [if_neg (fun q => ha q.1)]
          by_cases hb : B l = u
          · have n2 := n2 hb
            rw [if_pos ⟨hb, rfl⟩]
            rw [hb] at hc
            omega
          · rw [if_neg (fun q => hb q.1)]
            exact hc
      · rw [if_neg (fun q => hy2 q.2), if_neg (fun q => hy2 q.2)]
        exact hc
  have := h.2 _ hg u v hu hv
  rw [if_pos ⟨rfl, rfl⟩] at this
  omega
/-- no lines -/
theorem Dst.zero {A B L : Nat → Nat} : Dst 0 A B L (fun u v => if u = v then 0 else 1000000) := by
  refine ⟨⟨fun u hu => by simp, fun u v hu hv => ?_, fun l hl => absurd hl (Nat.not_lt_zero l)⟩, fun e he u v hu hv => ?_⟩
  · dsimp only; split <;> omega
  · dsimp only
    split
    · rename_i q; subst q; rw [he.1 u hu]; exact Nat.le_refl 0
    · exact he.2.1 u v hu hv
/-- one line more -/
theorem Dst.add {N : Nat} {A B L : Nat → Nat} {d : Nat → Nat → Nat} (hL : Lns (N + 1) A B L) (h : Dst N A B L d) :
    Dst (N + 1) A B L (fun u v => min (min (d u v) (d u (A N) + L N + d (B N) v)) (min (d u (B N)) (d u (A N) + L N + d (B N) (B N)) + L N + min (d (A N) v) (d (A N) (A N) + L N + d (B N) v))) := by
  have hL0 : Lns N A B L := fun l hl => hL l (by omega)
  obtain ⟨ha, hb, hne, hl1, hl2⟩ := hL N (by omega)
  have haa := h.1.1 (A N) ha
  have hbb := h.1.1 (B N) hb
  have key : ∀ u v, u < 12 → v < 12 → min (min (d u v) (d u (A N) + L N + d (B N) v)) (min (d u (B N)) (d u (A N) + L N + d (B N) (B N)) + L N + min (d (A N) v) (d (A N) (A N) + L N + d (B N) v)) = min (d u v) (min (d u (A N) + L N + d (B N) v) (d u (B N) + L N + d (A N) v)) := by
    intro u v hu hv
    have t1 := h.tri' hL0 hu hb hv
    have t2 := h.tri' hL0 hu ha hv
    omega
  have hcl : Clo (N + 1) A B L (fun u v => min (d u v) (min (d u (A N) + L N + d (B N) v) (d u (B N) + L N + d (A N) v))) := by
    refine ⟨fun u hu => ?_, fun u v hu hv => ?_, fun l hl v hv => ?_⟩
    · have := h.1.1 u hu
      dsimp only; omega
    · have := h.1.2.1 u v hu hv
      dsimp only; omega
    · by_cases hlN : l = N
      · subst hlN
        dsimp only
        have q1 := h.1.1 (A l) ha
        have q2 := h.1.1 (B l) hb
        omega
      · have hlt : l < N := by omega
        have c1 := h.1.2.2 l hlt v hv
        have c2 := h.1.2.2 l hlt (A N) ha
        have c3 := h.1.2.2 l hlt (B N) hb
        dsimp only
        omega
  have hmax : ∀ e, Clo (N + 1) A B L e → ∀ u v, u < 12 → v < 12 → e u v ≤ min (d u v) (min (d u (A N) + L N + d (B N) v) (d u (B N) + L N + d (A N) v)) := by
    intro e he u v hu hv
    have he0 : Clo N A B L e := ⟨he.1, he.2.1, fun l hl => he.2.2 l (by omega)⟩
    have e0 := h.2 e he0 u v hu hv
    have e1 := h.tri hL0 he0 hu ha hv
    have e2 := h.tri hL0 he0 hu hb hv
    have e3 := h.2 e he0 (B N) v hb hv
    have e4 := h.2 e he0 (A N) v ha hv
    have e5 := he.2.2 N (by omega) v hv
    omega
  refine ⟨⟨fun u hu => ?_, fun u v hu hv => ?_, fun l hl v hv => ?_⟩, fun e he u v hu hv => ?_⟩
  · dsimp only; rw [key u u hu hu]; exact hcl.1 u hu
  · dsimp only; rw [key u v hu hv]; exact hcl.2.1 u v hu hv
  · obtain ⟨g1, g2, -⟩ := hL l hl
    dsimp only; rw [key _ v g1 hv, key _ v g2 hv]; exact hcl.2.2 l hl v hv
  · dsimp only; rw [key u v hu hv]; exact hmax e he u v hu hv
/-- lines behind the last count don't matter -/
theorem Dst.cong {N : Nat} {A B L A' B' L' : Nat → Nat} {d : Nat → Nat → Nat} (h : Dst N A B L d) (e : ∀ l, l < N → A l = A' l ∧ B l = B' l ∧ L l = L' l) : Dst N A' B' L' d := by
  refine ⟨⟨h.1.1, h.1.2.1, fun l hl v hv => ?_⟩, fun x hx => h.2 x ⟨hx.1, hx.2.1, fun l hl v hv => ?_⟩⟩
  · obtain ⟨e1, e2, e3⟩ := e l hl
    rw [← e1, ← e2, ← e3]; exact h.1.2.2 l hl v hv
  · obtain ⟨e1, e2, e3⟩ := e l hl
    rw [e1, e2, e3]; exact hx.2.2 l hl v hv
theorem Dst.ext {N : Nat} {A B L : Nat → Nat} {d d' : Nat → Nat → Nat} (hL : Lns N A B L) (h : Dst N A B L d) (e : ∀ u v, u < 12 → v < 12 → d u v = d' u v) : Dst N A B L d' := by
  refine ⟨⟨fun u hu => by rw [← e u u hu hu]; exact h.1.1 u hu, fun u v hu hv => by rw [← e u v hu hv]; exact h.1.2.1 u v hu hv, fun l hl v hv => ?_⟩, fun x hx u v hu hv => by rw [← e u v hu hv]; exact h.2 x hx u v hu hv⟩
  obtain ⟨g1, g2, -⟩ := hL l hl
  rw [← e _ v g1 hv, ← e _ v g2 hv]; exact h.1.2.2 l hl v hv
/-- how many junctions are nearer to v -/
def nearer (d : Nat → Nat → Nat) (v : Nat) (x : Nat) : Nat → Nat
  | 0 => 0
  | n + 1 => nearer d v x n + if d n v < x then 1 else 0
theorem nearer_le (d : Nat → Nat → Nat) (v x : Nat) : ∀ n, nearer d v x n ≤ n
  | 0 => Nat.le_refl 0
  | n + 1 => by
    have := nearer_le d v x n
    unfold nearer; split <;> omega
theorem nearer_mono (d : Nat → Nat → Nat) (v : Nat) {x y : Nat} (h : x ≤ y) : ∀ n, nearer d v x n ≤ nearer d v y n
  | 0 => Nat.le_refl 0
  | n + 1 => by
    have := nearer_mono d v h n
    unfold nearer; split <;> split <;> omega
theorem nearer_lt (d : Nat → Nat → Nat) (v : Nat) {x y w : Nat} (h : x < y) (hw : x = d w v) : ∀ n, w < n → nearer d v x n < nearer d v y n
  | 0, hn => absurd hn (Nat.not_lt_zero w)
  | n + 1, hn => by
    by_cases e : w = n
    · subst e
      have := nearer_mono d v (Nat.le_of_lt h) w
      unfold nearer
      rw [if_neg (by omega), if_pos (by omega)]
      omega
    · have := nearer_lt d v h hw n (by omega)
      unfold nearer; split <;> split <;> omega
theorem nearer_11 (d : Nat → Nat → Nat) (v : Nat) {u : Nat} (hu : u < 12) : nearer d v (d u v) 12 ≤ 11 := by
  have key : ∀ n, u < n → nearer d v (d u v) n ≤ n - 1 := by
    intro n
    induction n with
    | zero => intro h; exact absurd h (Nat.not_lt_zero u)
    | succ n ih =>
      intro h
      by_cases e : u = n
      · subst e
        have := nearer_le d v (d u v) u
        unfold nearer
        rw [if_neg (by omega)]
        omega
      · have := ih (by omega)
        unfold nearer; split <;> omega
  exact key 12 hu
/-- a way is at most 200 miles for each junction that is nearer -/
theorem Dst.bound {N : Nat} {A B L : Nat → Nat} {d : Nat → Nat → Nat} (hL : Lns N A B L) (h : Dst N A B L d) {v : Nat} (hv : v < 12) : ∀ (n u : Nat), u < 12 → nearer d v (d u v) 12 ≤ n → d u v < 1000000 → d u v ≤ 200 * n := by
  intro n
  induction n with
  | zero =>
    intro u hu hn hf
    by_cases e : u = v
    · subst e; rw [h.1.1 u hu]; omega
    · obtain ⟨l, hl, hc⟩ := h.next hL hu hv e hf
      obtain ⟨g1, g2, g3, g4, g5⟩ := hL l hl
      rcases hc with ⟨e1, e2⟩ | ⟨e1, e2⟩
      · have := nearer_lt d v (x := d (B l) v) (y := d u v) (by omega) rfl 12 g2
        omega
      · have := nearer_lt d v (x := d (A l) v) (y := d u v) (by omega) rfl 12 g1
        omega
  | succ n ih =>
    intro u hu hn hf
    by_cases e : u = v
    · subst e; rw [h.1.1 u hu]; omega
    · obtain ⟨l, hl, hc⟩ := h.next hL hu hv e hf
      obtain ⟨g1, g2, g3, g4, g5⟩ := hL l hl
      rcases hc with ⟨e1, e2⟩ | ⟨e1, e2⟩
      · have := nearer_lt d v (x := d (B l) v) (y := d u v) (by omega) rfl 12 g2
        have := ih (B l) g2 (by omega) (by omega)
        omega
      · have := nearer_lt d v (x := d (A l) v) (y := d u v) (by omega) rfl 12 g1
        have := ih (A l) g1 (by omega) (by omega)
        omega
theorem Dst.b2200 {N : Nat} {A B L : Nat → Nat} {d : Nat → Nat → Nat} (hL : Lns N A B L) (h : Dst N A B L d) {u v : Nat} (hu : u < 12) (hv : v < 12) : d u v ≤ 2200 ∨ d u v = 1000000 := by
  have h1 := h.1.2.1 u v hu hv
  by_cases e : d u v = 1000000
  · exact Or.inr e
  · have := h.bound hL hv 11 u hu (nearer_11 d v hu) (by omega)
    exact Or.inl (by omega)

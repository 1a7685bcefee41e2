/-! the way of a sum, and its parts -/
def addAt (f : Nat → Nat) (c x : Nat) : Nat → Nat := fun k => if k = c then f k + x else f k
theorem addAt_s {f : Nat → Nat} {c x : Nat} : addAt f c x c = f c + x := if_pos rfl
theorem addAt_o {f : Nat → Nat} {c x k : Nat} (h : k ≠ c) : addAt f c x k = f k := if_neg h
theorem sm_addAt {f : Nat → Nat} {c x : Nat} : ∀ {n : Nat}, c < n → sm (addAt f c x) n = sm f n + x
  | 0, h => absurd h (Nat.not_lt_zero c)
  | n + 1, h => by
    by_cases e : c = n
    · subst e
      have : sm (addAt f c x) c = sm f c := sm_cong fun k hk => addAt_o (by omega)
      unfold sm; rw [this, addAt_s]; omega
    · have := sm_addAt (f := f) (c := c) (x := x) (n := n) (by omega)
      unfold sm; rw [this, addAt_o (fun q => e q.symm)]; omega
theorem sm_part {f : Nat → Nat} : ∀ {n : Nat}, ∀ {c : Nat}, c < n → f c ≤ sm f n
  | 0, c, h => absurd h (Nat.not_lt_zero c)
  | n + 1, c, h => by
    by_cases e : c = n
    · subst e; unfold sm; omega
    · have := sm_part (f := f) (n := n) (c := c) (by omega)
      unfold sm; omega
def pth (A B C L : Nat → Nat) (d : Nat → Nat → Nat) (N v : Nat) : Nat → Nat → (Nat → Nat) → Nat → (Nat → Nat) × Nat
  | 0, _, run, last => (run, last)
  | n + 1, u, run, last => if u = v then (run, last) else match rtS A B L d u v N with
    | none => (run, last)
    | some q => pth A B C L d N v n q.2 (addAt run (C q.1) (L q.1)) q.1
theorem pth_end {A B C L : Nat → Nat} {d : Nat → Nat → Nat} {N v : Nat} {run : Nat → Nat} {last : Nat} : ∀ n, pth A B C L d N v n v run last = (run, last)
  | 0 => rfl
  | n + 1 => by unfold pth; rw [if_pos rfl]
theorem pth_step {A B C L : Nat → Nat} {d : Nat → Nat → Nat} {N u v l w n : Nat} {run : Nat → Nat} {last : Nat} (hne : u ≠ v) (h : rtS A B L d u v N = some (l, w)) : pth A B C L d N v (n + 1) u run last = pth A B C L d N v n w (addAt run (C l) (L l)) l := by
  conv => lhs; unfold pth
  rw [if_neg hne, h]
theorem near_step {N : Nat} {A B C L : Nat → Nat} {d : Nat → Nat → Nat} (hP : NetP N A B C L d) {u v l w n : Nat} (hl : l < N) (hw : w < 12) (hd : L l + d w v = d u v) (hn : nearer d v (d u v) 12 ≤ n + 1) : nearer d v (d w v) 12 ≤ n := by
  obtain ⟨-, -, -, g4, -⟩ := hP.2.1 l hl
  have := nearer_lt d v (x := d w v) (y := d u v) (by omega) rfl 12 hw
  omega
theorem near_pos {N : Nat} {A B C L : Nat → Nat} {d : Nat → Nat → Nat} (hP : NetP N A B C L d) {u v : Nat} (hu : u < 12) (hv : v < 12) (hne : u ≠ v) (hf : d u v < 1000000) : 1 ≤ nearer d v (d u v) 12 := by
  obtain ⟨l, w, -, hl, hw, -, hd⟩ := rt_ex hP hu hv hne hf
  obtain ⟨-, -, -, g4, -⟩ := hP.2.1 l hl
  have := nearer_lt d v (x := d w v) (y := d u v) (by omega) rfl 12 hw
  omega
theorem pth_sum {N : Nat} {A B C L : Nat → Nat} {d : Nat → Nat → Nat} (hP : NetP N A B C L d) {v : Nat} (hv : v < 12) : ∀ (n u : Nat) (run : Nat → Nat) (last : Nat), u < 12 → d u v < 1000000 → nearer d v (d u v) 12 ≤ n → (u = v → last < N) →
    sm (pth A B C L d N v n u run last).1 8 = sm run 8 + d u v ∧ (pth A B C L d N v n u run last).2 < N := by
  intro n
  induction n with
  | zero =>
    intro u run last hu hf hn hlast
    by_cases e : u = v
    · subst e
      rw [pth_end, hP.2.2.2.1.1 u hu]; exact ⟨rfl, hlast rfl⟩
    · have := near_pos hP hu hv e hf; omega
  | succ n ih =>
    intro u run last hu hf hn hlast
    by_cases e : u = v
    · subst e
      rw [pth_end, hP.2.2.2.1.1 u hu]; exact ⟨rfl, hlast rfl⟩
    · obtain ⟨l, w, h1, hl, hw, -, hd⟩ := rt_ex hP hu hv e hf
      rw [pth_step e h1]
      obtain ⟨k1, k2⟩ := ih w (addAt run (C l) (L l)) l hw (by omega) (near_step hP hl hw hd hn) (fun _ => hl)
      rw [k1, sm_addAt (hP.2.2.1 l hl)]
      exact ⟨by omega, k2⟩
/-- the first of the largest -/
def am (k : Nat → Nat) : Nat → Nat
  | 0 => 0
  | j + 1 => if k (am k j) < k (j + 1) then j + 1 else am k j
theorem am_le (k : Nat → Nat) : ∀ j, am k j ≤ j
  | 0 => Nat.le_refl 0
  | j + 1 => by have := am_le k j; unfold am; split <;> omega
theorem am_max (k : Nat → Nat) : ∀ j, (∀ i, i ≤ j → k i ≤ k (am k j)) ∧ ∀ i, i < am k j → k i < k (am k j)
  | 0 => ⟨fun i hi => by rw [show i = 0 by omega]; exact Nat.le_refl _, fun i hi => absurd hi (Nat.not_lt_zero i)⟩
  | j + 1 => by
    obtain ⟨h1, h2⟩ := am_max k j
    have h3 := am_le k j
    unfold am
    split
    · rename_i h
      refine ⟨fun i hi => ?_, fun i hi => ?_⟩
      · by_cases e : i = j + 1
        · subst e; exact Nat.le_refl _
        · have := h1 i (by omega); omega
      · have := h1 i (by omega); omega
    · rename_i h
      refine ⟨fun i hi => ?_, h2⟩
      by_cases e : i = j + 1
      · subst e; omega
      · exact h1 i (by omega)
theorem am_one {k : Nat → Nat} {j i : Nat} (hi : i ≤ j) (h1 : ∀ x, x ≤ j → k x ≤ k i) (h2 : ∀ x, x < i → k x < k i) : am k j = i := by
  obtain ⟨g1, g2⟩ := am_max k j
  have g3 := am_le k j
  have a1 := g1 i hi
  have a2 := h1 (am k j) g3
  rcases Nat.lt_trichotomy (am k j) i with q | q | q
  · have := h2 _ q; omega
  · exact q
  · have := g2 _ q; omega
/-- one more to the first of those with most cut off (cut off: one more than it is; 0: has had) -/
def gvP (p k : Nat → Nat) : Nat → Nat := addAt p (am k 7) 1
def gvK (k : Nat → Nat) : Nat → Nat := fun c => if c = am k 7 then 0 else k c
def gv : Nat → (Nat → Nat) → (Nat → Nat) → (Nat → Nat) × (Nat → Nat)
  | 0, p, k => (p, k)
  | n + 1, p, k => gv n (gvP p k) (gvK k)
/-- what is cut off in all -/
def cutS (k : Nat → Nat) : Nat := sm (fun c => k c - 1) 8
theorem cutS_gv {k : Nat → Nat} {T : Nat} (hT : ∀ c, c < 8 → k c ≤ T) (hT0 : 1 ≤ T) : cutS k ≤ cutS (gvK k) + (T - 1) := by
  have h7 := am_le k 7
  have e : cutS k = sm (addAt (fun c => gvK k c - 1) (am k 7) (k (am k 7) - 1)) 8 := by
    refine sm_cong fun c hc => ?_
    unfold addAt gvK
    by_cases q : c = am k 7
    · rw [if_pos q]; dsimp only; rw [if_pos q, q]; omega
    · rw [if_neg q]; dsimp only; rw [if_neg q]
  rw [e, sm_addAt (by omega)]
  have := hT (am k 7) (by omega)
  show _ ≤ sm (fun c => gvK k c - 1) 8 + (T - 1)
  omega
theorem cutS_pos {k : Nat → Nat} (h : 0 < cutS k) : ∃ c, c < 8 ∧ 2 ≤ k c := by
  refine Classical.byContradiction fun hn => ?_
  have : cutS k ≤ 8 * 0 := sm_bd fun c hc => by
    have : ¬ 2 ≤ k c := fun q => hn ⟨c, hc, q⟩
    omega
  omega
/-- two tables that differ only where nothing is cut off -/
def likeK (k k' : Nat → Nat) : Prop := ∀ c, c < 8 → k c = k' c ∨ (k c ≤ 1 ∧ k' c ≤ 1)
theorem like_am {k k' : Nat → Nat} (h : likeK k k') (hp : 0 < cutS k) : am k' 7 = am k 7 := by
  obtain ⟨c0, hc0, h2⟩ := cutS_pos hp
  obtain ⟨g1, g2⟩ := am_max k 7
  have g3 := am_le k 7
  have m1 := g1 c0 (by omega)
  have e : k' (am k 7) = k (am k 7) := by rcases h (am k 7) (by omega) with q | q <;> omega
  refine am_one g3 (fun x hx => ?_) (fun x hx => ?_)
  · have := g1 x hx
    rcases h x (by omega) with q | q <;> omega
  · have := g2 x hx
    rcases h x (by omega) with q | q <;> omega
theorem like_gv {T : Nat} (hT0 : 1 ≤ T) : ∀ (n : Nat) (p k k' : Nat → Nat), likeK k k' → (∀ c, c < 8 → k c ≤ T) → n * T ≤ cutS k → (gv n p k').1 = (gv n p k).1 := by
  intro n
  induction n with
  | zero => intro p k k' _ _ _; rfl
  | succ n ih =>
    intro p k k' h hT hc
    have hs : (n + 1) * T = n * T + T := Nat.succ_mul n T
    have ea := like_am h (by omega)
    unfold gv
    have ep : gvP p k' = gvP p k := by unfold gvP; rw [ea]
    rw [ep]
    refine ih _ _ _ (fun c hc => ?_) (fun c hc => ?_) ?_
    · unfold gvK; rw [ea]
      by_cases q : c = am k 7
      · rw [if_pos q, if_pos q]; exact Or.inl rfl
      · rw [if_neg q, if_neg q]; exact h c hc
    · unfold gvK
      by_cases q : c = am k 7
      · rw [if_pos q]; omega
      · rw [if_neg q]; exact hT c hc
    · have := cutS_gv hT hT0
      omega
theorem gv_sum : ∀ (n : Nat) (p k : Nat → Nat), sm (gv n p k).1 8 = sm p 8 + n := by
  intro n
  induction n with
  | zero => intro p k; rfl
  | succ n ih =>
    intro p k
    unfold gv
    have h7 := am_le k 7
    rw [ih, gvP, sm_addAt (by omega)]
    omega
/-- parting by miles -/
def prt (left T : Nat) (run : Nat → Nat) : Nat → Nat := fun c => left * run c / T
def rem (left T : Nat) (run : Nat → Nat) : Nat → Nat := fun c => left * run c % T
theorem sm_mul (x : Nat) (f : Nat → Nat) : ∀ n, sm (fun c => x * f c) n = x * sm f n
  | 0 => (Nat.mul_zero x).symm
  | n + 1 => by unfold sm; rw [sm_mul x f n, Nat.mul_add]
theorem sm_add (f g : Nat → Nat) : ∀ n, sm (fun c => f c + g c) n = sm f n + sm g n
  | 0 => rfl
  | n + 1 => by unfold sm; rw [sm_add f g n]; omega
theorem prt_rem {left T : Nat} {run : Nat → Nat} (n : Nat) : T * sm (prt left T run) n + sm (rem left T run) n = left * sm run n := by
  rw [← sm_mul, ← sm_mul, ← sm_add]
  refine sm_cong fun c _ => ?_
  exact Nat.div_add_mod _ _
theorem over_ok {left T : Nat} {run : Nat → Nat} (hT : 1 ≤ T) (hr : sm run 8 = T) : sm (prt left T run) 8 ≤ left ∧ T * (left - sm (prt left T run) 8) = sm (rem left T run) 8 ∧ left - sm (prt left T run) 8 < 8 := by
  have h := prt_rem (left := left) (T := T) (run := run) 8
  rw [hr, Nat.mul_comm left T] at h
  have h1 : sm (prt left T run) 8 ≤ left := Nat.le_of_mul_le_mul_left (by omega : T * sm (prt left T run) 8 ≤ T * left) (by omega)
  have h2 : T * (left - sm (prt left T run) 8) = sm (rem left T run) 8 := by rw [Nat.mul_sub]; omega
  refine ⟨h1, h2, ?_⟩
  have h3 : sm (rem left T run) 8 ≤ 8 * (T - 1) := sm_bd fun c hc => by
    have : left * run c % T < T := Nat.mod_lt _ (by omega)
    show left * run c % T ≤ T - 1
    omega
  have h4 : T * (left - sm (prt left T run) 8) < T * 8 := by
    have : T * 8 = 8 * T := Nat.mul_comm T 8
    omega
  exact Nat.lt_of_mul_lt_mul_left h4
/-- the class's table of what was cut off; the reference's -/
def kK (left T : Nat) (run : Nat → Nat) : Nat → Nat := fun c => rem left T run c + 1
def kM (left T : Nat) (run : Nat → Nat) : Nat → Nat := fun c => if run c = 0 then 0 else rem left T run c + 1
theorem kKM {left T : Nat} {run : Nat → Nat} : likeK (kK left T run) (kM left T run) := by
  intro c _
  unfold kK kM
  by_cases q : run c = 0
  · refine Or.inr ?_
    rw [if_pos q]
    unfold rem
    rw [q, Nat.mul_zero, Nat.zero_mod]
    omega
  · exact Or.inl (by rw [if_neg q])
/-- what each has, terminals apart -/
def gvn (left T : Nat) (run : Nat → Nat) : Nat → Nat := (gv (left - sm (prt left T run) 8) (prt left T run) (kK left T run)).1
theorem gvn_M {left T : Nat} {run : Nat → Nat} (hT : 1 ≤ T) (hr : sm run 8 = T) : (gv (left - sm (prt left T run) 8) (prt left T run) (kM left T run)).1 = gvn left T run := by
  obtain ⟨-, h2, -⟩ := over_ok (left := left) hT hr
  refine like_gv hT _ _ _ _ kKM (fun c hc => ?_) ?_
  · have : left * run c % T < T := Nat.mod_lt _ (by omega)
    show left * run c % T + 1 ≤ T
    omega
  · rw [Nat.mul_comm, h2]
    exact Nat.le_refl _
theorem gvn_sum {left T : Nat} {run : Nat → Nat} (hT : 1 ≤ T) (hr : sm run 8 = T) : sm (gvn left T run) 8 = left := by
  obtain ⟨h1, -, -⟩ := over_ok (left := left) hT hr
  unfold gvn
  rw [gv_sum]
  omega
/-- all parts of a sum -/
def PT (left T tenth first last : Nat) (run : Nat → Nat) : Nat → Nat := addAt (addAt (gvn left T run) first tenth) last tenth
theorem PT_sum {left T tenth first last : Nat} {run : Nat → Nat} (hT : 1 ≤ T) (hr : sm run 8 = T) (h1 : first < 8) (h2 : last < 8) : sm (PT left T tenth first last run) 8 = left + tenth + tenth := by
  unfold PT
  rw [sm_addAt h2, sm_addAt h1, gvn_sum hT hr]
/-- the parts of sum s for the way from u to v -/
def PTs (A B C L : Nat → Nat) (d : Nat → Nat → Nat) (N u v s : Nat) : Nat → Nat :=
  PT (s - 2 * (s / 10)) (d u v) (s / 10) (match rtS A B L d u v N with | none => 0 | some q => C q.1) (C (pth A B C L d N v 11 u (fun _ => 0) 0).2) (pth A B C L d N v 11 u (fun _ => 0) 0).1

/-! sums of a table -/
def rwS (x : Nat → Nat → Nat) (a : Nat) : Nat := sm (x a) 12
def clS (x : Nat → Nat → Nat) (b : Nat) : Nat := sm (fun a => x a b) 12
def cst2 (d x : Nat → Nat → Nat) : Nat := s2 (fun a b => x a b * d a b)
theorem sm_swap (x : Nat → Nat → Nat) (m : Nat) : ∀ n, sm (fun a => sm (x a) m) n = sm (fun b => sm (fun a => x a b) n) m
  | 0 => by
    have : sm (fun b => sm (fun a => x a b) 0) m ≤ m * 0 := sm_bd fun _ _ => Nat.le_refl 0
    show 0 = _
    omega
  | n + 1 => by
    have e : sm (fun b => sm (fun a => x a b) (n + 1)) m = sm (fun b => (fun b => sm (fun a => x a b) n) b + x n b) m := rfl
    rw [e, sm_add, ← sm_swap x m n]
    rfl
theorem s2_add (x y : Nat → Nat → Nat) : s2 (fun a b => x a b + y a b) = s2 x + s2 y := by
  unfold s2
  rw [← sm_add]
  exact sm_cong fun a _ => sm_add _ _ 12
theorem s2_le {x y : Nat → Nat → Nat} (h : ∀ a b, a < 12 → b < 12 → x a b ≤ y a b) : s2 x ≤ s2 y := sm_le fun a ha => sm_le fun b hb => h a b ha hb
theorem s2_cong {x y : Nat → Nat → Nat} (h : ∀ a b, a < 12 → b < 12 → x a b = y a b) : s2 x = s2 y := sm_cong fun a ha => sm_cong fun b hb => h a b ha hb
theorem s2_row (u : Nat → Nat) (x : Nat → Nat → Nat) : s2 (fun a b => u a * x a b) = sm (fun a => u a * rwS x a) 12 := sm_cong fun a _ => sm_mul _ _ 12
theorem s2_col (v : Nat → Nat) (x : Nat → Nat → Nat) : s2 (fun a b => v b * x a b) = sm (fun b => v b * clS x b) 12 := by
  unfold s2
  rw [sm_swap]
  exact sm_cong fun b _ => sm_mul (v b) (fun a => x a b) 12
theorem s2_k (k : Nat) (x : Nat → Nat → Nat) : s2 (fun a b => k * x a b) = k * s2 x := by
  unfold s2
  rw [← sm_mul]
  exact sm_cong fun a _ => sm_mul _ _ 12
def xadd (x : Nat → Nat → Nat) (a b e : Nat) : Nat → Nat → Nat := fun i j => if i = a ∧ j = b then x i j + e else x i j
def xsub (x : Nat → Nat → Nat) (a b e : Nat) : Nat → Nat → Nat := fun i j => if i = a ∧ j = b then x i j - e else x i j
theorem xadd_s {x : Nat → Nat → Nat} {a b e : Nat} : xadd x a b e a b = x a b + e := if_pos ⟨rfl, rfl⟩
theorem xadd_o {x : Nat → Nat → Nat} {a b e i j : Nat} (h : ¬ (i = a ∧ j = b)) : xadd x a b e i j = x i j := if_neg h
theorem xsub_s {x : Nat → Nat → Nat} {a b e : Nat} : xsub x a b e a b = x a b - e := if_pos ⟨rfl, rfl⟩
theorem xsub_o {x : Nat → Nat → Nat} {a b e i j : Nat} (h : ¬ (i = a ∧ j = b)) : xsub x a b e i j = x i j := if_neg h
theorem sm_at {f g : Nat → Nat} {c e : Nat} (h1 : g c = f c + e) (h2 : ∀ k, k ≠ c → g k = f k) {n : Nat} (hc : c < n) : sm g n = sm f n + e := by
  rw [← sm_addAt (f := f) (x := e) hc]
  exact sm_cong fun k _ => by
    by_cases q : k = c
    · rw [q, addAt_s, h1]
    · rw [addAt_o q, h2 k q]
theorem rs_add {x y : Nat → Nat → Nat} {a b e : Nat} (hb : b < 12) (h1 : y a b = x a b + e) (h2 : ∀ i j, ¬ (i = a ∧ j = b) → y i j = x i j) (i : Nat) : rwS y i = rwS x i + (if i = a then e else 0) := by
  unfold rwS
  by_cases q : i = a
  · subst q
    rw [if_pos rfl]
    exact sm_at (f := x i) (g := y i) (c := b) h1 (fun k hk => h2 i k (fun z => hk z.2)) hb
  · rw [if_neg q, Nat.add_zero]
    exact sm_cong fun k _ => h2 i k (fun z => q z.1)
theorem cs_add {x y : Nat → Nat → Nat} {a b e : Nat} (ha : a < 12) (h1 : y a b = x a b + e) (h2 : ∀ i j, ¬ (i = a ∧ j = b) → y i j = x i j) (j : Nat) : clS y j = clS x j + (if j = b then e else 0) := by
  unfold clS
  by_cases q : j = b
  · subst q
    rw [if_pos rfl]
    exact sm_at (f := fun a => x a j) (g := fun a => y a j) (c := a) h1 (fun k hk => h2 k j (fun z => hk z.1)) ha
  · rw [if_neg q, Nat.add_zero]
    exact sm_cong fun k _ => h2 k j (fun z => q z.2)
theorem cst_add {d x y : Nat → Nat → Nat} {a b e : Nat} (ha : a < 12) (hb : b < 12) (h1 : y a b = x a b + e) (h2 : ∀ i j, ¬ (i = a ∧ j = b) → y i j = x i j) : cst2 d y = cst2 d x + e * d a b := by
  unfold cst2 s2
  refine sm_at (c := a) ?_ (fun k hk => ?_) ha
  · refine sm_at (c := b) ?_ (fun k hk => ?_) hb
    · dsimp only; rw [h1, Nat.add_mul]
    · dsimp only; rw [h2 a k (fun z => hk z.2)]
  · exact sm_cong fun j _ => by dsimp only; rw [h2 k j (fun z => hk z.1)]
theorem s2_at {x y : Nat → Nat → Nat} {a b e : Nat} (ha : a < 12) (hb : b < 12) (h1 : y a b = x a b + e) (h2 : ∀ i j, ¬ (i = a ∧ j = b) → y i j = x i j) : s2 y = s2 x + e :=
  sm_at (f := fun a => sm (x a) 12) (g := fun a => sm (y a) 12) (c := a) (sm_at (f := x a) (g := y a) (c := b) h1 (fun k hk => h2 a k (fun z => hk z.2)) hb) (fun k hk => sm_cong fun j _ => h2 k j (fun z => hk z.1)) ha
/-! a table with numbers at both ends is the best -/
def Cert (d : Nat → Nat → Nat) (th wa u q : Nat → Nat) (x : Nat → Nat → Nat) : Prop :=
  (∀ a b, a < 12 → b < 12 → d a b < 1000000 → q b ≤ u a + d a b) ∧ (∀ a b, a < 12 → b < 12 → 0 < x a b → d a b < 1000000 ∧ q b = u a + d a b) ∧ (∀ a, a < 12 → rwS x a ≤ th a ∧ (rwS x a < th a → u a = 0)) ∧ ∀ b, b < 12 → clS x b ≤ wa b ∧ (clS x b < wa b → q b = 1000000) ∧ q b ≤ 1000000
theorem Cert.flow {d : Nat → Nat → Nat} {th wa u q : Nat → Nat} {x : Nat → Nat → Nat} (h : Cert d th wa u q x) (hc : cst2 d x < 1000000) : FlowV d th wa (s2 x) (cst2 d x) := by
  obtain ⟨h1, h2, h3, h4⟩ := h
  refine ⟨hc, ⟨x, ⟨fun a b ha hb hx => (h2 a b ha hb hx).1, fun a ha => (h3 a ha).1, fun b hb => (h4 b hb).1⟩, rfl, rfl⟩, fun y hy => ?_⟩
  obtain ⟨y1, y2, y3⟩ := hy
  have ex : ∀ z : Nat → Nat → Nat, s2 (fun a b => z a b * d a b + (u a * z a b + (1000000 - q b) * z a b)) = cst2 d z + (sm (fun a => u a * rwS z a) 12 + sm (fun b => (1000000 - q b) * clS z b) 12) := fun z => by
    rw [s2_add (fun a b => z a b * d a b) (fun a b => u a * z a b + (1000000 - q b) * z a b), s2_add (fun a b => u a * z a b) (fun a b => (1000000 - q b) * z a b), s2_row, s2_col (fun b => 1000000 - q b)]
    rfl
  have i1 : 1000000 * s2 y ≤ cst2 d y + (sm (fun a => u a * th a) 12 + sm (fun b => (1000000 - q b) * wa b) 12) := by
    rw [← s2_k]
    refine Nat.le_trans (s2_le (y := fun a b => y a b * d a b + (u a * y a b + (1000000 - q b) * y a b)) fun a b ha hb => ?_) ?_
    · by_cases q0 : y a b = 0
      · rw [q0]; omega
      · have e1 := h1 a b ha hb (y1 a b ha hb (by omega))
        have e2 := (h4 b hb).2.2
        have e3 : 1000000 * y a b ≤ (d a b + (u a + (1000000 - q b))) * y a b := Nat.mul_le_mul_right _ (by omega)
        rw [Nat.add_mul, Nat.add_mul, Nat.mul_comm (d a b)] at e3
        exact e3
    · rw [ex]
      have a1 : sm (fun a => u a * rwS y a) 12 ≤ sm (fun a => u a * th a) 12 := sm_le fun a ha => Nat.mul_le_mul_left _ (y2 a ha)
      have a2 : sm (fun b => (1000000 - q b) * clS y b) 12 ≤ sm (fun b => (1000000 - q b) * wa b) 12 := sm_le fun b hb => Nat.mul_le_mul_left _ (y3 b hb)
      omega
  have i2 : 1000000 * s2 x = cst2 d x + (sm (fun a => u a * th a) 12 + sm (fun b => (1000000 - q b) * wa b) 12) := by
    rw [← s2_k]
    rw [s2_cong (y := fun a b => x a b * d a b + (u a * x a b + (1000000 - q b) * x a b)) fun a b ha hb => ?_, ex]
    · have a1 : sm (fun a => u a * rwS x a) 12 = sm (fun a => u a * th a) 12 := sm_cong fun a ha => by
        have e := h3 a ha
        by_cases q0 : rwS x a < th a
        · rw [e.2 q0, Nat.zero_mul, Nat.zero_mul]
        · rw [show rwS x a = th a by omega]
      have a2 : sm (fun b => (1000000 - q b) * clS x b) 12 = sm (fun b => (1000000 - q b) * wa b) 12 := sm_cong fun b hb => by
        have e := h4 b hb
        by_cases q0 : clS x b < wa b
        · rw [e.2.1 q0, Nat.sub_self, Nat.zero_mul, Nat.zero_mul]
        · rw [show clS x b = wa b by omega]
      rw [a1, a2]
    · by_cases q0 : x a b = 0
      · rw [q0]; omega
      · have e1 := h2 a b ha hb (by omega)
        have e2 := (h4 b hb).2.2
        have e3 : 1000000 * x a b = (d a b + (u a + (1000000 - q b))) * x a b := by rw [show d a b + (u a + (1000000 - q b)) = 1000000 by omega]
        rw [Nat.add_mul, Nat.add_mul, Nat.mul_comm (d a b)] at e3
        exact e3
  show 1000000 * s2 y + cst2 d x ≤ 1000000 * s2 x + cst2 d y
  omega
/-! numbers at the nodes -/
def wN (g : Nat → Bool) (ga tb : Nat → Nat) (d : Nat → Nat → Nat) : Nat → Nat → Nat := fun m n => if g m = true then d (ga m) (tb n) else d (ga n) (tb m)
def AN (N : Nat) (g : Nat → Bool) (ga tb : Nat → Nat) (E : Nat → Nat → Prop) : Nat → Nat → Prop := fun m n => m < N ∧ n < N ∧ g m = true ∧ g n = false ∧ E (ga m) (tb n)
def BN (N : Nat) (g : Nat → Bool) (ga tb : Nat → Nat) (x : Nat → Nat → Nat) : Nat → Nat → Prop := fun m n => m < N ∧ n < N ∧ g m = false ∧ g n = true ∧ 0 < x (ga n) (tb m)
def sN (g : Nat → Bool) (ga th : Nat → Nat) (x : Nat → Nat → Nat) : Nat → Prop := fun n => g n = true ∧ rwS x (ga n) < th (ga n)
/-- the nodes: givers and takers -/
def Nod (N : Nat) (g : Nat → Bool) (ga tb : Nat → Nat) (E : Nat → Nat → Prop) (d : Nat → Nat → Nat) : Prop :=
  N ≤ 24 ∧ (∀ n, n < N → g n = true → ga n < 12) ∧ (∀ n, n < N → g n = false → tb n < 12) ∧ (∀ m n, m < N → n < N → g m = true → g n = true → ga m = ga n → m = n) ∧ (∀ m n, m < N → n < N → g m = false → g n = false → tb m = tb n → m = n) ∧ ∀ a b, a < 12 → b < 12 → E a b → d a b ≤ 2200
def NC (N : Nat) (g : Nat → Bool) (ga tb : Nat → Nat) (E : Nat → Nat → Prop) (d : Nat → Nat → Nat) (th wa : Nat → Nat) (lam : Nat) (π : Nat → Nat) (x : Nat → Nat → Nat) : Prop :=
  Gph N (wN g ga tb d) (AN N g ga tb E) (BN N g ga tb x) π (sN g ga th x) ∧ (∀ n, n < N → π n ≤ lam) ∧ (∀ a b, a < 12 → b < 12 → 0 < x a b → E a b) ∧ (∀ a, a < 12 → rwS x a ≤ th a) ∧ (∀ b, b < 12 → clS x b ≤ wa b) ∧ ∀ n, n < N → g n = false → clS x (tb n) < wa (tb n) → π n = lam
theorem rs_z {a : Nat} : rwS (fun _ _ => 0) a = 0 := by
  have : rwS (fun _ _ => 0) a ≤ 12 * 0 := sm_bd fun _ _ => Nat.le_refl 0
  omega
theorem cs_z {a : Nat} : clS (fun _ _ => 0) a = 0 := by
  have : clS (fun _ _ => 0) a ≤ 12 * 0 := sm_bd fun _ _ => Nat.le_refl 0
  omega
theorem NC.zero {N : Nat} {g : Nat → Bool} {ga tb : Nat → Nat} {E : Nat → Nat → Prop} {d : Nat → Nat → Nat} (hN : Nod N g ga tb E d) {th wa : Nat → Nat} : NC N g ga tb E d th wa 0 (fun _ => 0) (fun _ _ => 0) := by
  refine ⟨⟨fun m n h => ?_, fun m n h => absurd h.2.2.2.2 (Nat.lt_irrefl 0), fun _ _ _ => rfl⟩, fun _ _ => Nat.le_refl 0, fun a b _ _ h => absurd h (Nat.lt_irrefl 0), fun a _ => by rw [rs_z]; exact Nat.zero_le _, fun b _ => by rw [cs_z]; exact Nat.zero_le _, fun _ _ _ _ => rfl⟩
  obtain ⟨a1, a2, a3, a4, a5⟩ := h
  refine ⟨a1, a2, ?_, Nat.zero_le _⟩
  unfold wN
  rw [if_pos a3]
  exact hN.2.2.2.2.2 _ _ (hN.2.1 m a1 a3) (hN.2.2.1 n a2 a4) a5
/-- the numbers rise -/
theorem NC.rise {N : Nat} {g : Nat → Bool} {ga tb : Nat → Nat} {E : Nat → Nat → Prop} {d : Nat → Nat → Nat} (hN : Nod N g ga tb E d) {th wa : Nat → Nat} {lam : Nat} {π : Nat → Nat} {x : Nat → Nat → Nat} (h : NC N g ga tb E d th wa lam π x) {far : Nat → Nat} {pr : Nat → Option Nat} (hB : BF N (wN g ga tb d) (AN N g ga tb E) (BN N g ga tb x) π (sN g ga th x) far pr) (hx : FX (wN g ga tb d) (AN N g ga tb E) (BN N g ga tb x) far) {lam' : Nat} (hl : lam ≤ lam') (hl2 : lam' ≤ 1000000) (hm : ∀ n, n < N → g n = false → clS x (tb n) < wa (tb n) → lam' ≤ far n) :
    NC N g ga tb E d th wa lam' (npot far π (lam' - lam)) x := by
  obtain ⟨h1, h2, h3, h4, h5, h6⟩ := h
  refine ⟨hB.newp hN.1 h1 hx (fun n hn => by have := h2 n hn; omega), fun n hn => ?_, h3, h4, h5, fun n hn hg hc => ?_⟩
  · have := h2 n hn
    unfold npot; split <;> omega
  · have e1 := h6 n hn hg hc
    have e2 := hm n hn hg hc
    unfold npot; split <;> omega
/-! a chain is led along -/
def okC (g : Nat → Bool) (ga tb : Nat → Nat) (x : Nat → Nat → Nat) (pr : Nat → Option Nat) (e : Nat) : Nat → Nat → Prop
  | 0, _ => True
  | k + 1, n => ∀ m, pr n = some m → (g n = true → e ≤ x (ga n) (tb m)) ∧ okC g ga tb x pr e k m
def rtC (pr : Nat → Option Nat) : Nat → Nat → Nat
  | 0, n => n
  | k + 1, n => match pr n with | none => n | some m => rtC pr k m
/-- while a chain is led along: now at node n, k before its root -/
def AUG (N : Nat) (g : Nat → Bool) (ga tb : Nat → Nat) (E : Nat → Nat → Prop) (d : Nat → Nat → Nat) (π : Nat → Nat) (far : Nat → Nat) (pr : Nat → Option Nat) (x0 : Nat → Nat → Nat) (e en k n : Nat) (x : Nat → Nat → Nat) : Prop :=
  (∀ a b, a < 12 → b < 12 → 0 < x a b → E a b ∧ ∀ m n, m < N → n < N → g m = true → g n = false → ga m = a → tb n = b → π n = π m + d a b) ∧
  (∀ a, a < 12 → rwS x a = rwS x0 a + (if g n = true ∧ ga n = a then e else 0)) ∧
  (∀ b, b < 12 → clS x b + (if g n = false ∧ tb n = b then e else 0) = clS x0 b + (if tb en = b then e else 0)) ∧
  cst2 d x + e * far n = cst2 d x0 + e * far en ∧
  (∀ n b, n < N → g n = true → (∃ j, j ≤ k ∧ exD pr j n) → x0 (ga n) b ≤ x (ga n) b) ∧ π n = far n ∧ far n < 1000000
theorem AUG.start {N : Nat} {g : Nat → Bool} {ga tb : Nat → Nat} {E : Nat → Nat → Prop} {d : Nat → Nat → Nat} {th wa : Nat → Nat} {lam : Nat} {π : Nat → Nat} {x : Nat → Nat → Nat} (h : NC N g ga tb E d th wa lam π x) {far : Nat → Nat} {pr : Nat → Option Nat} {e en k : Nat} (hg : g en = false) (hp : π en = far en) (hf : far en < 1000000) : AUG N g ga tb E d π far pr x e en k en x := by
  obtain ⟨h1, h2, h3, h4, h5, h6⟩ := h
  refine ⟨fun a b ha hb hx => ⟨h3 a b ha hb hx, fun m n hm hn gm gn em eb => ?_⟩, fun a _ => ?_, fun b _ => ?_, rfl, fun _ _ _ _ _ => Nat.le_refl _, hp, hf⟩
  · have := (h1.2.1 n m ⟨hn, hm, gn, gm, by rw [em, eb]; exact hx⟩).2.2
    unfold wN at this
    rw [if_neg (by rw [gn]; decide), em, eb] at this
    exact this
  · rw [if_neg (fun z => by rw [hg] at z; cases z.1), Nat.add_zero]
  · by_cases q : tb en = b
    · rw [if_pos ⟨hg, q⟩, if_pos q]
    · rw [if_neg (fun z => q z.2), if_neg q]
/-- a step there -/
theorem AUG.fwd {N : Nat} {g : Nat → Bool} {ga tb : Nat → Nat} {E : Nat → Nat → Prop} {d : Nat → Nat → Nat} (hN : Nod N g ga tb E d) {π far : Nat → Nat} {pr : Nat → Option Nat} {x0 x : Nat → Nat → Nat} {e en k n m : Nat} (h : AUG N g ga tb E d π far pr x0 e en (k + 1) n x) (ha : AN N g ga tb E m n) (hf : far m + d (ga m) (tb n) = far n) (hp : π m = far m) :
    AUG N g ga tb E d π far pr x0 e en k m (xadd x (ga m) (tb n) e) := by
  obtain ⟨a1, a2, a3, a4, a5⟩ := ha
  obtain ⟨h1, h2, h3, h4, h5, h6, h7⟩ := h
  have g1 := hN.2.1 m a1 a3
  have g2 := hN.2.2.1 n a2 a4
  refine ⟨fun a b hha hhb hx => ?_, fun a hha => ?_, fun b hhb => ?_, ?_, fun i b hi hgi hj => ?_, hp, by omega⟩
  · by_cases q : a = ga m ∧ b = tb n
    · obtain ⟨q1, q2⟩ := q
      rw [q1, q2]
      refine ⟨a5, fun m' n' hm' hn' gm' gn' em eb => ?_⟩
      rw [hN.2.2.2.1 m' m hm' a1 gm' a3 em, hN.2.2.2.2.1 n' n hn' a2 gn' a4 eb, h6, hp]
      exact hf.symm
    · rw [xadd_o q] at hx
      exact h1 a b hha hhb hx
  · rw [rs_add (x := x) (a := ga m) (b := tb n) (e := e) g2 xadd_s (fun i j z => xadd_o z), h2 a hha, if_neg (fun z => by rw [a4] at z; cases z.1), Nat.add_zero]
    by_cases q : a = ga m
    · rw [if_pos q, if_pos ⟨a3, q.symm⟩]
    · rw [if_neg q, if_neg (fun z => q z.2.symm)]
  · rw [cs_add (x := x) (a := ga m) (b := tb n) (e := e) g1 xadd_s (fun i j z => xadd_o z), if_neg (show ¬ (g m = false ∧ tb m = b) from fun z => by rw [a3] at z; cases z.1), Nat.add_zero]
    have := h3 b hhb
    by_cases q : tb n = b
    · rw [if_pos ⟨a4, q⟩] at this; rw [if_pos q.symm]; exact this
    · rw [if_neg (fun z => q z.2)] at this; rw [if_neg (fun z => q z.symm)]; exact this
  · rw [cst_add (x := x) (a := ga m) (b := tb n) (e := e) g1 g2 xadd_s (fun i j z => xadd_o z), ← h4, ← hf, Nat.mul_add]
    omega
  · have := h5 i b hi hgi (hj.elim fun j z => ⟨j, by omega, z.2⟩)
    by_cases q : ga i = ga m ∧ b = tb n
    · rw [q.1, q.2] at this ⊢; rw [xadd_s]; omega
    · rw [xadd_o q]; exact this
/-- a step back -/
theorem AUG.bck {N : Nat} {g : Nat → Bool} {ga tb : Nat → Nat} {E : Nat → Nat → Prop} {d : Nat → Nat → Nat} (hN : Nod N g ga tb E d) {π far : Nat → Nat} {pr : Nat → Option Nat} {x0 x : Nat → Nat → Nat} {e en k n m : Nat} (h : AUG N g ga tb E d π far pr x0 e en (k + 1) n x) (ha : BN N g ga tb x0 m n) (hf : far n + d (ga n) (tb m) = far m) (hp : π m = far m) (hfm : far m < 1000000) (hk : exD pr (k + 1) n) (he : e ≤ x0 (ga n) (tb m)) :
    AUG N g ga tb E d π far pr x0 e en k m (xsub x (ga n) (tb m) e) ∧ e ≤ x (ga n) (tb m) := by
  obtain ⟨a1, a2, a3, a4, a5⟩ := ha
  obtain ⟨h1, h2, h3, h4, h5, h6, h7⟩ := h
  have g1 := hN.2.1 n a2 a4
  have g2 := hN.2.2.1 m a1 a3
  have hx := h5 n (tb m) a2 a4 ⟨k + 1, Nat.le_refl _, hk⟩
  have e1 : x (ga n) (tb m) = xsub x (ga n) (tb m) e (ga n) (tb m) + e := by rw [xsub_s]; omega
  have e2 : ∀ i j, ¬ (i = ga n ∧ j = tb m) → x i j = xsub x (ga n) (tb m) e i j := fun i j z => (xsub_o z).symm
  refine ⟨⟨fun a b hha hhb hx => ?_, fun a hha => ?_, fun b hhb => ?_, ?_, fun i b hi hgi hj => ?_, hp, hfm⟩, by omega⟩
  · refine h1 a b hha hhb ?_
    by_cases q : a = ga n ∧ b = tb m
    · rw [q.1, q.2, xsub_s] at hx; rw [q.1, q.2]; omega
    · rw [xsub_o q] at hx; exact hx
  · have r1 := h2 a hha
    rw [rs_add (x := xsub x (ga n) (tb m) e) (y := x) g2 e1 e2] at r1
    rw [if_neg (show ¬ (g m = true ∧ ga m = a) from fun z => by rw [a3] at z; cases z.1), Nat.add_zero]
    by_cases q : a = ga n
    · rw [if_pos q, if_pos ⟨a4, q.symm⟩] at r1; omega
    · rw [if_neg q, if_neg (fun z => q z.2.symm)] at r1; omega
  · have r1 := h3 b hhb
    rw [cs_add (x := xsub x (ga n) (tb m) e) (y := x) g1 e1 e2, if_neg (show ¬ (g n = false ∧ tb n = b) from fun z => by rw [a4] at z; cases z.1), Nat.add_zero] at r1
    by_cases q : tb m = b
    · rw [if_pos ⟨a3, q⟩]; rw [if_pos q.symm] at r1; exact r1
    · rw [if_neg (fun z => q z.2)]; rw [if_neg (fun z => q z.symm)] at r1; exact r1
  · rw [cst_add (x := xsub x (ga n) (tb m) e) (y := x) g1 g2 e1 e2] at h4
    rw [← hf, Nat.mul_add]
    omega
  · obtain ⟨j, hj1, hj2⟩ := hj
    have hne : i ≠ n := fun z => by
      subst z
      have := exD_u hj2 hk
      omega
    rw [xsub_o (fun z => hne (hN.2.2.2.1 i n hi a2 hgi a4 z.1))]
    exact h5 i b hi hgi ⟨j, by omega, hj2⟩
/-- and at its root -/
theorem NC.led {N : Nat} {g : Nat → Bool} {ga tb : Nat → Nat} {E : Nat → Nat → Prop} {d : Nat → Nat → Nat} (hN : Nod N g ga tb E d) {th wa : Nat → Nat} {lam : Nat} {π : Nat → Nat} {x0 : Nat → Nat → Nat} (h : NC N g ga tb E d th wa lam π x0) {far : Nat → Nat} {pr : Nat → Option Nat} {x : Nat → Nat → Nat} {e en n : Nat} (hA : AUG N g ga tb E d π far pr x0 e en 0 n x) (hs : sN g ga th x0 n) (hf : far n = 0) (he : rwS x0 (ga n) + e ≤ th (ga n)) (hen : clS x0 (tb en) + e ≤ wa (tb en)) (hn : n < N) (htb : tb en < 12) :
    NC N g ga tb E d th wa lam π x ∧ cst2 d x = cst2 d x0 + e * far en ∧ s2 x = s2 x0 + e := by
  obtain ⟨h1, h2, h3, h4, h5, h6⟩ := h
  obtain ⟨a1, a2, a3, a4, a5, a6, a7⟩ := hA
  have hga := hN.2.1 n hn hs.1
  have r1 : ∀ a, a < 12 → rwS x0 a ≤ rwS x a := fun a ha => by rw [a2 a ha]; omega
  have r2 : ∀ b, b < 12 → clS x b = clS x0 b + (if tb en = b then e else 0) := fun b hb => by
    have := a3 b hb
    rw [if_neg (fun z => by rw [hs.1] at z; cases z.1)] at this
    exact this
  refine ⟨⟨⟨h1.1, fun m i hb => ?_, fun i hi hsi => ?_⟩, h2, fun a b ha hb hx => (a1 a b ha hb hx).1, fun a ha => ?_, fun b hb => ?_, fun i hi hg hc => ?_⟩, ?_, ?_⟩
  · obtain ⟨b1, b2, b3, b4, b5⟩ := hb
    have q1 := hN.2.1 i b2 b4
    have q2 := hN.2.2.1 m b1 b3
    obtain ⟨q3, q4⟩ := a1 _ _ q1 q2 b5
    refine ⟨⟨b2, b1, b4, b3, q3⟩, ?_, ?_⟩
    · unfold wN; rw [if_pos b4, if_neg (by rw [b3]; decide)]
    · have := q4 i m b2 b1 b4 b3 rfl rfl
      unfold wN; rw [if_neg (by rw [b3]; decide)]; exact this
  · exact h1.2.2 i hi ⟨hsi.1, Nat.lt_of_le_of_lt (r1 _ (hN.2.1 i hi hsi.1)) hsi.2⟩
  · rw [a2 a ha]
    by_cases q : g n = true ∧ ga n = a
    · rw [if_pos q, ← q.2]; exact he
    · rw [if_neg q]; exact h4 a ha
  · rw [r2 b hb]
    by_cases q : tb en = b
    · rw [if_pos q, ← q]; exact hen
    · rw [if_neg q]; exact h5 b hb
  · refine h6 i hi hg (Nat.lt_of_le_of_lt ?_ hc)
    rw [r2 _ (hN.2.2.1 i hi hg)]; omega
  · rw [hf, Nat.mul_zero] at a4; exact a4
  · have e1 : s2 x = sm (rwS x) 12 := rfl
    have e2 : s2 x0 = sm (rwS x0) 12 := rfl
    rw [e1, e2]
    rw [← sm_addAt (f := rwS x0) (x := e) hga]
    refine sm_cong fun a ha => ?_
    rw [a2 a ha]
    by_cases q : a = ga n
    · rw [if_pos ⟨hs.1, q.symm⟩, q, addAt_s]
    · rw [if_neg (fun z => q z.2.symm), addAt_o q]; rfl

/-! sums of numbers -/
def sm (f : Nat → Nat) : Nat → Nat
  | 0 => 0
  | n + 1 => sm f n + f n
theorem sm_le {f g : Nat → Nat} : ∀ {n : Nat}, (∀ k, k < n → g k ≤ f k) → sm g n ≤ sm f n
  | 0, _ => Nat.le_refl 0
  | n + 1, h => by
    have h1 := sm_le (n := n) (fun k hk => h k (by omega))
    have h2 := h n (by omega)
    unfold sm; omega
theorem sm_lt {f g : Nat → Nat} : ∀ {n : Nat}, (∀ k, k < n → g k ≤ f k) → ∀ j, j < n → g j < f j → sm g n < sm f n
  | 0, _, j, hj, _ => absurd hj (Nat.not_lt_zero j)
  | n + 1, h, j, hj, hl => by
    have h1 := sm_le (n := n) (fun k hk => h k (by omega))
    have h2 := h n (by omega)
    by_cases e : j = n
    · subst e; unfold sm; omega
    · have := sm_lt (n := n) (fun k hk => h k (by omega)) j (by omega) hl
      unfold sm; omega
theorem sm_cong {f g : Nat → Nat} {n : Nat} (h : ∀ k, k < n → g k = f k) : sm g n = sm f n :=
  Nat.le_antisymm (sm_le fun k hk => by rw [h k hk]; exact Nat.le_refl _) (sm_le fun k hk => by rw [h k hk]; exact Nat.le_refl _)
theorem sm_bd {f : Nat → Nat} {c : Nat} : ∀ {n : Nat}, (∀ k, k < n → f k ≤ c) → sm f n ≤ n * c
  | 0, _ => by unfold sm; omega
  | n + 1, h => by
    have h1 := sm_bd (n := n) (fun k hk => h k (by omega))
    have h2 := h n (by omega)
    have : (n + 1) * c = n * c + c := Nat.succ_mul n c
    unfold sm; omega
def sqr (e : Nat → Nat → Nat) : Nat → Nat := fun k => e (k / 12) (k % 12)
theorem sqr_le {e e' : Nat → Nat → Nat} (h : ∀ u v, u < 12 → v < 12 → e' u v ≤ e u v) : sm (sqr e') 144 ≤ sm (sqr e) 144 :=
  sm_le fun k hk => h _ _ (by omega) (by omega)
theorem sqr_lt {e e' : Nat → Nat → Nat} (h : ∀ u v, u < 12 → v < 12 → e' u v ≤ e u v) {u v : Nat} (hu : u < 12) (hv : v < 12) (hl : e' u v < e u v) : sm (sqr e') 144 < sm (sqr e) 144 := by
  refine sm_lt (fun k hk => h _ _ (by omega) (by omega)) (12 * u + v) (by omega) ?_
  show e' ((12 * u + v) / 12) ((12 * u + v) % 12) < e ((12 * u + v) / 12) ((12 * u + v) % 12)
  rw [show (12 * u + v) / 12 = u by omega, show (12 * u + v) % 12 = v by omega]
  exact hl
/-! the reference's reckons -/
def Upd (N : Nat) (A B L : Nat → Nat) (e : Nat → Nat → Nat) : Prop :=
  (∀ u, u < 12 → e u u = 0) ∧ (∀ u v, u < 12 → v < 12 → e u v ≤ 1000000) ∧ ∀ c, Clo N A B L c → ∀ u v, u < 12 → v < 12 → c u v ≤ e u v
def RK (S0 : SM) (e : Nat → Nat → Nat) (S : SM) : Prop :=
  (∀ q, q ≠ 5 → S.1 q = S0.1 q) ∧ S.2 = S0.2 ∧ ∀ u v, u < 12 → v < 12 → S.1 5 (12 * u + v) = nI (e u v)
/-- the lines as the reference holds them -/
def LnM (m : SS) (N : Nat) (A B L : Nat → Nat) : Prop := m 0 0 = nI N ∧ N ≤ 24 ∧ ∀ l, l < N → m 1 l = nI (A l) ∧ m 2 l = nI (B l) ∧ m 4 l = nI (L l)
def put2 (e : Nat → Nat → Nat) (p w x : Nat) : Nat → Nat → Nat := fun u v => if u = p ∧ v = w then x else e u v
theorem up_relax {N : Nat} {A B L : Nat → Nat} {e : Nat → Nat → Nat} (h : Upd N A B L e) {p q w x : Nat} (hp : p < 12) (hq : q < 12) (hw : w < 12) (hl : ∀ c, Clo N A B L c → c p w ≤ c q w + x) (hlt : e q w + x < e p w) :
    Upd N A B L (put2 e p w (e q w + x)) ∧ (∀ u v, u < 12 → v < 12 → put2 e p w (e q w + x) u v ≤ e u v) ∧ sm (sqr (put2 e p w (e q w + x))) 144 < sm (sqr e) 144 := by
  have hle : ∀ u v, u < 12 → v < 12 → put2 e p w (e q w + x) u v ≤ e u v := by
    intro u v hu hv
    unfold put2
    split
    · rename_i z; obtain ⟨rfl, rfl⟩ := z; omega
    · exact Nat.le_refl _
  refine ⟨⟨fun u hu => ?_, fun u v hu hv => Nat.le_trans (hle u v hu hv) (h.2.1 u v hu hv), fun c hc u v hu hv => ?_⟩, hle, sqr_lt hle hp hw (by unfold put2; rw [if_pos ⟨rfl, rfl⟩]; exact hlt)⟩
  · unfold put2
    split
    · rename_i z
      have := h.1 u hu
      rw [z.1.symm, z.2.symm] at hlt
      omega
    · exact h.1 u hu
  · unfold put2
    split
    · rename_i z
      obtain ⟨rfl, rfl⟩ := z
      have h1 := hl c hc
      have h2 := h.2.2 c hc q v hq hv
      omega
    · exact h.2.2 c hc u v hu hv
theorem rk_put {S0 S : SM} {e : Nat → Nat → Nat} (h : RK S0 e S) {p w x : Nat} (hw : w < 12) : RK S0 (put2 e p w x) (stM S 5 (12 * p + w) (nI x)) := by
  refine ⟨fun q hq => ?_, h.2.1, fun u v hu hv => ?_⟩
  · show st S.1 5 _ _ q = _
    rw [st_o hq]; exact h.1 q hq
  · show st S.1 5 _ _ 5 _ = _
    rw [st_st]
    unfold put2
    by_cases q : 12 * u + v = 12 * p + w
    · rw [if_pos q, if_pos (by omega)]
    · rw [if_neg q, if_neg (by omega)]; exact h.2.2 u v hu hv
/-- one place of the double loop -/
def stepQ (N : Nat) (A B L : Nat → Nat) (S0 : SM) (e : Nat → Nat → Nat) (l v : Nat) (b : Nat) (S' : SM) (b' : Nat) : Prop :=
  ∃ e', RK S0 e' S' ∧ Upd N A B L e' ∧ ((b' = b ∧ e' = e ∧ e (A l) v ≤ e (B l) v + L l ∧ e (B l) v ≤ e (A l) v + L l) ∨ (b' = 1 ∧ (∀ u v, u < 12 → v < 12 → e' u v ≤ e u v) ∧ sm (sqr e') 144 < sm (sqr e) 144))
theorem reckons_step {F : Nat} {N : Nat} {A B L : Nat → Nat} (hL : Lns N A B L) {S0 S : SM} (hM : LnM S0.1 N A B L) {e : Nat → Nat → Nat} (hS : RK S0 e S) (hU : Upd N A B L e) {l v b : Nat} (hl : l < N) (hv : v < 12) :
    ∃ S' b', stepQ N A B L S0 e l v b S' b' ∧ ∀ rec k, k8_reckons_B54 F (nI l) rec k S (nI b) (nI v) = rec S' (nI b') (nI (v + 1)) := by
  obtain ⟨hA, hB, hne, h1, h2⟩ := hL l hl
  obtain ⟨-, hN, hLn⟩ := hM
  obtain ⟨m1, m2, m4⟩ := hLn l hl
  have r1 : S.1 1 l = nI (A l) := by rw [hS.1 1 (by decide)]; exact m1
  have r2 : S.1 2 l = nI (B l) := by rw [hS.1 2 (by decide)]; exact m2
  have r4 : S.1 4 l = nI (L l) := by rw [hS.1 4 (by decide)]; exact m4
  have ea := hS.2.2 (A l) v hA hv
  have eb := hS.2.2 (B l) v hB hv
  have ba := hU.2.1 (A l) v hA hv
  have bb := hU.2.1 (B l) v hB hv
  have hcl : ∀ c, Clo N A B L c → c (A l) v ≤ c (B l) v + L l ∧ c (B l) v ≤ c (A l) v + L l := fun c hc => hc.2.2 l hl v hv
  -- the second half
  have half : ∀ (S1 : SM) (e1 : Nat → Nat → Nat) (b1 : Nat), RK S0 e1 S1 → Upd N A B L e1 → ∃ S' b', (∃ e', RK S0 e' S' ∧ Upd N A B L e' ∧ ((b' = b1 ∧ S' = S1 ∧ e' = e1 ∧ e1 (B l) v ≤ e1 (A l) v + L l) ∨ (b' = 1 ∧ (∀ u v, u < 12 → v < 12 → e' u v ≤ e1 u v) ∧ sm (sqr e') 144 < sm (sqr e1) 144))) ∧
      ∀ rec k, k8_reckons_B54_J133 F (nI l) rec k S1 (nI b1) (nI v) (nI (12 * A l + v)) (nI (12 * B l + v)) = rec S' (nI b') (nI (v + 1)) := by
    intro S1 e1 b1 hS1 hU1
    have q4 : S1.1 4 l = nI (L l) := by rw [hS1.1 4 (by decide)]; exact m4
    have qa := hS1.2.2 (A l) v hA hv
    have qb := hS1.2.2 (B l) v hB hv
    have ga := hU1.2.1 (A l) v hA hv
    have gb := hU1.2.1 (B l) v hB hv
    by_cases hc : e1 (B l) v ≤ e1 (A l) v + L l
    · refine ⟨S1, b1, ⟨e1, hS1, hU1, Or.inl ⟨rfl, rfl, rfl, hc⟩⟩, fun rec k => ?_⟩
      unfold k8_reckons_B54_J133
      rw [rdA_n (by omega) (by omega), some_b, rdA_n (by omega) (by omega), some_b, rdA_n (by omega) (by omega), some_b, qa, qb, q4, nI_add, if_pos (nI_le hc (by omega)), bnd_e, l1, nI_add]
    · obtain ⟨u1, u2, u3⟩ := up_relax hU1 hB hA hv (fun c hc => (hcl c hc).2) (x := L l) (by omega)
      refine ⟨stM S1 5 (12 * B l + v) (nI (e1 (A l) v + L l)), 1, ⟨_, rk_put hS1 hv, u1, Or.inr ⟨rfl, u2, u3⟩⟩, fun rec k => ?_⟩
      unfold k8_reckons_B54_J133
      simp (disch := omega) only [rdA_n, ckA_n, some_b, bnd_e, l1, qa, qb, q4, nI_add, leN, if_neg hc, clN]
  by_cases hc : e (A l) v ≤ e (B l) v + L l
  · obtain ⟨S', b', ⟨e', k1, k2, k3⟩, he⟩ := half S e b hS hU
    refine ⟨S', b', ⟨e', k1, k2, ?_⟩, fun rec k => ?_⟩
    · rcases k3 with ⟨z1, z2, z3, z4⟩ | z
      · exact Or.inl ⟨z1, z3, hc, z4⟩
      · exact Or.inr z
    · unfold k8_reckons_B54
      rw [l12, if_neg (nI_ge hv (by omega)), rdA_n (by omega) (by omega), some_b, bnd_e, rdA_n (by omega) (by omega), some_b, bnd_e, r1, r2, mulN, mulN, nI_add, nI_add, rdA_n (by omega) (by omega), some_b, rdA_n (by omega) (by omega), some_b, rdA_n (by omega) (by omega), some_b, ea, eb, r4, nI_add, if_pos (nI_le hc (by omega))]
      exact he rec k
  · obtain ⟨u1, u2, u3⟩ := up_relax hU hA hB hv (fun c hc => (hcl c hc).1) (x := L l) (by omega)
    obtain ⟨S', b', ⟨e', k1, k2, k3⟩, he⟩ := half (stM S 5 (12 * A l + v) (nI (e (B l) v + L l))) _ 1 (rk_put hS hv) u1
    refine ⟨S', b', ⟨e', k1, k2, Or.inr ?_⟩, fun rec k => ?_⟩
    · rcases k3 with ⟨z1, z2, z3, z4⟩ | ⟨z1, z2, z3⟩
      · exact ⟨z1, by rw [z3]; exact u2, by rw [z3]; exact u3⟩
      · exact ⟨z1, fun u v hu hv => Nat.le_trans (z2 u v hu hv) (u2 u v hu hv), by omega⟩
    · unfold k8_reckons_B54
      simp (disch := omega) only [l12, if_neg (Nat.not_le.mpr hv), rdA_n, ckA_n, some_b, bnd_e, l1, r1, r2, r4, ea, eb, mulN, nI_add, leN, if_neg hc, clN]
      exact he rec k
/-- what a stretch of the double loop leaves: nothing changed and all looked at holds, or the sum fell -/
def runQ (N : Nat) (A B L : Nat → Nat) (S0 : SM) (e0 : Nat → Nat → Nat) (ok : Nat → Nat → Prop) (S : SM) (b : Nat) : Prop :=
  ∃ e, RK S0 e S ∧ Upd N A B L e ∧ (∀ u v, u < 12 → v < 12 → e u v ≤ e0 u v) ∧ ((b = 0 ∧ e = e0 ∧ ∀ l v, l < N → v < 12 → ok l v → e (A l) v ≤ e (B l) v + L l ∧ e (B l) v ≤ e (A l) v + L l) ∨ (b = 1 ∧ sm (sqr e) 144 < sm (sqr e0) 144))
theorem reckons_v {F : Nat} {N : Nat} {A B L : Nat → Nat} (hL : Lns N A B L) {S0 : SM} (hM : LnM S0.1 N A B L) {e0 : Nat → Nat → Nat} {l : Nat} (hl : l < N) :
    ∀ (n : Nat) (s : SM × Nat × Nat), (runQ N A B L S0 e0 (fun x y => x < l ∨ (x = l ∧ y < s.2.2)) s.1 s.2.1 ∧ s.2.2 ≤ 12) → 12 - s.2.2 < n → ∃ t : SM × Nat, runQ N A B L S0 e0 (fun x _ => x < l + 1) t.1 t.2 ∧ ∀ k, (fun (g : SM → Int32 → Int32 → Option SM) => g s.1 (nI s.2.1) (nI s.2.2)) (lpN (fun _ _ _ => none) (fun rec => k8_reckons_B54 F (nI l) rec k) n) = k t.1 (nI t.2) := by
  refine lp_cps (f := fun k rec => k8_reckons_B54 F (nI l) rec k) (fun (s : SM × Nat × Nat) g => g s.1 (nI s.2.1) (nI s.2.2)) (fun (t : SM × Nat) k => k t.1 (nI t.2)) (fun s => runQ N A B L S0 e0 (fun x y => x < l ∨ (x = l ∧ y < s.2.2)) s.1 s.2.1 ∧ s.2.2 ≤ 12) (fun s => 12 - s.2.2) (fun t => runQ N A B L S0 e0 (fun x _ => x < l + 1) t.1 t.2) ?_
  rintro ⟨S, b, v⟩ ⟨⟨e, k1, k2, k3, k4⟩, hv⟩
  dsimp only at k1 k2 k3 k4 hv
  by_cases h12 : v = 12
  · subst h12
    refine Or.inr ⟨(S, b), ⟨e, k1, k2, k3, ?_⟩, fun k rec => ?_⟩
    · rcases k4 with ⟨z1, z2, z3⟩ | z
      · exact Or.inl ⟨z1, z2, fun x y hx hy hxy => z3 x y hx hy (by omega)⟩
      · exact Or.inr z
    · dsimp only [k8_reckons_B54]
      rw [l12, if_pos (nI_le (Nat.le_refl 12) (by omega))]
  · have hv : v < 12 := by omega
    obtain ⟨S', b', ⟨e', q1, q2, q3⟩, he⟩ := reckons_step (F := F) hL hM k1 k2 (b := b) hl hv
    refine Or.inl ⟨(S', b', v + 1), ⟨⟨e', q1, q2, ?_, ?_⟩, by dsimp only; omega⟩, by dsimp only; omega, fun k rec => he rec k⟩
    · intro x y hx hy
      rcases q3 with ⟨-, z, -⟩ | ⟨-, z, -⟩
      · rw [z]; exact k3 x y hx hy
      · exact Nat.le_trans (z x y hx hy) (k3 x y hx hy)
    · rcases q3 with ⟨z1, z2, z3, z4⟩ | ⟨z1, z2, z3⟩
      · rcases k4 with ⟨w1, w2, w3⟩ | ⟨w1, w2⟩
        · refine Or.inl ⟨z1.trans w1, z2.trans w2, fun x y hx hy hxy => ?_⟩
          rw [z2]
          by_cases hh : x = l ∧ y = v
          · obtain ⟨rfl, rfl⟩ := hh; exact ⟨z3, z4⟩
          · exact w3 x y hx hy (by dsimp only at hxy; omega)
        · exact Or.inr ⟨z1.trans w1, by rw [z2]; exact w2⟩
      · refine Or.inr ⟨z1, ?_⟩
        have := sqr_le k3
        omega
theorem reckons_l {F : Nat} (hF : 144 < F) {N : Nat} {A B L : Nat → Nat} (hL : Lns N A B L) {S0 : SM} (hM : LnM S0.1 N A B L) {e0 : Nat → Nat → Nat} :
    ∀ (n : Nat) (s : SM × Nat × Nat), (runQ N A B L S0 e0 (fun x _ => x < s.2.2) s.1 s.2.1 ∧ s.2.2 ≤ N) → N - s.2.2 < n → ∃ t : SM × Nat, runQ N A B L S0 e0 (fun _ _ => True) t.1 t.2 ∧ ∀ k, (fun (g : SM → Int32 → Int32 → Option SM) => g s.1 (nI s.2.1) (nI s.2.2)) (lpN (fun _ _ _ => none) (fun rec => k8_reckons_B44 F rec k) n) = k t.1 (nI t.2) := by
  refine lp_cps (f := fun k rec => k8_reckons_B44 F rec k) (fun (s : SM × Nat × Nat) g => g s.1 (nI s.2.1) (nI s.2.2)) (fun (t : SM × Nat) k => k t.1 (nI t.2)) (fun s => runQ N A B L S0 e0 (fun x _ => x < s.2.2) s.1 s.2.1 ∧ s.2.2 ≤ N) (fun s => N - s.2.2) (fun t => runQ N A B L S0 e0 (fun _ _ => True) t.1 t.2) ?_
  rintro ⟨S, b, l⟩ ⟨hq, hl⟩
  dsimp only at hq hl
  have hN : S.1 0 0 = nI N := by
    obtain ⟨e, k1, -⟩ := hq
    rw [k1.1 0 (by decide)]; exact hM.1
  have hN24 := hM.2.1
  by_cases hlN : l = N
  · subst hlN
    refine Or.inr ⟨(S, b), ?_, fun k rec => ?_⟩
    · obtain ⟨e, k1, k2, k3, k4⟩ := hq
      refine ⟨e, k1, k2, k3, ?_⟩
      rcases k4 with ⟨z1, z2, z3⟩ | z
      · exact Or.inl ⟨z1, z2, fun x y hx hy _ => z3 x y hx hy hx⟩
      · exact Or.inr z
    · dsimp only [k8_reckons_B44]
      rw [hN, if_pos (nI_le (Nat.le_refl l) (by omega))]
  · have hl : l < N := by omega
    obtain ⟨⟨S', b'⟩, ht, he⟩ := reckons_v (F := F) hL hM hl F (S, b, 0) ⟨by
      obtain ⟨e, k1, k2, k3, k4⟩ := hq
      refine ⟨e, k1, k2, k3, ?_⟩
      rcases k4 with ⟨z1, z2, z3⟩ | z
      · exact Or.inl ⟨z1, z2, fun x y hx hy hxy => z3 x y hx hy (by dsimp only at hxy; omega)⟩
      · exact Or.inr z, by dsimp only; omega⟩ (by dsimp only; omega)
    refine Or.inl ⟨(S', b', l + 1), ⟨ht, by dsimp only; omega⟩, by dsimp only; omega, fun k rec => ?_⟩
    dsimp only [k8_reckons_B44]
    rw [hN, if_neg (nI_ge hl (by omega)), bnd_e]
    refine (he _).trans ?_
    dsimp only
    rw [bnd_e, l1, nI_add]
theorem reckons_w {F : Nat} (hF : 1000000000 < F) {N : Nat} {A B L : Nat → Nat} (hL : Lns N A B L) {S0 : SM} (hM : LnM S0.1 N A B L) {e1 : Nat → Nat → Nat} {S1 : SM} (hS1 : RK S0 e1 S1) (hU1 : Upd N A B L e1) :
    ∃ S' d, lpN (fun _ _ => none) (fun rec => k8_reckons_B36 F rec) F S1 (nI 1) = some S' ∧ RK S0 d S' ∧ Dst N A B L d := by
  obtain ⟨t, ⟨S', d, h1, h2, h3⟩, he⟩ := lp_inv (z := fun _ _ => none) (f := fun rec => k8_reckons_B36 F rec) (fun (s : SM × (Nat → Nat → Nat) × Nat) g => g s.1 (nI s.2.2))
    (fun s => RK S0 s.2.1 s.1 ∧ Upd N A B L s.2.1 ∧ s.2.2 ≤ 1 ∧ (s.2.2 = 0 → Clo N A B L s.2.1)) (fun s => 2 * sm (sqr s.2.1) 144 + s.2.2) (fun r => ∃ S' d, r = some S' ∧ RK S0 d S' ∧ Dst N A B L d) (by
    rintro ⟨S, e, b⟩ ⟨k1, k2, k3, k4⟩
    dsimp only at k1 k2 k3 k4
    by_cases hb : b = 0
    · subst hb
      refine Or.inr ⟨some S, ⟨S, e, rfl, k1, k4 rfl, k2.2.2⟩, fun rec => ?_⟩
      dsimp only [k8_reckons_B36]
      rw [if_pos nI_0]
    · have hb : b = 1 := by omega
      subst hb
      obtain ⟨⟨S', b'⟩, ⟨e', q1, q2, q3, q4⟩, he⟩ := reckons_l (F := F) (by omega) hL hM (e0 := e) F (S, 0, 0) ⟨⟨e, k1, k2, fun _ _ _ _ => Nat.le_refl _, Or.inl ⟨rfl, rfl, fun x y hx hy hxy => absurd hxy (Nat.not_lt_zero x)⟩⟩, Nat.zero_le N⟩ (by have := hM.2.1; dsimp only; omega)
      dsimp only at q1 q2 q3 q4 he
      refine Or.inl ⟨(S', e', b'), ⟨q1, q2, ?_, ?_⟩, ?_, fun rec => ?_⟩
      · dsimp only; omega
      · intro hz
        dsimp only at hz
        rcases q4 with ⟨z1, z2, z3⟩ | ⟨z1, z2⟩
        · exact ⟨q2.1, q2.2.1, fun l hl v hv => z3 l v hl hv trivial⟩
        · omega
      · dsimp only
        rcases q4 with ⟨z1, z2, z3⟩ | ⟨z1, z2⟩
        · rw [z1, z2]; omega
        · rw [z1]; omega
      · dsimp only [k8_reckons_B36]
        rw [if_neg (nI_ne0 (by omega) (by omega)), bnd_e, bnd_e]
        exact he _) F (S1, e1, 1) ⟨hS1, hU1, by dsimp only; omega, fun z => by dsimp only at z; omega⟩ (by
      have : sm (sqr e1) 144 ≤ 144 * 1000000 := sm_bd fun k hk => hU1.2.1 _ _ (by omega) (by omega)
      dsimp only; omega)
  exact ⟨S', d, by rw [← h1]; exact he, h2, h3⟩
def dz (u v : Nat) : Nat := if u = v then 0 else 1000000
theorem reckons_0 {F : Nat} {S0 : SM} :
    ∀ (n : Nat) (s : SM × Nat), (((∀ q, q ≠ 5 → s.1.1 q = S0.1 q) ∧ s.1.2 = S0.2 ∧ ∀ k, k < s.2 → s.1.1 5 k = nI (dz (k / 12) (k % 12))) ∧ s.2 ≤ 144) → 144 - s.2 < n → ∃ t : SM, RK S0 dz t ∧ ∀ k, (fun (g : SM → Int32 → Option SM) => g s.1 (nI s.2)) (lpN (fun _ _ => none) (fun rec => k8_reckons_B2 F rec k) n) = k t := by
  refine lp_cps (f := fun k rec => k8_reckons_B2 F rec k) (fun (s : SM × Nat) g => g s.1 (nI s.2)) (fun (t : SM) k => k t) (fun s => ((∀ q, q ≠ 5 → s.1.1 q = S0.1 q) ∧ s.1.2 = S0.2 ∧ ∀ k, k < s.2 → s.1.1 5 k = nI (dz (k / 12) (k % 12))) ∧ s.2 ≤ 144) (fun s => 144 - s.2) (fun t => RK S0 dz t) ?_
  rintro ⟨S, j⟩ ⟨⟨k1, k2, k3⟩, hj⟩
  dsimp only at k1 k2 k3 hj
  by_cases h : j = 144
  · subst h
    refine Or.inr ⟨S, ⟨k1, k2, fun u v hu hv => ?_⟩, fun k rec => ?_⟩
    · rw [k3 _ (by omega), show (12 * u + v) / 12 = u by omega, show (12 * u + v) % 12 = v by omega]
    · dsimp only [k8_reckons_B2]
      rw [l144, if_pos (nI_le (Nat.le_refl 144) (by omega))]
  · have hj : j < 144 := by omega
    refine Or.inl ⟨(stM S 5 j (nI (dz (j / 12) (j % 12))), j + 1), ⟨⟨fun q hq => ?_, k2, fun k hk => ?_⟩, by dsimp only; omega⟩, by dsimp only; omega, fun k rec => ?_⟩
    · show st S.1 5 _ _ q = _
      rw [st_o hq]; exact k1 q hq
    · show st S.1 5 _ _ 5 k = _
      dsimp only at hk
      rw [st_st]
      by_cases e : k = j
      · rw [if_pos e, e]
      · rw [if_neg e]; exact k3 k (by omega)
    · dsimp only [k8_reckons_B2]
      rw [l144, if_neg (nI_ge hj (by omega)), l13, pk_rem (by omega) (by omega) (by omega), l0, ckA_n (by omega) (by omega), some_b, some_b, bnd_e, bnd_e, bnd_e, bnd_e, clN (by omega), l1, nI_add]
      by_cases e : j % 13 = 0
      · rw [if_pos (by rw [e])]
        unfold dz
        rw [if_pos (by omega)]
      · rw [if_neg (show ¬ nI (j % 13) = nI 0 from fun q => e ((nI_eq (by omega) (by omega)).mp q))]
        unfold dz
        rw [if_neg (by omega)]
        rfl
theorem reckons_ok {F : Nat} (hF : 1000000000 < F) {N : Nat} {A B L : Nat → Nat} (hL : Lns N A B L) {S0 : SM} (hM : LnM S0.1 N A B L) :
    ∃ S' d, k8_reckons F S0 = some S' ∧ RK S0 d S' ∧ Dst N A B L d := by
  obtain ⟨S1, h1, he⟩ := reckons_0 (F := F) (S0 := S0) F (S0, 0) ⟨⟨fun _ _ => rfl, rfl, fun k hk => absurd hk (Nat.not_lt_zero k)⟩, by dsimp only; omega⟩ (by dsimp only; omega)
  have hU : Upd N A B L dz := by
    refine ⟨fun u hu => by unfold dz; rw [if_pos rfl], fun u v hu hv => by unfold dz; split <;> omega, fun c hc u v hu hv => ?_⟩
    unfold dz
    split
    · rename_i q; subst q; rw [hc.1 u hu]; exact Nat.le_refl 0
    · exact hc.2.1 u v hu hv
  obtain ⟨S', d, h2, h3, h4⟩ := reckons_w hF hL hM h1 hU
  refine ⟨S', d, ?_, h3, h4⟩
  unfold k8_reckons
  rw [bnd_e]
  refine (he _).trans ?_
  rw [bnd_e]
  exact h2

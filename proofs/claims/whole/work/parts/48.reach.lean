/-! ways of few arcs -/
def pthC (w : Nat → Nat → Nat) (A Bk : Nat → Nat → Prop) (N : Nat) (sr : Nat → Prop) : Nat → Nat → Nat → Prop
  | 0, v, c => v < N ∧ sr v ∧ c = 0
  | i + 1, v, c => ∃ m c', pthC w A Bk N sr i m c' ∧ ((A m v ∧ c = c' + w m v) ∨ (Bk m v ∧ c + w m v = c'))
theorem pthC_bd {N : Nat} {w : Nat → Nat → Nat} {A Bk : Nat → Nat → Prop} {π : Nat → Nat} {sr : Nat → Prop} (hG : Gph N w A Bk π sr) : ∀ {i v c : Nat}, pthC w A Bk N sr i v c → v < N ∧ c ≤ 2200 * i ∧ π v ≤ c
  | 0, v, c, h => by
    obtain ⟨h1, h2, h3⟩ := h
    have := hG.2.2 v h1 h2
    exact ⟨h1, by omega, by omega⟩
  | i + 1, v, c, ⟨m, c', h1, h2⟩ => by
    obtain ⟨b1, b2, b3⟩ := pthC_bd hG h1
    obtain ⟨a1, a2, a3, a4⟩ := hG.arc (x := c') h2
    exact ⟨a2, by omega, by omega⟩
/-- a chain is such a way -/
theorem BF.way {N : Nat} {w : Nat → Nat → Nat} {A Bk : Nat → Nat → Prop} {π : Nat → Nat} {sr : Nat → Prop} (hG : Gph N w A Bk π sr) {far : Nat → Nat} {pr : Nat → Option Nat} (h : BF N w A Bk π sr far pr) : ∀ {k v : Nat}, exD pr k v → v < N → far v < 1000000 → ∃ c, c ≤ far v ∧ pthC w A Bk N sr k v c
  | 0, v, hk, hv, hf => by
    have hs := (h.2.2.2.1 v hv hk).resolve_left (by omega)
    exact ⟨0, Nat.zero_le _, hv, hs, rfl⟩
  | k + 1, v, ⟨m, e, hk⟩, hv, hf => by
    obtain ⟨p1, p2⟩ := h.2.2.2.2.1 v m hv e
    obtain ⟨p3, -⟩ := h.par hG hv e
    obtain ⟨c, c1, c2⟩ := BF.way hG h hk p3 p1
    have hb := pthC_bd hG c2
    rcases p2 with ⟨ha, e2⟩ | ⟨hb2, e2⟩
    · exact ⟨c + w m v, by omega, m, c, c2, Or.inl ⟨ha, rfl⟩⟩
    · have := (hG.2.1 m v hb2).2.2
      exact ⟨c - w m v, by omega, m, c, c2, Or.inr ⟨hb2, by omega⟩⟩
/-- no way of at most r arcs is shorter -/
def Few (N : Nat) (w : Nat → Nat → Nat) (A Bk : Nat → Nat → Prop) (sr : Nat → Prop) (r : Nat) (far : Nat → Nat) : Prop := ∀ i, i ≤ r → ∀ v c, pthC w A Bk N sr i v c → far v ≤ c
/-- what one round does -/
def RP (w : Nat → Nat → Nat) (A Bk : Nat → Nat → Prop) (far0 far : Nat → Nat) : Prop := ∀ m n, far0 m < 1000000 → (A m n → far n ≤ far0 m + w m n) ∧ (Bk m n → far n + w m n ≤ far0 m)
theorem Few.next {N : Nat} {w : Nat → Nat → Nat} {A Bk : Nat → Nat → Prop} {π : Nat → Nat} {sr : Nat → Prop} (hG : Gph N w A Bk π sr) {r : Nat} (hr : r ≤ 12) {far0 far : Nat → Nat} (h : Few N w A Bk sr r far0) (hR : RP w A Bk far0 far) (hs : ∀ n, n < N → sr n → far n = 0) : Few N w A Bk sr (r + 1) far := by
  intro i hi v c hp
  cases i with
  | zero =>
    obtain ⟨h1, h2, h3⟩ := hp
    rw [hs v h1 h2]; exact Nat.zero_le _
  | succ i =>
    obtain ⟨m, c', h1, h2⟩ := hp
    have hb := pthC_bd hG h1
    have hf := h i (by omega) m c' h1
    have hR' := hR m v (by omega)
    rcases h2 with ⟨ha, e⟩ | ⟨hb2, e⟩
    · have := hR'.1 ha; omega
    · have := hR'.2 hb2; omega
theorem Few.fx {N : Nat} (hN : N ≤ 12) {w : Nat → Nat → Nat} {A Bk : Nat → Nat → Prop} {π : Nat → Nat} {sr : Nat → Prop} (hG : Gph N w A Bk π sr) {far : Nat → Nat} {pr : Nat → Option Nat} (hB : BF N w A Bk π sr far pr) (h : Few N w A Bk sr 12 far) : FX w A Bk far := by
  have key : ∀ m, m < N → far m < 1000000 → ∃ k c, k < 12 ∧ c ≤ far m ∧ pthC w A Bk N sr k m c := fun m hm hf => by
    obtain ⟨k, hk⟩ := hB.2.2.2.2.2 m hm
    have hkl := exD_lt (N := N) (fun i j hi hj => (hB.par hG hi hj).1) hk hm
    obtain ⟨c, c1, c2⟩ := hB.way hG hk hm hf
    exact ⟨k, c, by omega, c1, c2⟩
  intro m n hf
  refine ⟨fun ha => ?_, fun hb => ?_⟩
  · obtain ⟨a1, a2, a3, a4⟩ := hG.1 m n ha
    obtain ⟨k, c, k1, k2, k3⟩ := key m a1 hf
    have := h (k + 1) (by omega) n (c + w m n) ⟨m, c, k3, Or.inl ⟨ha, rfl⟩⟩
    omega
  · obtain ⟨b1, b2, b3⟩ := hG.2.1 m n hb
    obtain ⟨a1, a2, a3, a4⟩ := hG.1 n m b1
    obtain ⟨k, c, k1, k2, k3⟩ := key m a2 hf
    have hb3 := pthC_bd hG k3
    have := h (k + 1) (by omega) n (c - w m n) ⟨m, c, k3, Or.inr ⟨hb, by omega⟩⟩
    omega
/-! the class's nodes -/
def gK (th wa : Nat → Nat) (n : Nat) : Bool := decide (wa n < th n)
def EC (d : Nat → Nat → Nat) (th wa : Nat → Nat) : Nat → Nat → Prop := fun a b => wa a < th a ∧ th b < wa b ∧ d a b < 1000000
def WC (d : Nat → Nat → Nat) (th wa : Nat → Nat) : Nat → Nat → Nat := wN (gK th wa) idN idN d
def AC (d : Nat → Nat → Nat) (th wa : Nat → Nat) : Nat → Nat → Prop := AN 12 (gK th wa) idN idN (EC d th wa)
def BC (th wa : Nat → Nat) (x : Nat → Nat → Nat) : Nat → Nat → Prop := BN 12 (gK th wa) idN idN x
def thS (th wa : Nat → Nat) (j : Nat) : Nat := th j - wa j
def waS (th wa : Nat → Nat) (j : Nat) : Nat := wa j - th j
def SC (th wa : Nat → Nat) (x : Nat → Nat → Nat) : Nat → Prop := sN (gK th wa) idN (thS th wa) x
def NCC (d : Nat → Nat → Nat) (th wa : Nat → Nat) (lam : Nat) (π : Nat → Nat) (x : Nat → Nat → Nat) : Prop := NC 12 (gK th wa) idN idN (EC d th wa) d (thS th wa) (waS th wa) lam π x
theorem gK_t {th wa : Nat → Nat} {n : Nat} (h : wa n < th n) : gK th wa n = true := decide_eq_true h
theorem gK_f {th wa : Nat → Nat} {n : Nat} (h : ¬ wa n < th n) : gK th wa n = false := decide_eq_false h
theorem gK_lt {th wa : Nat → Nat} {n : Nat} (h : gK th wa n = true) : wa n < th n := of_decide_eq_true h
theorem gK_ge {th wa : Nat → Nat} {n : Nat} (h : gK th wa n = false) : ¬ wa n < th n := of_decide_eq_false h
theorem NodC {N : Nat} {A B C L : Nat → Nat} {d : Nat → Nat → Nat} {th wa : Nat → Nat} (hP : NetP N A B C L d) : Nod 12 (gK th wa) idN idN (EC d th wa) d := by
  refine ⟨by omega, fun n hn _ => hn, fun n hn _ => hn, fun m n _ _ _ _ e => e, fun m n _ _ hm hn e => e, fun a b ha hb h => ?_⟩
  have h1 : d a b < 1000000 := h.2.2
  have := hP.2.2.2.b2200 hP.2.1 ha hb
  omega
theorem WC_f {d : Nat → Nat → Nat} {th wa : Nat → Nat} {m n : Nat} (h : wa m < th m) : WC d th wa m n = d m n := by
  unfold WC wN; rw [if_pos (gK_t h)]; rfl
theorem WC_b {d : Nat → Nat → Nat} {th wa : Nat → Nat} {m n : Nat} (h : ¬ wa m < th m) : WC d th wa m n = d n m := by
  unfold WC wN; rw [if_neg (by rw [gK_f h]; decide)]; rfl
/-- what a junction has to spare -/
def spv (th wa : Nat → Nat) (x : Nat → Nat → Nat) (j : Nat) : Int := if wa j < th j then (th j : Int) - wa j - rwS x j else (th j : Int) - wa j + clS x j
/-- the class's world for leading -/
def KW (d : Nat → Nat → Nat) (th wa : Nat → Nat) (x : Nat → Nat → Nat) (S : SS) : Prop :=
  (∀ a b, a < 12 → b < 12 → S 12 (a * 12 + b) = nI (d a b)) ∧ (∀ j, j < 12 → S 29 j = nI (th j) ∧ S 30 j = nI (wa j)) ∧ (∀ a b, a < 12 → b < 12 → S 32 (a * 12 + b) = nI (x a b)) ∧ ∀ j, j < 12 → S 31 j = iI (spv th wa x j)
theorem isGv {F : Nat} {S : SS} {th wa : Nat → Nat} {j : Nat} (hj : j < 12) (h : S 29 j = nI (th j) ∧ S 30 j = nI (wa j)) (h9 : th j ≤ 9 ∧ wa j ≤ 9) : k3_isGiver F S (nI j) = some (bI (decide (wa j < th j))) := by
  unfold k3_isGiver
  rw [rdA_n hj (by omega), some_b, rdA_n hj (by omega), some_b, h.1, h.2]
  by_cases q : wa j < th j
  · rw [if_neg (nI_ge q (by omega)), decide_eq_true q]; rfl
  · rw [if_pos (nI_le (by omega) (by omega)), decide_eq_false q]; rfl
theorem isTk {F : Nat} {S : SS} {th wa : Nat → Nat} {j : Nat} (hj : j < 12) (h : S 29 j = nI (th j) ∧ S 30 j = nI (wa j)) (h9 : th j ≤ 9 ∧ wa j ≤ 9) : k3_isTaker F S (nI j) = some (bI (decide (th j < wa j))) := by
  unfold k3_isTaker
  rw [rdA_n hj (by omega), some_b, rdA_n hj (by omega), some_b, h.1, h.2]
  by_cases q : th j < wa j
  · rw [if_neg (nI_ge q (by omega)), decide_eq_true q]; rfl
  · rw [if_pos (nI_le (by omega) (by omega)), decide_eq_false q]; rfl
theorem bI_0 (b : Bool) : (bI b = 0) ↔ b = false := by cases b; exact ⟨fun _ => rfl, fun _ => rfl⟩; exact ⟨fun z => absurd z z10, fun z => by cases z⟩
/-- a step's miles: there, back, none -/
theorem stepV {F : Nat} {d : Nat → Nat → Nat} {th wa : Nat → Nat} {x : Nat → Nat → Nat} {S : SS} (hS : KW d th wa x S) (h9 : ∀ j, j < 12 → th j ≤ 9 ∧ wa j ≤ 9) (hx : ∀ a b, a < 12 → b < 12 → x a b < 1000000) {m n : Nat} (hm : m < 12) (hn : n < 12) :
    k3_stepMiles F S (nI m) (nI n) = some (if wa m < th m ∧ th n < wa n then nI (d m n) else if (th m < wa m ∧ wa n < th n) ∧ 0 < x n m then - nI (d m n) else nI 1000000) := by
  have hxs := hx n m hn hm
  unfold k3_stepMiles k3_stepMiles_J33
  simp only [bnd_e]
  rw [l12, mulN, nI_add, rdA_n (by omega) (by omega), some_b, hS.1 m n hm hn, isGv hm (hS.2.1 m hm) (h9 m hm), some_b, isTk hn (hS.2.1 n hn) (h9 n hn), isTk hm (hS.2.1 m hm) (h9 m hm), isGv hn (hS.2.1 n hn) (h9 n hn), mulN, nI_add, rdA_n (by omega) (by omega), hS.2.2.1 n m hn hm, lM]
  by_cases q1 : wa m < th m
  · have q1' : ¬ th m < wa m := by omega
    rw [decide_eq_true q1, decide_eq_false q1', if_neg (by decide), some_b]
    by_cases q2 : th n < wa n
    · rw [decide_eq_true q2, if_neg (by decide), if_pos ⟨q1, q2⟩]
    · rw [decide_eq_false q2, if_pos (by decide), some_b, if_pos (by decide), if_neg (fun z => q2 z.2), if_neg (fun z => q1' z.1.1)]
  · rw [decide_eq_false q1, if_pos (by decide), if_neg (fun z => q1 z.1), some_b]
    by_cases q3 : th m < wa m
    · rw [decide_eq_true q3, if_neg (by decide), some_b]
      by_cases q4 : wa n < th n
      · rw [decide_eq_true q4, if_neg (by decide), some_b]
        by_cases q5 : 0 < x n m
        · rw [if_neg (show ¬ nI (x n m) ≤ (0 : Int32) from nI_ge q5 (by omega)), if_pos ⟨⟨q3, q4⟩, q5⟩]
        · rw [if_pos (show nI (x n m) ≤ (0 : Int32) from nI_le (show x n m ≤ 0 by omega) (by decide)), if_neg (fun z => q5 z.2)]
      · rw [decide_eq_false q4, if_pos (by decide), if_neg (fun z => q4 z.1.2)]
    · rw [decide_eq_false q3, if_pos (by decide), if_neg (fun z => q3 z.1.1)]
/-! one round of the class -/
def KB (d : Nat → Nat → Nat) (th wa π : Nat → Nat) (x : Nat → Nat → Nat) (M0 S : SS) (far : Nat → Nat) (pr : Nat → Option Nat) : Prop :=
  (∀ q, q ≠ 33 → q ≠ 34 → S q = M0 q) ∧ (∀ n, n < 12 → S 33 n = nI (far n) ∧ S 34 n = encL (pr n)) ∧ BF 12 (WC d th wa) (AC d th wa) (BC th wa x) π (SC th wa x) far pr
/-- one pair is looked at -/
def PP (d : Nat → Nat → Nat) (th wa : Nat → Nat) (x : Nat → Nat → Nat) (far0 far : Nat → Nat) (m n : Nat) : Prop := far0 m < 1000000 → (AC d th wa m n → far n ≤ far0 m + WC d th wa m n) ∧ (BC th wa x m n → far n + WC d th wa m n ≤ far0 m)
def KS (d : Nat → Nat → Nat) (th wa π : Nat → Nat) (x : Nat → Nat → Nat) (M0 : SS) (far0 : Nat → Nat) (m pos : Nat) (S : SS) (far : Nat → Nat) (pr : Nat → Option Nat) (mo : Bool) : Prop :=
  KB d th wa π x M0 S far pr ∧ (∀ n, n < 12 → far n ≤ far0 n) ∧ (mo = false → ∀ n, n < 12 → far n = far0 n) ∧ ∀ n, n < pos → PP d th wa x far0 far m n
theorem KB.kw {d : Nat → Nat → Nat} {th wa π : Nat → Nat} {x : Nat → Nat → Nat} {M0 S : SS} {far : Nat → Nat} {pr : Nat → Option Nat} (h : KB d th wa π x M0 S far pr) (hM : KW d th wa x M0) : KW d th wa x S := by
  obtain ⟨m1, m2, m3, m4⟩ := hM
  exact ⟨fun a b ha hb => by rw [h.1 12 (by decide) (by decide)]; exact m1 a b ha hb, fun j hj => by rw [h.1 29 (by decide) (by decide), h.1 30 (by decide) (by decide)]; exact m2 j hj, fun a b ha hb => by rw [h.1 32 (by decide) (by decide)]; exact m3 a b ha hb, fun j hj => by rw [h.1 31 (by decide) (by decide)]; exact m4 j hj⟩
theorem pairK {F : Nat} {d : Nat → Nat → Nat} {th wa π : Nat → Nat} {x : Nat → Nat → Nat} {M0 : SS} (hM : KW d th wa x M0) (h9 : ∀ j, j < 12 → th j ≤ 9 ∧ wa j ≤ 9) (hx : ∀ a b, a < 12 → b < 12 → x a b < 1000000) (hd : ∀ a b, a < 12 → b < 12 → d a b ≤ 2200 ∨ d a b = 1000000) (hsy : ∀ a b, a < 12 → b < 12 → d a b = d b a) (hG : Gph 12 (WC d th wa) (AC d th wa) (BC th wa x) π (SC th wa x)) {far0 : Nat → Nat} {m n : Nat} (hm : m < 12) (hn : n < 12) {S : SS} {far : Nat → Nat} {pr : Nat → Option Nat} {mo : Bool} (hfm : far m < 1000000) (h : KS d th wa π x M0 far0 m n S far pr mo) :
    ∃ S' far' pr' mo', KS d th wa π x M0 far0 m (n + 1) S' far' pr' mo' ∧ far' m = far m ∧ (mo = true → mo' = true) ∧ (mo' = false → ∀ i, i < 12 → far' i = far i) ∧ ∀ rec, k3_stepFrom_B4 F (nI m) rec S (bI mo) (nI n) = rec S' (bI mo') (nI (n + 1)) := by
  obtain ⟨h1, h2, h3, h4⟩ := h
  have hB := h1.2.2
  have fm := hB.1 m hm
  have fn := hB.1 n hn
  have hfin := hB.fin (by omega) hm hfm
  have hf0 := h2 m hm
  have ext : ∀ {far' : Nat → Nat}, (∀ i, i < 12 → far' i ≤ far i) → PP d th wa x far0 far' m n → ∀ n', n' < n + 1 → PP d th wa x far0 far' m n' := by
    intro far' z1 z2 n' hl
    by_cases e : n' = n
    · rw [e]; exact z2
    · intro hf
      obtain ⟨y1, y2⟩ := h4 n' (by omega) hf
      have := z1 n' (by omega)
      exact ⟨fun z => by have := y1 z; omega, fun z => by have := y2 z; omega⟩
  have key : ∀ rec, k3_stepFrom_B4 F (nI m) rec S (bI mo) (nI n) = (k3_stepMiles F S (nI m) (nI n)).bind fun r => if nI 1000000 ≤ r then rec S (bI mo) (nI (n + 1)) else if nI (far n) ≤ nI (far m) + r then rec S (bI mo) (nI (n + 1)) else rec (st (st S 33 n (nI (far m) + r)) 34 n (nI m)) (bI true) (nI (n + 1)) := by
    intro rec
    unfold k3_stepFrom_B4
    simp only [bnd_e]
    rw [l12, if_neg (nI_ge hn (by omega))]
    simp only [rdA_n hm (show 12 < 2147483648 by omega), rdA_n hn (show 12 < 2147483648 by omega), some_b, (h1.2.1 m hm).1, (h1.2.1 n hn).1, ckA_n hn (show 12 < 2147483648 by omega), clN (show n < 2147483648 by omega), nI_1]
    rfl
  have stay : PP d th wa x far0 far m n → ∃ S' far' pr' mo', KS d th wa π x M0 far0 m (n + 1) S' far' pr' mo' ∧ far' m = far m ∧ (mo = true → mo' = true) ∧ (mo' = false → ∀ i, i < 12 → far' i = far i) ∧ S' = S ∧ mo' = mo := fun z => ⟨S, far, pr, mo, ⟨h1, h2, h3, ext (fun _ _ => Nat.le_refl _) z⟩, rfl, fun y => y, fun _ _ _ => rfl, rfl, rfl⟩
  have move : ∀ v, ((AC d th wa m n ∧ v = far m + WC d th wa m n) ∨ (BC th wa x m n ∧ v + WC d th wa m n = far m)) → v < far n → KS d th wa π x M0 far0 m (n + 1) (st (st S 33 n (nI v)) 34 n (nI m)) (fset far n v) (fset pr n (some m)) true ∧ fset far n v m = far m := by
    intro v harc hv
    have hmn : m ≠ n := fun e => by
      subst e
      obtain ⟨y1, y2, y3, y4⟩ := hG.arc harc
      omega
    have hle : ∀ i, i < 12 → fset far n v i ≤ far i := fun i hi => by
      by_cases e : i = n
      · rw [e, fset_s]; omega
      · rw [fset_o e]; exact Nat.le_refl _
    refine ⟨⟨⟨fun q u1 u2 => by rw [st_o u2, st_o u1]; exact h1.1 q u1 u2, fun k hk => ?_, hB.relax hG harc hfm hv⟩, fun i hi => Nat.le_trans (hle i hi) (h2 i hi), fun z => (by cases z), ext hle ?_⟩, fset_o hmn⟩
    · rw [st_o (by decide), st_st, st_st, st_o (by decide)]
      by_cases e : k = n
      · rw [if_pos e, if_pos e, e, fset_s, fset_s]; exact ⟨rfl, rfl⟩
      · rw [if_neg e, if_neg e, fset_o e, fset_o e]; exact h1.2.1 k hk
    · intro _
      rw [fset_s]
      rcases harc with ⟨ha, e⟩ | ⟨hb, e⟩
      · exact ⟨fun _ => by omega, fun z => by have h7 := z.2.2.1; rw [ha.2.2.1] at h7; cases h7⟩
      · exact ⟨fun z => (by have h7 := z.2.2.1; rw [hb.2.2.1] at h7; cases h7), fun _ => by omega⟩
  have hst := stepV (F := F) (h1.kw hM) h9 hx hm hn
  by_cases q1 : wa m < th m ∧ th n < wa n
  · rw [if_pos q1] at hst
    have hw : WC d th wa m n = d m n := WC_f q1.1
    have nb : ¬ BC th wa x m n := fun z => by have h7 := z.2.2.1; rw [gK_t q1.1] at h7; cases h7
    by_cases q2 : d m n < 1000000
    · have ha : AC d th wa m n := ⟨hm, hn, gK_t q1.1, gK_f (by omega), q1.1, q1.2, q2⟩
      have hd2 := hd m n hm hn
      by_cases q3 : far n ≤ far m + d m n
      · obtain ⟨S', far', pr', mo', u1, u2, u3, u4, u5, u6⟩ := stay fun _ => ⟨fun _ => by rw [hw]; omega, fun z => absurd z nb⟩
        refine ⟨S', far', pr', mo', u1, u2, u3, u4, fun rec => ?_⟩
        rw [key, hst, some_b, if_neg (nI_ge (by omega) (by omega)), nI_add, if_pos (nI_le q3 (by omega)), u5, u6]
      · obtain ⟨u1, u2⟩ := move (far m + d m n) (Or.inl ⟨ha, by rw [hw]⟩) (by omega)
        refine ⟨_, _, _, true, u1, u2, fun _ => rfl, fun z => (by cases z), fun rec => ?_⟩
        rw [key, hst, some_b, if_neg (nI_ge (by omega) (by omega)), nI_add, if_neg (nI_ge (by omega) (by omega))]
    · have hd2 : d m n = 1000000 := by have := hd m n hm hn; omega
      obtain ⟨S', far', pr', mo', u1, u2, u3, u4, u5, u6⟩ := stay fun _ => ⟨fun z => absurd z.2.2.2.2.2.2 q2, fun z => absurd z nb⟩
      refine ⟨S', far', pr', mo', u1, u2, u3, u4, fun rec => ?_⟩
      rw [key, hst, some_b, if_pos (nI_le (by omega) (by omega)), u5, u6]
  · rw [if_neg q1] at hst
    have na : ¬ AC d th wa m n := fun z => q1 ⟨z.2.2.2.2.1, z.2.2.2.2.2.1⟩
    by_cases q2 : (th m < wa m ∧ wa n < th n) ∧ 0 < x n m
    · rw [if_pos q2] at hst
      have hb : BC th wa x m n := ⟨hm, hn, gK_f (by omega), gK_t q2.1.2, q2.2⟩
      have hw : WC d th wa m n = d n m := WC_b (by omega)
      have hE : EC d th wa n m := ((hG.2.1 m n hb).1).2.2.2.2
      have hd2 := hd n m hn hm
      have hlt : d n m < 1000000 := hE.2.2
      have hpi := (hG.2.1 m n hb).2.2
      rw [hw] at hpi
      rw [hsy m n hm hn] at hst
      have hneg : ¬ nI 1000000 ≤ - nI (d n m) := by
        rw [iI_n (d n m), show - iI (d n m : Int) = iI (-(d n m : Int)) from (Int32.ofInt_neg _).symm, Int32.le_iff_toInt_le, nI_toInt (by omega), iI_toInt (by omega) (by omega)]
        omega
      have hadd : nI (far m) + - nI (d n m) = nI (far m - d n m) := by rw [← Int32.sub_eq_add_neg, sbN (by omega)]
      by_cases q3 : far n ≤ far m - d n m
      · obtain ⟨S', far', pr', mo', u1, u2, u3, u4, u5, u6⟩ := stay fun _ => ⟨fun z => absurd z na, fun _ => by rw [hw]; omega⟩
        refine ⟨S', far', pr', mo', u1, u2, u3, u4, fun rec => ?_⟩
        rw [key, hst, some_b, if_neg hneg, hadd, if_pos (nI_le q3 (by omega)), u5, u6]
      · obtain ⟨u1, u2⟩ := move (far m - d n m) (Or.inr ⟨hb, by rw [hw]; omega⟩) (by omega)
        refine ⟨_, _, _, true, u1, u2, fun _ => rfl, fun z => (by cases z), fun rec => ?_⟩
        rw [key, hst, some_b, if_neg hneg, hadd, if_neg (nI_ge (by omega) (by omega))]
    · rw [if_neg q2] at hst
      have nb : ¬ BC th wa x m n := fun z => by
        have hz := z.2.2.2.2
        have hE : EC d th wa n m := ((hG.2.1 m n z).1).2.2.2.2
        exact q2 ⟨⟨hE.2.1, hE.1⟩, hz⟩
      obtain ⟨S', far', pr', mo', u1, u2, u3, u4, u5, u6⟩ := stay fun _ => ⟨fun z => absurd z na, fun z => absurd z nb⟩
      refine ⟨S', far', pr', mo', u1, u2, u3, u4, fun rec => ?_⟩
      rw [key, hst, some_b, if_pos (nI_le (by omega) (by omega)), u5, u6]

/-! the best leading of empties, told by its worth -/
def s2 (x : Nat → Nat → Nat) : Nat := sm (fun a => sm (x a) 12) 12
def Feas (d : Nat → Nat → Nat) (th wa : Nat → Nat) (x : Nat → Nat → Nat) : Prop :=
  (∀ a b, a < 12 → b < 12 → 0 < x a b → d a b < 1000000) ∧ (∀ a, a < 12 → sm (x a) 12 ≤ th a) ∧ ∀ b, b < 12 → sm (fun a => x a b) 12 ≤ wa b
def FlowV (d : Nat → Nat → Nat) (th wa : Nat → Nat) (m l : Nat) : Prop :=
  l < 1000000 ∧ (∃ x, Feas d th wa x ∧ s2 x = m ∧ s2 (fun a b => x a b * d a b) = l) ∧ ∀ x, Feas d th wa x → 1000000 * s2 x + l ≤ 1000000 * m + s2 (fun a b => x a b * d a b)
theorem FlowV.uniq {d : Nat → Nat → Nat} {th wa : Nat → Nat} {m l m' l' : Nat} (h : FlowV d th wa m l) (h' : FlowV d th wa m' l') : m = m' ∧ l = l' := by
  obtain ⟨a1, ⟨x, a2, a3, a4⟩, a5⟩ := h
  obtain ⟨b1, ⟨y, b2, b3, b4⟩, b5⟩ := h'
  have h1 := a5 y b2
  have h2 := b5 x a2
  rw [b3, b4] at h1
  rw [a3, a4] at h2
  omega
/-! what holds between the calls -/
def Par : Type := (Nat) × (Nat → Nat) × (Nat → Nat) × (Nat → Nat) × (Nat → Nat) × (Nat → Nat → Nat) × (Nat) × (Nat) × (Nat → Nat) × (Nat → Nat) × (Nat → Nat) × (Nat → Nat) × (Nat → Nat) × (Nat → Nat) × (Nat) × (Nat) × (Nat → Int) × (Nat) × (Nat → Nat) × (Nat → Nat)
def Par.N (p : Par) : Nat := p.1
def Par.A (p : Par) : Nat → Nat := p.2.1
def Par.B (p : Par) : Nat → Nat := p.2.2.1
def Par.C (p : Par) : Nat → Nat := p.2.2.2.1
def Par.L (p : Par) : Nat → Nat := p.2.2.2.2.1
def Par.d (p : Par) : Nat → Nat → Nat := p.2.2.2.2.2.1
def Par.W (p : Par) : Nat := p.2.2.2.2.2.2.1
def Par.T (p : Par) : Nat := p.2.2.2.2.2.2.2.1
def Par.mk (p : Par) : Nat → Nat := p.2.2.2.2.2.2.2.2.1
def Par.ow (p : Par) : Nat → Nat := p.2.2.2.2.2.2.2.2.2.1
def Par.wm (p : Par) : Nat → Nat := p.2.2.2.2.2.2.2.2.2.2.1
def Par.jn (p : Par) : Nat → Nat := p.2.2.2.2.2.2.2.2.2.2.2.1
def Par.dy (p : Par) : Nat → Nat := p.2.2.2.2.2.2.2.2.2.2.2.2.1
def Par.cp (p : Par) : Nat → Nat := p.2.2.2.2.2.2.2.2.2.2.2.2.2.1
def Par.fr (p : Par) : Nat := p.2.2.2.2.2.2.2.2.2.2.2.2.2.2.1
def Par.pr (p : Par) : Nat := p.2.2.2.2.2.2.2.2.2.2.2.2.2.2.2.1
def Par.bq (p : Par) : Nat → Int := p.2.2.2.2.2.2.2.2.2.2.2.2.2.2.2.2.1
def Par.bc (p : Par) : Nat := p.2.2.2.2.2.2.2.2.2.2.2.2.2.2.2.2.2.1
def Par.th (p : Par) : Nat → Nat := p.2.2.2.2.2.2.2.2.2.2.2.2.2.2.2.2.2.2.1
def Par.wa (p : Par) : Nat → Nat := p.2.2.2.2.2.2.2.2.2.2.2.2.2.2.2.2.2.2.2
def mkP (N : Nat) (A : Nat → Nat) (B : Nat → Nat) (C : Nat → Nat) (L : Nat → Nat) (d : Nat → Nat → Nat) (W : Nat) (T : Nat) (mk : Nat → Nat) (ow : Nat → Nat) (wm : Nat → Nat) (jn : Nat → Nat) (dy : Nat → Nat) (cp : Nat → Nat) (fr : Nat) (pr : Nat) (bq : Nat → Int) (bc : Nat) (th : Nat → Nat) (wa : Nat → Nat) : Par := (N, A, B, C, L, d, W, T, mk, ow, wm, jn, dy, cp, fr, pr, bq, bc, th, wa)
def Par.sol (p : Par) : Nat × (Nat → Nat) := solOf p.W p.T p.mk p.wm p.jn p.dy p.d
def Par.o (p : Par) : Nat → Nat → Nat := oN p.ow p.sol.2 p.dy p.cp p.fr p.pr p.T
/-- the balances -/
def Par.bal (p : Par) : Nat → Int := chv p.bq p.o p.ow p.W
def InvP (n : Nat) (p : Par) : Prop := (NetP p.N p.A p.B p.C p.L p.d) ∧ (RegP p.W p.T p.mk p.ow p.wm p.jn p.dy p.cp) ∧ (TermP p.fr p.pr) ∧ (si p.bq 8 = 0) ∧ (L1 p.bq 8 ≤ 2000000 * n) ∧ (p.bc ≤ 1000) ∧ (∀ j, j < 12 → p.th j ≤ 9 ∧ p.wa j ≤ 9)
theorem InvP.np {n : Nat} {p : Par} (h : InvP n p) : NetP p.N p.A p.B p.C p.L p.d := h.1
theorem InvP.rp {n : Nat} {p : Par} (h : InvP n p) : RegP p.W p.T p.mk p.ow p.wm p.jn p.dy p.cp := h.2.1
theorem InvP.tp {n : Nat} {p : Par} (h : InvP n p) : TermP p.fr p.pr := h.2.2.1
theorem InvP.bs {n : Nat} {p : Par} (h : InvP n p) : si p.bq 8 = 0 := h.2.2.2.1
theorem InvP.bl {n : Nat} {p : Par} (h : InvP n p) : L1 p.bq 8 ≤ 2000000 * n := h.2.2.2.2.1
theorem InvP.cb {n : Nat} {p : Par} (h : InvP n p) : p.bc ≤ 1000 := h.2.2.2.2.2.1
theorem InvP.t9 {n : Nat} {p : Par} (h : InvP n p) : ∀ j, j < 12 → p.th j ≤ 9 ∧ p.wa j ≤ 9 := h.2.2.2.2.2.2
def LC (S : SS) (d : Nat → Nat → Nat) (th wa : Nat → Nat) : Prop := S 7 9 = 0 ∨ (S 7 9 = 1 ∧ ∃ m l, FlowV d th wa m l ∧ S 7 2 = nI m ∧ S 7 3 = nI l)
def InvK (p : Par) (S : SS) : Prop := (NetK S p.N p.A p.B p.C p.L p.d) ∧ (RegK S p.W p.T p.mk p.ow p.wm p.jn p.dy p.cp) ∧ (S 5 2 = nI p.fr) ∧ (S 5 3 = nI p.pr) ∧ (∀ x, x < 8 → S 35 x = iI (p.bq x)) ∧ (S 0 9 = nI p.bc) ∧ (∀ j, j < 12 → S 29 j = nI (p.th j) ∧ S 30 j = nI (p.wa j)) ∧ (JC S p.W p.T p.sol) ∧ (LC S p.d p.th p.wa) ∧ (S 28 0 = 0)
theorem InvK.nk {p : Par} {S : SS} (h : InvK p S) : NetK S p.N p.A p.B p.C p.L p.d := h.1
theorem InvK.rk {p : Par} {S : SS} (h : InvK p S) : RegK S p.W p.T p.mk p.ow p.wm p.jn p.dy p.cp := h.2.1
theorem InvK.t2 {p : Par} {S : SS} (h : InvK p S) : S 5 2 = nI p.fr := h.2.2.1
theorem InvK.t3 {p : Par} {S : SS} (h : InvK p S) : S 5 3 = nI p.pr := h.2.2.2.1
theorem InvK.bk {p : Par} {S : SS} (h : InvK p S) : ∀ x, x < 8 → S 35 x = iI (p.bq x) := h.2.2.2.2.1
theorem InvK.ck {p : Par} {S : SS} (h : InvK p S) : S 0 9 = nI p.bc := h.2.2.2.2.2.1
theorem InvK.tk {p : Par} {S : SS} (h : InvK p S) : ∀ j, j < 12 → S 29 j = nI (p.th j) ∧ S 30 j = nI (p.wa j) := h.2.2.2.2.2.2.1
theorem InvK.jc {p : Par} {S : SS} (h : InvK p S) : JC S p.W p.T p.sol := h.2.2.2.2.2.2.2.1
theorem InvK.lc {p : Par} {S : SS} (h : InvK p S) : LC S p.d p.th p.wa := h.2.2.2.2.2.2.2.2.1
theorem InvK.z28 {p : Par} {S : SS} (h : InvK p S) : S 28 0 = 0 := h.2.2.2.2.2.2.2.2.2
def InvM (p : Par) (M : SM) : Prop := (NetM M.1 p.N p.A p.B p.C p.L p.d) ∧ (RegM M.1 p.W p.T p.mk p.ow p.wm p.jn p.dy p.cp) ∧ (M.1 0 14 = nI p.fr) ∧ (M.1 0 15 = nI p.pr) ∧ (∀ x, x < 8 → M.1 12 x = iI (p.bq x)) ∧ (M.1 0 16 = nI p.bc) ∧ (∀ j, j < 12 → M.1 13 j = nI (p.th j) ∧ M.1 14 j = nI (p.wa j))
theorem InvM.nm {p : Par} {M : SM} (h : InvM p M) : NetM M.1 p.N p.A p.B p.C p.L p.d := h.1
theorem InvM.rm {p : Par} {M : SM} (h : InvM p M) : RegM M.1 p.W p.T p.mk p.ow p.wm p.jn p.dy p.cp := h.2.1
theorem InvM.t2 {p : Par} {M : SM} (h : InvM p M) : M.1 0 14 = nI p.fr := h.2.2.1
theorem InvM.t3 {p : Par} {M : SM} (h : InvM p M) : M.1 0 15 = nI p.pr := h.2.2.2.1
theorem InvM.bm {p : Par} {M : SM} (h : InvM p M) : ∀ x, x < 8 → M.1 12 x = iI (p.bq x) := h.2.2.2.2.1
theorem InvM.cm {p : Par} {M : SM} (h : InvM p M) : M.1 0 16 = nI p.bc := h.2.2.2.2.2.1
theorem InvM.tm {p : Par} {M : SM} (h : InvM p M) : ∀ j, j < 12 → M.1 13 j = nI (p.th j) ∧ M.1 14 j = nI (p.wa j) := h.2.2.2.2.2.2
def Inv (n : Nat) (S : SS) (M : SM) : Prop := ∃ p, InvP n p ∧ InvK p S ∧ InvM p M
theorem InvP_mk {n : Nat} {N : Nat} {A : Nat → Nat} {B : Nat → Nat} {C : Nat → Nat} {L : Nat → Nat} {d : Nat → Nat → Nat} {W : Nat} {T : Nat} {mk : Nat → Nat} {ow : Nat → Nat} {wm : Nat → Nat} {jn : Nat → Nat} {dy : Nat → Nat} {cp : Nat → Nat} {fr : Nat} {pr : Nat} {bq : Nat → Int} {bc : Nat} {th : Nat → Nat} {wa : Nat → Nat} (np : NetP N A B C L d) (rp : RegP W T mk ow wm jn dy cp) (tp : TermP fr pr) (bs : si bq 8 = 0) (bl : L1 bq 8 ≤ 2000000 * n) (cb : bc ≤ 1000) (t9 : ∀ j, j < 12 → th j ≤ 9 ∧ wa j ≤ 9) : InvP n (mkP N A B C L d W T mk ow wm jn dy cp fr pr bq bc th wa) := ⟨np, rp, tp, bs, bl, cb, t9⟩
theorem InvK_mk {S : SS} {N : Nat} {A : Nat → Nat} {B : Nat → Nat} {C : Nat → Nat} {L : Nat → Nat} {d : Nat → Nat → Nat} {W : Nat} {T : Nat} {mk : Nat → Nat} {ow : Nat → Nat} {wm : Nat → Nat} {jn : Nat → Nat} {dy : Nat → Nat} {cp : Nat → Nat} {fr : Nat} {pr : Nat} {bq : Nat → Int} {bc : Nat} {th : Nat → Nat} {wa : Nat → Nat} (nk : NetK S N A B C L d) (rk : RegK S W T mk ow wm jn dy cp) (t2 : S 5 2 = nI fr) (t3 : S 5 3 = nI pr) (bk : ∀ x, x < 8 → S 35 x = iI (bq x)) (ck : S 0 9 = nI bc) (tk : ∀ j, j < 12 → S 29 j = nI (th j) ∧ S 30 j = nI (wa j)) (jc : JC S W T (solOf W T mk wm jn dy d)) (lc : LC S d th wa) (z28 : S 28 0 = 0) : InvK (mkP N A B C L d W T mk ow wm jn dy cp fr pr bq bc th wa) S := ⟨nk, rk, t2, t3, bk, ck, tk, jc, lc, z28⟩
theorem InvM_mk {M : SM} {N : Nat} {A : Nat → Nat} {B : Nat → Nat} {C : Nat → Nat} {L : Nat → Nat} {d : Nat → Nat → Nat} {W : Nat} {T : Nat} {mk : Nat → Nat} {ow : Nat → Nat} {wm : Nat → Nat} {jn : Nat → Nat} {dy : Nat → Nat} {cp : Nat → Nat} {fr : Nat} {pr : Nat} {bq : Nat → Int} {bc : Nat} {th : Nat → Nat} {wa : Nat → Nat} (nm : NetM M.1 N A B C L d) (rm : RegM M.1 W T mk ow wm jn dy cp) (t2 : M.1 0 14 = nI fr) (t3 : M.1 0 15 = nI pr) (bm : ∀ x, x < 8 → M.1 12 x = iI (bq x)) (cm : M.1 0 16 = nI bc) (tm : ∀ j, j < 12 → M.1 13 j = nI (th j) ∧ M.1 14 j = nI (wa j)) : InvM (mkP N A B C L d W T mk ow wm jn dy cp fr pr bq bc th wa) M := ⟨nm, rm, t2, t3, bm, cm, tm⟩
theorem InvP.up {n : Nat} {p : Par} (h : InvP n p) : InvP (n + 1) p := ⟨h.np, h.rp, h.tp, h.bs, by have := h.bl; omega, h.cb, h.t9⟩
theorem InvM.cong {p : Par} {M M' : SM} (h : InvM p M) (h0 : ∀ k, k ≤ 16 → M'.1 0 k = M.1 0 k) (h1 : ∀ q, 1 ≤ q → q ≤ 14 → M'.1 q = M.1 q) : InvM p M' :=
  ⟨h.nm.cong (h0 0 (by decide)) (fun q a b => h1 q a (by omega)), h.rm.cong (h0 6 (by decide)) (h0 9 (by decide)) (fun q a b => h1 q (by omega) (by omega)), by rw [h0 14 (by decide)]; exact h.t2, by rw [h0 15 (by decide)]; exact h.t3, fun x hx => by rw [h1 12 (by decide) (by decide)]; exact h.bm x hx, by rw [h0 16 (by decide)]; exact h.cm, fun j hj => by rw [h1 13 (by decide) (by decide), h1 14 (by decide) (by decide)]; exact h.tm j hj⟩
/-- the class's cells, the joining's and the leading's apart -/
theorem InvK.cong {p : Par} {S S' : SS} (h : InvK p S) (h0 : ∀ q, q ≤ 5 → q ≠ 2 → q ≠ 4 → S' q = S q) (h1 : ∀ q, 8 ≤ q → q ≤ 12 → S' q = S q) (h2 : ∀ q, 16 ≤ q → q ≤ 21 → S' q = S q) (h3 : ∀ q, 29 ≤ q → q ≤ 30 → S' q = S q) (h35 : S' 35 = S 35) (h28 : S' 28 0 = 0) (hj : JC S' p.W p.T p.sol) (hl : LC S' p.d p.th p.wa) : InvK p S' :=
  ⟨h.nk.cong (by rw [h0 1 (by decide) (by decide) (by decide)]) h1, h.rk.cong (h0 3 (by decide) (by decide) (by decide)) h2, by rw [h0 5 (by decide) (by decide) (by decide)]; exact h.t2, by rw [h0 5 (by decide) (by decide) (by decide)]; exact h.t3, fun x hx => by rw [h35]; exact h.bk x hx, by rw [h0 0 (by decide) (by decide) (by decide)]; exact h.ck, fun j hj => by rw [h3 29 (by decide) (by decide), h3 30 (by decide) (by decide)]; exact h.tk j hj, hj, hl, h28⟩
theorem JC.cong {S S' : SS} {W T : Nat} {s : Nat × (Nat → Nat)} (h : JC S W T s) (h4 : S' 4 = S 4) (h26 : S' 26 = S 26) : JC S' W T s := by
  unfold JC JY at *; rw [h4, h26]; exact h
theorem LC.cong {S S' : SS} {d : Nat → Nat → Nat} {th wa : Nat → Nat} (h : LC S d th wa) (h7 : S' 7 = S 7) : LC S' d th wa := by
  unfold LC at *; rw [h7]; exact h
theorem JY.jc {S : SS} {W T : Nat} {s : Nat × (Nat → Nat)} (h : JY S W T s) : JC S W T s := Or.inr h
/-- after the joining is solved -/
theorem InvK.jf {p : Par} {S S' : SS} (h : InvK p S) (hf : JF S S') (hj : JY S' p.W p.T p.sol) : InvK p S' :=
  h.cong (fun q a b c => hf q c (by omega)) (fun q a b => hf q (by omega) (by omega)) (fun q a b => hf q (by omega) (by omega)) (fun q a b => hf q (by omega) (by omega)) (hf 35 (by decide) (by decide)) (by rw [hf 28 (by decide) (by decide)]; exact h.z28) hj.jc (h.lc.cong (hf 7 (by decide) (by decide)))
theorem InvK.prt {p : Par} {S S' : SS} (h : InvK p S) (hf : PrtF S S') : InvK p S' :=
  h.cong (fun q a b c => hf q b (by omega) (by omega) (by omega)) (fun q a b => hf q (by omega) (by omega) (by omega) (by omega)) (fun q a b => hf q (by omega) (by omega) (by omega) (by omega)) (fun q a b => hf q (by omega) (by omega) (by omega) (by omega)) (hf 35 (by decide) (by decide) (by decide) (by decide)) (by rw [hf 28 (by decide) (by decide) (by decide) (by decide)]; exact h.z28) (h.jc.cong (hf 4 (by decide) (by decide) (by decide) (by decide)) (hf 26 (by decide) (by decide) (by decide) (by decide))) (h.lc.cong (hf 7 (by decide) (by decide) (by decide) (by decide)))
theorem InvM.jf {p : Par} {M M' : SM} (h : InvM p M) (hf : ∀ q, q ≠ 17 → q ≠ 18 → M'.1 q = M.1 q) : InvM p M' :=
  h.cong (fun k _ => by rw [hf 0 (by decide) (by decide)]) (fun q a b => hf q (by omega) (by omega))
theorem InvM.prt {p : Par} {M M' : SM} (h : InvM p M) (hf : PrtM M M') : InvM p M' :=
  h.cong (fun k _ => by rw [hf 0 (by decide) (by decide)]) (fun q a b => hf q (by omega) (by omega))
theorem InvK.solve {F n : Nat} (hF : 1000000000 < F) {p : Par} {S : SS} (hp : InvP n p) (h : InvK p S) : ∃ S', k2_solve F S = some S' ∧ InvK p S' ∧ JY S' p.W p.T p.sol := by
  obtain ⟨S', a, b, c⟩ := solveK (F := F) (by omega) hp.np hp.rp h.nk h.rk h.jc
  exact ⟨S', a, h.jf b c, c⟩
theorem InvM.joins {F n : Nat} (hF : 1000000000 < F) {p : Par} {M : SM} (hp : InvP n p) (h : InvM p M) : ∃ M', k8_joins F M = some (nI p.sol.1, M') ∧ InvM p M' ∧ (∀ q, q ≠ 17 → q ≠ 18 → M'.1 q = M.1 q) ∧ ∀ k, k < p.T → M'.1 18 k = nI (p.sol.2 k) := by
  obtain ⟨M', a, b, c⟩ := joinsM hF hp.np hp.rp h.nm h.rm
  exact ⟨M', a, h.jf b, b, c⟩
/-! the calls, one by one -/
def BthS (n : Nat) (x : Option (Int32 × SS)) (y : Option (Int32 × SM)) : Prop := ∃ r S' M', x = some (r, S') ∧ y = some (r, M') ∧ Inv (n + 1) S' M'
theorem BthS.same {n : Nat} {S : SS} {M : SM} {p : Par} (hp : InvP n p) (hK : InvK p S) (hM : InvM p M) {r : Int32} {x : Option (Int32 × SS)} {y : Option (Int32 × SM)} (hx : x = some (r, S)) (hy : y = some (r, M)) : BthS n x y := ⟨r, S, M, hx, hy, p, hp.up, hK, hM⟩
theorem step_line {F : Nat} (hF : 1000000000 < F) {n : Nat} {S : SS} {M : SM} (h : Inv n S M) (x1 x2 x3 x4 : Int32) : BthS n (k7_line F S x1 x2 x3 x4) (k8_line F M x1 x2 x3 x4) := by
  obtain ⟨p, hp, hK, hM⟩ := h
  rcases line_both hF hp.np hK.nk hM.nm x1 x2 x3 x4 with ⟨a1, a2⟩ | ⟨S', M', A', B', C', L', d', a1, a2, a3, a4, a5, a6, a7, a8, a9⟩
  · refine BthS.same hp hK hM ?_ a2
    unfold k7_line
    simp only [bnd_e]
    rw [a1, ob2_s, if_pos rfl]
  · refine ⟨nI p.N, st (st S' 4 8 0) 7 9 0, M', ?_, a2, mkP (p.N + 1) A' B' C' L' d' p.W p.T p.mk p.ow p.wm p.jn p.dy p.cp p.fr p.pr p.bq p.bc p.th p.wa, InvP_mk a3 hp.rp hp.tp hp.bs hp.up.bl hp.cb hp.t9, InvK_mk ?_ ?_ ?_ ?_ ?_ ?_ ?_ ?_ ?_ ?_, InvM_mk a5 ?_ ?_ ?_ ?_ ?_ ?_⟩
    · unfold k7_line k2_forget k3_forget
      simp only [bnd_e]
      rw [a1, ob2_s, if_neg (nI_m1 (by omega)), some_b, some_b]
    · exact a4.cong (by rw [st_o (by decide), st_o (by decide)]) (fun q u v => by rw [st_o (by omega), st_o (by omega)])
    · exact hK.rk.cong (by rw [st_o (by decide), st_o (by decide), a7 3 (by decide) (by decide)]) (fun q u v => by rw [st_o (by omega), st_o (by omega), a7 q (by omega) (by omega)])
    · rw [st_o (by decide), st_o (by decide), a7 5 (by decide) (by decide)]; exact hK.t2
    · rw [st_o (by decide), st_o (by decide), a7 5 (by decide) (by decide)]; exact hK.t3
    · intro x hx; rw [st_o (by decide), st_o (by decide), a7 35 (by decide) (by decide)]; exact hK.bk x hx
    · rw [st_o (by decide), st_o (by decide), a7 0 (by decide) (by decide)]; exact hK.ck
    · intro j hj; rw [st_o (by decide), st_o (by decide), st_o (by decide), st_o (by decide), a7 29 (by decide) (by decide), a7 30 (by decide) (by decide)]; exact hK.tk j hj
    · left; rw [st_o (by decide), st_st, if_pos rfl]
    · left; rw [st_st, if_pos rfl]
    · rw [st_o (by decide), st_o (by decide), a7 28 (by decide) (by decide)]; exact hK.z28
    · exact hM.rm.cong (a9 6 (by decide)) (a9 9 (by decide)) (fun q u v => a8 q (by omega) (by omega))
    · rw [a9 14 (by decide)]; exact hM.t2
    · rw [a9 15 (by decide)]; exact hM.t3
    · intro x hx; rw [a8 12 (by decide) (by decide)]; exact hM.bm x hx
    · rw [a9 16 (by decide)]; exact hM.cm
    · intro j hj; rw [a8 13 (by decide) (by decide), a8 14 (by decide) (by decide)]; exact hM.tm j hj
theorem step_least {F : Nat} {n : Nat} {S : SS} {M : SM} (h : Inv n S M) (x1 x2 : Int32) : ∃ r, k7_least F S x1 x2 = some r ∧ k8_least F M x1 x2 = some r := by
  obtain ⟨p, hp, hK, hM⟩ := h
  unfold k7_least
  rcases rng x1 12 (by omega) with ⟨a, ha, rfl⟩ | q1
  · rcases rng x2 12 (by omega) with ⟨b, hb, rfl⟩ | q2
    · exact ⟨_, by rw [leastK_v hp.np hK.nk ha hb, some_b], leastM_v hp.np hM.nm ha hb⟩
    · exact ⟨_, by rw [leastK_n (Or.inr q2), some_b], leastM_n (Or.inr q2)⟩
  · exact ⟨_, by rw [leastK_n (Or.inl q1), some_b], leastM_n (Or.inl q1)⟩
theorem step_route {F : Nat} (hF : 1000000000 < F) {n : Nat} {S : SS} {M : SM} (h : Inv n S M) (x1 x2 : Int32) : ∃ r, k7_route F S x1 x2 = some r ∧ k8_route F M x1 x2 = some r := by
  obtain ⟨p, hp, hK, hM⟩ := h
  unfold k7_route
  by_cases q : ∃ u v, u < 12 ∧ v < 12 ∧ x1 = nI u ∧ x2 = nI v ∧ u ≠ v ∧ p.d u v < 1000000
  · obtain ⟨u, v, hu, hv, rfl, rfl, hne, hf⟩ := q
    exact ⟨_, by rw [routeK_v (F := F) (by omega) hp.np hK.nk hu hv hne hf, some_b], routeM_v (by omega) hp.np hM.nm hu hv hne hf⟩
  · exact ⟨_, by rw [routeK_n hp.np hK.nk q, some_b], routeM_n hp.np hM.nm q⟩
/-- both part a sum, or neither does -/
theorem part_both {F : Nat} (hF : 1000000000 < F) {n : Nat} {p : Par} {S : SS} {M : SM} (hp : InvP n p) (hK : InvK p S) (hM : InvM p M) (x1 x2 x3 : Int32) :
    (∃ S' M', k5_divide F S x1 x2 x3 = some (0, S') ∧ k8_parts F M x1 x2 x3 = some (0, M') ∧ InvK p S' ∧ InvM p M') ∨
    ∃ S' M' P, k5_divide F S x1 x2 x3 = some (1, S') ∧ k8_parts F M x1 x2 x3 = some (1, M') ∧ InvK p S' ∧ InvM p M' ∧ sm P 8 ≤ 1000000 ∧ (∀ c, c < 8 → S' 13 c = nI (P c)) ∧ ∀ c, c < 8 → M'.1 15 c = nI (P c) := by
  rcases rng2 x3 0 1000000 (by omega) with ⟨s, -, hs, rfl⟩ | q3
  · by_cases q : ∃ u v, u < 12 ∧ v < 12 ∧ x1 = nI u ∧ x2 = nI v ∧ u ≠ v ∧ p.d u v < 1000000
    · obtain ⟨u, v, hu, hv, rfl, rfl, hne, hf⟩ := q
      obtain ⟨S', a1, a2, a3⟩ := divideK_y (F := F) (by omega) hp.np hK.nk hu hv hne hf hs
      obtain ⟨M', b1, b2, b3⟩ := partsM_y (F := F) (by omega) hp.np hM.nm hu hv hne hf hs
      exact Or.inr ⟨S', M', _, a1, b1, hK.prt a2, hM.prt b2, by rw [PTs_sum hp.np hu hv hne hf]; exact hs, a3, b3⟩
    · obtain ⟨S', a1, a2⟩ := divideK_n (F := F) (by omega) hp.np hK.nk (x3 := nI s) (Or.inr q)
      exact Or.inl ⟨S', M, a1, partsM_n hp.np hM.nm (Or.inr q), hK.prt a2, hM⟩
  · obtain ⟨S', a1, a2⟩ := divideK_n (F := F) (by omega) hp.np hK.nk (x1 := x1) (x2 := x2) (Or.inl q3)
    exact Or.inl ⟨S', M, a1, partsM_n hp.np hM.nm (Or.inl q3), hK.prt a2, hM⟩
theorem step_part {F : Nat} (hF : 1000000000 < F) {n : Nat} {S : SS} {M : SM} (h : Inv n S M) (x1 x2 x3 x4 : Int32) : BthS n (k7_part F S x1 x2 x3 x4) (k8_part F M x1 x2 x3 x4) := by
  obtain ⟨p, hp, hK, hM⟩ := h
  unfold k7_part k8_part
  rcases rng x4 8 (by omega) with ⟨c, hc, rfl⟩ | q4
  · rw [isC_y hc, some_b, if_neg z10, cM_y hc, some_b, if_neg z10]
    rcases part_both hF hp hK hM x1 x2 x3 with ⟨S', M', a1, a2, a3, a4⟩ | ⟨S', M', P, a1, a2, a3, a4, -, a6, a7⟩
    · rw [a1, a2, ob2_s, ob2_s, if_pos rfl, if_pos rfl]
      exact BthS.same hp a3 a4 rfl rfl
    · rw [a1, a2, ob2_s, ob2_s, if_neg z10, if_neg z10, rdA_n hc (by omega), rdA_n hc (by omega), some_b, some_b, a6 c hc, a7 c hc]
      exact BthS.same hp a3 a4 rfl rfl
  · rw [isC_n q4, some_b, if_pos rfl, cM_n q4, some_b, if_pos rfl]
    exact BthS.same hp hK hM rfl rfl
theorem l1000 : (1000 : Int32) = nI 1000 := rfl
theorem step_book {F : Nat} (hF : 1000000000 < F) {n : Nat} {S : SS} {M : SM} (h : Inv n S M) (x1 x2 x3 x4 : Int32) : BthS n (k7_book F S x1 x2 x3 x4) (k8_book F M x1 x2 x3 x4) := by
  obtain ⟨p, hp, hK, hM⟩ := h
  have hcb := hp.cb
  unfold k7_book k8_book
  rcases rng x4 8 (by omega) with ⟨c, hc, rfl⟩ | q4
  · rw [isC_y hc, some_b, if_neg z10, cM_y hc, some_b, if_neg z10, hK.ck, hM.cm, l1000]
    by_cases q : p.bc = 1000
    · rw [if_pos (nI_le (by omega) (by omega)), if_pos (by rw [q])]
      exact BthS.same hp hK hM rfl rfl
    · rw [if_neg (nI_ge (by omega) (by omega)), if_neg (fun z => q ((nI_eq (by omega) (by omega)).mp z))]
      rcases part_both hF hp hK hM x1 x2 x3 with ⟨S', M', a1, a2, a3, a4⟩ | ⟨S', M', P, a1, a2, a3, a4, a5, a6, a7⟩
      · rw [a1, a2, ob2_s, ob2_s, if_pos rfl, if_pos rfl]
        exact BthS.same hp a3 a4 rfl rfl
      · rw [a1, a2, ob2_s, ob2_s, if_neg z10, if_neg z10]
        obtain ⟨S2, b1, b2, b3⟩ := bookK (F := F) (by omega) hc a3.bk a6 (fun S_19 => bnd (st S_19 0 9 ((S_19 0 9) + ((1 : Int32)))) fun S_20 => some ((1 : Int32), S_20))
        obtain ⟨M2, c1, c2, c3⟩ := bookM (F := F) (by omega) hc a4.bm a7 (fun S_19 => bnd (stM S_19 0 16 ((S_19.1 0 16) + ((1 : Int32)))) fun S_20 => some ((1 : Int32), S_20))
        have e1 : S2 0 9 = nI p.bc := by rw [b2 0 (by decide)]; exact a3.ck
        have e2 : M2.1 0 16 = nI p.bc := by rw [c2 0 (by decide)]; exact a4.cm
        refine ⟨1, st S2 0 9 (nI (p.bc + 1)), stM M2 0 16 (nI (p.bc + 1)), ?_, ?_, mkP p.N p.A p.B p.C p.L p.d p.W p.T p.mk p.ow p.wm p.jn p.dy p.cp p.fr p.pr (bkv p.bq P c 8) (p.bc + 1) p.th p.wa, InvP_mk hp.np hp.rp hp.tp ((bkv_si hc).trans hp.bs) ?_ (by omega) hp.t9, InvK_mk ?_ ?_ ?_ ?_ ?_ ?_ ?_ ?_ ?_ ?_, InvM_mk ?_ ?_ ?_ ?_ ?_ ?_ ?_⟩
        · refine b1.trans ?_
          simp only [bnd_e]
          rw [e1, nI_1]
        · refine c1.trans ?_
          simp only [bnd_e]
          rw [e2, nI_1]
        · have := bkv_L1 (f := p.bq) (p := P) (t := c)
          have := hp.bl
          show L1 (bkv p.bq P c 8) 8 ≤ 2000000 * (n + 1)
          omega
        · exact a3.nk.cong (by rw [st_o (by decide), b2 1 (by decide)]) (fun q u v => by rw [st_o (by omega), b2 q (by omega)])
        · exact a3.rk.cong (by rw [st_o (by decide), b2 3 (by decide)]) (fun q u v => by rw [st_o (by omega), b2 q (by omega)])
        · rw [st_o (by decide), b2 5 (by decide)]; exact a3.t2
        · rw [st_o (by decide), b2 5 (by decide)]; exact a3.t3
        · intro x hx; rw [st_o (by decide)]; exact b3 x hx
        · rw [st_st, if_pos rfl]
        · intro j hj; rw [st_o (by decide), st_o (by decide), b2 29 (by decide), b2 30 (by decide)]; exact a3.tk j hj
        · exact a3.jc.cong (by rw [st_o (by decide), b2 4 (by decide)]) (by rw [st_o (by decide), b2 26 (by decide)])
        · exact a3.lc.cong (by rw [st_o (by decide), b2 7 (by decide)])
        · rw [st_o (by decide), b2 28 (by decide)]; exact a3.z28
        · exact a4.nm.cong (by rw [m_s, if_neg (by decide), c2 0 (by decide)]) (fun q u v => by rw [m_o (by omega), c2 q (by omega)])
        · exact a4.rm.cong (by rw [m_s, if_neg (by decide), c2 0 (by decide)]) (by rw [m_s, if_neg (by decide), c2 0 (by decide)]) (fun q u v => by rw [m_o (by omega), c2 q (by omega)])
        · rw [m_s, if_neg (by decide), c2 0 (by decide)]; exact a4.t2
        · rw [m_s, if_neg (by decide), c2 0 (by decide)]; exact a4.t3
        · intro x hx; rw [m_o (by decide)]; exact c3 x hx
        · rw [m_s, if_pos rfl]
        · intro j hj; rw [m_o (by decide), m_o (by decide), c2 13 (by decide), c2 14 (by decide)]; exact a4.tm j hj
  · rw [isC_n q4, some_b, if_pos rfl, cM_n q4, some_b, if_pos rfl]
    exact BthS.same hp hK hM rfl rfl

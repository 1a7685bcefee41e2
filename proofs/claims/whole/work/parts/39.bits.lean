/-! sets of companies as bits -/
theorem tBv (b : Nat) : (nI b).toBitVec = BitVec.ofNat 32 b := rfl
theorem andN (a b : Nat) : nI a &&& nI b = nI (a &&& b) := by
  apply Int32.toBitVec_inj.mp
  rw [Int32.toBitVec_and, tBv, tBv, tBv, BitVec.ofNat_and]
theorem xorN (a b : Nat) : nI a ^^^ nI b = nI (a ^^^ b) := by
  apply Int32.toBitVec_inj.mp
  rw [Int32.toBitVec_xor, tBv, tBv, tBv, BitVec.ofNat_xor]
theorem orN (a b : Nat) : nI a ||| nI b = nI (a ||| b) := by
  apply Int32.toBitVec_inj.mp
  rw [Int32.toBitVec_or, tBv, tBv, tBv, BitVec.ofNat_or]
theorem m1x : (-1 : Int32) = nI 4294967295 := by decide
theorem shl1 : ∀ c, c < 8 → (1 : Int32) <<< (nI c &&& 31) = nI (2 ^ c) := by decide +kernel
theorem shr1 : ∀ h, h < 256 → ∀ c, c < 8 → (nI h >>> (nI c &&& 31)) &&& 1 = if h.testBit c then 1 else 0 := by decide +kernel
theorem low1 : ∀ h : Nat, h < 256 → h ≠ 0 → ∃ c, c < 8 ∧ h.testBit c = true ∧ (∀ i, i < c → h.testBit i = false) ∧ (nI h &&& (- nI h)) = nI (2 ^ c) := by decide +kernel
def nd (a b : Nat) : Nat := a &&& (b ^^^ 4294967295)
theorem ndN (a b : Nat) : nI a &&& (nI b ^^^ (-1)) = nI (nd a b) := by rw [m1x, xorN, andN]; rfl
def Sub (g h : Nat) : Prop := ∀ i, g.testBit i = true → h.testBit i = true
theorem hi_bit {a i : Nat} (ha : a < 256) (hi : 8 ≤ i) : a.testBit i = false := Nat.testBit_lt_two_pow (Nat.lt_of_lt_of_le ha (Nat.pow_le_pow_right (n := 2) (by omega) hi))
theorem nd_t {a b i : Nat} (ha : a < 256) : (nd a b).testBit i = (a.testBit i && !b.testBit i) := by
  unfold nd
  rw [Nat.testBit_and, Nat.testBit_xor]
  by_cases h : i < 32
  · rw [show (4294967295 : Nat) = 2 ^ 32 - 1 from rfl, Nat.testBit_two_pow_sub_one, decide_eq_true h, Bool.xor_true]
  · rw [hi_bit ha (by omega)]; rfl
theorem nd_le {a b : Nat} : nd a b ≤ a := Nat.and_le_left
theorem nd_0 {a b : Nat} (ha : a < 256) : nd a b = 0 ↔ Sub a b := by
  constructor
  · intro h i hi
    have := nd_t (b := b) (i := i) ha
    rw [h, Nat.zero_testBit, hi] at this
    cases e : b.testBit i
    · rw [e] at this; cases this
    · rfl
  · intro h
    refine Nat.eq_of_testBit_eq fun i => ?_
    rw [nd_t ha, Nat.zero_testBit]
    cases e : a.testBit i
    · rfl
    · rw [h i e]; rfl
theorem nd_sub {a b : Nat} (ha : a < 256) : Sub (nd a b) a := fun i hi => by
  rw [nd_t ha] at hi
  cases e : a.testBit i
  · rw [e] at hi; cases hi
  · rfl
theorem Sub.rf {a : Nat} : Sub a a := fun _ h => h
theorem Sub.tr {a b c : Nat} (h : Sub a b) (h' : Sub b c) : Sub a c := fun i hi => h' i (h i hi)
theorem sub_lt {g h : Nat} (hs : Sub g h) (hh : h < 256) : g < 256 := Nat.lt_of_le_of_lt (Nat.le_of_testBit hs) hh
theorem bit_ex {h : Nat} (hh : h < 256) (h0 : h ≠ 0) : ∃ c, c < 8 ∧ h.testBit c = true := by
  obtain ⟨c, hc, hb, _⟩ := low1 h hh h0
  exact ⟨c, hc, hb⟩
theorem nd_lt {h g : Nat} (hh : h < 256) (hs : Sub g h) (hg : g ≠ 0) : nd h g < h := by
  obtain ⟨c, hc, hb⟩ := bit_ex (sub_lt hs hh) hg
  have hne : nd h g ≠ h := fun e => by
    have := nd_t (b := g) (i := c) hh
    rw [e, hs c hb, hb] at this
    cases this
  have := nd_le (a := h) (b := g)
  omega
theorem and0 {h c : Nat} : h &&& 2 ^ c = 0 ↔ h.testBit c = false := by
  constructor
  · intro e
    have h1 : (h &&& 2 ^ c).testBit c = false := by rw [e, Nat.zero_testBit]
    rw [Nat.testBit_and, Nat.testBit_two_pow_self, Bool.and_true] at h1
    exact h1
  · intro e
    refine Nat.eq_of_testBit_eq fun i => ?_
    rw [Nat.testBit_and, Nat.testBit_two_pow, Nat.zero_testBit]
    by_cases q : c = i
    · rw [← q, e]; rfl
    · rw [decide_eq_false q, Bool.and_false]
theorem sub_p {h c : Nat} (hb : h.testBit c = true) : Sub (2 ^ c) h := fun i hi => by
  rw [Nat.testBit_two_pow] at hi
  rw [← of_decide_eq_true hi]; exact hb
theorem xor_nd {g h : Nat} (hs : Sub g h) (hh : h < 256) : h ^^^ g = nd h g := by
  refine Nat.eq_of_testBit_eq fun i => ?_
  rw [Nat.testBit_xor, nd_t hh]
  cases e : g.testBit i
  · rw [Bool.xor_false, Bool.not_false, Bool.and_true]
  · rw [hs i e]; rfl
theorem p_ne {c : Nat} : 2 ^ c ≠ 0 := Nat.ne_of_gt (Nat.pow_pos (by omega))
theorem sb_lt {h c : Nat} (hb : h.testBit c = true) (hh : h < 256) : h ^^^ 2 ^ c < h := by
  rw [xor_nd (sub_p hb) hh]; exact nd_lt hh (sub_p hb) p_ne
theorem sb_sub {h c : Nat} (hb : h.testBit c = true) (hh : h < 256) : Sub (h ^^^ 2 ^ c) h := by
  rw [xor_nd (sub_p hb) hh]; exact nd_sub hh
/-! sums of sets -/
def sS (f : Nat → Int) (h : Nat) : Int := si (fun c => if h.testBit c = true then f c else 0) 8
theorem sS_0 {f : Nat → Int} : sS f 0 = 0 := by
  have : sS f 0 = si (fun _ => 0) 8 := si_cong fun k _ => by rw [Nat.zero_testBit, if_neg (by decide)]
  rw [this]; rfl
theorem sS_split {f : Nat → Int} {g h : Nat} (hs : Sub g h) (hh : h < 256) : sS f h = sS f g + sS f (nd h g) := by
  unfold sS
  rw [← si_add]
  refine si_cong fun k _ => ?_
  rw [nd_t hh]
  cases e : g.testBit k
  · cases e2 : h.testBit k
    · rfl
    · show f k = 0 + f k; omega
  · rw [hs k e]
    show f k = f k + 0
    omega
theorem si_abs (g : Nat → Int) : ∀ n, (si g n).natAbs ≤ sm (fun c => (g c).natAbs) n
  | 0 => Nat.le_refl 0
  | n + 1 => by
    have := si_abs g n
    unfold si sm
    omega
theorem sm_mono (g : Nat → Nat) : ∀ {m n : Nat}, m ≤ n → sm g m ≤ sm g n
  | m, 0, h => by rw [show m = 0 by omega]; exact Nat.le_refl _
  | m, n + 1, h => by
    by_cases q : m = n + 1
    · rw [q]; exact Nat.le_refl _
    · have := sm_mono g (m := m) (n := n) (by omega)
      have e : sm g (n + 1) = sm g n + g n := rfl
      omega
theorem sSp_bd {f : Nat → Int} {h k : Nat} (hk : k ≤ 8) : (si (fun c => if h.testBit c = true then f c else 0) k).natAbs ≤ L1 f 8 := by
  refine Nat.le_trans (si_abs _ k) (Nat.le_trans (sm_le (f := fun c => (f c).natAbs) fun c _ => ?_) (sm_mono _ hk))
  cases h.testBit c
  · rw [if_neg (by decide)]; exact Nat.zero_le _
  · rw [if_pos rfl]; exact Nat.le_refl _
/-! tables that are filled from below -/
def tbl (v : (Nat → Nat) → Nat → Nat) : Nat → Nat → Nat
  | 0 => fun _ => 0
  | s + 1 => fun h => if h = s then v (tbl v s) s else tbl v s h
theorem tbl_st {v : (Nat → Nat) → Nat → Nat} : ∀ {s h : Nat}, h < s → tbl v s h = v (tbl v h) h
  | 0, h, hs => absurd hs (Nat.not_lt_zero h)
  | s + 1, h, hs => by
    conv => lhs; unfold tbl
    by_cases q : h = s
    · subst q; rw [if_pos rfl]
    · rw [if_neg q]; exact tbl_st (by omega)
theorem tbl_eq {v : (Nat → Nat) → Nat → Nat} (hv : ∀ m m' h, h < 256 → (∀ j, j < h → m j = m' j) → v m h = v m' h) {h : Nat} (hh : h < 256) : tbl v 256 h = v (tbl v 256) h := by
  rw [tbl_st hh]
  exact hv _ _ h hh fun j hj => by rw [tbl_st hj, tbl_st (show j < 256 by omega)]
/-! the class's table -/
def mxb (m : Nat → Nat) (h : Nat) : Nat → Nat
  | 0 => 0
  | c + 1 => if h.testBit c = true then (if mxb m h c < m (h ^^^ 2 ^ c) then m (h ^^^ 2 ^ c) else mxb m h c) else mxb m h c
theorem mxb_cong {m m' : Nat → Nat} {h : Nat} (hh : h < 256) (e : ∀ j, j < h → m j = m' j) : ∀ k, mxb m h k = mxb m' h k
  | 0 => rfl
  | k + 1 => by
    unfold mxb
    rw [mxb_cong hh e k]
    by_cases q : h.testBit k = true
    · rw [if_pos q, if_pos q, e _ (sb_lt q hh)]
    · rw [if_neg q, if_neg q]
theorem mxb_ge {m : Nat → Nat} {h : Nat} : ∀ {k c : Nat}, c < k → h.testBit c = true → m (h ^^^ 2 ^ c) ≤ mxb m h k
  | 0, c, hc, _ => absurd hc (Nat.not_lt_zero c)
  | k + 1, c, hc, hb => by
    have ih := fun z => mxb_ge (m := m) (h := h) (k := k) (c := c) z hb
    unfold mxb
    by_cases q : c = k
    · subst q; rw [if_pos hb]; split <;> omega
    · have := ih (by omega)
      split
      · split <;> omega
      · exact this
theorem mxb_ex {m : Nat → Nat} {h : Nat} : ∀ {k : Nat}, mxb m h k = 0 ∨ ∃ c, c < k ∧ h.testBit c = true ∧ mxb m h k = m (h ^^^ 2 ^ c)
  | 0 => Or.inl rfl
  | k + 1 => by
    have ih := mxb_ex (m := m) (h := h) (k := k)
    have up : (mxb m h k = 0 ∨ ∃ c, c < k ∧ h.testBit c = true ∧ mxb m h k = m (h ^^^ 2 ^ c)) → (mxb m h k = 0 ∨ ∃ c, c < k + 1 ∧ h.testBit c = true ∧ mxb m h k = m (h ^^^ 2 ^ c)) := fun z => z.imp (fun y => y) fun ⟨c, u, w⟩ => ⟨c, by omega, w⟩
    unfold mxb
    by_cases q : h.testBit k = true
    · rw [if_pos q]
      by_cases q2 : mxb m h k < m (h ^^^ 2 ^ k)
      · rw [if_pos q2]; exact Or.inr ⟨k, by omega, q, rfl⟩
      · rw [if_neg q2]; exact up ih
    · rw [if_neg q]; exact up ih
def cv (f : Nat → Int) (m : Nat → Nat) (h : Nat) : Nat := if h = 0 then 0 else mxb m h 8 + (if sS f h = 0 then 1 else 0)
def Cc (f : Nat → Int) : Nat → Nat := tbl (cv f) 256
theorem Cc_eq {f : Nat → Int} {h : Nat} (hh : h < 256) : Cc f h = cv f (Cc f) h := tbl_eq (fun m m' h hh e => by unfold cv; rw [mxb_cong hh e]) hh
theorem Cc_0 {f : Nat → Int} : Cc f 0 = 0 := by rw [Cc_eq (by decide)]; rfl
theorem Cc_n {f : Nat → Int} {h : Nat} (hh : h < 256) (h0 : h ≠ 0) : Cc f h = mxb (Cc f) h 8 + (if sS f h = 0 then 1 else 0) := by rw [Cc_eq hh]; unfold cv; rw [if_neg h0]
theorem Cc_ge {f : Nat → Int} {h c : Nat} (hh : h < 256) (hb : h.testBit c = true) : Cc f (h ^^^ 2 ^ c) + (if sS f h = 0 then 1 else 0) ≤ Cc f h := by
  have hc : c < 8 := Nat.lt_of_not_le fun z => by rw [hi_bit hh z] at hb; cases hb
  have h0 : h ≠ 0 := fun z => by rw [z, Nat.zero_testBit] at hb; cases hb
  rw [Cc_n hh h0]
  have := mxb_ge (m := Cc f) hc hb
  omega
theorem Cc_ex {f : Nat → Int} {h : Nat} (hh : h < 256) (h0 : h ≠ 0) : ∃ c, c < 8 ∧ h.testBit c = true ∧ Cc f h = Cc f (h ^^^ 2 ^ c) + (if sS f h = 0 then 1 else 0) := by
  rw [Cc_n hh h0]
  rcases mxb_ex (m := Cc f) (h := h) (k := 8) with e | ⟨c, u, v, w⟩
  · obtain ⟨c, hc, hb⟩ := bit_ex hh h0
    have := mxb_ge (m := Cc f) hc hb
    exact ⟨c, hc, hb, by omega⟩
  · exact ⟨c, u, v, by rw [w]⟩
theorem Cc_le {f : Nat → Int} : ∀ (n h : Nat), h < n → h < 256 → Cc f h ≤ h
  | 0, h, hn, _ => absurd hn (Nat.not_lt_zero h)
  | n + 1, h, hn, hh => by
    by_cases h0 : h = 0
    · subst h0; rw [Cc_0]; exact Nat.le_refl 0
    · obtain ⟨c, _, hb, e⟩ := Cc_ex (f := f) hh h0
      have hl := sb_lt hb hh
      have := Cc_le (f := f) n (h ^^^ 2 ^ c) (by omega) (by omega)
      rw [e]; split <;> omega
theorem Cc_mono {f : Nat → Int} : ∀ (n a b : Nat), b < n → b < 256 → Sub a b → Cc f a ≤ Cc f b
  | 0, a, b, hn, _, _ => absurd hn (Nat.not_lt_zero b)
  | n + 1, a, b, hn, hb, hs => by
    by_cases q : a = b
    · rw [q]; exact Nat.le_refl _
    · have hx : ∃ c, b.testBit c = true ∧ a.testBit c = false := by
        have h0 : nd b a ≠ 0 := fun z => q (Nat.eq_of_testBit_eq fun i => by
          cases e : a.testBit i
          · cases e2 : b.testBit i
            · rfl
            · have := (nd_0 hb).mp z i e2; rw [e] at this; cases this
          · rw [hs i e])
        obtain ⟨c, _, hc⟩ := bit_ex (Nat.lt_of_le_of_lt nd_le hb) h0
        rw [nd_t hb] at hc
        cases e : a.testBit c
        · cases e2 : b.testBit c
          · rw [e2] at hc; cases hc
          · exact ⟨c, e2, e⟩
        · rw [e, Bool.not_true, Bool.and_false] at hc; cases hc
      obtain ⟨c, c1, c2⟩ := hx
      have hl := sb_lt c1 hb
      have h1 := Cc_ge (f := f) hb c1
      have h2 := Cc_mono (f := f) n a (b ^^^ 2 ^ c) (by omega) (by omega) (fun i hi => by
        rw [xor_nd (sub_p c1) hb, nd_t hb, hs i hi, Nat.testBit_two_pow]
        by_cases q3 : c = i
        · rw [← q3, c2] at hi; cases hi
        · rw [decide_eq_false q3]; rfl)
      omega
theorem Cc_down {f : Nat → Int} : ∀ (n a : Nat), a < n → a < 256 → ∃ b, Sub b a ∧ sS f b = 0 ∧ Cc f b = Cc f a
  | 0, a, hn, _ => absurd hn (Nat.not_lt_zero a)
  | n + 1, a, hn, ha => by
    by_cases q : sS f a = 0
    · exact ⟨a, Sub.rf, q, rfl⟩
    · have h0 : a ≠ 0 := fun z => q (by rw [z]; exact sS_0)
      obtain ⟨c, _, hb, e⟩ := Cc_ex (f := f) ha h0
      have hl := sb_lt hb ha
      obtain ⟨b, b1, b2, b3⟩ := Cc_down (f := f) n (a ^^^ 2 ^ c) (by omega) (by omega)
      rw [if_neg q] at e
      exact ⟨b, b1.tr (sb_sub hb ha), b2, by omega⟩
/-! the reference's table: 0 stands for none, k + 1 for k -/
def rin (f : Nat → Int) (r : Nat → Nat) (h : Nat) : Nat → Nat
  | 0 => 0
  | g + 1 => if (g ≠ 0 ∧ nd g h = 0) ∧ sS f g = 0 ∧ 0 < r (nd h g) ∧ rin f r h g < r (nd h g) + 1 then r (nd h g) + 1 else rin f r h g
theorem rin_cong {f : Nat → Int} {r r' : Nat → Nat} {h : Nat} (hh : h < 256) (e : ∀ j, j < h → r j = r' j) : ∀ k, k ≤ 256 → rin f r h k = rin f r' h k
  | 0, _ => rfl
  | g + 1, hg => by
    unfold rin
    rw [rin_cong hh e g (by omega)]
    by_cases q : g ≠ 0 ∧ nd g h = 0
    · rw [e _ (nd_lt hh ((nd_0 (by omega)).mp q.2) q.1)]
    · rw [if_neg (fun z => q z.1), if_neg (fun z => q z.1)]
theorem rin_ge {f : Nat → Int} {r : Nat → Nat} {h : Nat} : ∀ {k g : Nat}, g < k → g ≠ 0 → nd g h = 0 → sS f g = 0 → 0 < r (nd h g) → r (nd h g) + 1 ≤ rin f r h k
  | 0, g, hk, _, _, _, _ => absurd hk (Nat.not_lt_zero g)
  | k + 1, g, hk, h1, h2, h3, h4 => by
    have ih := fun z => rin_ge (f := f) (r := r) (h := h) (k := k) (g := g) z h1 h2 h3 h4
    unfold rin
    by_cases q : g = k
    · subst q
      by_cases q2 : rin f r h g < r (nd h g) + 1
      · rw [if_pos ⟨⟨h1, h2⟩, h3, h4, q2⟩]; exact Nat.le_refl _
      · rw [if_neg (fun z => q2 z.2.2.2)]; omega
    · have := ih (by omega)
      split
      · rename_i z; omega
      · exact this
theorem rin_ex {f : Nat → Int} {r : Nat → Nat} {h : Nat} : ∀ {k : Nat}, rin f r h k = 0 ∨ ∃ g, g < k ∧ g ≠ 0 ∧ nd g h = 0 ∧ sS f g = 0 ∧ 0 < r (nd h g) ∧ rin f r h k = r (nd h g) + 1
  | 0 => Or.inl rfl
  | k + 1 => by
    have ih := rin_ex (f := f) (r := r) (h := h) (k := k)
    unfold rin
    by_cases q : (k ≠ 0 ∧ nd k h = 0) ∧ sS f k = 0 ∧ 0 < r (nd h k) ∧ rin f r h k < r (nd h k) + 1
    · rw [if_pos q]
      exact Or.inr ⟨k, by omega, q.1.1, q.1.2, q.2.1, q.2.2.1, rfl⟩
    · rw [if_neg q]
      exact ih.imp (fun y => y) fun ⟨g, u, w⟩ => ⟨g, by omega, w⟩
def rv (f : Nat → Int) (al : Nat) (r : Nat → Nat) (h : Nat) : Nat := if h = 0 then 1 else if nd h al = 0 ∧ sS f h = 0 then rin f r h (h + 1) else 0
def Rr (f : Nat → Int) (al : Nat) : Nat → Nat := tbl (rv f al) 256
theorem Rr_eq {f : Nat → Int} {al h : Nat} (hh : h < 256) : Rr f al h = rv f al (Rr f al) h := tbl_eq (fun m m' h hh e => by unfold rv; rw [rin_cong hh e (h + 1) (by omega)]) hh
theorem Rr_0 {f : Nat → Int} {al : Nat} : Rr f al 0 = 1 := by rw [Rr_eq (by decide)]; rfl
/-- a set of members that is together 0 -/
def okS (f : Nat → Int) (al h : Nat) : Prop := Sub h al ∧ sS f h = 0
theorem Rr_n {f : Nat → Int} {al h : Nat} (ha : al < 256) (hk : okS f al h) (h0 : h ≠ 0) : Rr f al h = rin f (Rr f al) h (h + 1) := by
  have hh := sub_lt hk.1 ha
  rw [Rr_eq hh]; unfold rv; rw [if_neg h0, if_pos ⟨(nd_0 hh).mpr hk.1, hk.2⟩]
theorem okS.nd {f : Nat → Int} {al h g : Nat} (ha : al < 256) (hk : okS f al h) (hs : Sub g h) (hz : sS f g = 0) : okS f al (nd h g) := by
  have hh := sub_lt hk.1 ha
  refine ⟨(nd_sub hh).tr hk.1, ?_⟩
  have := sS_split (f := f) hs hh
  have := hk.2
  omega
theorem nd_self {h : Nat} (hh : h < 256) : nd h h = 0 := (nd_0 hh).mpr Sub.rf
theorem Rr_1 {f : Nat → Int} {al h : Nat} (ha : al < 256) (hk : okS f al h) : 1 ≤ Rr f al h := by
  have hh := sub_lt hk.1 ha
  by_cases h0 : h = 0
  · subst h0; rw [Rr_0]; exact Nat.le_refl 1
  · rw [Rr_n ha hk h0]
    have := rin_ge (f := f) (r := Rr f al) (h := h) (k := h + 1) (g := h) (by omega) h0 (nd_self hh) hk.2 (by rw [nd_self hh, Rr_0]; omega)
    omega
theorem Rr_ge {f : Nat → Int} {al h g : Nat} (ha : al < 256) (hk : okS f al h) (hs : Sub g h) (hz : sS f g = 0) (hg : g ≠ 0) : Rr f al (nd h g) + 1 ≤ Rr f al h := by
  have hh := sub_lt hk.1 ha
  have hg2 := sub_lt hs hh
  have hle := Nat.le_of_testBit hs
  have h0 : h ≠ 0 := fun z => by omega
  rw [Rr_n ha hk h0]
  exact rin_ge (by omega) hg ((nd_0 hg2).mpr hs) hz (Rr_1 ha (hk.nd ha hs hz))
theorem Rr_ex {f : Nat → Int} {al h : Nat} (ha : al < 256) (hk : okS f al h) (h0 : h ≠ 0) : ∃ g, g ≠ 0 ∧ Sub g h ∧ sS f g = 0 ∧ Rr f al h = Rr f al (nd h g) + 1 := by
  have hh := sub_lt hk.1 ha
  rcases rin_ex (f := f) (r := Rr f al) (h := h) (k := h + 1) with e | ⟨g, a1, a2, a3, a4, a5, a6⟩
  · have := Rr_1 ha hk
    rw [Rr_n ha hk h0] at this
    omega
  · exact ⟨g, a2, (nd_0 (by omega)).mp a3, a4, by rw [Rr_n ha hk h0]; exact a6⟩
/-- both tables say the same of sets that are together 0 -/
theorem C_R {f : Nat → Int} {al : Nat} (ha : al < 256) : ∀ (n h : Nat), h < n → okS f al h → Cc f h + 1 = Rr f al h
  | 0, h, hn, _ => absurd hn (Nat.not_lt_zero h)
  | n + 1, h, hn, hk => by
    have hh := sub_lt hk.1 ha
    by_cases h0 : h = 0
    · subst h0; rw [Cc_0, Rr_0]
    · have hle : Rr f al h ≤ Cc f h + 1 := by
        obtain ⟨g, g1, g2, g3, g4⟩ := Rr_ex ha hk h0
        have hl := nd_lt hh g2 g1
        have ih := C_R (f := f) ha n (nd h g) (by omega) (hk.nd ha g2 g3)
        obtain ⟨c, hc, hb⟩ := bit_ex (sub_lt g2 hh) g1
        have h1 := Cc_ge (f := f) hh (g2 c hb)
        rw [if_pos hk.2] at h1
        have h2 := Cc_mono (f := f) 256 (nd h g) (h ^^^ 2 ^ c) (by have := sb_lt (g2 c hb) hh; omega) (by have := sb_lt (g2 c hb) hh; omega) (fun i hi => by
          rw [nd_t hh] at hi
          rw [xor_nd (sub_p (g2 c hb)) hh, nd_t hh, Nat.testBit_two_pow]
          cases e : h.testBit i
          · rw [e] at hi; cases hi
          · by_cases q3 : c = i
            · rw [← q3, hb, Bool.not_true, Bool.and_false] at hi; cases hi
            · rw [decide_eq_false q3]; rfl)
        omega
      have hge : Cc f h + 1 ≤ Rr f al h := by
        obtain ⟨c, hc, hb, e⟩ := Cc_ex (f := f) hh h0
        rw [if_pos hk.2] at e
        have hl := sb_lt hb hh
        obtain ⟨b, b1, b2, b3⟩ := Cc_down (f := f) 256 (h ^^^ 2 ^ c) (by omega) (by omega)
        have hbs : Sub b h := b1.tr (sb_sub hb hh)
        have hbl := Nat.le_of_testBit b1
        have ih := C_R (f := f) ha n b (by omega) ⟨hbs.tr hk.1, b2⟩
        have hnd : nd h (nd h b) = b := Nat.eq_of_testBit_eq fun i => by
          rw [nd_t hh, nd_t hh]
          cases e2 : b.testBit i
          · cases h.testBit i <;> rfl
          · rw [hbs i e2]; rfl
        have hz : sS f (nd h b) = 0 := by
          have := sS_split (f := f) hbs hh
          have := hk.2
          omega
        have hne : nd h b ≠ 0 := fun z => by
          have h3 := (nd_0 hh).mp z c hb
          have h4 := b1 c h3
          rw [xor_nd (sub_p hb) hh, nd_t hh, hb, Nat.testBit_two_pow_self] at h4
          cases h4
        have := Rr_ge ha hk (nd_sub hh) hz hne
        rw [hnd] at this
        omega
      omega
/-- a first group with a given member -/
theorem Rr_with {f : Nat → Int} {al : Nat} (ha : al < 256) {c : Nat} : ∀ (n h : Nat), h < n → okS f al h → h.testBit c = true → ∃ g, g.testBit c = true ∧ Sub g h ∧ sS f g = 0 ∧ Rr f al (nd h g) + 1 = Rr f al h
  | 0, h, hn, _, _ => absurd hn (Nat.not_lt_zero h)
  | n + 1, h, hn, hk, hc => by
    have hh := sub_lt hk.1 ha
    have h0 : h ≠ 0 := fun z => by rw [z, Nat.zero_testBit] at hc; cases hc
    obtain ⟨g, g1, g2, g3, g4⟩ := Rr_ex ha hk h0
    by_cases q : g.testBit c = true
    · exact ⟨g, q, g2, g3, g4.symm⟩
    · have hl := nd_lt hh g2 g1
      have hk1 := hk.nd ha g2 g3
      have hgc : g.testBit c = false := by cases e : g.testBit c; rfl; exact absurd e q
      obtain ⟨g', a1, a2, a3, a4⟩ := Rr_with (f := f) ha n (nd h g) (by omega) hk1 (by rw [nd_t hh, hc, hgc]; rfl)
      have s1 : Sub g' h := a2.tr (nd_sub hh)
      refine ⟨g', a1, s1, a3, ?_⟩
      have hk2 := hk.nd ha s1 a3
      have hh2 : nd h g' < 256 := Nat.lt_of_le_of_lt nd_le hh
      have s2 : Sub g (nd h g') := fun i hi => by
        rw [nd_t hh, g2 i hi]
        cases e : g'.testBit i
        · rfl
        · have := a2 i e; rw [nd_t hh, hi, Bool.not_true, Bool.and_false] at this; cases this
      have e1 : nd (nd h g') g = nd (nd h g) g' := Nat.eq_of_testBit_eq fun i => by
        rw [nd_t hh2, nd_t hh, nd_t (Nat.lt_of_le_of_lt nd_le hh), nd_t hh]
        cases h.testBit i <;> cases g.testBit i <;> cases g'.testBit i <;> rfl
      have h1 := Rr_ge ha hk2 s2 g3 g1
      rw [e1] at h1
      have hne : g' ≠ 0 := fun z => by rw [z, Nat.zero_testBit] at a1; cases a1
      have h2 := Rr_ge ha hk s1 a3 hne
      omega

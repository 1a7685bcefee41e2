/-! the first state -/
def dI0 (u v : Nat) : Nat := if u = v then 0 else 1000000
def pI : Par := mkP 0 (fun _ => 0) (fun _ => 0) (fun _ => 0) (fun _ => 0) dI0 0 0 (fun _ => 0) (fun _ => 0) (fun _ => 0) (fun _ => 0) (fun _ => 0) (fun _ => 0) 2 10 (fun _ => 0) 0 (fun _ => 0) (fun _ => 0)
theorem flow0 : FlowV dI0 (fun _ => 0) (fun _ => 0) 0 0 := by
  refine ⟨by decide, ⟨fun _ _ => 0, ⟨fun _ _ _ _ z => absurd z (Nat.lt_irrefl 0), fun a _ => Nat.le_of_eq (rs_z (a := a)), fun b _ => Nat.le_of_eq (cs_z (a := b))⟩, by decide, by decide⟩, fun x hx => ?_⟩
  obtain ⟨-, h2, -⟩ := hx
  have h : s2 x ≤ 12 * 0 := sm_bd fun a ha => h2 a ha
  omega
theorem pI_ok : InvP 0 pI := by
  refine InvP_mk ⟨by omega, fun l hl => absurd hl (Nat.not_lt_zero l), fun l hl => absurd hl (Nat.not_lt_zero l), Dst.zero⟩ ⟨by omega, by omega, fun w hw => absurd hw (Nat.not_lt_zero w), fun t ht => absurd ht (Nat.not_lt_zero t), fun t ht => absurd ht (Nat.not_lt_zero _)⟩ ⟨by omega, by omega⟩ (by decide) (by decide) (by omega) (fun _ _ => ⟨by omega, by omega⟩)
theorem inv0 {f : Nat → Int32} (hf : DG f) {F : Nat} (hF : 1000000000 < F) : ∃ M1, k8_reckons F MI = some M1 ∧ Inv 0 (SI f) M1 := by
  obtain ⟨M1, d, r1, r2, r3⟩ := reckons_ok hF (N := 0) (A := fun _ => 0) (B := fun _ => 0) (L := fun _ => 0) (fun l hl => absurd hl (Nat.not_lt_zero l)) (S0 := MI) ⟨rfl, by omega, fun l hl => absurd hl (Nat.not_lt_zero l)⟩
  have e0 : M1.1 0 = MI.1 0 := r2.1 0 (by decide)
  refine ⟨M1, r1, pI, pI_ok, InvK_mk ⟨rfl, fun l hl => absurd hl (Nat.not_lt_zero l), fun u v hu hv => hf u v hu hv⟩ ⟨rfl, rfl, fun w hw => absurd hw (Nat.not_lt_zero w), fun t ht => absurd ht (Nat.not_lt_zero t)⟩ rfl rfl (fun x _ => by show (0 : Int32) = iI 0; decide) rfl (fun j _ => ⟨rfl, rfl⟩) (Or.inl rfl) (Or.inr ⟨rfl, 0, 0, flow0, rfl, rfl⟩) rfl, InvM_mk ⟨by rw [e0]; rfl, fun l hl => absurd hl (Nat.not_lt_zero l), fun u v hu hv => ?_⟩ ⟨by rw [e0]; rfl, by rw [e0]; rfl, fun w hw => absurd hw (Nat.not_lt_zero w), fun t ht => absurd ht (Nat.not_lt_zero t)⟩ (by rw [e0]; rfl) (by rw [e0]; rfl) (fun x _ => ?_) (by rw [e0]; rfl) (fun j _ => ?_)⟩
  · rw [r2.2.2 u v hu hv, r3.one Dst.zero hu hv]; rfl
  · rw [r2.1 12 (by decide)]; show (0 : Int32) = iI 0; decide
  · rw [r2.1 13 (by decide), r2.1 14 (by decide)]; exact ⟨rfl, rfl⟩

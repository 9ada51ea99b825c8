/-! ===== both read one statement alike ===== -/
section STM
variable {L : Nat} {B : Nat → Int} {s : Sg} {b : Bd}
def Hmv (mv side : Int) : Prop := (mv = 0 ∧ (side = 0 ∨ side = 1)) ∨ mv = 1
theorem nbd_ok {mv side : Int} {c : Nat} (hb : BdOK b) (hmF : b.m + Fc b.n b.f ≤ b.n * b.n) (hmv : Hmv mv side) (hc : c < b.n * b.n) (fr : b.f c = -1) : BdOK (nbd mv side b c) ∧ (nbd mv side b c).n = b.n ∧ (nbd mv side b c).m + Fc (nbd mv side b c).n (nbd mv side b c).f ≤ (nbd mv side b c).n * (nbd mv side b c).n ∧ Fc (nbd mv side b c).n (nbd mv side b c).f + 1 = Fc b.n b.f := by
  have h81 := nn_le hb.1.2
  have ht := hb.2.2.2.1
  unfold nbd
  rcases hmv with ⟨h, hs⟩ | h
  · have hF := Fc_ups (n := b.n) (f := b.f) (p := side) hc fr (by omega)
    rw [if_neg (by omega)]
    refine ⟨pst_ok hb (Or.inr hs), rfl, ?_, hF.symm⟩
    show b.m + Fc b.n (ups b.f c side) ≤ b.n * b.n
    omega
  · have hF := Fc_ups (n := b.n) (f := b.f) (p := b.t) hc fr (by omega)
    rw [if_pos h]
    refine ⟨ply_ok hb (by omega) hc, rfl, ?_, hF.symm⟩
    show b.m + 1 + Fc b.n (ups b.f c b.t) ≤ b.n * b.n
    omega
theorem Cs.sk {p : Nat} (h : Cs s L B b p) : Cs s L B b (sk L B p) := ⟨h.1, sk_le h.2.1, by rw [sk_sk]; exact h.2.2.1, h.2.2.2⟩
/-- the class's loop over cells -/
noncomputable abbrev f58 (mv side : Int) : Int × Sg → Option ((Int × Sg) ⊕ Sg) := fun σ => Re_readStatement_t58 mv side σ.1 σ.2
theorem f58_end {mv side x : Int} (hx : R x) (he : R (gi s 52 8)) (h : gi s 52 8 ≠ 0 ∨ (gi s 52 8 = 0 ∧ x ≠ 0 ∧ R (gi s 52 4) ∧ gi s 52 4 ≠ 1)) : f58 mv side (x, s) = some (.inr s) := by
  have R81' : R 81 := by unfold R; omega
  show Re_readStatement_t58 mv side x s = _
  unfold Re_readStatement_t58
  rw [ifLt_eq _ _ R81' hx]
  by_cases z : 81 < x
  · rw [if_pos z]
  · rw [if_neg z]
    rcases h with h | ⟨h, h0, hr, h4⟩
    · rw [ifEq_f he R0 h]
    · rw [ifEq_t he R0 h, ifEq_f hx R0 h0, ifEq_f hr R1 h4]
theorem f58_go {mv side x : Int} (hx : R x) (h81 : x ≤ 81) (h8 : gi s 52 8 = 0) (h : x = 0 ∨ gi s 52 4 = 1) : f58 mv side (x, s) = bnd (Re_readCell mv side s) fun s7 => some (.inl (x + 1, s7)) := by
  have R81' : R 81 := by unfold R; omega
  show Re_readStatement_t58 mv side x s = _
  unfold Re_readStatement_t58 Re_readStatement_b85
  rw [ifLt_eq _ _ R81' hx, if_neg (by omega), h8, ifEq_t R0 R0 rfl, ifEq_eq _ _ hx R0]
  by_cases z : x = 0
  · rw [if_pos z]
  · rw [if_neg z, ifEq_t (by rw [h.resolve_left z]; exact R1) R1 (h.resolve_left z)]
end STM


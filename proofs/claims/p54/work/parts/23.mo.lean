/-! ===== the reference's small methods ===== -/
noncomputable def bI (p : Prop) : Int := @ite _ p (Classical.propDecidable _) 1 0
theorem bI_t {p : Prop} (h : p) : bI p = 1 := if_pos h
theorem bI_f {p : Prop} (h : ¬ p) : bI p = 0 := if_neg h
theorem bI_rg (p : Prop) : bI p = 0 ∨ bI p = 1 := by
  by_cases h : p
  · exact Or.inr (bI_t h)
  · exact Or.inl (bI_f h)
theorem RL_of {x : Int} (h : R x) : RL64 x := by unfold R at h; unfold RL64; omega
def MoN (s : Sg) (n : Nat) : Prop := 2 ≤ n ∧ n ≤ 9 ∧ gi s 81 0 = (n : Int)
theorem MoN.ch {s s' : Sg} {n : Nat} {L : List Nat} (h : MoN s n) (hc : Ch L s s') (h1 : 81 ∉ L) : MoN s' n := ⟨h.1, h.2.1, by rw [hc.g 81 h1]; exact h.2.2⟩
theorem lcmp_pos {x y : Int} : 0 < lcmpI x y ↔ y < x := by
  unfold lcmpI
  split
  · omega
  · split <;> omega
theorem lcmp_R (x y : Int) : R (lcmpI x y) := by
  unfold lcmpI R
  split
  · omega
  · split <;> omega
/-! ===== marks that are lowered ===== -/
def msum (g : Nat → Int) : Nat → Nat
  | 0 => 0
  | N + 1 => msum g N + (g N).toNat
theorem msum_le {g h : Nat → Int} : ∀ {N : Nat}, (∀ i, i < N → g i ≤ h i) → msum g N ≤ msum h N
  | 0, _ => Nat.le_refl 0
  | N + 1, k => by
    have ih := msum_le (N := N) (fun i hi => k i (by omega))
    have := k N (by omega)
    show msum g N + (g N).toNat ≤ msum h N + (h N).toNat
    omega
theorem msum_lt {g h : Nat → Int} {j : Nat} : ∀ {N : Nat}, (∀ i, i < N → g i ≤ h i) → j < N → g j < h j → 0 ≤ g j → msum g N < msum h N
  | 0, _, hj, _, _ => by omega
  | N + 1, k, hj, hlt, h0 => by
    show msum g N + (g N).toNat < msum h N + (h N).toNat
    have hN := k N (by omega)
    by_cases e : j = N
    · subst e
      have := msum_le (N := j) (fun i hi => k i (by omega))
      omega
    · have := msum_lt (N := N) (fun i hi => k i (by omega)) (by omega) hlt h0
      omega
/-- marks: each one is reached, and not above its cell -/
def Mq (n : Nat) (E : Nat → Nat → Prop) (g : Nat → Int) : Prop := ∀ c, c < n * n → ∃ v : Nat, g c = (v : Int) ∧ v ≤ c ∧ Rch E c v
theorem Mq_lab {n : Nat} {E : Nat → Nat → Prop} {g : Nat → Int} (hE : ∀ u v, E u v → E v u) (hin : ∀ u v, E u v → u < n * n ∧ v < n * n) (h : Mq n E g) (hc : ∀ x y, E x y → g x = g y) (c : Nat) (hcn : c < n * n) : g c = (lab E c : Int) := by
  have h1 : g c = g (lab E c) := lab_r E c (fun z => g c = g z) rfl fun u v hu e => hu.trans (hc u v e)
  have h2 : lab E c < n * n := by have := lab_le E c; omega
  obtain ⟨v, e1, e2, e3⟩ := h (lab E c) h2
  obtain ⟨w, f1, f2, f3⟩ := h c hcn
  have hvw : v = w := by rw [e1, f1] at h1; omega
  have : lab E c ≤ w := lab_m f3
  rw [f1]; omega

/-! ===== the reference: what ways cost ===== -/
def mcI (f : Nat → Int) (sd : Int) (c : Nat) : Int := if f c = sd then 0 else if f c = -1 then 1 else 1000
noncomputable def mds (n : Nat) (f : Nat → Int) (sd e : Int) (c : Nat) : Int := if dst n f sd e c = -1 then 1000 else dst n f sd e c
def MD (s : Sg) (A n : Nat) (f : Nat → Int) (sd e : Int) : Prop := ∀ x, x < n * n → gi s A x = 1000 ∨ ∃ v : Nat, gi s A x = (v : Int) ∧ v < 1000 ∧ Wk n f sd e x v
section MWAY
variable {s : Sg} {n : Nat} {f : Nat → Int} {sd e : Int} {A : Nat}
theorem mcI_u {c : Nat} (h : Ub f sd c) : mcI f sd c = (cst f sd c : Int) := by
  unfold mcI cst
  by_cases q : f c = sd
  · rw [if_pos q, if_pos q]; rfl
  · rw [if_neg q, if_pos (h.resolve_left q), if_neg q]; rfl
theorem mcI_n {c : Nat} (h : ¬ Ub f sd c) : mcI f sd c = 1000 := by
  unfold mcI
  rw [if_neg (fun q => h (Or.inl q)), if_neg (fun q => h (Or.inr q))]
theorem mcI_rg (f : Nat → Int) (sd : Int) (c : Nat) : 0 ≤ mcI f sd c ∧ mcI f sd c ≤ 1000 := by
  unfold mcI
  split
  · omega
  · split <;> omega
theorem MD.rg (h : MD s A n f sd e) {x : Nat} (hx : x < n * n) : 0 ≤ gi s A x ∧ gi s A x ≤ 1000 := by
  rcases h x hx with q | ⟨v, q, hv, -⟩ <;> omega
def RI (n : Nat) (f : Nat → Int) (sd e : Int) (A : Nat) (s0 : Sg) (a : Int) (t : Sg) (D : Nat → Nat → Prop) : Prop :=
  (a = 0 ∨ a = 1) ∧ Ch [A] s0 t ∧ MD t A n f sd e ∧ (∀ x, x < n * n → gi t A x ≤ gi s0 A x) ∧ (a = 0 → (∀ x, x < n * n → gi t A x = gi s0 A x) ∧ ∀ c j, c < n * n → j < 6 → D c j → ∀ y : Nat, rnd n c j = (y : Int) → gi s0 A c ≤ gi s0 A y + mcI f sd c) ∧ (a = 1 → ∃ x, x < n * n ∧ gi t A x < gi s0 A x)
theorem RI.mo {s0 t : Sg} {a : Int} {D D' : Nat → Nat → Prop} (h : RI n f sd e A s0 a t D) (k : ∀ c j, c < n * n → j < 6 → D' c j → D c j) : RI n f sd e A s0 a t D' := by
  obtain ⟨h1, h2, h3, h4, h5, h6⟩ := h
  exact ⟨h1, h2, h3, h4, fun q => ⟨(h5 q).1, fun c j hc hj hd => (h5 q).2 c j hc hj (k c j hc hj hd)⟩, h6⟩
theorem MB.o1 {s' : Sg} (h : MB s n f) (hc : Ch [A] s s') (hA : A = 95 ∨ A = 96 ∨ A = 97 ∨ A = 98) : MB s' n f := h.ch hc (fun q => by have := List.mem_singleton.mp q; omega)
end MWAY


/-! ===== group, chain, bridge, size ===== -/
section GRP
variable {X : Xs}
theorem ifEq_t {α : Type} {x y : Int} {A B : Option α} (hx : R x) (hy : R y) (h : x = y) : ifEq x y A B = A := by rw [ifEq_eq _ _ hx hy, if_pos h]
theorem ifEq_f {α : Type} {x y : Int} {A B : Option α} (hx : R x) (hy : R y) (h : x ≠ y) : ifEq x y A B = B := by rw [ifEq_eq _ _ hx hy, if_neg h]
theorem Gm.at {s : Sg} {r n : Nat} {E : Nat → Nat → Prop} (h : Gm s r n E) {c : Nat} (hc : c < n * n) : gi s r ((c : Nat) : Int).toNat = ((lab E c : Nat) : Int) := h c hc
end GRP


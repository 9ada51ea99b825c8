/-! ===== bridge, size, potential, current ===== -/
section MORE
variable {X : Xs}
theorem R100 : R 100 := by unfold R; omega
theorem cur_R {n : Nat} (hn : n ≤ 9) (f : Nat → Int) (sd : Int) (k : Nat) : 0 ≤ cur n f sd (sws n f sd k) (n * n) ∧ cur n f sd (sws n f sd k) (n * n) ≤ 243000000 := by
  have h81 := nn_le hn
  have h := cur_rg (n := n) (f := f) (sd := sd) (sws_rg n f sd k) (n * n)
  omega
end MORE


/-! ===== the mirror ===== -/
def mir (n c : Nat) : Nat := n * (c % n) + c / n
section MIR
variable {s : Sg} {n : Nat}
theorem mir_lt {c : Nat} (hc : c < n * n) : mir n c < n * n := by
  have hn : 0 < n := by
    rcases Nat.eq_zero_or_pos n with h | h
    · subst h; simp at hc
    · exact h
  exact cell_lt (Nat.mod_lt _ hn) (Nat.div_lt_of_lt_mul hc)
theorem mir_mir {c : Nat} (hc : c < n * n) : mir n (mir n c) = c := by
  have h1 : c / n < n := Nat.div_lt_of_lt_mul hc
  unfold mir
  rw [cell_mod h1, cell_div h1]
  exact Nat.div_add_mod c n
theorem Gr_mirror_eq {c : Nat} (hG : GridOK s n) (hc : c < n * n) : Gr_mirror (c : Int) s = some ((mir n c : Nat) : Int) := by
  have h81 := nn_le hG.2.1
  have hn : 0 < n ∧ n ≤ 9 := ⟨by have := hG.1; omega, hG.2.1⟩
  have h1 : c / n < n := Nat.div_lt_of_lt_mul hc
  have h2 : c % n < n := Nat.mod_lt _ hn.1
  unfold Gr_mirror
  rw [Gr_column_eq hG.2.2.1 hn (by omega), bnd_some, Gr_row_eq hG.2.2.1 hn (by omega), bnd_some, Gr_cellAt_eq hG.2.2.1 hG.2.1 (R_nat (by omega)) (R_nat (by omega)), bnd_some, cellv_nat h2 h1]
  rfl
end MIR
/-! ===== how full the board is ===== -/
def fln (n : Nat) (k : Nat) : UInt64 := FP.ddiv (FP.i2d (Int32.ofInt ((n * n : Nat) - (k : Int)))) (FP.i2d (Int32.ofInt ((n * n : Nat) : Int)))
section FLN
variable {s : Sg} {b : Bd}
end FLN


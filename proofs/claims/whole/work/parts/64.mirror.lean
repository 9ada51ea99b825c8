/-! ===== the mirror ===== -/
def mir (n c : Nat) : Nat := n * (c % n) + c / n
section MIR
variable {s : Sg} {n : Nat}
theorem mir_lt {c : Nat} (hc : c < n * n) : mir n c < n * n := by
  have hn : 0 < n := by
    rcases Nat.eq_zero_or_pos n with h | h
    · subst h; simp at hc
    · exact h
  exact cell_lt (Nat.mod_lt _ hn) (Nat.div_lt_of_lt_mul hc)
theorem mir_mir {c : Nat} (hc : c < n * n) : mir n (mir n c) = c := by
  have h1 : c / n < n := Nat.div_lt_of_lt_mul hc
  unfold mir
  rw [cell_mod h1, cell_div h1]
  exact Nat.div_add_mod c n
theorem Gr_mirror_eq {c : Nat} (hG : GridOK s n) (hc : c < n * n) : Gr_mirror (c : Int) s = some ((mir n c : Nat) : Int) := by
  have h81 := nn_le hG.2.1
  have hn : 0 < n ∧ n ≤ 9 := ⟨by have := hG.1; omega, hG.2.1⟩
  have h1 : c / n < n := Nat.div_lt_of_lt_mul hc
  have h2 : c % n < n := Nat.mod_lt _ hn.1
  unfold Gr_mirror
  rw [Gr_column_eq hG.2.2.1 hn (by omega), bnd_some, Gr_row_eq hG.2.2.1 hn (by omega), bnd_some, Gr_cellAt_eq hG.2.2.1 hG.2.1 (R_nat (by omega)) (R_nat (by omega)), bnd_some, cellv_nat h2 h1]
  rfl
theorem Mo_exchanged_eq {c : Nat} (hM : MoN s n) (hc : c < n * n) : Mo_exchanged (c : Int) s = some ((mir n c : Nat) : Int) := by
  have h81 := nn_le hM.2.1
  unfold Mo_exchanged
  rw [grd_t ⟨by omega, by omega⟩, Mo_column_eq hM (by omega), bnd_some, Mo_row_eq hM (by omega), bnd_some, hM.2.2]
  unfold mir
  congr 1
end MIR
/-! ===== how full the board is ===== -/
def fln (n : Nat) (k : Nat) : UInt64 := FP.ddiv (FP.i2d (Int32.ofInt ((n * n : Nat) - (k : Int)))) (FP.i2d (Int32.ofInt ((n * n : Nat) : Int)))
section FLN
variable {s : Sg} {b : Bd}
theorem fln_nn (hb : BdOK b) (k : Nat) : vf_n64 (fln b.n k) := by
  have h81 := nn_le hb.1.2
  have h4 : 2 * 2 ≤ b.n * b.n := Nat.mul_le_mul hb.1.1 hb.1.1
  refine bal_nn ?_
  rw [show (Int32.ofInt ((b.n * b.n : Nat) : Int)).toInt = ((b.n * b.n : Nat) : Int) from by rw [i32_nat]; exact i32_back (by omega)]
  omega
theorem Hx_fullness_eq (hb : BdOK b) (hC : CQ s b) : Hx_fullness s = some (fln b.n (Fc b.n b.f)) := by
  have h81 := nn_le hb.1.2
  have h4 : 2 * 2 ≤ b.n * b.n := Nat.mul_le_mul hb.1.1 hb.1.1
  unfold Hx_fullness
  rw [hC.1.2.2.2.1, lett_eq, count_free hb hC, bnd_some, lett_eq, ifEq_eq _ _ (R_nat (by omega)) R0, if_neg (by omega)]
  exact grd_t (fln_nn hb _)
theorem Mo_fullness_ok (hb : BdOK b) (hM : MP s b) : okP (Mo_fullness s) (fun o => Ch [8000] s o.2 ∧ gi o.2 80 0 = 0 ∧ o.1 = fln b.n (Fc b.n b.f)) := by
  have h0 : Ch [8000] s (si s 80 0 0) := Ch.s8 (by decide)
  have hM0 : MP (si s 80 0 0) b := hM.ch h0
  unfold Mo_fullness
  rw [lett_eq, Mo_cells_eq hM0.1.1, bnd_some, Mo_stonesOf_eq hM0.1 hb.2.1 R_n1, bnd_some, bnd_some]
  show okP (grd (vf_n64 (fln b.n (Fc b.n b.f))) (some (fln b.n (Fc b.n b.f), si s 80 0 0))) _
  rw [grd_t (fln_nn hb _)]
  exact okP_some ⟨h0, gi_si_s _ _ _ _, rfl⟩
end FLN

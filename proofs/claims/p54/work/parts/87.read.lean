/-! ===== both read a text alike ===== -/
def bsw (n : Nat) : Bd := Bd.mk n (fun _ => -1) 1 0 (-1) 0 (fun _ => 0)
section RD
variable {L : Nat} {B : Nat → Int} {s : Sg}
abbrev Crg : List Nat := [1, 2, 3, 4, 5, 6, 7, 8, 9, 52, 53, 54, 55]
def CE2 (s : Sg) (o : Int × Sg) (e : Int) (pl st : Nat) : Prop := o.1 = 0 ∧ Ch Crg s o.2 ∧ gi o.2 52 8 = e ∧ gi o.2 52 9 = (pl : Int) ∧ gi o.2 52 10 = (st : Int) ∧ ∃ n, GridOK o.2 n
def CG2 (s : Sg) (o : Int × Sg) (b : Bd) : Prop := o.1 = 1 ∧ Ch Crg s o.2 ∧ gi o.2 52 8 = 0 ∧ CP o.2 53 b ∧ GridOK o.2 b.n
theorem bsw_ok {n : Nat} (hn : 2 ≤ n ∧ n ≤ 9) : BdOK (bsw n) := ⟨hn, fun c hc => Or.inl rfl, Or.inr rfl, Or.inl rfl, Or.inl rfl, Nat.zero_le _, fun i hi' => absurd hi' (Nat.not_lt_zero i)⟩
theorem bgn_F (n : Nat) : (bgn n).m + Fc (bgn n).n (bgn n).f ≤ (bgn n).n * (bgn n).n := by
  have := cnt_le (fun c => (bgn n).f c = -1) ((bgn n).n * (bgn n).n)
  show 0 + cnt (fun c => (bgn n).f c = -1) ((bgn n).n * (bgn n).n) ≤ _
  omega
theorem bsw_F (n : Nat) : (bsw n).m + Fc (bsw n).n (bsw n).f ≤ (bsw n).n * (bsw n).n := by
  have := cnt_le (fun c => (bsw n).f c = -1) ((bsw n).n * (bsw n).n)
  show 0 + cnt (fun c => (bsw n).f c = -1) ((bsw n).n * (bsw n).n) ≤ _
  omega
/-- behind the first statement, a fault: nothing is read any more -/
theorem after_flC {t : Sg} {e : Int} {pl n : Nat} (h : gi t 52 8 = e) (he : 1 ≤ e ∧ e ≤ 4) (h9 : gi t 52 9 = (pl : Int)) (h10 : gi t 52 10 = 0) (hc : Ch Crg s t) (hg : GridOK t n) : okP (Re_read_l25 0 t) (fun o => CE2 s o e pl 0) := by
  have hf : f25 (0, t) = some (.inr t) := by
    show Re_read_t25 0 t = _
    unfold Re_read_t25
    rw [ifLt_eq _ _ R0 (by unfold R; omega), if_pos (by omega), h, ifEq_f (by unfold R; omega) R0 (by omega)]
  unfold Re_read_l25
  refine okP_bnd (P := fun u => u = t) (whl_inr hf rfl) ?_
  rintro u - rfl
  rw [b71_err h (by omega) (by unfold R; omega)]
  exact okP_some ⟨rfl, hc, h, h9, h10, n, hg⟩
end RD


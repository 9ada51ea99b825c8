/-! ===== distances: the questions ===== -/
noncomputable def usf (n : Nat) (f : Nat → Int) (sd : Int) : Nat := cnt (fun c => lsw n f sd (n * n) ≠ -1 ∧ f c = -1 ∧ pco n f sd c = lsw n f sd (n * n)) (n * n)
def shCo (n : Nat) (f : Nat → Int) (p : Int × Int) (i : Nat) : Prop := f i = -1 ∧ pco n f 0 i ≠ -1 ∧ pco n f 1 i ≠ -1 ∧ (p.1 = -1 ∨ pco n f 0 i + pco n f 1 i < p.2)
noncomputable def shr (n : Nat) (f : Nat → Int) : Nat → Int × Int
  | 0 => (-1, 0)
  | i + 1 => @ite _ (shCo n f (shr n f i) i) (Classical.propDecidable _) ((i : Int), pco n f 0 i + pco n f 1 i) (shr n f i)
section WQ
variable {s : Sg} {n : Nat} {f : Nat → Int} {sd : Int}
theorem shr_s (i : Nat) : shr n f (i + 1) = @ite _ (shCo n f (shr n f i) i) (Classical.propDecidable _) ((i : Int), pco n f 0 i + pco n f 1 i) (shr n f i) := rfl
theorem shr_rg (hn : n ≤ 9) : ∀ i, i ≤ n * n → R (shr n f i).1 ∧ R (shr n f i).2
  | 0, _ => ⟨R_n1, R0⟩
  | i + 1, h => by
    have h81 := nn_le hn
    have ih := shr_rg hn i (by omega)
    rw [shr_s]
    split
    · have h0 := pco_rg n f 0 i
      have h1 := pco_rg n f 1 i
      exact ⟨R_nat (by omega), by show R (pco n f 0 i + pco n f 1 i); unfold R; omega⟩
    · exact ih
/-! the class -/
theorem useful_l_eq (hG : GridOK s n) (hC : CB s n 11 f) (hfr : FR n f) (hsd : sd = 0 ∨ sd = 1) (hP : PX s (pr sd) n f sd) : Hx_useful_l21 (pr sd) (lsw n f sd (n * n)) 0 0 s = some (.inr ((usf n f sd : Nat) : Int), s) := by
  have h81 := nn_le hG.2.1
  have a11 : alen 11 = 81 := rfl
  let p : Nat → Prop := fun c => lsw n f sd (n * n) ≠ -1 ∧ f c = -1 ∧ pco n f sd c = lsw n f sd (n * n)
  unfold Hx_useful_l21
  have key : whl (fun σ : Int × Int => Hx_useful_t21 (pr sd) (lsw n f sd (n * n)) σ.1 σ.2 s) (0, 0) = some ((cnt p (n * n) : Nat) : Int) := by
    refine whl_up' (n * n) (fun i => (((cnt p i : Nat) : Int), (i : Int))) _ rfl (fun i hi' => ?_) ?_
    · show Hx_useful_t21 (pr sd) (lsw n f sd (n * n)) _ (i : Int) s = _
      unfold Hx_useful_t21 Hx_useful_b64 Po_stone
      rw [hG.2.2.2.1, ifLt_eq _ _ (R_nat (by omega)) (R_nat (by omega)), if_pos (by omega), ifEq_eq _ _ (lswR hG.2.1 _) R_n1]
      by_cases q : lsw n f sd (n * n) = -1
      · rw [if_pos q, cnt_f (p := p) (fun k => k.1 q)]; rfl
      · rw [if_neg q]
        show bnd (bnd (Hx_at 11 (i : Int) s) _) _ = _
        rw [Hx_at_n (by omega), bnd_some, bnd_some, hC i hi', ifEq_eq _ _ (hfr.r hi') R_n1]
        by_cases q1 : f i = -1
        · rw [if_pos q1, Pa_cost_eq hG.2.1 hsd hP hi', bnd_some, ifEq_eq _ _ (pcoR hG.2.1 i) (lswR hG.2.1 _)]
          by_cases q2 : pco n f sd i = lsw n f sd (n * n)
          · rw [if_pos q2, cnt_t (p := p) ⟨q, q1, q2⟩]; rfl
          · rw [if_neg q2, cnt_f (p := p) (fun k => q2 k.2.2)]; rfl
        · rw [if_neg q1, cnt_f (p := p) (fun k => q1 k.2.1)]; rfl
    · show Hx_useful_t21 (pr sd) (lsw n f sd (n * n)) _ ((n * n : Nat) : Int) s = _
      unfold Hx_useful_t21
      rw [hG.2.2.2.1, ifLt_eq _ _ (R_nat (by omega)) (R_nat (by omega)), if_neg (by omega)]
  rw [key]; rfl
/-! the reference -/
def MX (s : Sg) (n : Nat) (f : Nat → Int) (sd : Int) : Prop := ∀ x, x < n * n → gi s 95 x = mds n f sd 1 x ∧ gi s 96 x = mds n f sd 2 x
end WQ


/-! ===== both read a statement, and all statements, alike ===== -/
section ALL
variable {L : Nat} {B : Nat → Int} {s : Sg} {b : Bd}
/-! all statements -/
noncomputable abbrev f25 : Int × Sg → Option ((Int × Sg) ⊕ Sg) := fun σ => Re_read_t25 σ.1 σ.2
abbrev Crl : List Nat := [5, 6, 7, 8, 9, 52, 53, 54, 55]
abbrev Mrl : List Nat := [81, 87, 8009, 8010, 8011, 8012, 8013, 8014, 8016]
abbrev Mrs' : List Nat := [81, 87, 8009, 8010, 8011, 8014, 8016]
def CEr (s : Sg) (o : Int × Sg) (e : Int) (pl st : Nat) : Prop := o.1 = 0 ∧ Ch Crl s o.2 ∧ gi o.2 52 8 = e ∧ gi o.2 52 9 = (pl : Int) ∧ gi o.2 52 10 = (st : Int)
def MEr (s : Sg) (r : Int × Sg) (e : Int) (pl st : Nat) : Prop := r.1 = 0 ∧ Ch Mrl s r.2 ∧ gi r.2 80 12 = e ∧ gi r.2 80 13 = (pl : Int) ∧ gi r.2 80 14 = (st : Int)
def CGd (s : Sg) (o : Int × Sg) (b : Bd) : Prop := o.1 = 1 ∧ Ch Crl s o.2 ∧ gi o.2 52 8 = 0 ∧ CP o.2 53 b
def MGd (s : Sg) (r : Int × Sg) (b : Bd) : Prop := r.1 = 1 ∧ Ch Mrs' s r.2 ∧ MP r.2 b
theorem b71_err {e : Int} (h : gi s 52 8 = e) (he : e ≠ 0) (hR : R e) : Re_read_b71 s = some (0, s) := by
  unfold Re_read_b71 Re_read_b94
  rw [h, ifEq_f hR R0 he, ifEq_f hR R0 he]
theorem f25_end {x : Int} (hx : R x) (he : R (gi s 52 8)) (hk : R (gi s 52 4)) (h : gi s 52 8 ≠ 0 ∨ gi s 52 4 ≠ 3) : f25 (x, s) = some (.inr s) := by
  have R400 : R 400 := by unfold R; omega
  have R3' : R 3 := by unfold R; omega
  show Re_read_t25 x s = _
  unfold Re_read_t25
  rw [ifLt_eq _ _ hx R400]
  by_cases z : x < 400
  · rw [if_pos z, ifEq_eq _ _ he R0]
    by_cases y : gi s 52 8 = 0
    · rw [if_pos y, ifEq_f hk R3' (h.resolve_left (fun w => w y))]
    · rw [if_neg y]
  · rw [if_neg z]
theorem Tok.kR {q : Nat} (h : Tok s L B q) : R (gi s 52 4) := by
  by_cases z : ltr L B q
  · rw [(h.2.1 z).1]; exact R1
  · exact (h.k1 z).1
theorem Tok.k3 {q : Nat} (h : Tok s L B q) (z : ¬ (q < L ∧ B q = 59)) : gi s 52 4 ≠ 3 := by
  obtain ⟨t5, t1, t2, t3, t4, t6⟩ := h
  by_cases a : L ≤ q
  · rw [(t3 a).1]; omega
  · by_cases d : ltr L B q
    · rw [(t1 d).1]; omega
    · by_cases d2 : dgt L B q
      · rw [(t2 d2).1]; omega
      · rw [(t6 (by omega) d d2 (fun w => z ⟨by omega, w⟩)).1]; omega
theorem Tok.k0 {q : Nat} (h : Tok s L B q) (z : q < L) : gi s 52 4 ≠ 0 := by
  obtain ⟨t5, t1, t2, t3, t4, t6⟩ := h
  by_cases d : ltr L B q
  · rw [(t1 d).1]; omega
  · by_cases d2 : dgt L B q
    · rw [(t2 d2).1]; omega
    · by_cases d3 : B q = 59
      · rw [(t4 z d d2 d3).1]; omega
      · rw [(t6 z d d2 d3).1]; omega
end ALL


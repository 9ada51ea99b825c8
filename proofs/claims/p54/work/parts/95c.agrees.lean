/-! ===== all that the law holds to agree ===== -/
theorem cnt_all {p : Nat → Prop} : ∀ {N : Nat}, (∀ i, i < N → p i) → cnt p N = N
  | 0, _ => rfl
  | N + 1, h => by rw [cnt_t (h N (by omega)), cnt_all fun i hi => h i (by omega)]
theorem cnt_tri {n : Nat} {f : Nat → Int} (h : FR n f) : cnt (fun c => f c = 0) (n * n) + cnt (fun c => f c = 1) (n * n) + cnt (fun c => f c = -1) (n * n) = n * n := by
  rw [← cnt_or (p := fun c => f c = 0) (q := fun c => f c = 1) (fun i (z : f i = 0) (w : f i = 1) => absurd (z.symm.trans w) (by decide)), ← cnt_or (p := fun c => f c = 0 ∨ f c = 1) (q := fun c => f c = -1) (fun i (z : f i = 0 ∨ f i = 1) (w : f i = -1) => by omega)]
  exact cnt_all fun i hi => by
    have := h i hi
    show (f i = 0 ∨ f i = 1) ∨ f i = -1
    omega
section AGR
variable {X : Xs} {s : Sg} {sd : Int} {nx : Nat}
/-- the board is X's; what lies outside of the class is as it was, but for the objects from a on -/
def AgO (X : Xs) (s : Sg) (P : Nat → Prop) (t : Sg) : Prop := (∃ Y, XsOK Y ∧ Y.h ≤ 8 ∧ Y.b = X.b ∧ CI Y t) ∧ ∀ a k, 80 ≤ a → P a → gi t a k = gi s a k
theorem side_ok (hX : XsOK X) (h8 : X.h ≤ 8) (hC : CI X s) (h : sd = 0 ∨ sd = 1) (hnx : 80 < nx ∧ nx < 100) : okP (La_side nx sd s) (AgO X s (fun a => a ≠ nx)) := by
  unfold La_side
  refine okP_bnd2 (groups_ok hX hC h) ?_
  rintro y t - ⟨t1, e1⟩
  have t1 : Ch LC s t := t1
  have e1 : y = 1 := e1
  have f1 : CF s t := t1.cf
  rw [e1, ifEq_f R1 R0 (by omega)]
  refine okP_bnd2 (bridges_ok hX (hC.ch t1) h hnx) ?_
  rintro y2 u - ⟨⟨u1, u2⟩, e2⟩
  have u1 : CI X u := u1
  have u2 : ∀ a k, 80 ≤ a → a ≠ nx → gi u a k = gi t a k := u2
  have e2 : y2 = 1 := e2
  rw [e2, ifEq_f R1 R0 (by omega)]
  refine okP_bnd2 (ways_ok hX u1 h) ?_
  rintro y3 v - ⟨v1, e3⟩
  have v1 : Ch LC u v := v1
  have e3 : y3 = 1 := e3
  have f3 : CF u v := v1.cf
  rw [e3, ifEq_f R1 R0 (by omega)]
  refine okP_bnd2 (threats_ok hX h8 (u1.ch v1) h) ?_
  rintro y4 w - ⟨w1, w2, e4⟩
  have w1 : CF v w := w1
  have e4 : y4 = 1 := e4
  rw [e4, ifEq_f R1 R0 (by omega)]
  exact okP_some ⟨w2, fun a k h1 h2 => (w1 a k h1).trans ((f3 a k h1).trans ((u2 a k h1 h2).trans (f1 a k h1)))⟩
theorem agrees_ok (hX : XsOK X) (h8 : X.h ≤ 8) (hC : CI X s) (hnx : 80 < nx ∧ nx + 1 < 100) : okP (La_agrees nx s) (AgO X s (fun a => 1000 ≤ a)) := by
  have h81 := nn_le hX.n9
  have htri := cnt_tri hX.fr
  have hcR : CF s s := CF.rf s
  unfold La_agrees
  refine bndrQ (cq_size1 hX hC) fun t1 h1 => bndrQ (cq_size2 hX (hC.ch h1)) fun t2 h2 => ?_
  have c2 := h1.tr h2
  refine bndrQ (cq_size3 hX (hC.ch c2)) fun t3 h3 => ?_
  have c3 := c2.tr h3
  refine bndrQ (cq_size0 hX (hC.ch c3)) fun t4 h4 => ?_
  have c4 := c3.tr h4
  refine bndrQ (cq_size0 hX (hC.ch c4)) fun t5 h5 => ?_
  have c5 := c4.tr h5
  have f5 : CF s t5 := c5.cf
  have e : ((cnt (fun c => X.b.f c = 0) (X.b.n * X.b.n) : Nat) : Int) + ((cnt (fun c => X.b.f c = 1) (X.b.n * X.b.n) : Nat) : Int) + ((cnt (fun c => X.b.f c = -1) (X.b.n * X.b.n) : Nat) : Int) = ((X.b.n * X.b.n : Nat) : Int) := by omega
  rw [e, nnI, ifEq_t (R_nat (by omega)) (R_nat (by omega)) rfl]
  refine okP_bnd (side_ok hX h8 (hC.ch c5) (Or.inl rfl) ⟨hnx.1, by omega⟩) ?_
  rintro u - ⟨⟨Y, y1, y2, y3, y4⟩, u2⟩
  refine okP_mono (side_ok (sd := 1) (nx := nx + 1) y1 y2 y4 (Or.inr rfl) ⟨by omega, by omega⟩) ?_
  rintro v ⟨⟨Z, z1, z2, z3, z4⟩, v2⟩
  exact ⟨⟨Z, z1, z2, z3.trans y3, z4⟩, fun a k h1 (h2 : 1000 ≤ a) => (v2 a k h1 (show a ≠ nx + 1 by omega)).trans ((u2 a k h1 (show a ≠ nx by omega)).trans (f5 a k h1))⟩
end AGR

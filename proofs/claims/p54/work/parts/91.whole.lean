/-! ===== the law's number of a state ===== -/
noncomputable def svl (X : Xs) (k : Nat) : Int := match k with
  | 0 => ((X.b.n : Nat) : Int)
  | 1 => ((cnt (fun c => X.b.f c = 0) (X.b.n * X.b.n) : Nat) : Int)
  | 2 => ((cnt (fun c => X.b.f c = 1) (X.b.n * X.b.n) : Nat) : Int)
  | 3 => ((cnt (fun c => X.b.f c = -1) (X.b.n * X.b.n) : Nat) : Int)
  | 4 => ((X.b.m : Nat) : Int)
  | 5 => X.b.t
  | 6 => wnr X.b.n X.b.f X.b.g
  | 7 => bI (csw X.b)
  | _ => X.b.g
def mvx (X : Xs) (k : Nat) : Int := if k < X.b.m then X.b.mv k else -1
noncomputable def W1 (X : Xs) : Nat → Int
  | 0 => mvx X 0
  | k + 1 => 31 * W1 X k + svl X k
noncomputable def W2 (X : Xs) : Nat → Int
  | 0 => W1 X 9
  | k + 1 => 31 * W2 X k + X.b.f k
noncomputable def W3 (X : Xs) : Nat → Int
  | 0 => W2 X (X.b.n * X.b.n)
  | k + 1 => 31 * W3 X k + X.b.mv k
noncomputable def Wv (X : Xs) : Int := W3 X X.b.m
section WHO
variable {X : Xs} {s : Sg}
theorem svl_ok (hX : XsOK X) (hC : CI X s) {k : Nat} (hk : k < 9) : okP (Hx_size (k : Int) s) (fun o => Ch LC s o.2 ∧ o.1 = .inr (svl X k)) := by
  match k, hk with
  | 0, _ => exact cq_size0 hX hC
  | 1, _ => exact cq_size1 hX hC
  | 2, _ => exact cq_size2 hX hC
  | 3, _ => exact cq_size3 hX hC
  | 4, _ => exact cq_size4 hX hC
  | 5, _ => exact cq_size5 hX hC
  | 6, _ => exact cq_size6 hX hC
  | 7, _ => exact cq_size7 hX hC
  | 8, _ => exact cq_size8 hX hC
theorem svl_R (hX : XsOK X) {k : Nat} (hk : k < 9) : R (svl X k) := by
  have hn9 := hX.n9
  have hm := hX.1.2.2.2.2.2.1
  match k, hk with
  | 0, _ => exact R_nat (by omega)
  | 1, _ => exact R_cnt hX _
  | 2, _ => exact R_cnt hX _
  | 3, _ => exact R_cnt hX _
  | 4, _ => exact R_nat (by omega)
  | 5, _ => exact R_01 hX.1.2.2.2.1
  | 6, _ => exact wnr_R hX
  | 7, _ => exact R_bI _
  | 8, _ => exact R_tri hX.1.2.2.2.2.1
theorem mvx_ok (hX : XsOK X) (hC : CI X s) {k : Nat} (hk : k ≤ 1000) : Hx_moveAt (k : Int) s = some (mvx X k) := by
  unfold mvx
  by_cases q : k < X.b.m
  · rw [if_pos q]; exact ca_moveAt hX q hC
  · rw [if_neg q]; exact ca_moveAt_2 hX q (R_nat (by omega)) hC
theorem mvx_R (hX : XsOK X) (k : Nat) : R (mvx X k) := by
  have h81 := nn_le hX.n9
  unfold mvx
  by_cases q : k < X.b.m
  · rw [if_pos q]
    obtain ⟨c, ec, hc⟩ := hX.1.2.2.2.2.2.2 k q
    rw [ec]; exact R_nat (by omega)
  · rw [if_neg q]; exact R_n1
theorem whole_ok (hX : XsOK X) (hC : CI X s) : okP (La_whole s) (fun o => Ch LC s o.2 ∧ o.1 = Wv X) := by
  have hn9 := hX.n9
  have h81 := nn_le hn9
  have hm := hX.1.2.2.2.2.2.1
  unfold La_whole
  have e0 : Hx_moveAt 0 s = some (mvx X 0) := mvx_ok hX hC (k := 0) (by omega)
  rw [e0, bnd_some, grd_t (mvx_R hX 0)]
  unfold La_whole_l9
  refine okP_bnd (P := fun r => r.1 = W1 X 9 ∧ Ch LC s r.2) (whl_for (fun (i : Nat) (t : Sg) => (W1 X i, (i : Int), t)) 9 (fun _ t => Ch LC s t) (i0 := 0) (t0 := s) (Nat.zero_le _) (Ch.rf _ _) ?_ ?_) ?_
  · intro i t hi ht
    show okP (La_whole_t9 (W1 X i) (i : Int) t) _
    unfold La_whole_t9
    rw [ifLt_eq _ _ (by unfold R; omega) (R_nat (by omega)), if_neg (by omega)]
    refine bndrQ (svl_ok hX (hC.ch ht) hi) fun u hu => okP_grd (svl_R hX hi) ?_
    rw [lett_eq]
    refine okP_some (Or.inl ⟨u, ?_, ht.tr hu⟩)
    show Sum.inl (31 * W1 X i + svl X i, (i : Int) + 1, u) = Sum.inl (31 * W1 X i + svl X i, ((i + 1 : Nat) : Int), u)
    rw [show ((i + 1 : Nat) : Int) = (i : Int) + 1 by omega]
  · intro t ht
    show okP (La_whole_t9 (W1 X 9) ((9 : Nat) : Int) t) _
    unfold La_whole_t9
    rw [ifLt_eq _ _ (by unfold R; omega) (R_nat (by omega)), if_pos (by omega)]
    exact okP_some ⟨_, rfl, rfl, ht⟩
  rintro ⟨r1, r2⟩ - ⟨e1, h1⟩
  have e1 : r1 = W1 X 9 := e1
  have h1 : Ch LC s r2 := h1
  show okP (La_whole_l36 r1 0 r2) _
  rw [e1]
  unfold La_whole_l36
  refine okP_bnd (P := fun r => r.1 = W2 X (X.b.n * X.b.n) ∧ Ch LC s r.2) (whl_for (fun (i : Nat) (t : Sg) => (W2 X i, (i : Int), t)) (X.b.n * X.b.n) (fun _ t => Ch LC s t) (i0 := 0) (t0 := r2) (Nat.zero_le _) h1 ?_ ?_) ?_
  · intro i t hi ht
    show okP (La_whole_t36 (W2 X i) (i : Int) t) _
    unfold La_whole_t36
    refine bndrQ (cq_size0 hX (hC.ch ht)) fun u hu => bndrQ (cq_size0 hX (hC.ch (ht.tr hu))) fun w hw => ?_
    have hcw := (ht.tr hu).tr hw
    rw [show ((X.b.n : Nat) : Int) * ((X.b.n : Nat) : Int) = ((X.b.n * X.b.n : Nat) : Int) from (Int.natCast_mul _ _).symm, ifLt_eq _ _ (R_nat (by omega)) (R_nat (by omega)), if_pos (by omega)]
    refine bndrQ (cq_cell hX (R_nat (by omega)) hi (hC.ch hcw)) fun v hv => okP_grd (hX.fr.r hi) ?_
    rw [lett_eq]
    refine okP_some (Or.inl ⟨v, ?_, hcw.tr hv⟩)
    show Sum.inl (31 * W2 X i + X.b.f i, (i : Int) + 1, v) = Sum.inl (31 * W2 X i + X.b.f i, ((i + 1 : Nat) : Int), v)
    rw [show ((i + 1 : Nat) : Int) = (i : Int) + 1 by omega]
  · intro t ht
    show okP (La_whole_t36 (W2 X (X.b.n * X.b.n)) ((X.b.n * X.b.n : Nat) : Int) t) _
    unfold La_whole_t36
    refine bndrQ (cq_size0 hX (hC.ch ht)) fun u hu => bndrQ (cq_size0 hX (hC.ch (ht.tr hu))) fun w hw => ?_
    rw [show ((X.b.n : Nat) : Int) * ((X.b.n : Nat) : Int) = ((X.b.n * X.b.n : Nat) : Int) from (Int.natCast_mul _ _).symm, ifLt_eq _ _ (R_nat (by omega)) (R_nat (by omega)), if_neg (by omega)]
    exact okP_some ⟨_, rfl, rfl, (ht.tr hu).tr hw⟩
  rintro ⟨r3, r4⟩ - ⟨e2, h2⟩
  have e2 : r3 = W2 X (X.b.n * X.b.n) := e2
  have h2 : Ch LC s r4 := h2
  show okP (La_whole_l72 r3 0 r4) _
  rw [e2]
  unfold La_whole_l72
  refine okP_bnd (P := fun r => r.1 = Wv X ∧ Ch LC s r.2) (whl_for (fun (i : Nat) (t : Sg) => (W3 X i, (i : Int), t)) X.b.m (fun _ t => Ch LC s t) (i0 := 0) (t0 := r4) (Nat.zero_le _) h2 ?_ ?_) ?_
  · intro i t hi ht
    show okP (La_whole_t72 (W3 X i) (i : Int) t) _
    unfold La_whole_t72
    refine bndrQ (cq_size4 hX (hC.ch ht)) fun u hu => ?_
    have hcw := ht.tr hu
    have em : mvx X i = X.b.mv i := if_pos hi
    rw [ifLt_eq _ _ (R_nat (by omega)) (R_nat (by omega)), if_pos (by omega), mvx_ok hX (hC.ch hcw) (by omega), bnd_some, grd_t (mvx_R hX i), lett_eq, em]
    refine okP_some (Or.inl ⟨u, ?_, hcw⟩)
    show Sum.inl (31 * W3 X i + X.b.mv i, (i : Int) + 1, u) = Sum.inl (31 * W3 X i + X.b.mv i, ((i + 1 : Nat) : Int), u)
    rw [show ((i + 1 : Nat) : Int) = (i : Int) + 1 by omega]
  · intro t ht
    show okP (La_whole_t72 (W3 X X.b.m) (X.b.m : Int) t) _
    unfold La_whole_t72
    refine bndrQ (cq_size4 hX (hC.ch ht)) fun u hu => ?_
    rw [ifLt_eq _ _ (R_nat (by omega)) (R_nat (by omega)), if_neg (by omega)]
    exact okP_some ⟨_, rfl, rfl, ht.tr hu⟩
  rintro ⟨r5, r6⟩ - ⟨e3, h3⟩
  exact okP_some ⟨h3, e3⟩
end WHO

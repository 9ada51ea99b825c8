/-! ===== the output ===== -/
section OUT
variable {X : Xs} {s t : Sg}
def rwb (v : Int) : Int := if v = 0 then 114 else if v = 1 then 98 else 46
theorem rwb_rg (v : Int) : 0 ≤ rwb v ∧ rwb v ≤ 255 := by
  unfold rwb
  split
  · omega
  · split <;> omega
theorem XsOK.wo (hX : XsOK X) {ol : Nat} {ob : Nat → Int} (h : ol ≤ 9) (hb : ∀ i, i < ol → 0 ≤ ob i ∧ ob i ≤ 255) : XsOK (X.wo ol ob) :=
  ⟨hX.1, hX.2.1, hX.2.2.1, hX.2.2.2.1, hX.2.2.2.2.1, h, hb, hX.2.2.2.2.2.2.2⟩
theorem CI.out {ol : Nat} {ob : Nat → Int} (hC : CI X s) (hc : Ch [50, 51] s t) (h1 : gi t 50 1 = (ol : Int)) (h2 : ∀ i, i < ol → gi t 51 i = ob i) : CI (X.wo ol ob) t := by
  obtain ⟨⟨a1, a2⟩, -, a5, a6, a7⟩ := hC.2.2.2
  exact ⟨hC.1.ch hc, hC.2.1.ch hc (by decide) (by decide), hC.2.2.1.ch hc (by decide), ⟨(hc.g 48).trans a1, fun i hi' => (hc.g 49).trans (a2 i hi')⟩, ⟨h1, h2⟩, (hc.g 52).trans a5, a6, fun e => (hc.g 52).trans (a7 e)⟩
theorem MI.out {ol : Nat} {ob : Nat → Int} (hX : XsOK X) (hM : MI X s) (hc : Ch [8035, 99] s t) (h1 : gi t 80 35 = (ol : Int)) (h2 : ∀ i, i < ol → gi t 99 i = ob i) : MI (X.wo ol ob) t := by
  obtain ⟨⟨a1, a2⟩, -, a5, a6⟩ := hM.2.2.2
  exact ⟨hM.1.ch hc, hM.2.1.ch (fun i hi' => (hX.2.1 i hi').1) hc (by decide) (by decide), hM.2.2.1.ch hX.2.2.1 hc (by decide) (by decide), ⟨(hc.g8 8).trans a1, fun i hi' => (hc.g 86).trans (a2 i hi')⟩, ⟨h1, h2⟩, (hc.g8 12).trans a5, (hc.g8 15).trans a6⟩
theorem add50 {k : Nat} {v : Int} (h : gi s 50 1 = (k : Int)) (hk : k < 9) : By_add 50 v s = some (si (si s 51 k v) 50 1 ((k + 1 : Nat) : Int)) := by
  have a51 : alen (50 + 1) = 9 := rfl
  have eT : ((k : Nat) : Int).toNat = k := rfl
  unfold By_add
  rw [h, a51, ifLt_eq _ _ (R_nat (by omega)) R0, if_neg (by omega), ifLt_eq _ _ (R_nat (by omega)) (R_nat (by omega)), if_pos (by omega), grd_t ⟨by omega, by omega⟩, eT, lett_eq, gi_si_o _ _ _ _ (by omega), h, lett_eq]
  rfl
theorem says99 {k : Nat} {v : Int} (h : gi s 80 35 = (k : Int)) (hk : k < 9) : Mo_says v s = some (si (si s 99 k v) 80 35 ((k + 1 : Nat) : Int)) := by
  have eT : ((k : Nat) : Int).toNat = k := rfl
  unfold Mo_says
  rw [h, grd_t ⟨by omega, by omega⟩, eT, lett_eq, gi_si_o _ _ _ _ (by omega), h, lett_eq]
  rfl
/-- one byte more -/
def OutC (s : Sg) (k : Nat) (ob : Nat → Int) : Prop := gi s 50 1 = (k : Int) ∧ ∀ i, i < k → gi s 51 i = ob i
def OutM (s : Sg) (k : Nat) (ob : Nat → Int) : Prop := gi s 80 35 = (k : Int) ∧ ∀ i, i < k → gi s 99 i = ob i
theorem OutC.add {k : Nat} {ob : Nat → Int} {v : Int} (h : OutC s k ob) (hk : k < 9) (hv : v = ob k) : ∃ t, By_add 50 v s = some t ∧ Ch [50, 51] s t ∧ OutC t (k + 1) ob := by
  refine ⟨_, add50 h.1 hk, (Ch.si (by decide)).tr (Ch.si (by decide)), gi_si_s _ _ _ _, fun i hi' => ?_⟩
  rw [gi_si_o _ _ _ _ (by omega), gi_si_r]
  split
  · rename_i e; rw [hv, e]
  · exact h.2 i (by omega)
theorem OutM.add {k : Nat} {ob : Nat → Int} {v : Int} (h : OutM s k ob) (hk : k < 9) (hv : v = ob k) : ∃ t, Mo_says v s = some t ∧ Ch [8035, 99] s t ∧ OutM t (k + 1) ob := by
  refine ⟨_, says99 h.1 hk, (Ch.si (by decide)).tr (Ch.s8 (by decide)), gi_si_s _ _ _ _, fun i hi' => ?_⟩
  rw [gi_si_o _ _ _ _ (by omega), gi_si_r]
  split
  · rename_i e; rw [hv, e]
  · exact h.2 i (by omega)
theorem writeRowC {r : Nat} (hX : XsOK X) (hC : CI X s) (hr : r < X.b.n) (h0 : gi s 50 1 = 0) : okP (Hx_writeRow_l35 (r : Int) 0 s) (fun o => Ch [50, 51] s o.2 ∧ OutC o.2 X.b.n (fun i => rwb (X.b.f (X.b.n * r + i))) ∧ o.1 = .inr (X.b.n : Int)) := by
  have hn9 := hX.n9
  unfold Hx_writeRow_l35
  refine okP_bnd (P := fun t => Ch [50, 51] s t ∧ OutC t X.b.n (fun i => rwb (X.b.f (X.b.n * r + i)))) (whl_for (fun (i : Nat) (t : Sg) => ((i : Int), t)) X.b.n (fun i t => Ch [50, 51] s t ∧ OutC t i (fun i => rwb (X.b.f (X.b.n * r + i)))) (i0 := 0) (t0 := s) (Nat.zero_le _) ⟨Ch.rf _ _, h0, fun j hj => absurd hj (Nat.not_lt_zero j)⟩ ?_ ?_) ?_
  · rintro i t hi' ⟨h1, h2⟩
    have hCt := hC.1.ch h1
    have hc := cell_lt hr hi'
    have h81 := nn_le hn9
    have a11 : alen 11 = 81 := rfl
    have est : Po_stone 10 ((X.b.n * r + i : Nat) : Int) t = some (X.b.f (X.b.n * r + i)) := by
      unfold Po_stone
      show bnd (Hx_at 11 ((X.b.n * r + i : Nat) : Int) t) _ = _
      rw [Hx_at_n (by omega), bnd_some, hCt.2.2.2.2.2.2.2.1 _ hc]
    show okP (Hx_writeRow_t35 (r : Int) (i : Int) t) _
    unfold Hx_writeRow_t35 Hx_writeRow_b88
    rw [hCt.2.2.1, ifLt_eq _ _ (R_nat (by omega)) (R_nat (by omega)), if_pos (by omega), Gr_cellAt_eq hCt.1.2.2.1 hn9 (R_nat (by omega)) (R_nat (by omega)), bnd_some, cellv_nat hr hi', est, bnd_some, ifEq_eq _ _ (hX.fr.r hc) R0, ifEq_eq _ _ (hX.fr.r hc) R1]
    obtain ⟨u, e1, e2, e3⟩ := h2.add (v := rwb (X.b.f (X.b.n * r + i))) (by omega) rfl
    have fin : okP (bnd (By_add 50 (rwb (X.b.f (X.b.n * r + i))) t) fun s6 => (some (.inl ((i : Int) + 1, s6)) : Option ((Int × Sg) ⊕ Sg))) (fun o => (∃ t', o = .inl (((i + 1 : Nat) : Int), t') ∧ Ch [50, 51] s t' ∧ OutC t' (i + 1) (fun i => rwb (X.b.f (X.b.n * r + i)))) ∨ ∃ r_1, o = .inr r_1 ∧ Ch [50, 51] s r_1 ∧ OutC r_1 X.b.n (fun i => rwb (X.b.f (X.b.n * r + i)))) := by
      rw [e1, bnd_some]
      exact okP_some (Or.inl ⟨u, rfl, h1.tr e2, e3⟩)
    unfold rwb at fin
    by_cases q0 : X.b.f (X.b.n * r + i) = 0
    · rw [if_pos q0] at fin ⊢
      exact fin
    · rw [if_neg q0] at fin ⊢
      by_cases q1 : X.b.f (X.b.n * r + i) = 1
      · rw [if_pos q1] at fin ⊢
        exact fin
      · rw [if_neg q1] at fin ⊢
        exact fin
  · rintro t ⟨h1, h2⟩
    have hCt := hC.1.ch h1
    show okP (Hx_writeRow_t35 (r : Int) ((X.b.n : Nat) : Int) t) _
    unfold Hx_writeRow_t35
    rw [hCt.2.2.1, ifLt_eq _ _ (R_nat (by omega)) (R_nat (by omega)), if_neg (by omega)]
    exact okP_some ⟨t, rfl, h1, h2⟩
  · rintro t - ⟨h1, h2⟩
    rw [h2.1]
    exact okP_some ⟨h1, h2, rfl⟩
theorem writeRowM {r : Nat} (hX : XsOK X) (hM : MI X s) (hr : r < X.b.n) (h0 : gi s 80 35 = 0) : okP (Mo_writeRow_l39 (r : Int) 0 s) (fun o => Ch [8035, 99] s o.2 ∧ OutM o.2 X.b.n (fun i => rwb (X.b.f (X.b.n * r + i))) ∧ o.1 = (X.b.n : Int)) := by
  have hn9 := hX.n9
  unfold Mo_writeRow_l39
  refine okP_bnd (P := fun t => Ch [8035, 99] s t ∧ OutM t X.b.n (fun i => rwb (X.b.f (X.b.n * r + i)))) (whl_for (fun (i : Nat) (t : Sg) => ((i : Int), t)) X.b.n (fun i t => Ch [8035, 99] s t ∧ OutM t i (fun i => rwb (X.b.f (X.b.n * r + i)))) (i0 := 0) (t0 := s) (Nat.zero_le _) ⟨Ch.rf _ _, h0, fun j hj => absurd hj (Nat.not_lt_zero j)⟩ ?_ ?_) ?_
  · rintro i t hi' ⟨h1, h2⟩
    have hMt := hM.1.ch h1
    have hc := cell_lt hr hi'
    have h81 := nn_le hn9
    have ec : (X.b.n : Int) * (r : Int) + (i : Int) = ((X.b.n * r + i : Nat) : Int) := by simp
    show okP (Mo_writeRow_t39 (r : Int) (i : Int) t) _
    unfold Mo_writeRow_t39 Mo_writeRow_b86
    rw [grd_t ⟨by omega, by omega⟩, hMt.1.1.2.2, ifLt_eq _ _ (R_nat (by omega)) (R_nat (by omega)), if_pos (by omega), grd_t ⟨by omega, by omega⟩, ec, hMt.1.st hc, bnd_some, ifEq_eq _ _ (hX.fr.r hc) R0, ifEq_eq _ _ (hX.fr.r hc) R1]
    obtain ⟨u, e1, e2, e3⟩ := h2.add (v := rwb (X.b.f (X.b.n * r + i))) (by omega) rfl
    have fin : okP (bnd (Mo_says (rwb (X.b.f (X.b.n * r + i))) t) fun s6 => (some (.inl ((i : Int) + 1, s6)) : Option ((Int × Sg) ⊕ Sg))) (fun o => (∃ t', o = .inl (((i + 1 : Nat) : Int), t') ∧ Ch [8035, 99] s t' ∧ OutM t' (i + 1) (fun i => rwb (X.b.f (X.b.n * r + i)))) ∨ ∃ r_1, o = .inr r_1 ∧ Ch [8035, 99] s r_1 ∧ OutM r_1 X.b.n (fun i => rwb (X.b.f (X.b.n * r + i)))) := by
      rw [e1, bnd_some]
      exact okP_some (Or.inl ⟨u, rfl, h1.tr e2, e3⟩)
    unfold rwb at fin
    by_cases q0 : X.b.f (X.b.n * r + i) = 0
    · rw [if_pos q0] at fin ⊢
      exact fin
    · rw [if_neg q0] at fin ⊢
      by_cases q1 : X.b.f (X.b.n * r + i) = 1
      · rw [if_pos q1] at fin ⊢
        exact fin
      · rw [if_neg q1] at fin ⊢
        exact fin
  · rintro t ⟨h1, h2⟩
    have hMt := hM.1.ch h1
    show okP (Mo_writeRow_t39 (r : Int) ((X.b.n : Nat) : Int) t) _
    unfold Mo_writeRow_t39
    rw [grd_t ⟨by omega, by omega⟩, hMt.1.1.2.2, ifLt_eq _ _ (R_nat (by omega)) (R_nat (by omega)), if_neg (by omega)]
    exact okP_some ⟨t, rfl, h1, h2⟩
  · rintro t - ⟨h1, h2⟩
    rw [h2.1]
    exact okP_some ⟨h1, h2, rfl⟩
theorem clear50 : By_clear 50 s = some (si s 50 1 0) := rfl
theorem op_writeRow (hX : XsOK X) {x : Int} (hx : R x) : OpE X 0 1 (Hx_writeRow x) (Mo_writeRow x) := by
  have hn9 := hX.n9
  by_cases h : ∃ r : Nat, x = (r : Int) ∧ r < X.b.n
  · obtain ⟨r, rfl, hr⟩ := h
    refine ⟨0, (X.b.n : Int), X.wo X.b.n (fun i => rwb (X.b.f (X.b.n * r + i))), R0, hX.wo hn9 (fun i _ => rwb_rg _), fun s hC => ?_, fun s hM => ?_⟩
    · have c0 : Ch [50, 51] s (si s 50 1 0) := Ch.si (by decide)
      unfold Hx_writeRow
      rw [ifLt_eq _ _ hx R0, if_neg (by omega), hC.1.2.2.1, ifLt_eq _ _ hx (R_nat (by omega)), if_pos (by omega), clear50, bnd_some]
      have hC0 : CI (X.wo 0 X.ob) (si s 50 1 0) := hC.out c0 (gi_si_s _ _ _ _) (fun i hi' => absurd hi' (Nat.not_lt_zero i))
      refine okP_mono (writeRowC (X := X.wo 0 X.ob) (hX.wo (Nat.zero_le _) fun i hi' => absurd hi' (Nat.not_lt_zero i)) hC0 hr (gi_si_s _ _ _ _)) fun o ⟨h1, h2, h3⟩ => ?_
      exact ⟨(c0.tr h1).cf, hC.out (c0.tr h1) h2.1 h2.2, Or.inl ⟨rfl, h3, R_nat (by omega)⟩⟩
    · have hM0 := hM.e0 hX 0
      have c0 : Ch [8035, 99] (si s 80 0 0) (si (si s 80 0 0) 80 35 0) := Ch.s8 (by decide)
      have hM1 : MI (X.wo 0 X.ob) (si (si s 80 0 0) 80 35 0) := hM0.out hX c0 (gi_si_s _ _ _ _) (fun i hi' => absurd hi' (Nat.not_lt_zero i))
      unfold Mo_writeRow Mo_writeRow_b24
      rw [grd_t hx, grd_t ⟨by omega, by omega⟩, hM.1.1.1.2.2, grd_t (show R _ from by unfold R; omega), in_t hx R0 (by unfold R; omega) ⟨by omega, by omega⟩, bnd_some, ifEq_f R1 R0 (by omega), wrong_0, bnd2_some, ifEq_t R0 R0 rfl, lett_eq]
      refine okP_mono (writeRowM (X := X.wo 0 X.ob) (hX.wo (Nat.zero_le _) fun i hi' => absurd hi' (Nat.not_lt_zero i)) hM1 hr (gi_si_s _ _ _ _)) fun o ⟨h1, h2, h3⟩ => ?_
      refine ⟨((mf0 s 0).tr c0.mf).tr h1.mf, hM0.out hX (c0.tr h1) h2.1 h2.2, ?_, fun _ => h3⟩
      rw [h1.g8 0, c0.g8 0]
      exact gi_si_s _ _ _ _
  · have hno : ¬ (0 ≤ x ∧ x ≤ (X.b.n : Int) - 1) := fun z => h ⟨x.toNat, by omega, by omega⟩
    refine op_badX hX (fun s hC => ?_) (fun s hM => ⟨_, by unfold Mo_writeRow Mo_writeRow_b24; rw [grd_t hx, grd_t ⟨by omega, by omega⟩, hM.1.1.1.2.2, grd_t (show R _ from by unfold R; omega), in_f hx R0 (by unfold R; omega) hno, bnd_some, ifEq_t R0 R0 rfl, wrong_1, bnd2_some, ifEq_f R1 R0 (by omega)]⟩)
    unfold Hx_writeRow Hx_writeRow_b15
    rw [ifLt_eq _ _ hx R0]
    by_cases z : x < 0
    · rw [if_pos z]
    · rw [if_neg z, hC.1.2.2.1, ifLt_eq _ _ hx (R_nat (by omega)), if_neg (by omega)]
theorem op_writeCell (hX : XsOK X) {x : Int} (hx : R x) : OpE X 0 1 (Hx_writeCell x) (Mo_writeCell x) := by
  have hn9 := hX.n9
  have h81 := nn_le hn9
  have hn0 : 0 < X.b.n ∧ X.b.n ≤ 9 := ⟨by have := hX.1.1.1; omega, hn9⟩
  rcases cell_dec (N := X.b.n * X.b.n) x with ⟨c, rfl, hc⟩ | h
  · have hd : c / X.b.n < X.b.n := Nat.div_lt_of_lt_mul hc
    have hm : c % X.b.n < X.b.n := Nat.mod_lt _ hn0.1
    refine ⟨0, 2, X.wo 2 (fun i => if i = 0 then 97 + ((c % X.b.n : Nat) : Int) else 49 + ((c / X.b.n : Nat) : Int)), R0, hX.wo (by omega) (fun i _ => by
      have h1 := Int.natCast_nonneg (c % X.b.n)
      have h2 := Int.natCast_nonneg (c / X.b.n)
      show 0 ≤ (if i = 0 then 97 + ((c % X.b.n : Nat) : Int) else 49 + ((c / X.b.n : Nat) : Int)) ∧ (if i = 0 then 97 + ((c % X.b.n : Nat) : Int) else 49 + ((c / X.b.n : Nat) : Int)) ≤ 255
      have h3 : ((c % X.b.n : Nat) : Int) ≤ 9 := by omega
      have h4 : ((c / X.b.n : Nat) : Int) ≤ 9 := by omega
      generalize ((c % X.b.n : Nat) : Int) = u at h1 h3
      generalize ((c / X.b.n : Nat) : Int) = w at h2 h4
      split <;> omega), fun s hC => ?_, fun s hM => ?_⟩
    · have c0 : Ch [50, 51] s (si s 50 1 0) := Ch.si (by decide)
      have hG := hC.G
      have o0 : OutC (si s 50 1 0) 0 (fun i => if i = 0 then 97 + ((c % X.b.n : Nat) : Int) else 49 + ((c / X.b.n : Nat) : Int)) := ⟨gi_si_s _ _ _ _, fun j hj => absurd hj (Nat.not_lt_zero j)⟩
      obtain ⟨u, e1, e2, e3⟩ := o0.add (v := 97 + ((c % X.b.n : Nat) : Int)) (by omega) rfl
      obtain ⟨w, k1, k2, k3⟩ := e3.add (v := 49 + ((c / X.b.n : Nat) : Int)) (by omega) rfl
      unfold Hx_writeCell
      rw [rqC_t hC.1 hc, bndx_some, clear50, bnd_some, Gr_column_eq (hG.c c0).2.2.1 hn0 (by omega), bnd_some, e1, bnd_some, Gr_row_eq ((hG.c c0).c e2).2.2.1 hn0 (by omega), bnd_some, k1, bnd_some, k3.1]
      exact okP_some ⟨((c0.tr e2).tr k2).cf, hC.out ((c0.tr e2).tr k2) k3.1 k3.2, Or.inl ⟨rfl, rfl, by unfold R; omega⟩⟩
    · have hM0 := hM.e0 hX 0
      have c0 : Ch [8035, 99] (si s 80 0 0) (si (si s 80 0 0) 80 35 0) := Ch.s8 (by decide)
      have o0 : OutM (si (si s 80 0 0) 80 35 0) 0 (fun i => if i = 0 then 97 + ((c % X.b.n : Nat) : Int) else 49 + ((c / X.b.n : Nat) : Int)) := ⟨gi_si_s _ _ _ _, fun j hj => absurd hj (Nat.not_lt_zero j)⟩
      obtain ⟨u, e1, e2, e3⟩ := o0.add (v := 97 + ((c % X.b.n : Nat) : Int)) (by omega) rfl
      obtain ⟨w, k1, k2, k3⟩ := e3.add (v := 49 + ((c / X.b.n : Nat) : Int)) (by omega) rfl
      have m0 : MoN (si (si s 80 0 0) 80 35 0) X.b.n := (hM0.1.ch c0).1.1
      have m1 : MoN u X.b.n := ((hM0.1.ch c0).ch e2).1.1
      unfold Mo_writeCell
      rw [noCell_t hM.1.1.1 hc, bnd2_some, ifEq_t R0 R0 rfl, lett_eq, Mo_column_eq m0 (by omega), bnd_some, e1, bnd_some, Mo_row_eq m1 (by omega), bnd_some, k1, bnd_some, k3.1]
      refine okP_some ⟨((mf0 s 0).tr c0.mf).tr (e2.tr k2).mf, hM0.out hX ((c0.tr e2).tr k2) k3.1 k3.2, ?_, fun _ => rfl⟩
      show gi w 80 0 = 0
      rw [k2.g8 0, e2.g8 0, c0.g8 0]
      exact gi_si_s _ _ _ _
  · exact op_badX hX (fun s hC => by unfold Hx_writeCell; rw [rqC_f hC.1 hx h, bndx_thrown]) (fun s hM => ⟨_, by unfold Mo_writeCell; rw [noCell_f hM.1.1.1 hx h, bnd2_some, ifEq_f R1 R0 (by omega)]⟩)
end OUT

/-! ===== the pure part, as a whole ===== -/
theorem tail_ok {X : Xs} {s : Sg} {nx : Nat} (hnx : 80 < nx ∧ nx + 1 < 100) (hX : XsOK X) (h8 : X.h ≤ 8) (hm : Xm X 0) (hC : CI X s) (hS : Scr s) : okP (La_tail nx s) (fun _ => True) := by
  unfold La_tail
  refine okP_bnd (steps_ok 14 0 (by omega) hX h8 hC hS) ?_
  rintro t - ⟨t1, X', x1, x2, x3, x4, x5⟩
  have hm' := x5 0 hm
  have hSt := hS.cf t1
  refine okP_bnd (agrees_ok x1 x2 x4 hnx) ?_
  rintro u - ⟨⟨Y, y1, y2, y3, y4⟩, u2⟩
  have hSu : Scr u := ⟨by rw [u2 1201 0 (by omega) (show 1000 ≤ 1201 by omega)]; exact hSt.1, fun j => by rw [u2 1200 j (by omega) (show 1000 ≤ 1200 by omega)]; exact hSt.2 j⟩
  refine okP_bnd2 (foresees_ok y1 (by rw [y3]; have := hm'.1; omega) y4 hSu (x := 70) (by omega)) ?_
  rintro y v - e
  have e : y = 1 := e
  rw [e, ifEq_f R1 R0 (by omega)]
  exact okP_some trivial
theorem pure_law : PureLaw := by
  intro L xs z hL
  obtain ⟨s0, e0, hC0, hc0⟩ := starts_okC (L := L) (xs := xs) (z := z)
  have g1 : gi s0 1201 0 = (L : Int) := by
    rw [hc0.g 1201]
    show (if 1201 < 1000 then 0 else (oldV L xs z 1201 0).toInt) = (L : Int)
    rw [if_neg (by omega)]
    unfold oldV
    rw [if_neg (by omega), if_pos rfl]
    exact t32 (R_nat (by omega))
  have hS0 : Scr s0 := ⟨by rw [g1]; omega, fun j => by rw [hc0.g 1200]; exact S_sc j⟩
  have hr := clv_rng s0 0
  obtain ⟨zn, hzn⟩ : ∃ zn : Nat, ((zn : Nat) : Int) = 2 + clv s0 0 % 5 := ⟨(2 + clv s0 0 % 5).toNat, by omega⟩
  have hz : 2 ≤ zn ∧ zn ≤ 6 := by omega
  obtain ⟨h94, hrng⟩ := txE_ok (clv s0) hz
  have hcof := cof_le (txE (clv s0) zn).length
  refine ⟨s0, zn, _, e0, hz, hzn, rfl, h94, fun j hj => by have := hrng j hj; omega, hS0, fun s' hF hT => ?_⟩
  obtain ⟨o, eo, Y, y1, y2, ym, y3, y4, y5, y6⟩ := loads_ok (a := 83 + cof (txE (clv s0) zn).length) hz (by omega) hC0 hcof hF hT
  have hS' : Scr s' := ⟨by rw [(hF 1201 (by omega)).1]; exact hS0.1, fun j => by rw [(hF 1200 (by omega)).1]; exact hS0.2 j⟩
  obtain ⟨o2, eo2, -⟩ := tail_ok (nx := 83 + cof (txE (clv s0) zn).length + 1 + 1) ⟨by omega, by omega⟩ y1 y2 ym y3 (hS'.cf y4)
  exact ⟨o, o2, eo, ⟨y5, y6⟩, eo2⟩

/-! ===== the whole of what is foreseen ===== -/
section FRT
variable {X : Xs} {s : Sg}
theorem fwn_RX (hX : XsOK X) : R (fwn X.b) := by
  have hb := (itb_ok hX.1 _ (fcn_ok hX.1 81)).1
  exact R_tri (wnr_rg hb.2.2.2.2.1)
theorem fcn_RX (X : Xs) : R ((fcn X.b 81 : Nat) : Int) := R_nat (by have := fcn_le X.b 81; omega)
theorem fcd_RX (hX : XsOK X) : R (fcd X.b) := by
  have h81 := nn_le hX.n9
  rcases fcd_rg hX.1 with e | ⟨c, e, hc⟩
  · rw [e]; exact R_n1
  · rw [e]; exact R_nat (by omega)
/-- the fillings, the forced moves -/
theorem fs_90 (hX : XsOK X) (hm : X.b.m < 100) {x : Int} {k : Nat} (hx : 0 ≤ x ∧ x < 100000) (hk : 1 ≤ k ∧ k ≤ 5) {t0 : Int} (r0 : R t0) {t : Sg} (hcf : CF s t) (hC : CI X t) : okP (La_foresees_b90 (Wv X) x (k : Int) (fwn X.b) ((fcn X.b 81 : Nat) : Int) (fcd X.b) (sol X.b) (gdm X.b) (bsm X.b) t0 t0 t) (fun o => o.1 = 1) := by
  have h81 := nn_le hX.n9
  have hxR : R x := by unfold R; omega
  have hkR : R (k : Int) := R_nat (by omega)
  have h2 : 0 ≤ x ∧ x ≤ 2147483647 := by omega
  have hsum := flc_sum (n := X.b.n) (f := X.b.f) (x := x) k
  have hfull : Full X.b.n (fil X.b.n x X.b.f (X.b.n * X.b.n)).2 := fil_full hX.fr
  have hfo := fow_rg X.b.n (fil X.b.n x X.b.f (X.b.n * X.b.n)).2
  have hid := idl_le (n := X.b.n) (f := X.b.f) (g := (fil X.b.n x X.b.f (X.b.n * X.b.n)).2)
  have hFle : Fc X.b.n X.b.f ≤ X.b.n * X.b.n := cnt_le _ _
  have hfl := fcn_le X.b 81
  unfold La_foresees_b90
  refine okP_ifEq r0 r0 (fun _ => ?_) fun n => absurd rfl n
  refine bndrQ (cq_fillings hX (k := k) R0 hxR hkR (Or.inl rfl) h2 ⟨by omega, by omega⟩ hC) fun a ha => ?_
  have ca := hC.ch ha
  refine bndrQ (cq_fillings hX (k := k) R1 hxR hkR (Or.inr rfl) h2 ⟨by omega, by omega⟩ ca) fun b hb => ?_
  have cb := ca.ch hb
  have fb : CF s b := (hcf.tr ha.cf).tr hb.cf
  rw [show ((flc X.b.n x X.b.f 0 k : Nat) : Int) + ((flc X.b.n x X.b.f 1 k : Nat) : Int) = (k : Int) by omega]
  refine okP_ifEq hkR hkR (fun _ => ?_) fun n => absurd rfl n
  refine bndrQ (cq_filled hX hxR h2 cb) fun d hd => ?_
  have cd := cb.ch hd
  have q1 := cq_fillings hX (k := 1) (R_01 hfo) hxR (show R (((1 : Nat) : Int)) from R1) hfo h2 ⟨by decide, by decide⟩ cd
  rw [flc_one] at q1
  refine bndrQ q1 fun e he => ?_
  have ce := cd.ch he
  have fe : CF s e := (fb.tr hd.cf).tr he.cf
  refine okP_ifEq R1 R1 (fun _ => ?_) fun n => absurd rfl n
  refine bndrQ (cq_idle hX hxR h2 ce) fun g hg => ?_
  have cg := ce.ch hg
  refine bndrQ (cq_size3 hX cg) fun i hi => ?_
  have ci := cg.ch hi
  have fi : CF s i := (fe.tr hg.cf).tr hi.cf
  have hF0 : cnt (fun c => X.b.f c = -1) (X.b.n * X.b.n) = Fc X.b.n X.b.f := rfl
  rw [hF0]
  refine okP_ifLt (R_nat (by omega)) (R_nat (by omega)) (fun z => absurd z (by omega)) fun _ => ?_
  have hsv := ca_saveSnapshot hX (k := 0) R0 (by decide) ci
  refine bndrC hsv fun j j1 j2 _ => ?_
  have hZ : XsOK (X.wS (upS X.S 0 X.b)) := hX.sn 0 hX.1
  have hS0 : (X.wS (upS X.S 0 X.b)).S 0 = some X.b := (if_pos rfl : (if (0 : Nat) = 0 then some X.b else X.S 0) = some X.b)
  refine bndrC (ca_playForced (X := X.wS (upS X.S 0 X.b)) hZ (k := 81) (by unfold R; omega) ⟨by decide, by decide⟩ j2) fun l l1 l2 _ => ?_
  have e81 : fcn (X.wS (upS X.S 0 X.b)).b 81 = fcn X.b 81 := rfl
  rw [e81] at l2 ⊢
  have hit : BdOK (itb X.b (fcn X.b 81)) := (itb_ok hX.1 _ (fcn_ok hX.1 81)).1
  have hP : XsOK ((X.wS (upS X.S 0 X.b)).pu (itb X.b (fcn X.b 81))) := hZ.pu hit (itb_n hX.1 81)
  have l2 : CI ((X.wS (upS X.S 0 X.b)).pu (itb X.b (fcn X.b 81))) l := l2
  have fl : CF s l := (fi.tr j1).tr l1
  refine okP_ifEq (fcn_RX X) (fcn_RX X) (fun _ => ?_) fun n => absurd rfl n
  have q6 := cq_size6 hP l2
  have q6 : okP (Hx_size 6 l) (fun o => Ch LC l o.2 ∧ o.1 = .inr (fwn X.b)) := q6
  refine bndrQ q6 fun m hmm => ?_
  have cm := l2.ch hmm
  have fm : CF s m := fl.tr hmm.cf
  refine okP_ifEq (fwn_RX hX) (fwn_RX hX) (fun _ => ?_) fun n => absurd rfl n
  refine okP_ifLt R0 (fcn_RX X) (fun hp => ?_) fun _ => fs_202 (s := s) hX (by omega) hP hS0 fm cm
  have q4 := cq_size4 hP cm
  have q4 : okP (Hx_size 4 m) (fun o => Ch LC m o.2 ∧ o.1 = .inr (((itb X.b (fcn X.b 81)).m : Nat) : Int)) := q4
  refine bndrQ q4 fun p hpp => ?_
  have cp := cm.ch hpp
  have em := itb_m X.b (fcn X.b 81)
  rw [show (((itb X.b (fcn X.b 81)).m : Nat) : Int) - ((fcn X.b 81 : Nat) : Int) = ((X.b.m : Nat) : Int) by omega, mvx_ok hP cp (k := X.b.m) (by omega), bnd_some]
  have emv : mvx ((X.wS (upS X.S 0 X.b)).pu (itb X.b (fcn X.b 81))) X.b.m = fcd X.b := by
    unfold mvx
    show (if X.b.m < (itb X.b (fcn X.b 81)).m then (itb X.b (fcn X.b 81)).mv X.b.m else -1) = fcd X.b
    rw [if_pos (by omega)]
    exact itb_mv hX.1 _ (by omega) (fcn_ok hX.1 81)
  rw [emv]
  refine okP_ifEq (fcd_RX hX) (fcd_RX hX) (fun _ => ?_) fun n => absurd rfl n
  exact fs_202 (s := s) hX (by omega) hP hS0 (fm.tr hpp.cf) cp
theorem foresees_ok (hX : XsOK X) (hm : X.b.m < 100) (hC : CI X s) (hS : Scr s) {x : Int} (hx : 0 ≤ x ∧ x ≤ 1000) : okP (La_foresees x s) (fun o => o.1 = 1) := by
  have h81 := nn_le hX.n9
  have r0 := clv_rng s x
  have r1 := clv_rng s (x + 1)
  unfold La_foresees
  refine okP_bnd2 (whole_ok hX hC) ?_
  rintro w t - ⟨t1, e1⟩
  have t1 : Ch LC s t := t1
  have e1 : w = Wv X := e1
  have ct := hC.ch t1
  have ft : CF s t := t1.cf
  rw [cell_cf ft hS (by omega), bnd_some, cell_cf ft hS (by omega), bnd_some]
  refine okP_grd ⟨⟨r1.1, by unfold R; omega⟩, by omega, by unfold R; omega⟩ ?_
  rw [lett_eq]
  refine okP_bnd2 (cq_forcedWinner hX ct) ?_
  rintro y7 a - ⟨a1, a2, a3⟩
  have a1 : CF t a := a1
  have a2 : CI X a := a2
  have a3 : y7 = fwn X.b := a3
  refine okP_bnd2 (cq_forcedRow hX a2) ?_
  rintro y9 b - ⟨b1, b2, b3⟩
  have b1 : CF a b := b1
  have b2 : CI X b := b2
  have b3 : y9 = ((fcn X.b 81 : Nat) : Int) := b3
  refine okP_bnd2 (cq_forced hX b2) ?_
  rintro y11 c - ⟨c1, c3⟩
  have c1 : Ch LC b c := c1
  have c3 : y11 = fcd X.b := c3
  have c2 := b2.ch c1
  refine okP_bnd2 (cq_solved hX c2) ?_
  rintro y13 d - ⟨d1, d3⟩
  have d1 : Ch LC c d := d1
  have d3 : y13 = sol X.b := d3
  have d2 := c2.ch d1
  refine okP_bnd2 (cq_goodMoves hX d2) ?_
  rintro y15 e - ⟨e1', e3⟩
  have e1' : Ch LC d e := e1'
  have e3 : y15 = gdm X.b := e3
  have e2 := d2.ch e1'
  refine okP_bnd2 (cq_bestMove hX e2) ?_
  rintro y17 f - ⟨f1, f3⟩
  have f1 : Ch LC e f := f1
  have f3 : y17 = bsm X.b := f3
  have f2 := e2.ch f1
  refine okP_bnd2 (whole_ok hX f2) ?_
  rintro y19 g - ⟨g1, g3⟩
  have g1 : Ch LC f g := g1
  have g3 : y19 = Wv X := g3
  have g2 := f2.ch g1
  have fg : CF s g := (((((((ft.tr a1).tr b1).tr c1.cf).tr d1.cf).tr e1'.cf).tr f1.cf)).tr g1.cf
  rw [g3, e1]
  refine okP_grd rfl ?_
  refine okP_ifEq R0 R0 (fun _ => ?_) fun n => absurd rfl n
  rw [a3, b3, c3, d3, e3, f3]
  obtain ⟨k, hk⟩ : ∃ k : Nat, 1 + clv s (x + 1) % 5 = (k : Int) := ⟨(1 + clv s (x + 1) % 5).toNat, by omega⟩
  rw [hk]
  have hk5 : 1 ≤ k ∧ k ≤ 5 := by omega
  have hz := fcn_z (b := X.b) (by omega)
  have hfc : fcd X.b < 0 ↔ fcd X.b = -1 := by
    rcases fcd_rg hX.1 with e | ⟨c, e, -⟩ <;> omega
  have fin : ∀ t0, R t0 → (fcd X.b < 0 → t0 = 0) → (¬ fcd X.b < 0 → t0 = 1) → okP (La_foresees_b80 (Wv X) (clv s x) (k : Int) (fwn X.b) ((fcn X.b 81 : Nat) : Int) (fcd X.b) (sol X.b) (gdm X.b) (bsm X.b) t0 g) (fun o => o.1 = 1) := by
    intro t0 r0 h0 h1
    unfold La_foresees_b80
    refine okP_ifLt (fcd_RX hX) R0 (fun z => ?_) fun z => ?_
    · rw [h0 z]
      exact fs_90 (s := s) hX hm ⟨by omega, by omega⟩ hk5 R0 fg g2
    · rw [h1 z]
      exact fs_90 (s := s) hX hm ⟨by omega, by omega⟩ hk5 R1 fg g2
  refine okP_ifLt R0 (fcn_RX X) (fun z => ?_) fun z => ?_
  · exact fin 1 R1 (fun y => absurd (hfc.mp y) (hz.mp (by omega))) fun _ => rfl
  · exact fin 0 R0 (fun _ => rfl) fun y => absurd (hz.mpr fun w => y (hfc.mpr w)) (by omega)
end FRT

/-! ===== bridge, size, potential, current ===== -/
section MORE
variable {X : Xs}
theorem op_bridge (hX : XsOK X) {x i w : Int} (hx : R x) (hi : R i) (hw : R w) : OpE X 1 0 (Hx_bridge x i w) (Mo_bridge x i w) := by
  have R4' : R 4 := by unfold R; omega
  have R3' : R 3 := by unfold R; omega
  have R2' : R 2 := by unfold R; omega
  have a57 : alen 57 = 405 := rfl
  have a58 : alen 58 = 405 := rfl
  have a59 : alen 59 = 405 := rfl
  have a60 : alen 60 = 405 := rfl
  have a61 : alen 61 = 405 := rfl
  by_cases h : x = 0 ∨ x = 1
  · by_cases hwr : 0 ≤ w ∧ w ≤ 4
    · have hbw := brs_w (f := X.b.f) (sd := x) hX.1.1
      have hm := hbw.2
      by_cases hi' : ∃ k : Nat, i = (k : Int) ∧ k < (brs X.b.n X.b.f x).1
      · obtain ⟨k, rfl, hk⟩ := hi'
        obtain ⟨k0, l0, g0, q1, q2, q3, q4, q5, q6, -, -, -, q7, q8⟩ := hbw.1.1 k hk
        have h81 := nn_le hX.n9
        have r1 : R ((brs X.b.n X.b.f x).2.1 k).1 := by rw [q1]; exact R_nat (by omega)
        have r2 : R ((brs X.b.n X.b.f x).2.1 k).2.1 := by
          rcases q7 with ⟨o, e, ho, -⟩ | e | e
          · rw [e]; exact R_nat (by omega)
          · rw [e]; unfold R; omega
          · rw [e]; unfold R; omega
        have r3 : R ((brs X.b.n X.b.f x).2.1 k).2.2.1 := by rw [q2]; exact R_nat (by omega)
        have r4 : R ((brs X.b.n X.b.f x).2.1 k).2.2.2.1 := by rw [q3]; exact R_nat (by omega)
        have r5 : R ((brs X.b.n X.b.f x).2.1 k).2.2.2.2 := R_01 q8
        refine op_q hX (if w = 0 then ((brs X.b.n X.b.f x).2.1 k).1 else if w = 1 then ((brs X.b.n X.b.f x).2.1 k).2.1 else if w = 2 then ((brs X.b.n X.b.f x).2.1 k).2.2.1 else if w = 3 then ((brs X.b.n X.b.f x).2.1 k).2.2.2.1 else ((brs X.b.n X.b.f x).2.1 k).2.2.2.2) ?_ (fun s hC => ?_) fun s hM => ?_
        · split
          · exact r1
          · split
            · exact r2
            · split
              · exact r3
              · split
                · exact r4
                · exact r5
        · unfold Hx_bridge
          rw [rqS_t h, bndx_some, rqR_t hw R0 R4' hwr, bndx_some]
          refine okP_bnd (Bl_find_ok hC.G hC.T h (r1 := 11) ⟨rfl, by decide⟩ hC.cb hX.fr) ?_
          rintro t - ⟨h1, h2⟩
          have h2 : ClB t (brs X.b.n X.b.f x) := h2
          obtain ⟨e1, e2, e3, e4, e5⟩ := h2.2.1 k hk
          unfold Bl_number
          rw [ifLt_eq _ _ hi R0, if_neg (by omega), h2.1, ifLt_eq _ _ hi (R_nat (by omega)), if_pos (by omega)]
          by_cases w0 : w = 0
          · rw [ifEq_t hw R0 w0, Hx_at_n (by omega), bnd_some, bnd_some, e1, if_pos w0]
            exact okP_some ⟨h1.mo (by decide), rfl⟩
          · rw [ifEq_f hw R0 w0, if_neg w0]
            by_cases w1 : w = 1
            · rw [ifEq_t hw R1 w1, Hx_at_n (by omega), bnd_some, bnd_some, e2, if_pos w1]
              exact okP_some ⟨h1.mo (by decide), rfl⟩
            · rw [ifEq_f hw R1 w1, if_neg w1]
              by_cases w2 : w = 2
              · rw [ifEq_t hw R2' w2, Hx_at_n (by omega), bnd_some, bnd_some, e3, if_pos w2]
                exact okP_some ⟨h1.mo (by decide), rfl⟩
              · rw [ifEq_f hw R2' w2, if_neg w2]
                by_cases w3 : w = 3
                · rw [ifEq_t hw R3' w3, Hx_at_n (by omega), bnd_some, bnd_some, e4, if_pos w3]
                  exact okP_some ⟨h1.mo (by decide), rfl⟩
                · rw [ifEq_f hw R3' w3, Hx_at_n (by omega), bnd_some, bnd_some, e5, if_neg w3]
                  exact okP_some ⟨h1.mo (by decide), rfl⟩
        · have hP := MPb hX hM
          unfold Mo_bridge Mo_bridge_b25
          rw [isSide_t h, bnd_some, ifEq_f R1 R0 (by omega), grd_t hw, in_t hw R0 R4' hwr, bnd_some, ifEq_f R1 R0 (by omega), wrong_0, bnd2_some, ifEq_t R0 R0 rfl]
          refine qM0 hX hM (L := MBs) (okP_bnd (laysBridges_ok hP.1 hX.fr h) ?_)
          rintro t - ⟨h1, h2⟩
          have h2 : MoB t (brs X.b.n X.b.f x) := h2
          obtain ⟨e1, e2, e3, e4, e5⟩ := h2.2.1 k hk
          have eT : ((k : Nat) : Int).toNat = k := rfl
          rw [grd_t hi, h2.1, grd_t (show R _ from by unfold R; omega), in_t hi R0 (by unfold R; omega) ⟨by omega, by omega⟩, bnd_some, ifEq_f R1 R0 (by omega), eT]
          by_cases w0 : w = 0
          · rw [ifEq_t hw R0 w0, grd_t ⟨by omega, by omega⟩, e1, if_pos w0]
            exact okP_some ⟨h1, rfl⟩
          · rw [ifEq_f hw R0 w0, if_neg w0]
            by_cases w1 : w = 1
            · rw [ifEq_t hw R1 w1, grd_t ⟨by omega, by omega⟩, e2, if_pos w1]
              exact okP_some ⟨h1, rfl⟩
            · rw [ifEq_f hw R1 w1, if_neg w1]
              by_cases w2 : w = 2
              · rw [ifEq_t hw R2' w2, grd_t ⟨by omega, by omega⟩, e3, if_pos w2]
                exact okP_some ⟨h1, rfl⟩
              · rw [ifEq_f hw R2' w2, if_neg w2]
                by_cases w3 : w = 3
                · rw [ifEq_t hw R3' w3, grd_t ⟨by omega, by omega⟩, e4, if_pos w3]
                  exact okP_some ⟨h1, rfl⟩
                · rw [ifEq_f hw R3' w3, grd_t ⟨by omega, by omega⟩, e5, if_neg w3]
                  rcases q8 with q8 | q8
                  · rw [ifEq_t (by rw [q8]; exact R0) R0 q8, q8]
                    exact okP_some ⟨h1, rfl⟩
                  · rw [ifEq_f (by rw [q8]; exact R1) R0 (by rw [q8]; omega), q8]
                    exact okP_some ⟨h1, rfl⟩
      · have hno : ¬ (0 ≤ i ∧ i < ((brs X.b.n X.b.f x).1 : Int)) := fun z => hi' ⟨i.toNat, by omega, by omega⟩
        refine op_q hX (-1) R_n1 (fun s hC => ?_) fun s hM => ?_
        · unfold Hx_bridge
          rw [rqS_t h, bndx_some, rqR_t hw R0 R4' hwr, bndx_some]
          refine okP_bnd (Bl_find_ok hC.G hC.T h (r1 := 11) ⟨rfl, by decide⟩ hC.cb hX.fr) ?_
          rintro t - ⟨h1, h2⟩
          have h2 : ClB t (brs X.b.n X.b.f x) := h2
          unfold Bl_number
          rw [ifLt_eq _ _ hi R0]
          by_cases z : i < 0
          · rw [if_pos z, bnd_some]
            exact okP_some ⟨h1.mo (by decide), rfl⟩
          · rw [if_neg z, h2.1, ifLt_eq _ _ hi (R_nat (by omega)), if_neg (by omega), bnd_some]
            exact okP_some ⟨h1.mo (by decide), rfl⟩
        · have hP := MPb hX hM
          unfold Mo_bridge Mo_bridge_b25
          rw [isSide_t h, bnd_some, ifEq_f R1 R0 (by omega), grd_t hw, in_t hw R0 R4' hwr, bnd_some, ifEq_f R1 R0 (by omega), wrong_0, bnd2_some, ifEq_t R0 R0 rfl]
          refine qM0 hX hM (L := MBs) (okP_bnd (laysBridges_ok hP.1 hX.fr h) ?_)
          rintro t - ⟨h1, h2⟩
          have h2 : MoB t (brs X.b.n X.b.f x) := h2
          rw [grd_t hi, h2.1, grd_t (show R _ from by unfold R; omega), in_f hi R0 (by unfold R; omega) (by omega), bnd_some, ifEq_t R0 R0 rfl]
          exact okP_some ⟨h1, rfl⟩
    · exact op_bad hX (fun s hC => by unfold Hx_bridge; rw [rqS_t h, bndx_some, rqR_f hw R0 R4' hwr, bndx_thrown]) (fun s hM => ⟨_, by unfold Mo_bridge Mo_bridge_b20 Mo_bridge_b25; rw [isSide_t h, bnd_some, ifEq_f R1 R0 (by omega), grd_t hw, in_f hw R0 R4' hwr, bnd_some, ifEq_t R0 R0 rfl, wrong_1, bnd2_some, ifEq_f R1 R0 (by omega)]⟩)
  · exact op_bad hX (fun s hC => by unfold Hx_bridge; rw [rqS_f hx h, bndx_thrown]) (fun s hM => ⟨_, by unfold Mo_bridge Mo_bridge_b20 Mo_bridge_b25; rw [isSide_f hx h, bnd_some, ifEq_t R0 R0 rfl, wrong_1, bnd2_some, ifEq_f R1 R0 (by omega)]⟩)
theorem R100 : R 100 := by unfold R; omega
theorem cur_R {n : Nat} (hn : n ≤ 9) (f : Nat → Int) (sd : Int) (k : Nat) : 0 ≤ cur n f sd (sws n f sd k) (n * n) ∧ cur n f sd (sws n f sd k) (n * n) ≤ 243000000 := by
  have h81 := nn_le hn
  have h := cur_rg (n := n) (f := f) (sd := sd) (sws_rg n f sd k) (n * n)
  omega
theorem op_current (hX : XsOK X) {x w : Int} (hx : R x) (hw : R w) : OpE X 1 0 (Hx_current x w) (Mo_current x w) := by
  by_cases h : x = 0 ∨ x = 1
  · by_cases hwr : 0 ≤ w ∧ w ≤ 100
    · obtain ⟨k, rfl⟩ := Int.eq_ofNat_of_zero_le hwr.1
      have hk : k ≤ 100 := by omega
      have hc := cur_R hX.n9 X.b.f x k
      refine op_q hX (cur X.b.n X.b.f x (sws X.b.n X.b.f x k) (X.b.n * X.b.n)) (by unfold R; omega) (fun s hC => ?_) fun s hM => ?_
      · unfold Hx_current
        rw [rqS_t h, bndx_some, rqR_t hw R0 R100 hwr, bndx_some]
        refine okP_bnd2 (Fl_run_ok hC.G hC.cb hX.fr h hk) ?_
        rintro y t - ⟨h1, h2, h3⟩
        have h3 : y = cur X.b.n X.b.f x (sws X.b.n X.b.f x k) (X.b.n * X.b.n) := h3
        rw [h3]
        exact okP_some ⟨Ch.mo h1 (by decide), rfl⟩
      · have hP := MPb hX hM
        unfold Mo_current Mo_current_b20
        rw [isSide_t h, bnd_some, ifEq_f R1 R0 (by omega), sweeps_t hw hwr, bnd_some, ifEq_f R1 R0 (by omega), wrong_0, bnd2_some, ifEq_t R0 R0 rfl]
        refine qM0 hX hM (L := [98]) (okP_bnd2 (currentOf_ok hP.1 hX.fr h hk) ?_)
        rintro y t - ⟨h1, h2, h3⟩
        exact okP_some ⟨h1, h3⟩
    · exact op_bad hX (fun s hC => by unfold Hx_current; rw [rqS_t h, bndx_some, rqR_f hw R0 R100 hwr, bndx_thrown]) (fun s hM => ⟨_, by unfold Mo_current Mo_current_b15 Mo_current_b20; rw [isSide_t h, bnd_some, ifEq_f R1 R0 (by omega), sweeps_f hw hwr, bnd_some, ifEq_t R0 R0 rfl, wrong_1, bnd2_some, ifEq_f R1 R0 (by omega)]⟩)
  · exact op_bad hX (fun s hC => by unfold Hx_current; rw [rqS_f hx h, bndx_thrown]) (fun s hM => ⟨_, by unfold Mo_current Mo_current_b15 Mo_current_b20; rw [isSide_f hx h, bnd_some, ifEq_t R0 R0 rfl, wrong_1, bnd2_some, ifEq_f R1 R0 (by omega)]⟩)
theorem op_potential (hX : XsOK X) {x y w : Int} (hx : R x) (hy : R y) (hw : R w) : OpE X 1 2 (Hx_potential x y w) (Mo_potential x y w) := by
  have h81 := nn_le hX.n9
  have a73 : alen 73 = 81 := rfl
  by_cases h : x = 0 ∨ x = 1
  · by_cases hwr : 0 ≤ w ∧ w ≤ 100
    · obtain ⟨k, rfl⟩ := Int.eq_ofNat_of_zero_le hwr.1
      have hk : k ≤ 100 := by omega
      rcases cell_dec (N := X.b.n * X.b.n) y with ⟨c, rfl, hc⟩ | hn
      · have hl := sws_rg X.b.n X.b.f x k c
        refine op_q hX (if wtI X.b.f x c = 0 then -1 else sws X.b.n X.b.f x k c) (by split <;> (unfold R; omega)) (fun s hC => ?_) fun s hM => ?_
        · unfold Hx_potential
          rw [rqS_t h, bndx_some, rqR_t hw R0 R100 hwr, bndx_some, rqC_t hC.1 hc, bndx_some]
          refine okP_bnd2 (Fl_run_ok hC.G hC.cb hX.fr h hk) ?_
          rintro z t - ⟨h1, h2, h3⟩
          have h2 : FC t X.b.n X.b.f x (sws X.b.n X.b.f x k) := h2
          unfold Fl_level
          rw [Hx_at_n (by omega), bnd_some, bnd_some, (h2.2 c hc).2]
          exact okP_some ⟨Ch.mo h1 (by decide), rfl⟩
        · have hP := MPb hX hM
          unfold Mo_potential Mo_potential_b20 Mo_potential_b40
          rw [isSide_t h, bnd_some, ifEq_f R1 R0 (by omega), sweeps_t hw hwr, bnd_some, ifEq_f R1 R0 (by omega), wrong_0, bnd2_some, ifEq_t R0 R0 rfl, isCell_t hP.1.1 hc, bnd_some, ifEq_f R1 R0 (by omega), thr_0, bnd2_some, ifEq_t R0 R0 rfl]
          refine qM0 hX hM (L := [98]) (okP_bnd (Mo_sweeps_ok hP.1 hX.fr h hk) ?_)
          rintro t - ⟨h1, h2⟩
          have hR : R (wtI X.b.f x c) := by unfold wtI R; split <;> (try split) <;> omega
          rw [Mo_weight_eq (hP.1.ch h1 (by decide)) hX.fr h hc, bnd_some]
          by_cases q : wtI X.b.f x c = 0
          · rw [ifEq_t hR R0 q, if_pos q]
            exact okP_some ⟨h1, rfl⟩
          · rw [ifEq_f hR R0 q, if_neg q, grd_t ⟨by omega, by omega⟩]
            refine okP_some ⟨h1, ?_⟩
            exact h2 c hc
      · refine ⟨2, 0, X, by unfold R; omega, hX, fun s hC => ?_, fun s hM => ?_⟩
        · unfold Hx_potential
          rw [rqS_t h, bndx_some, rqR_t hw R0 R100 hwr, bndx_some, rqC_f hC.1 hy hn, bndx_thrown]
          exact eX2 hC 0
        · have hP := MPb hX hM
          unfold Mo_potential Mo_potential_b20 Mo_potential_b40
          rw [isSide_t h, bnd_some, ifEq_f R1 R0 (by omega), sweeps_t hw hwr, bnd_some, ifEq_f R1 R0 (by omega), wrong_0, bnd2_some, ifEq_t R0 R0 rfl, isCell_f hP.1.1 hy hn, bnd_some, ifEq_t R0 R0 rfl, thr_1, bnd2_some, ifEq_f R1 R0 (by omega)]
          exact eM' hX hM (by omega) _ _
    · exact op_bad hX (fun s hC => by unfold Hx_potential; rw [rqS_t h, bndx_some, rqR_f hw R0 R100 hwr, bndx_thrown]) (fun s hM => ⟨_, by unfold Mo_potential Mo_potential_b15 Mo_potential_b20; rw [isSide_t h, bnd_some, ifEq_f R1 R0 (by omega), sweeps_f hw hwr, bnd_some, ifEq_t R0 R0 rfl, wrong_1, bnd2_some, ifEq_f R1 R0 (by omega)]⟩)
  · exact op_bad hX (fun s hC => by unfold Hx_potential; rw [rqS_f hx h, bndx_thrown]) (fun s hM => ⟨_, by unfold Mo_potential Mo_potential_b15 Mo_potential_b20; rw [isSide_f hx h, bnd_some, ifEq_t R0 R0 rfl, wrong_1, bnd2_some, ifEq_f R1 R0 (by omega)]⟩)
theorem OpE_h (hX : XsOK X) {x : Int} (hx : R x) (h9 : x = 9) : OpE X 1 0 (Hx_size x) (Mo_size x) := by
  subst h9
  have R9' : R 9 := by unfold R; omega
  refine ⟨0, (X.h : Int), X, R0, hX, fun s hC => ?_, fun s hM => ?_⟩
  · have e : Hx_size 9 s = some (.inr (gi s 16 2), s) := by
      unfold Hx_size
      rw [ifEq_f hx R0 (by omega), ifEq_f hx R1 (by omega), ifEq_f hx (by unfold R; omega) (by omega), ifEq_f hx (by unfold R; omega) (by omega), ifEq_f hx (by unfold R; omega) (by omega), ifEq_f hx (by unfold R; omega) (by omega), ifEq_f hx (by unfold R; omega) (by omega), ifEq_f hx (by unfold R; omega) (by omega), ifEq_f hx (by unfold R; omega) (by omega), ifEq_t hx R9' rfl]
    have h8 := hC.2.1.2.1
    rw [e]
    refine qC hC (okP_some ⟨Ch.rf _ _, congrArg Sum.inr hC.2.1.1⟩) (R_nat (by omega))
  · have e : Mo_size 9 s = some (gi (si s 80 0 0) 80 6, si s 80 0 0) := by
      unfold Mo_size Mo_size_b18
      rw [grd_t hx, in_t hx R0 R9' ⟨by omega, by omega⟩, bnd_some, ifEq_f R1 R0 (by omega), wrong_0, bnd2_some, ifEq_t R0 R0 rfl, ifEq_f hx R0 (by omega), ifEq_f hx R1 (by omega), ifEq_f hx (by unfold R; omega) (by omega), ifEq_f hx (by unfold R; omega) (by omega), ifEq_f hx (by unfold R; omega) (by omega), ifEq_f hx (by unfold R; omega) (by omega), ifEq_f hx (by unfold R; omega) (by omega), ifEq_f hx (by unfold R; omega) (by omega), ifEq_f hx (by unfold R; omega) (by omega)]
    rw [e]
    exact qM0 hX hM (L := []) (okP_some ⟨Ch.rf _ _, (hM.e0 hX 0).2.1.1⟩)
theorem op_size (hX : XsOK X) {x : Int} (hx : R x) : OpE X 1 0 (Hx_size x) (Mo_size x) := by
  have h81 := nn_le hX.n9
  have hn9 := hX.n9
  have R9' : R 9 := by unfold R; omega
  by_cases h : 0 ≤ x ∧ x ≤ 9
  · have hM' : ∀ s, MI X s → Mo_size x s = Mo_size_b18 x 0 s := fun s _ => by
      unfold Mo_size
      rw [grd_t hx, in_t hx R0 R9' h, bnd_some, ifEq_f R1 R0 (by omega)]
    have key : ∀ (v : Int) (m : Sg → Option ((Nat ⊕ Int) × Sg)) (m' : Sg → Option (Int × Sg)), R v → (∀ s, Hx_size x s = m s) → (∀ s, Mo_size_b18 x 0 s = m' (si s 80 0 0)) → (∀ s, CI X s → okP (m s) (fun o => Ch LC s o.2 ∧ o.1 = .inr v)) → (∀ s, MI X s → okP (m' s) (fun o => Ch [87] s o.2 ∧ o.1 = v)) → OpE X 1 0 (Hx_size x) (Mo_size x) := by
      intro v m m' hv e1 e2 k1 k2
      refine op_q hX v hv (fun s hC => by rw [e1]; exact k1 s hC) fun s hM => ?_
      rw [hM' s hM, e2]
      exact qM0 hX hM (L := [87]) (k2 _ (hM.e0 hX 0))
    have hgR : R X.b.g := R_tri hX.1.2.2.2.2.1
    have htR : R X.b.t := R_01 hX.1.2.2.2.1
    have hm := hX.1.2.2.2.2.2.1
    have hx10 : x = 0 ∨ x = 1 ∨ x = 2 ∨ x = 3 ∨ x = 4 ∨ x = 5 ∨ x = 6 ∨ x = 7 ∨ x = 8 ∨ x = 9 := by omega
    have cnC : ∀ w s, R w → CI X s → Po_count 10 w s = some ((cnt (fun c => X.b.f c = w) (X.b.n * X.b.n) : Nat) : Int) := fun w s hw hC => Po_count_eq hX.n9 hC.1.2.2.1 rfl hC.cb hX.fr hw
    have cnM : ∀ w s, R w → MI X s → Mo_stonesOf w s = some ((cnt (fun c => X.b.f c = w) (X.b.n * X.b.n) : Nat) : Int) := fun w s hw hM => Mo_stonesOf_eq hM.1.1 hX.fr hw
    rcases hx10 with rfl | rfl | rfl | rfl | rfl | rfl | rfl | rfl | rfl | rfl
    · exact key (X.b.n : Int) (fun s => some (.inr (gi s 10 2), s)) (fun s => some (gi s 81 0, s)) (R_nat (by omega)) (fun s => by unfold Hx_size; rw [ifEq_t hx R0 rfl]) (fun s => by unfold Mo_size_b18; rw [wrong_0, bnd2_some, ifEq_t R0 R0 rfl, ifEq_t hx R0 rfl, grd_t ⟨by omega, by omega⟩]) (fun s hC => okP_some ⟨Ch.rf _ _, congrArg Sum.inr hC.1.2.2.1⟩) (fun s hM => okP_some ⟨Ch.rf _ _, hM.1.1.1.2.2⟩)
    · exact key _ (fun s => bnd (Po_count 10 0 s) fun y3 => some (.inr y3, s)) (fun s => bnd (Mo_stonesOf 0 s) fun y8 => some (y8, s)) (R_cnt hX (fun c => X.b.f c = 0)) (fun s => by unfold Hx_size; rw [ifEq_f hx R0 (by omega), ifEq_t hx (by unfold R; omega) rfl]) (fun s => by unfold Mo_size_b18; rw [wrong_0, bnd2_some, ifEq_t R0 R0 rfl, ifEq_f hx R0 (by omega), ifEq_t hx (by unfold R; omega) rfl]) (fun s hC => by rw [cnC 0 s R0 hC, bnd_some]; exact okP_some ⟨Ch.rf _ _, rfl⟩) (fun s hM => by rw [cnM 0 s R0 hM, bnd_some]; exact okP_some ⟨Ch.rf _ _, rfl⟩)
    · exact key _ (fun s => bnd (Po_count 10 1 s) fun y3 => some (.inr y3, s)) (fun s => bnd (Mo_stonesOf 1 s) fun y8 => some (y8, s)) (R_cnt hX (fun c => X.b.f c = 1)) (fun s => by unfold Hx_size; rw [ifEq_f hx R0 (by omega), ifEq_f hx R1 (by omega), ifEq_t hx (by unfold R; omega) rfl]) (fun s => by unfold Mo_size_b18; rw [wrong_0, bnd2_some, ifEq_t R0 R0 rfl, ifEq_f hx R0 (by omega), ifEq_f hx R1 (by omega), ifEq_t hx (by unfold R; omega) rfl]) (fun s hC => by rw [cnC 1 s R1 hC, bnd_some]; exact okP_some ⟨Ch.rf _ _, rfl⟩) (fun s hM => by rw [cnM 1 s R1 hM, bnd_some]; exact okP_some ⟨Ch.rf _ _, rfl⟩)
    · exact key _ (fun s => bnd (Po_count 10 (-1) s) fun y3 => some (.inr y3, s)) (fun s => bnd (Mo_stonesOf (-1) s) fun y8 => some (y8, s)) (R_cnt hX (fun c => X.b.f c = -1)) (fun s => by unfold Hx_size; rw [ifEq_f hx R0 (by omega), ifEq_f hx R1 (by omega), ifEq_f hx (by unfold R; omega) (by omega), ifEq_t hx (by unfold R; omega) rfl]) (fun s => by unfold Mo_size_b18; rw [wrong_0, bnd2_some, ifEq_t R0 R0 rfl, ifEq_f hx R0 (by omega), ifEq_f hx R1 (by omega), ifEq_f hx (by unfold R; omega) (by omega), ifEq_t hx (by unfold R; omega) rfl]) (fun s hC => by rw [cnC (-1) s R_n1 hC, bnd_some]; exact okP_some ⟨Ch.rf _ _, rfl⟩) (fun s hM => by rw [cnM (-1) s R_n1 hM, bnd_some]; exact okP_some ⟨Ch.rf _ _, rfl⟩)
    · exact key (X.b.m : Int) (fun s => some (.inr (gi s 10 4), s)) (fun s => some (gi s 81 4, s)) (R_nat (by omega)) (fun s => by unfold Hx_size; rw [ifEq_f hx R0 (by omega), ifEq_f hx R1 (by omega), ifEq_f hx (by unfold R; omega) (by omega), ifEq_f hx (by unfold R; omega) (by omega), ifEq_t hx (by unfold R; omega) rfl]) (fun s => by unfold Mo_size_b18; rw [wrong_0, bnd2_some, ifEq_t R0 R0 rfl, ifEq_f hx R0 (by omega), ifEq_f hx R1 (by omega), ifEq_f hx (by unfold R; omega) (by omega), ifEq_f hx (by unfold R; omega) (by omega), ifEq_t hx (by unfold R; omega) rfl, grd_t ⟨by omega, by omega⟩]) (fun s hC => okP_some ⟨Ch.rf _ _, congrArg Sum.inr hC.1.2.2.2.2.1⟩) (fun s hM => okP_some ⟨Ch.rf _ _, hM.1.2.2.2.2.1⟩)
    · exact key X.b.t (fun s => some (.inr (gi s 10 5), s)) (fun s => some (gi s 81 2, s)) htR (fun s => by unfold Hx_size; rw [ifEq_f hx R0 (by omega), ifEq_f hx R1 (by omega), ifEq_f hx (by unfold R; omega) (by omega), ifEq_f hx (by unfold R; omega) (by omega), ifEq_f hx (by unfold R; omega) (by omega), ifEq_t hx (by unfold R; omega) rfl]) (fun s => by unfold Mo_size_b18; rw [wrong_0, bnd2_some, ifEq_t R0 R0 rfl, ifEq_f hx R0 (by omega), ifEq_f hx R1 (by omega), ifEq_f hx (by unfold R; omega) (by omega), ifEq_f hx (by unfold R; omega) (by omega), ifEq_f hx (by unfold R; omega) (by omega), ifEq_t hx (by unfold R; omega) rfl, grd_t ⟨by omega, by omega⟩]) (fun s hC => okP_some ⟨Ch.rf _ _, congrArg Sum.inr hC.1.2.2.2.2.2.1⟩) (fun s hM => okP_some ⟨Ch.rf _ _, hM.1.2.2.1⟩)
    · exact key (wnr X.b.n X.b.f X.b.g) (fun s => bnd2 (Hx_winner s) fun y16 s17 => some (.inr y16, s17)) (fun s => bnd2 (Mo_winner s) fun y23 s24 => some (y23, s24)) (R_tri (wnr_rg hX.1.2.2.2.2.1)) (fun s => by unfold Hx_size; rw [ifEq_f hx R0 (by omega), ifEq_f hx R1 (by omega), ifEq_f hx (by unfold R; omega) (by omega), ifEq_f hx (by unfold R; omega) (by omega), ifEq_f hx (by unfold R; omega) (by omega), ifEq_f hx (by unfold R; omega) (by omega), ifEq_t hx (by unfold R; omega) rfl]) (fun s => by unfold Mo_size_b18; rw [wrong_0, bnd2_some, ifEq_t R0 R0 rfl, ifEq_f hx R0 (by omega), ifEq_f hx R1 (by omega), ifEq_f hx (by unfold R; omega) (by omega), ifEq_f hx (by unfold R; omega) (by omega), ifEq_f hx (by unfold R; omega) (by omega), ifEq_f hx (by unfold R; omega) (by omega), ifEq_t hx (by unfold R; omega) rfl]) (fun s hC => class_start hX.1 hC.1 fun t ht => okP_some ⟨ht.mo (by decide), rfl⟩) (fun s hM => by
        refine okP_bnd2 (Mo_winner_ok hM.1.1 hX.fr hM.1.2.2.2.1 hX.1.2.2.2.2.1) ?_
        rintro y t - q
        exact okP_some q)
    · exact key (bI (csw X.b)) (fun s => bnd2 (Hx_canSwap s) fun y20 s21 => ifEq y20 0 (some (.inr 0, s21)) (some (.inr 1, s21))) (fun s => bnd2 (Mo_canSwap s) fun y27 s28 => ifEq y27 0 (some (0, s28)) (some (1, s28))) (R_bI _) (fun s => by unfold Hx_size; rw [ifEq_f hx R0 (by omega), ifEq_f hx R1 (by omega), ifEq_f hx (by unfold R; omega) (by omega), ifEq_f hx (by unfold R; omega) (by omega), ifEq_f hx (by unfold R; omega) (by omega), ifEq_f hx (by unfold R; omega) (by omega), ifEq_f hx (by unfold R; omega) (by omega), ifEq_t hx (by unfold R; omega) rfl]) (fun s => by unfold Mo_size_b18; rw [wrong_0, bnd2_some, ifEq_t R0 R0 rfl, ifEq_f hx R0 (by omega), ifEq_f hx R1 (by omega), ifEq_f hx (by unfold R; omega) (by omega), ifEq_f hx (by unfold R; omega) (by omega), ifEq_f hx (by unfold R; omega) (by omega), ifEq_f hx (by unfold R; omega) (by omega), ifEq_f hx (by unfold R; omega) (by omega), ifEq_t hx (by unfold R; omega) rfl]) (fun s hC => by
        refine okP_bnd2 (Hx_canSwap_ok hX.1 hC.1) ?_
        rintro y t - ⟨q1, q2⟩
        have q1 : Ch [5, 6, 7, 8, 9] s t := q1
        have q2 : y = bI (csw X.b) := q2
        rw [q2]
        rcases bI_rg (csw X.b) with e | e
        · rw [e, ifEq_t R0 R0 rfl]
          exact okP_some ⟨q1.mo (by decide), rfl⟩
        · rw [e, ifEq_f R1 R0 (by omega)]
          exact okP_some ⟨q1.mo (by decide), rfl⟩) (fun s hM => by
        refine okP_bnd2 (Mo_canSwap_ok hX.1 hM.1) ?_
        rintro y t - ⟨q1, q2⟩
        have q1 : Ch [87] s t := q1
        have q2 : y = bI (csw X.b) := q2
        rw [q2]
        rcases bI_rg (csw X.b) with e | e
        · rw [e, ifEq_t R0 R0 rfl]
          exact okP_some ⟨q1, rfl⟩
        · rw [e, ifEq_f R1 R0 (by omega)]
          exact okP_some ⟨q1, rfl⟩)
    · exact key X.b.g (fun s => some (.inr (gi s 10 6), s)) (fun s => some (gi s 81 3, s)) hgR (fun s => by unfold Hx_size; rw [ifEq_f hx R0 (by omega), ifEq_f hx R1 (by omega), ifEq_f hx (by unfold R; omega) (by omega), ifEq_f hx (by unfold R; omega) (by omega), ifEq_f hx (by unfold R; omega) (by omega), ifEq_f hx (by unfold R; omega) (by omega), ifEq_f hx (by unfold R; omega) (by omega), ifEq_f hx (by unfold R; omega) (by omega), ifEq_t hx (by unfold R; omega) rfl]) (fun s => by unfold Mo_size_b18; rw [wrong_0, bnd2_some, ifEq_t R0 R0 rfl, ifEq_f hx R0 (by omega), ifEq_f hx R1 (by omega), ifEq_f hx (by unfold R; omega) (by omega), ifEq_f hx (by unfold R; omega) (by omega), ifEq_f hx (by unfold R; omega) (by omega), ifEq_f hx (by unfold R; omega) (by omega), ifEq_f hx (by unfold R; omega) (by omega), ifEq_f hx (by unfold R; omega) (by omega), ifEq_t hx (by unfold R; omega) rfl, grd_t ⟨by omega, by omega⟩]) (fun s hC => okP_some ⟨Ch.rf _ _, congrArg Sum.inr hC.1.2.2.2.2.2.2.1⟩) (fun s hM => okP_some ⟨Ch.rf _ _, hM.1.2.2.2.1⟩)
    · exact OpE_h hX hx rfl
  · exact op_bad hX (fun s hC => by unfold Hx_size; rw [ifEq_f hx R0 (by omega), ifEq_f hx R1 (by omega), ifEq_f hx (by unfold R; omega) (by omega), ifEq_f hx (by unfold R; omega) (by omega), ifEq_f hx (by unfold R; omega) (by omega), ifEq_f hx (by unfold R; omega) (by omega), ifEq_f hx (by unfold R; omega) (by omega), ifEq_f hx (by unfold R; omega) (by omega), ifEq_f hx (by unfold R; omega) (by omega), ifEq_f hx (by unfold R; omega) (by omega)]) (fun s hM => ⟨_, by unfold Mo_size Mo_size_b18; rw [grd_t hx, in_f hx R0 R9' h, bnd_some, ifEq_t R0 R0 rfl, wrong_1, bnd2_some, ifEq_f R1 R0 (by omega)]⟩)
end MORE

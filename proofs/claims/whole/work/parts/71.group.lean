/-! ===== group, chain, bridge, size ===== -/
section GRP
variable {X : Xs}
theorem ifEq_t {α : Type} {x y : Int} {A B : Option α} (hx : R x) (hy : R y) (h : x = y) : ifEq x y A B = A := by rw [ifEq_eq _ _ hx hy, if_pos h]
theorem ifEq_f {α : Type} {x y : Int} {A B : Option α} (hx : R x) (hy : R y) (h : x ≠ y) : ifEq x y A B = B := by rw [ifEq_eq _ _ hx hy, if_neg h]
theorem Gm.at {s : Sg} {r n : Nat} {E : Nat → Nat → Prop} (h : Gm s r n E) {c : Nat} (hc : c < n * n) : gi s r ((c : Nat) : Int).toNat = ((lab E c : Nat) : Int) := h c hc
/-- a value that a question of four answers is -/
theorem op_group (hX : XsOK X) {x w : Int} (hx : R x) (hw : R w) : OpE X 2 1 (Hx_group x w) (Mo_group x w) := by
  have h81 := nn_le hX.n9
  have a7 : alen 7 = 81 := rfl
  have a8 : alen 8 = 81 := rfl
  have R3' : R 3 := by unfold R; omega
  have R2' : R 2 := by unfold R; omega
  rcases cell_dec (N := X.b.n * X.b.n) x with ⟨c, rfl, hc⟩ | h
  · by_cases hwr : 0 ≤ w ∧ w ≤ 3
    · by_cases q : X.b.f c = -1
      · refine op_q hX (-1) R_n1 (fun s hC => ?_) fun s hM => ?_
        · unfold Hx_group
          rw [rqC_t hC.1 hc, bndx_some, rqR_t hw R0 R3' hwr, bndx_some, hC.st hX hc, bnd_some, ifEq_t (hX.fr.r hc) R_n1 q]
          exact okP_some ⟨Ch.rf _ _, rfl⟩
        · have hP := MPb hX hM
          unfold Mo_group Mo_group_b26
          rw [noCell_t hM.1.1.1 hc, bnd2_some, ifEq_t R0 R0 rfl, grd_t hw, in_t hw R0 R3' hwr, bnd_some, ifEq_f R1 R0 (by omega), thr_0, bnd2_some, ifEq_t R0 R0 rfl, hP.1.st hc, bnd_some, ifEq_t (hX.fr.r hc) R_n1 q]
          exact qM0 hX hM (L := []) (okP_some ⟨Ch.rf _ _, rfl⟩)
      · have hsd : X.b.f c = 0 ∨ X.b.f c = 1 := (hX.fr c hc).resolve_left q
        have hlr := lab_r (Eb X.b.n X.b.f) c
        have hli := Eb_in hc hlr
        have hll := lab_id (E := Eb X.b.n X.b.f) Eb_sy c
        have hlf : X.b.f (lab (Eb X.b.n X.b.f) c) = X.b.f c := hli.2
        refine op_q hX (if w = 0 then ((lab (Eb X.b.n X.b.f) c : Nat) : Int) else if w = 1 then ((gsz X.b.n X.b.f c : Nat) : Int) else if w = 2 then ((glib X.b.n X.b.f (lab (Eb X.b.n X.b.f) c) : Nat) : Int) else evR X.b.n (Eb X.b.n X.b.f) (X.b.f c) (lab (Eb X.b.n X.b.f) c)) ?_ (fun s hC => ?_) fun s hM => ?_
        · split
          · have := lab_le (Eb X.b.n X.b.f) c
            exact R_nat (by omega)
          · split
            · exact R_cnt hX _
            · split
              · exact R_cnt hX _
              · exact R_evR _ _ _ _
        · unfold Hx_group
          rw [rqC_t hC.1 hc, bndx_some, rqR_t hw R0 R3' hwr, bndx_some, hC.st hX hc, bnd_some, ifEq_f (hX.fr.r hc) R_n1 q]
          refine okP_bnd (gather_ok hC.G ⟨rfl, by decide⟩ hC.cb hX.fr hsd) ?_
          rintro t - ⟨h1, h2⟩
          have e6 : gi t 6 c = ((lab (Eb X.b.n X.b.f) c : Nat) : Int) := (h2.2.1 c (by omega)).1 hc rfl
          have e87 := h2.2.2 _ hli.1 hlf hll
          have hGt := hC.G.c h1
          have hBt : CB t X.b.n 11 X.b.f := hC.cb.ch h1 (by decide)
          by_cases w2 : w = 2
          · rw [ifEq_t hw R2' w2, h2.top hc hX.n9, bnd_some, e6, Hx_liberties_eq hGt h2 hBt hX.fr hli.1 hlf hll, bnd_some]
            refine okP_some ⟨h1.mo (by decide), ?_⟩
            rw [if_neg (by omega), if_neg (by omega), if_pos w2]
          · rw [ifEq_f hw R2' w2]
            unfold Li_number Li_number_b30
            rw [h2.top hc hX.n9, bnd_some, e6]
            by_cases w0 : w = 0
            · rw [ifEq_t hw R0 w0, bnd_some, if_pos w0]
              exact okP_some ⟨h1.mo (by decide), rfl⟩
            · rw [ifEq_f hw R0 w0, if_neg w0]
              by_cases w1 : w = 1
              · rw [ifEq_t hw R1 w1, Hx_at_n (by omega), bnd_some, bnd_some, e87.1, if_pos w1]
                refine okP_some ⟨h1.mo (by decide), ?_⟩
                show Sum.inr ((gsz X.b.n X.b.f (lab (Eb X.b.n X.b.f) c) : Nat) : Int) = _
                rw [gsz_lab]
              · rw [ifEq_f hw R1 w1, Hx_at_n (by omega), bnd_some, bnd_some, e87.2, if_neg w1, if_neg w2]
                exact okP_some ⟨h1.mo (by decide), rfl⟩
        · have hP := MPb hX hM
          unfold Mo_group Mo_group_b26
          rw [noCell_t hM.1.1.1 hc, bnd2_some, ifEq_t R0 R0 rfl, grd_t hw, in_t hw R0 R3' hwr, bnd_some, ifEq_f R1 R0 (by omega), thr_0, bnd2_some, ifEq_t R0 R0 rfl, hP.1.st hc, bnd_some, ifEq_f (hX.fr.r hc) R_n1 q]
          refine qM0 hX hM (L := [87]) (okP_bnd (laysGroups_ok hP.1.1 hP.1.2 hX.fr) ?_)
          rintro t - ⟨h1, h2⟩
          have hMt : MB t X.b.n X.b.f := hP.1.ch h1 (by decide)
          rw [grd_t ⟨by omega, by omega⟩, lett_eq, Gm.at h2 hc]
          by_cases w0 : w = 0
          · rw [ifEq_t hw R0 w0, if_pos w0]
            exact okP_some ⟨h1, rfl⟩
          · rw [ifEq_f hw R0 w0, if_neg w0]
            by_cases w1 : w = 1
            · rw [ifEq_t hw R1 w1, Mo_groupStones_eq hMt hX.fr h2 hc q, bnd_some, if_pos w1]
              exact okP_some ⟨h1, rfl⟩
            · rw [ifEq_f hw R1 w1, if_neg w1]
              by_cases w2 : w = 2
              · rw [ifEq_t hw R2' w2, Mo_freeBeside_eq hMt hX.fr h2 hli.1 (by rw [hlf]; exact q) hll, bnd_some, if_pos w2]
                exact okP_some ⟨h1, rfl⟩
              · rw [ifEq_f hw R2' w2, hMt.st hc, bnd_some, Mo_groupEdges_eq hMt hX.fr h2 hsd hli.1, bnd_some, if_neg w2]
                refine okP_some ⟨h1, ?_⟩
                have key : ∀ e : Int, (∃ x, x < X.b.n * X.b.n ∧ X.b.f x = X.b.f c ∧ lab (Eb X.b.n X.b.f) x = lab (Eb X.b.n X.b.f) c ∧ edg X.b.n (X.b.f c) x = e) ↔ ∃ x, Rch (Eb X.b.n X.b.f) (lab (Eb X.b.n X.b.f) c) x ∧ edg X.b.n (X.b.f c) x = e := by
                  intro e
                  constructor
                  · rintro ⟨z, -, -, z3, z4⟩
                    exact ⟨z, ((lab_iff Eb_sy).mp (hll.trans z3.symm)), z4⟩
                  · rintro ⟨z, z1, z2⟩
                    have z3 := Eb_in hli.1 z1
                    exact ⟨z, z3.1, z3.2.trans hlf, ((lab_iff Eb_sy).mpr z1).symm.trans hll, z2⟩
                exact evc (key 1) (key 2)
    · refine ⟨2, 0, X, R2', hX, fun s hC => ?_, fun s hM => ?_⟩
      · unfold Hx_group
        rw [rqC_t hC.1 hc, bndx_some, rqR_f hw R0 R3' hwr, bndx_thrown]
        exact eI2 hC 0
      · unfold Mo_group Mo_group_b26
        rw [noCell_t hM.1.1.1 hc, bnd2_some, ifEq_t R0 R0 rfl, grd_t hw, in_f hw R0 R3' hwr, bnd_some, ifEq_t R0 R0 rfl, thr_1, bnd2_some, ifEq_f R1 R0 (by omega)]
        exact eM' hX hM (by omega) _ _
  · exact op_badX hX (fun s hC => by unfold Hx_group; rw [rqC_f hC.1 hx h, bndx_thrown]) (fun s hM => ⟨_, by unfold Mo_group; rw [noCell_f hM.1.1.1 hx h, bnd2_some, ifEq_eq _ _ R1 R0, if_neg (by omega)]⟩)
theorem op_chain (hX : XsOK X) {x w : Int} (hx : R x) (hw : R w) : OpE X 2 1 (Hx_chain x w) (Mo_chain x w) := by
  have h81 := nn_le hX.n9
  have a7 : alen 7 = 81 := rfl
  have a8 : alen 8 = 81 := rfl
  have R3' : R 3 := by unfold R; omega
  have R2' : R 2 := by unfold R; omega
  rcases cell_dec (N := X.b.n * X.b.n) x with ⟨c, rfl, hc⟩ | h
  · by_cases hwr : 0 ≤ w ∧ w ≤ 3
    · by_cases q : X.b.f c = -1
      · refine op_q hX (-1) R_n1 (fun s hC => ?_) fun s hM => ?_
        · unfold Hx_chain
          rw [rqC_t hC.1 hc, bndx_some, rqR_t hw R0 R3' hwr, bndx_some, hC.st hX hc, bnd_some, ifEq_t (hX.fr.r hc) R_n1 q]
          exact okP_some ⟨Ch.rf _ _, rfl⟩
        · have hP := MPb hX hM
          unfold Mo_chain Mo_chain_b26
          rw [noCell_t hM.1.1.1 hc, bnd2_some, ifEq_t R0 R0 rfl, grd_t hw, in_t hw R0 R3' hwr, bnd_some, ifEq_f R1 R0 (by omega), thr_0, bnd2_some, ifEq_t R0 R0 rfl, hP.1.st hc, bnd_some, ifEq_t (hX.fr.r hc) R_n1 q]
          exact qM0 hX hM (L := []) (okP_some ⟨Ch.rf _ _, rfl⟩)
      · have hsd : X.b.f c = 0 ∨ X.b.f c = 1 := (hX.fr c hc).resolve_left q
        have hE : Ein X.b.n X.b.f (Ech X.b.n X.b.f (X.b.f c)) := Ein_Ech hX.1.1
        have hbw := brs_w (f := X.b.f) (sd := X.b.f c) hX.1.1
        have hlr := lab_r (Ech X.b.n X.b.f (X.b.f c)) c
        have hli := hE.r hc hlr
        have hll := lab_id (E := Ech X.b.n X.b.f (X.b.f c)) hE.1 c
        have hlf : X.b.f (lab (Ech X.b.n X.b.f (X.b.f c)) c) = X.b.f c := hli.2
        refine op_q hX (if w = 0 then ((lab (Ech X.b.n X.b.f (X.b.f c)) c : Nat) : Int) else if w = 1 then ((cnt (fun x => Rch (Ech X.b.n X.b.f (X.b.f c)) c x) (X.b.n * X.b.n) : Nat) : Int) else if w = 2 then ((cnt (fun i => eCt (brs X.b.n X.b.f (X.b.f c)) i = 1 ∧ lab (Ech X.b.n X.b.f (X.b.f c)) (eLow (brs X.b.n X.b.f (X.b.f c)) i) = lab (Ech X.b.n X.b.f (X.b.f c)) c) (brs X.b.n X.b.f (X.b.f c)).1 : Nat) : Int) else evC X.b.n X.b.f (X.b.f c) (lab (Ech X.b.n X.b.f (X.b.f c)) c)) ?_ (fun s hC => ?_) fun s hM => ?_
        · split
          · have := lab_le (Ech X.b.n X.b.f (X.b.f c)) c
            exact R_nat (by omega)
          · split
            · exact R_cnt hX _
            · split
              · have := cnt_le (fun i => eCt (brs X.b.n X.b.f (X.b.f c)) i = 1 ∧ lab (Ech X.b.n X.b.f (X.b.f c)) (eLow (brs X.b.n X.b.f (X.b.f c)) i) = lab (Ech X.b.n X.b.f (X.b.f c)) c) (brs X.b.n X.b.f (X.b.f c)).1
                have := hbw.2
                exact R_nat (by omega)
              · exact R_ev _ _
        · unfold Hx_chain
          rw [rqC_t hC.1 hc, bndx_some, rqR_t hw R0 R3' hwr, bndx_some, hC.st hX hc, bnd_some, ifEq_f (hX.fr.r hc) R_n1 q]
          refine okP_bnd (gatherChains_ok hC.G hC.T hC.cb hX.fr hsd) ?_
          rintro t - ⟨h1, h2, h3⟩
          have e6 : gi t 6 c = ((lab (Ech X.b.n X.b.f (X.b.f c)) c : Nat) : Int) := (h2.2.1 c (by omega)).1 hc rfl
          have e87 := h2.2.2 _ hli.1 hlf hll
          have hGt := hC.G.c h1
          by_cases w2 : w = 2
          · rw [ifEq_t hw R2' w2, h2.top hc hX.n9, bnd_some, e6, h2.countingIn hGt h3 hbw.1 hbw.2 hli.1, bnd_some]
            refine okP_some ⟨h1.mo (by decide), ?_⟩
            rw [if_neg (by omega), if_neg (by omega), if_pos w2]
          · rw [ifEq_f hw R2' w2]
            unfold Li_number Li_number_b30
            rw [h2.top hc hX.n9, bnd_some, e6]
            by_cases w0 : w = 0
            · rw [ifEq_t hw R0 w0, bnd_some, if_pos w0]
              exact okP_some ⟨h1.mo (by decide), rfl⟩
            · rw [ifEq_f hw R0 w0, if_neg w0]
              by_cases w1 : w = 1
              · rw [ifEq_t hw R1 w1, Hx_at_n (by omega), bnd_some, bnd_some, e87.1, if_pos w1]
                refine okP_some ⟨h1.mo (by decide), ?_⟩
                rw [cnt_congr (fun x _ => ⟨fun h => hlr.tr h, fun h => (hlr.sy hE.1).tr h⟩)]
              · rw [ifEq_f hw R1 w1, Hx_at_n (by omega), bnd_some, bnd_some, e87.2, if_neg w1, if_neg w2]
                exact okP_some ⟨h1.mo (by decide), rfl⟩
        · have hP := MPb hX hM
          unfold Mo_chain Mo_chain_b26
          rw [noCell_t hM.1.1.1 hc, bnd2_some, ifEq_t R0 R0 rfl, grd_t hw, in_t hw R0 R3' hwr, bnd_some, ifEq_f R1 R0 (by omega), thr_0, bnd2_some, ifEq_t R0 R0 rfl, hP.1.st hc, bnd_some, ifEq_f (hX.fr.r hc) R_n1 q]
          refine qM0 hX hM (L := [94, 8024, 8025, 8026, 8027, 88, 89, 90, 91, 92, 93]) (okP_bnd (laysChains_ok hP.1 hX.fr hsd) ?_)
          rintro t - ⟨h1, h2, h3⟩
          have hMt : MB t X.b.n X.b.f := hP.1.ch h1 (by decide)
          rw [grd_t ⟨by omega, by omega⟩, lett_eq, Gm.at h3 hc]
          by_cases w0 : w = 0
          · rw [ifEq_t hw R0 w0, if_pos w0]
            exact okP_some ⟨h1, rfl⟩
          · rw [ifEq_f hw R0 w0, if_neg w0]
            by_cases w1 : w = 1
            · rw [ifEq_t hw R1 w1, Mo_chainStones_eq hMt hX.fr hE h3 hsd hc rfl, bnd_some, if_pos w1]
              exact okP_some ⟨h1, rfl⟩
            · rw [ifEq_f hw R1 w1, if_neg w1]
              by_cases w2 : w = 2
              · rw [ifEq_t hw R2' w2, Mo_chainBridges_eq hMt h3 h2 hbw.1 hbw.2 hli.1, bnd_some, if_pos w2]
                exact okP_some ⟨h1, rfl⟩
              · rw [ifEq_f hw R2' w2, Mo_chainEdges_eq hMt hX.fr h3 h2 hsd hli.1 hlf hll, bnd_some, if_neg w2]
                exact okP_some ⟨h1, rfl⟩
    · refine ⟨2, 0, X, R2', hX, fun s hC => ?_, fun s hM => ?_⟩
      · unfold Hx_chain
        rw [rqC_t hC.1 hc, bndx_some, rqR_f hw R0 R3' hwr, bndx_thrown]
        exact eI2 hC 0
      · unfold Mo_chain Mo_chain_b26
        rw [noCell_t hM.1.1.1 hc, bnd2_some, ifEq_t R0 R0 rfl, grd_t hw, in_f hw R0 R3' hwr, bnd_some, ifEq_t R0 R0 rfl, thr_1, bnd2_some, ifEq_f R1 R0 (by omega)]
        exact eM' hX hM (by omega) _ _
  · exact op_badX hX (fun s hC => by unfold Hx_chain; rw [rqC_f hC.1 hx h, bndx_thrown]) (fun s hM => ⟨_, by unfold Mo_chain; rw [noCell_f hM.1.1.1 hx h, bnd2_some, ifEq_eq _ _ R1 R0, if_neg (by omega)]⟩)
end GRP

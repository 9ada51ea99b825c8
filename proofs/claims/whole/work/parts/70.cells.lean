/-! ===== the questions about cells, bridges and chains ===== -/
def OpB (X : Xs) (cI cX : Int) (A : Sg → Option ((Nat ⊕ Int) × Sg)) (B : Sg → Option (Int × Sg)) : Prop := ∃ c v X', (v = 0 ∨ v = 1) ∧ R c ∧ XsOK X' ∧ (∀ s, CI X s → okP (A s) (CPost cI cX c v X' s)) ∧ ∀ s, MI X s → okP (B s) (MPost c v X' s)
section CEL
variable {X : Xs} {A : Sg → Option ((Nat ⊕ Int) × Sg)} {B : Sg → Option (Int × Sg)} {cI cX : Int}
theorem fst1_s {p : Nat → Prop} {m : Nat} (h : fst1 p m < m) : p (fst1 p m) := by
  by_cases q : ∃ k, k < m ∧ p k ∧ ∀ j, j < k → ¬ p j
  · obtain ⟨k, h1, h2, h3⟩ := q
    rw [fst1_k h1 h2 h3]
    exact h2
  · have e : fst1 p m = m := dif_neg q
    omega
theorem evc {p q p' q' : Prop} (h1 : p ↔ p') (h2 : q ↔ q') : ev p q = ev p' q' := by rw [propext h1, propext h2]
theorem CI.st {s : Sg} (h : CI X s) (hX : XsOK X) {c : Nat} (hc : c < X.b.n * X.b.n) : Po_stone 10 (c : Int) s = some (X.b.f c) := by
  have h81 := nn_le hX.n9
  have a11 : alen 11 = 81 := rfl
  unfold Po_stone
  show bnd (Hx_at 11 (c : Int) s) _ = _
  rw [Hx_at_n (by omega), bnd_some, h.cb c hc]
theorem ob_q (hX : XsOK X) (v : Int) (hv : v = 0 ∨ v = 1) (hA : ∀ s, CI X s → okP (A s) (fun o => Ch LC s o.2 ∧ o.1 = .inr v)) (hB : ∀ s, MI X s → okP (B s) (MPost 0 v X s)) : OpB X cI cX A B :=
  ⟨0, v, X, hv, R0, hX, fun s hC => qC hC (hA s hC) (R_01 hv), hB⟩
theorem op_cell (hX : XsOK X) {x : Int} (hx : R x) : OpE X 0 1 (Hx_cell x) (Mo_cell x) := by
  rcases cell_dec (N := X.b.n * X.b.n) x with ⟨c, rfl, hc⟩ | h
  · refine op_q hX (X.b.f c) (hX.fr.r hc) (fun s hC => ?_) fun s hM => ?_
    · unfold Hx_cell
      rw [rqC_t hC.1 hc, bndx_some, hC.st hX hc, bnd_some]
      exact okP_some ⟨Ch.rf _ _, rfl⟩
    · have hP := MPb hX hM
      unfold Mo_cell
      rw [noCell_t hM.1.1.1 hc, bnd2_some, ifEq_eq _ _ R0 R0, if_pos rfl, hP.1.st hc, bnd_some]
      exact qM0 hX hM (L := []) (okP_some ⟨Ch.rf _ _, rfl⟩)
  · exact op_badX hX (fun s hC => by unfold Hx_cell; rw [rqC_f hC.1 hx h, bndx_thrown]) (fun s hM => ⟨_, by unfold Mo_cell; rw [noCell_f hM.1.1.1 hx h, bnd2_some, ifEq_eq _ _ R1 R0, if_neg (by omega)]⟩)
theorem nbx_R {n : Nat} (hn : n ≤ 9) (c : Nat) (k : Int) : R (nbx n c k) := by
  have h81 := nn_le hn
  unfold nbx
  split
  · rcases nbj_rg n c k.toNat with e | ⟨y, e, hy, -⟩
    · rw [e]; exact R_n1
    · rw [e]; exact R_nat (by omega)
  · exact R_n1
theorem op_neighbour (hX : XsOK X) {x k : Int} (hx : R x) (hk : R k) : OpE X 0 1 (Hx_neighbour x k) (Mo_neighbour x k) := by
  rcases cell_dec (N := X.b.n * X.b.n) x with ⟨c, rfl, hc⟩ | h
  · refine op_q hX (nbx X.b.n c k) (nbx_R hX.n9 _ _) (fun s hC => ?_) fun s hM => ?_
    · unfold Hx_neighbour
      rw [rqC_t hC.1 hc, bndx_some, Gr_near_all hC.G hc hk, bnd_some]
      exact okP_some ⟨Ch.rf _ _, rfl⟩
    · have hP := MPb hX hM
      unfold Mo_neighbour
      rw [noCell_t hM.1.1.1 hc, bnd2_some, ifEq_eq _ _ R0 R0, if_pos rfl, Mo_neighbour_l15_eq hP.1.1 hc hk]
      exact qM0 hX hM (L := []) (okP_some ⟨Ch.rf _ _, rfl⟩)
  · exact op_badX hX (fun s hC => by unfold Hx_neighbour; rw [rqC_f hC.1 hx h, bndx_thrown]) (fun s hM => ⟨_, by unfold Mo_neighbour; rw [noCell_f hM.1.1.1 hx h, bnd2_some, ifEq_eq _ _ R1 R0, if_neg (by omega)]⟩)
theorem op_through (hX : XsOK X) {x y : Int} (hx : R x) (hy : R y) : OpE X 1 2 (Hx_through x y) (Mo_through x y) := by
  by_cases h : x = 0 ∨ x = 1
  · rcases cell_dec (N := X.b.n * X.b.n) y with ⟨c, rfl, hc⟩ | hn
    · refine op_q hX (pco X.b.n X.b.f x c) (pco_R hX.n9 _ _ _) (fun s hC => ?_) fun s hM => ?_
      · unfold Hx_through
        rw [rqS_t h, bndx_some, rqC_t hC.1 hc, bndx_some]
        refine okP_bnd2 (pathsOf_ok hC.G hC.cb hX.fr h) ?_
        rintro z t - ⟨h1, h2, h3⟩
        have h1 : z = pr x := h1
        have h2 : Ch [64, 65, 66, 68, 69, 70] s t := Ch.mo h2 pr_in
        have h3 : PX t (pr x) X.b.n X.b.f x := h3
        rw [h1, Pa_cost_eq hX.n9 h h3 hc, bnd_some]
        exact okP_some ⟨h2.mo (by decide), rfl⟩
      · have hP := MPb hX hM
        unfold Mo_through Mo_through_b22
        rw [noSide_t h, bnd2_some, ifEq_eq _ _ R0 R0, if_pos rfl, isCell_t hP.1.1 hc, bnd_some, ifEq_eq _ _ R1 R0, if_neg (by omega), thr_0, bnd2_some, ifEq_eq _ _ R0 R0, if_pos rfl]
        refine qM0 hX hM (L := [95, 96]) (okP_bnd (laysWays_ok hP.1 hX.fr h) ?_)
        rintro t - ⟨h1, h2⟩
        rw [Mo_by_eq (hP.1.ch h1 (by decide)) hX.fr h h2 hc, bnd_some]
        exact okP_some ⟨h1, rfl⟩
    · refine ⟨2, 0, X, by unfold R; omega, hX, fun s hC => ?_, fun s hM => ?_⟩
      · unfold Hx_through
        rw [rqS_t h, bndx_some, rqC_f hC.1 hy hn, bndx_thrown]
        exact eX2 hC 0
      · have hP := MPb hX hM
        unfold Mo_through Mo_through_b22
        rw [noSide_t h, bnd2_some, ifEq_eq _ _ R0 R0, if_pos rfl, isCell_f hP.1.1 hy hn, bnd_some, ifEq_eq _ _ R0 R0, if_pos rfl, thr_1, bnd2_some, ifEq_eq _ _ R1 R0, if_neg (by omega)]
        exact eM' hX hM (by omega) _ _
  · exact op_bad hX (fun s hC => by unfold Hx_through; rw [rqS_f hx h, bndx_thrown]) (fun s hM => ⟨_, by unfold Mo_through; rw [noSide_f hx h, bnd2_some, ifEq_eq _ _ R1 R0, if_neg (by omega)]⟩)
theorem op_isSafe (hX : XsOK X) {x : Int} (hx : R x) : OpB X 1 0 (Hx_isSafe x) (Mo_isSafe x) := by
  by_cases h : x = 0 ∨ x = 1
  · refine ob_q hX (bI (∃ k, k < X.b.n * X.b.n ∧ X.b.f k = x ∧ lab (Ech X.b.n X.b.f x) k = k ∧ evC X.b.n X.b.f x k = 3)) (bI_rg _) (fun s hC => ?_) fun s hM => ?_
    · unfold Hx_isSafe
      rw [rqS_t h, bndx_some]
      refine okP_bnd (gatherChains_ok hC.G hC.T hC.cb hX.fr h) ?_
      rintro t - ⟨h1, h2, h3⟩
      rw [LkC.joined (hC.G.c h1) h2, bnd_some, grd_t (show b01 _ from bI_rg _)]
      exact okP_some ⟨h1.mo (by decide), rfl⟩
    · have hP := MPb hX hM
      unfold Mo_isSafe
      rw [noSide_t h, bnd2_some, ifEq_eq _ _ R0 R0, if_pos rfl]
      refine qM0 hX hM (L := [94, 8024, 8025, 8026, 8027, 88, 89, 90, 91, 92, 93]) (okP_bnd (laysChains_ok hP.1 hX.fr h) ?_)
      rintro t - ⟨h1, h2, h3⟩
      rw [Mo_isSafe_l17_eq (hP.1.ch h1 (by decide)) hX.fr h3 h2 h]
      exact okP_some ⟨h1, rfl⟩
  · exact ⟨1, 0, X, Or.inl rfl, R1, hX, fun s hC => by unfold Hx_isSafe; rw [rqS_f hx h, bndx_thrown]; exact eI hC 0, fun s hM => by unfold Mo_isSafe; rw [noSide_f hx h, bnd2_some, ifEq_eq _ _ R1 R0, if_neg (by omega)]; exact eM hX hM (by omega) _ _⟩
theorem op_isBridge (hX : XsOK X) {x y : Int} (hx : R x) (hy : R y) : OpB X 0 1 (Hx_isBridge x y) (Mo_isBridge x y) := by
  have h81 := nn_le hX.n9
  rcases cell_dec (N := X.b.n * X.b.n) x with ⟨a, rfl, ha⟩ | h
  · rcases cell_dec (N := X.b.n * X.b.n) y with ⟨c, rfl, hc⟩ | h
    · refine ob_q hX (bI (BrC X.b.n X.b.f a c)) (bI_rg _) (fun s hC => ?_) fun s hM => ?_
      · unfold Hx_isBridge
        rw [rqC_t hC.1 ha, bndx_some, rqC_t hC.1 hc, bndx_some, hC.st hX ha, bnd_some, ifEq_eq _ _ (hX.fr.r ha) R_n1]
        by_cases q : X.b.f a = -1
        · rw [if_pos q, bI_f (fun z => z.2.1 q)]
          exact okP_some ⟨Ch.rf _ _, rfl⟩
        · have hsd : X.b.f a = 0 ∨ X.b.f a = 1 := (hX.fr a ha).resolve_left q
          rw [if_neg q]
          refine okP_bnd (Bl_find_ok hC.G hC.T hsd (r1 := 11) ⟨rfl, by decide⟩ hC.cb hX.fr) ?_
          rintro t - ⟨h1, h2⟩
          have e1 : min (a : Int) (c : Int) = ((min a c : Nat) : Int) := by omega
          have e2 : max (a : Int) (c : Int) = ((max a c : Nat) : Int) := by omega
          have hw := brs_w (f := X.b.f) (sd := X.b.f a) hX.1.1
          rw [grd_t ⟨hx, hy⟩, grd_t ⟨hx, hy⟩, e1, e2, Bl_has_eq hX.n9 h2 hw.1 hw.2 (by omega) (by omega), bnd_some, grd_t (show b01 _ from bI_rg _), propext (bMem_BrC ha hc rfl q)]
          exact okP_some ⟨h1.mo (by decide), rfl⟩
      · have hP := MPb hX hM
        unfold Mo_isBridge Mo_isBridge_b22
        rw [isCell_t hM.1.1.1 ha, bnd_some, ifEq_eq _ _ R1 R0, if_neg (by omega), isCell_t hM.1.1.1 hc, bnd_some, ifEq_eq _ _ R1 R0, if_neg (by omega), wrong_0, bnd2_some, ifEq_eq _ _ R0 R0, if_pos rfl]
        refine qM0 hX hM (L := [8025, 8026, 8027]) (okP_bnd2 (Mo_joinsCells_ok hP.1 hX.fr ha hc) ?_)
        rintro z t - ⟨h1, h2, -⟩
        have h1 : Ch [8025, 8026, 8027] (si s 80 0 0) t := h1
        have h2 : z = bI (BrC X.b.n X.b.f a c) := h2
        rw [h2, grd_t (show b01 _ from bI_rg _)]
        exact okP_some ⟨h1, rfl⟩
    · refine ⟨1, 0, X, Or.inl rfl, R1, hX, fun s hC => ?_, fun s hM => ?_⟩
      · unfold Hx_isBridge
        rw [rqC_t hC.1 ha, bndx_some, rqC_f hC.1 hy h, bndx_thrown]
        exact eX hC 0
      · unfold Mo_isBridge Mo_isBridge_b17 Mo_isBridge_b22
        rw [isCell_t hM.1.1.1 ha, bnd_some, ifEq_eq _ _ R1 R0, if_neg (by omega), isCell_f hM.1.1.1 hy h, bnd_some, ifEq_eq _ _ R0 R0, if_pos rfl, wrong_1, bnd2_some, ifEq_eq _ _ R1 R0, if_neg (by omega)]
        exact eM hX hM (by omega) _ _
  · refine ⟨1, 0, X, Or.inl rfl, R1, hX, fun s hC => ?_, fun s hM => ?_⟩
    · unfold Hx_isBridge
      rw [rqC_f hC.1 hx h, bndx_thrown]
      exact eX hC 0
    · unfold Mo_isBridge Mo_isBridge_b17 Mo_isBridge_b22
      rw [isCell_f hM.1.1.1 hx h, bnd_some, ifEq_eq _ _ R0 R0, if_pos rfl, wrong_1, bnd2_some, ifEq_eq _ _ R1 R0, if_neg (by omega)]
      exact eM hX hM (by omega) _ _
theorem bcnt_R {n : Nat} (hn : 2 ≤ n ∧ n ≤ 9) (f : Nat → Int) (sd : Int) : R ((bcnt (brs n f sd) : Nat) : Int) := by
  have h1 := (brs_w (f := f) (sd := sd) hn).2
  have h2 := cnt_le (fun i => eCt (brs n f sd) i = 1) (brs n f sd).1
  have h2 : bcnt (brs n f sd) ≤ (brs n f sd).1 := h2
  exact R_nat (by omega)
theorem op_bridges (hX : XsOK X) {x y : Int} (hx : R x) (hy : R y) : OpE X 1 0 (Hx_bridges x y) (Mo_bridges x y) := by
  by_cases h : x = 0 ∨ x = 1
  · have hw := brs_w (f := X.b.f) (sd := x) hX.1.1
    refine op_q hX (if y = 0 then ((brs X.b.n X.b.f x).1 : Int) else ((bcnt (brs X.b.n X.b.f x) : Nat) : Int)) (by
      split
      · exact R_nat (by have := hw.2; omega)
      · exact bcnt_R hX.1.1 _ _) (fun s hC => ?_) fun s hM => ?_
    · unfold Hx_bridges
      rw [rqS_t h, bndx_some]
      refine okP_bnd (Bl_find_ok hC.G hC.T h (r1 := 11) ⟨rfl, by decide⟩ hC.cb hX.fr) ?_
      rintro t - ⟨h1, h2⟩
      rw [ifEq_eq _ _ hy R0, h2.1]
      by_cases q : y = 0
      · rw [if_pos q, if_pos q]
        exact okP_some ⟨h1.mo (by decide), rfl⟩
      · rw [if_neg q, if_neg q, Bl_counting_eq h2 hw.1 hw.2, bnd_some]
        exact okP_some ⟨h1.mo (by decide), rfl⟩
    · have hP := MPb hX hM
      unfold Mo_bridges
      rw [noSide_t h, bnd2_some, ifEq_eq _ _ R0 R0, if_pos rfl]
      refine qM0 hX hM (L := MBs) (okP_bnd (laysBridges_ok hP.1 hX.fr h) ?_)
      rintro t - ⟨h1, h2⟩
      rw [Mo_bridges_l20_eq h2 hw.1 hw.2 hy]
      exact okP_some ⟨h1, rfl⟩
  · exact op_bad hX (fun s hC => by unfold Hx_bridges; rw [rqS_f hx h, bndx_thrown]) (fun s hM => ⟨_, by unfold Mo_bridges; rw [noSide_f hx h, bnd2_some, ifEq_eq _ _ R1 R0, if_neg (by omega)]⟩)
theorem op_answer (hX : XsOK X) {x : Int} (hx : R x) : OpE X 0 1 (Hx_answer x) (Mo_answer x) := by
  have h1t := hX.1.tc
  have hw := brs_w (f := X.b.f) (sd := 1 - X.b.t) hX.1.1
  have h81 := nn_le hX.n9
  rcases cell_dec (N := X.b.n * X.b.n) x with ⟨c, rfl, hc⟩ | h
  · refine op_q hX (ocr (brs X.b.n X.b.f (1 - X.b.t)) (c : Int)) (cellR hX.n9 (by
      rcases ocr_rg hw.1 (c := (c : Int)) with e | ⟨y, e, hy, -⟩
      · exact Or.inl e
      · exact Or.inr ⟨y, e, hy⟩)) (fun s hC => ?_) fun s hM => ?_
    · unfold Hx_answer
      rw [rqC_t hC.1 hc, bndx_some, hC.1.2.2.2.2.2.1, Hx_otherSide_eq hX.1.2.2.2.1, bnd_some]
      refine okP_bnd (Bl_find_ok hC.G hC.T h1t (r1 := 11) ⟨rfl, by decide⟩ hC.cb hX.fr) ?_
      rintro t - ⟨h1, h2⟩
      rw [Bl_otherCarrier_eq hX.n9 h2 hw.1 hw.2 hx, bnd_some]
      exact okP_some ⟨h1.mo (by decide), rfl⟩
    · have hP := MPb hX hM
      unfold Mo_answer
      rw [noCell_t hM.1.1.1 hc, bnd2_some, ifEq_eq _ _ R0 R0, if_pos rfl, hP.1.st hc, bnd_some, ifEq_eq _ _ (hX.fr.r hc) R_n1]
      by_cases q : X.b.f c = -1
      · rw [if_pos q, grd_t ⟨by omega, by omega⟩, hP.2.2.1]
        refine qM0 hX hM (L := MBs) (okP_bnd2 (P := fun o => Ch MBs (si s 80 0 0) o.2 ∧ o.1 = ocr (brs X.b.n X.b.f (1 - X.b.t)) (c : Int)) ?_ ?_)
        · unfold Mo_answerBy
          refine okP_bnd (laysBridges_ok hP.1 hX.fr h1t) ?_
          rintro t - ⟨h1, h2⟩
          rw [Mo_answerBy_l7_eq hX.n9 h2 hw.1 hw.2 hx]
          exact okP_some ⟨h1, rfl⟩
        · rintro y t - ⟨h1, h2⟩
          exact okP_some ⟨h1, h2⟩
      · rw [if_neg q]
        refine qM0 hX hM (L := []) (okP_some ⟨Ch.rf _ _, ?_⟩)
        show -1 = ocr (brs X.b.n X.b.f (1 - X.b.t)) (c : Int)
        unfold ocr
        rw [if_neg]
        intro z
        obtain ⟨k1, k2⟩ := fst1_s z
        obtain ⟨k, l, g, -, e1, e2, -, hlg, hg, -, fl, fg, -⟩ := hw.1.1 _ z
        rcases k2 with k2 | k2
        · have e3 : (l : Int) = (c : Int) := e1.symm.trans k2
          have e3 : l = c := by omega
          exact q (e3 ▸ fl)
        · have e3 : (g : Int) = (c : Int) := e2.symm.trans k2
          have e3 : g = c := by omega
          exact q (e3 ▸ fg)
  · exact op_badX hX (fun s hC => by unfold Hx_answer; rw [rqC_f hC.1 hx h, bndx_thrown]) (fun s hM => ⟨_, by unfold Mo_answer; rw [noCell_f hM.1.1.1 hx h, bnd2_some, ifEq_eq _ _ R1 R0, if_neg (by omega)]⟩)
end CEL

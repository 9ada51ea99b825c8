/-! ===== the questions: what the class answers ===== -/
theorem cq_groups {X : Xs} (hX : XsOK X)  {x : Int} (hx : R x) (h : x = 0 ∨ x = 1) {s : Sg} (hC : CI X s) : okP (Hx_groups x s) (fun o => Ch LC s o.2 ∧ o.1 = .inr ((cnt (fun c => X.b.f c = x ∧ lab (Eb X.b.n X.b.f) c = c) (X.b.n * X.b.n) : Nat) : Int)) := by
  unfold Hx_groups
  rw [rqS_t h, bndx_some]
  refine okP_bnd (gather_ok hC.G ⟨rfl, by decide⟩ hC.cb hX.fr h) ?_
  rintro t - ⟨h1, h2⟩
  rw [Li_parts_eq (hC.G.c h1) h2, bnd_some]
  exact okP_some ⟨h1.mo (by decide), rfl⟩
theorem cq_largest {X : Xs} (hX : XsOK X)  {x : Int} (hx : R x) (h : x = 0 ∨ x = 1) {s : Sg} (hC : CI X s) : okP (Hx_largest x s) (fun o => Ch LC s o.2 ∧ o.1 = .inr (bst X.b.n X.b.f x (X.b.n * X.b.n))) := by
  unfold Hx_largest
  rw [rqS_t h, bndx_some]
  refine okP_bnd (gather_ok hC.G ⟨rfl, by decide⟩ hC.cb hX.fr h) ?_
  rintro t - ⟨h1, h2⟩
  rw [Li_largestPart_eq (hC.G.c h1) h2, bnd_some]
  exact okP_some ⟨h1.mo (by decide), rfl⟩
theorem cq_threats {X : Xs} (hX : XsOK X)  {x : Int} (hx : R x) (h : x = 0 ∨ x = 1) {s : Sg} (hC : CI X s) : okP (Hx_threats x s) (fun o => Ch LC s o.2 ∧ o.1 = .inr (thc X.b.n X.b.f x : Int)) := by
  have hle := thc_le X.b.n X.b.f x
  have h81 := nn_le hX.n9
  unfold Hx_threats
  rw [rqS_t h, bndx_some]
  refine okP_bnd2 (countThreats_ok hC.G hC.cb hX.fr h) ?_
  rintro y t - ⟨h1, h2⟩
  have h2 : y = (thc X.b.n X.b.f x : Int) := h2
  rw [h2]
  exact okP_some ⟨h1.mo (by decide), rfl⟩
theorem cq_threat {X : Xs} (hX : XsOK X)  {x k : Int} (hx : R x) (hk : R k) (h : x = 0 ∨ x = 1) {s : Sg} (hC : CI X s) : okP (Hx_threat x k s) (fun o => Ch LC s o.2 ∧ o.1 = .inr (tho X.b.n X.b.f x k)) := by
  unfold Hx_threat
  rw [rqS_t h, bndx_some]
  refine okP_bnd2 (findThreat_ok hC.G hC.cb hX.fr h hk) ?_
  rintro y t - ⟨h1, h2⟩
  have h2 : y = tho X.b.n X.b.f x k := h2
  rw [h2]
  exact okP_some ⟨h1.mo (by decide), rfl⟩
theorem cq_distance {X : Xs} (hX : XsOK X)  {x : Int} (hx : R x) (h : x = 0 ∨ x = 1) {s : Sg} (hC : CI X s) : okP (Hx_distance x s) (fun o => Ch LC s o.2 ∧ o.1 = .inr (lsw X.b.n X.b.f x (X.b.n * X.b.n))) := by
  unfold Hx_distance
  rw [rqS_t h, bndx_some]
  refine okP_bnd2 (pathsOf_ok hC.G hC.cb hX.fr h) ?_
  rintro y t - ⟨h1, h2, h3⟩
  have h1 : y = pr x := h1
  have h2 : Ch [64, 65, 66, 68, 69, 70] s t := Ch.mo h2 pr_in
  have h3 : PX t (pr x) X.b.n X.b.f x := h3
  rw [h1, Pa_least_eq (hC.G.c h2) h h3, bnd_some]
  exact okP_some ⟨h2.mo (by decide), rfl⟩
theorem cq_useful {X : Xs} (hX : XsOK X)  {x : Int} (hx : R x) (h : x = 0 ∨ x = 1) {s : Sg} (hC : CI X s) : okP (Hx_useful x s) (fun o => Ch LC s o.2 ∧ o.1 = .inr ((usf X.b.n X.b.f x : Nat) : Int)) := by
  unfold Hx_useful
  rw [rqS_t h, bndx_some]
  refine okP_bnd2 (pathsOf_ok hC.G hC.cb hX.fr h) ?_
  rintro y t - ⟨h1, h2, h3⟩
  have h1 : y = pr x := h1
  have h2 : Ch [64, 65, 66, 68, 69, 70] s t := Ch.mo h2 pr_in
  have h3 : PX t (pr x) X.b.n X.b.f x := h3
  have hCt := hC.ch h2
  rw [h1, Pa_least_eq (hC.G.c h2) h h3, bnd_some]
  rw [useful_l_eq hCt.G hCt.cb hX.fr h h3]
  exact okP_some ⟨h2.mo (by decide), rfl⟩
theorem cq_chains {X : Xs} (hX : XsOK X)  {x : Int} (hx : R x) (h : x = 0 ∨ x = 1) {s : Sg} (hC : CI X s) : okP (Hx_chains x s) (fun o => Ch LC s o.2 ∧ o.1 = .inr ((cnt (fun c => X.b.f c = x ∧ lab (Ech X.b.n X.b.f x) c = c) (X.b.n * X.b.n) : Nat) : Int)) := by
  unfold Hx_chains
  rw [rqS_t h, bndx_some]
  refine okP_bnd (gatherChains_ok hC.G hC.T hC.cb hX.fr h) ?_
  rintro t - ⟨h1, h2, h3⟩
  rw [LkC.parts (hC.G.c h1) h2, bnd_some]
  exact okP_some ⟨h1.mo (by decide), rfl⟩
theorem cq_cell {X : Xs} (hX : XsOK X) {c : Nat}   (hx : R (c : Int)) (hc : c < X.b.n * X.b.n) {s : Sg} (hC : CI X s) : okP (Hx_cell (c : Int) s) (fun o => Ch LC s o.2 ∧ o.1 = .inr (X.b.f c)) := by
  unfold Hx_cell
  rw [rqC_t hC.1 hc, bndx_some, hC.st hX hc, bnd_some]
  exact okP_some ⟨Ch.rf _ _, rfl⟩
theorem cq_neighbour {X : Xs} (hX : XsOK X) {c : Nat}  {k : Int} (hx : R (c : Int)) (hk : R k) (hc : c < X.b.n * X.b.n) {s : Sg} (hC : CI X s) : okP (Hx_neighbour (c : Int) k s) (fun o => Ch LC s o.2 ∧ o.1 = .inr (nbx X.b.n c k)) := by
  unfold Hx_neighbour
  rw [rqC_t hC.1 hc, bndx_some, Gr_near_all hC.G hc hk, bnd_some]
  exact okP_some ⟨Ch.rf _ _, rfl⟩
theorem cq_through {X : Xs} (hX : XsOK X) {c : Nat}  {x : Int} (hx : R x) (hy : R (c : Int)) (h : x = 0 ∨ x = 1) (hc : c < X.b.n * X.b.n) {s : Sg} (hC : CI X s) : okP (Hx_through x (c : Int) s) (fun o => Ch LC s o.2 ∧ o.1 = .inr (pco X.b.n X.b.f x c)) := by
  unfold Hx_through
  rw [rqS_t h, bndx_some, rqC_t hC.1 hc, bndx_some]
  refine okP_bnd2 (pathsOf_ok hC.G hC.cb hX.fr h) ?_
  rintro z t - ⟨h1, h2, h3⟩
  have h1 : z = pr x := h1
  have h2 : Ch [64, 65, 66, 68, 69, 70] s t := Ch.mo h2 pr_in
  have h3 : PX t (pr x) X.b.n X.b.f x := h3
  rw [h1, Pa_cost_eq hX.n9 h h3 hc, bnd_some]
  exact okP_some ⟨h2.mo (by decide), rfl⟩
theorem cq_isSafe {X : Xs} (hX : XsOK X)  {x : Int} (hx : R x) (h : x = 0 ∨ x = 1) {s : Sg} (hC : CI X s) : okP (Hx_isSafe x s) (fun o => Ch LC s o.2 ∧ o.1 = .inr (bI (∃ k, k < X.b.n * X.b.n ∧ X.b.f k = x ∧ lab (Ech X.b.n X.b.f x) k = k ∧ evC X.b.n X.b.f x k = 3))) := by
  unfold Hx_isSafe
  rw [rqS_t h, bndx_some]
  refine okP_bnd (gatherChains_ok hC.G hC.T hC.cb hX.fr h) ?_
  rintro t - ⟨h1, h2, h3⟩
  rw [LkC.joined (hC.G.c h1) h2, bnd_some, grd_t (show b01 _ from bI_rg _)]
  exact okP_some ⟨h1.mo (by decide), rfl⟩
theorem cq_isBridge {X : Xs} (hX : XsOK X) {c : Nat} {a : Nat}   (hx : R (a : Int)) (hy : R (c : Int)) (ha : a < X.b.n * X.b.n) (hc : c < X.b.n * X.b.n) {s : Sg} (hC : CI X s) : okP (Hx_isBridge (a : Int) (c : Int) s) (fun o => Ch LC s o.2 ∧ o.1 = .inr (bI (BrC X.b.n X.b.f a c))) := by
  have h81 := nn_le hX.n9
  unfold Hx_isBridge
  rw [rqC_t hC.1 ha, bndx_some, rqC_t hC.1 hc, bndx_some, hC.st hX ha, bnd_some, ifEq_eq _ _ (hX.fr.r ha) R_n1]
  by_cases q : X.b.f a = -1
  · rw [if_pos q, bI_f (fun z => z.2.1 q)]
    exact okP_some ⟨Ch.rf _ _, rfl⟩
  · have hsd : X.b.f a = 0 ∨ X.b.f a = 1 := (hX.fr a ha).resolve_left q
    rw [if_neg q]
    refine okP_bnd (Bl_find_ok hC.G hC.T hsd (r1 := 11) ⟨rfl, by decide⟩ hC.cb hX.fr) ?_
    rintro t - ⟨h1, h2⟩
    have e1 : min (a : Int) (c : Int) = ((min a c : Nat) : Int) := by omega
    have e2 : max (a : Int) (c : Int) = ((max a c : Nat) : Int) := by omega
    have hw := brs_w (f := X.b.f) (sd := X.b.f a) hX.1.1
    rw [grd_t ⟨hx, hy⟩, grd_t ⟨hx, hy⟩, e1, e2, Bl_has_eq hX.n9 h2 hw.1 hw.2 (by omega) (by omega), bnd_some, grd_t (show b01 _ from bI_rg _), propext (bMem_BrC ha hc rfl q)]
    exact okP_some ⟨h1.mo (by decide), rfl⟩
theorem cq_bridges {X : Xs} (hX : XsOK X)  {x y : Int} (hx : R x) (hy : R y) (h : x = 0 ∨ x = 1) {s : Sg} (hC : CI X s) : okP (Hx_bridges x y s) (fun o => Ch LC s o.2 ∧ o.1 = .inr (if y = 0 then ((brs X.b.n X.b.f x).1 : Int) else ((bcnt (brs X.b.n X.b.f x) : Nat) : Int))) := by
  have hw := brs_w (f := X.b.f) (sd := x) hX.1.1
  unfold Hx_bridges
  rw [rqS_t h, bndx_some]
  refine okP_bnd (Bl_find_ok hC.G hC.T h (r1 := 11) ⟨rfl, by decide⟩ hC.cb hX.fr) ?_
  rintro t - ⟨h1, h2⟩
  rw [ifEq_eq _ _ hy R0, h2.1]
  by_cases q : y = 0
  · rw [if_pos q, if_pos q]
    exact okP_some ⟨h1.mo (by decide), rfl⟩
  · rw [if_neg q, if_neg q, Bl_counting_eq h2 hw.1 hw.2, bnd_some]
    exact okP_some ⟨h1.mo (by decide), rfl⟩
theorem cq_answer {X : Xs} (hX : XsOK X) {c : Nat}   (hx : R (c : Int)) (hc : c < X.b.n * X.b.n) {s : Sg} (hC : CI X s) : okP (Hx_answer (c : Int) s) (fun o => Ch LC s o.2 ∧ o.1 = .inr (ocr (brs X.b.n X.b.f (1 - X.b.t)) (c : Int))) := by
  have h1t := hX.1.tc
  have hw := brs_w (f := X.b.f) (sd := 1 - X.b.t) hX.1.1
  have h81 := nn_le hX.n9
  unfold Hx_answer
  rw [rqC_t hC.1 hc, bndx_some, hC.1.2.2.2.2.2.1, Hx_otherSide_eq hX.1.2.2.2.1, bnd_some]
  refine okP_bnd (Bl_find_ok hC.G hC.T h1t (r1 := 11) ⟨rfl, by decide⟩ hC.cb hX.fr) ?_
  rintro t - ⟨h1, h2⟩
  rw [Bl_otherCarrier_eq hX.n9 h2 hw.1 hw.2 hx, bnd_some]
  exact okP_some ⟨h1.mo (by decide), rfl⟩
theorem cq_group {X : Xs} (hX : XsOK X) {c : Nat}  {w : Int} (hx : R (c : Int)) (hw : R w) (hc : c < X.b.n * X.b.n) (hwr : 0 ≤ w ∧ w ≤ 3) (q : X.b.f c = -1) {s : Sg} (hC : CI X s) : okP (Hx_group (c : Int) w s) (fun o => Ch LC s o.2 ∧ o.1 = .inr (-1)) := by
  have h81 := nn_le hX.n9
  have a7 : alen 7 = 81 := rfl
  have a8 : alen 8 = 81 := rfl
  have R3' : R 3 := by unfold R; omega
  have R2' : R 2 := by unfold R; omega
  unfold Hx_group
  rw [rqC_t hC.1 hc, bndx_some, rqR_t hw R0 R3' hwr, bndx_some, hC.st hX hc, bnd_some, ifEq_t (hX.fr.r hc) R_n1 q]
  exact okP_some ⟨Ch.rf _ _, rfl⟩
theorem cq_group_2 {X : Xs} (hX : XsOK X) {c : Nat}  {w : Int} (hx : R (c : Int)) (hw : R w) (hc : c < X.b.n * X.b.n) (hwr : 0 ≤ w ∧ w ≤ 3) (q : ¬ (X.b.f c = -1)) {s : Sg} (hC : CI X s) : okP (Hx_group (c : Int) w s) (fun o => Ch LC s o.2 ∧ o.1 = .inr (if w = 0 then ((lab (Eb X.b.n X.b.f) c : Nat) : Int) else if w = 1 then ((gsz X.b.n X.b.f c : Nat) : Int) else if w = 2 then ((glib X.b.n X.b.f (lab (Eb X.b.n X.b.f) c) : Nat) : Int) else evR X.b.n (Eb X.b.n X.b.f) (X.b.f c) (lab (Eb X.b.n X.b.f) c))) := by
  have h81 := nn_le hX.n9
  have a7 : alen 7 = 81 := rfl
  have a8 : alen 8 = 81 := rfl
  have R3' : R 3 := by unfold R; omega
  have R2' : R 2 := by unfold R; omega
  have hsd : X.b.f c = 0 ∨ X.b.f c = 1 := (hX.fr c hc).resolve_left q
  have hlr := lab_r (Eb X.b.n X.b.f) c
  have hli := Eb_in hc hlr
  have hll := lab_id (E := Eb X.b.n X.b.f) Eb_sy c
  have hlf : X.b.f (lab (Eb X.b.n X.b.f) c) = X.b.f c := hli.2
  unfold Hx_group
  rw [rqC_t hC.1 hc, bndx_some, rqR_t hw R0 R3' hwr, bndx_some, hC.st hX hc, bnd_some, ifEq_f (hX.fr.r hc) R_n1 q]
  refine okP_bnd (gather_ok hC.G ⟨rfl, by decide⟩ hC.cb hX.fr hsd) ?_
  rintro t - ⟨h1, h2⟩
  have e6 : gi t 6 c = ((lab (Eb X.b.n X.b.f) c : Nat) : Int) := (h2.2.1 c (by omega)).1 hc rfl
  have e87 := h2.2.2 _ hli.1 hlf hll
  have hGt := hC.G.c h1
  have hBt : CB t X.b.n 11 X.b.f := hC.cb.ch h1 (by decide)
  by_cases w2 : w = 2
  · rw [ifEq_t hw R2' w2, h2.top hc hX.n9, bnd_some, e6, Hx_liberties_eq hGt h2 hBt hX.fr hli.1 hlf hll, bnd_some]
    refine okP_some ⟨h1.mo (by decide), ?_⟩
    rw [if_neg (by omega), if_neg (by omega), if_pos w2]
  · rw [ifEq_f hw R2' w2]
    unfold Li_number Li_number_b30
    rw [h2.top hc hX.n9, bnd_some, e6]
    by_cases w0 : w = 0
    · rw [ifEq_t hw R0 w0, bnd_some, if_pos w0]
      exact okP_some ⟨h1.mo (by decide), rfl⟩
    · rw [ifEq_f hw R0 w0, if_neg w0]
      by_cases w1 : w = 1
      · rw [ifEq_t hw R1 w1, Hx_at_n (by omega), bnd_some, bnd_some, e87.1, if_pos w1]
        refine okP_some ⟨h1.mo (by decide), ?_⟩
        show Sum.inr ((gsz X.b.n X.b.f (lab (Eb X.b.n X.b.f) c) : Nat) : Int) = _
        rw [gsz_lab]
      · rw [ifEq_f hw R1 w1, Hx_at_n (by omega), bnd_some, bnd_some, e87.2, if_neg w1, if_neg w2]
        exact okP_some ⟨h1.mo (by decide), rfl⟩
theorem cq_chain {X : Xs} (hX : XsOK X) {c : Nat}  {w : Int} (hx : R (c : Int)) (hw : R w) (hc : c < X.b.n * X.b.n) (hwr : 0 ≤ w ∧ w ≤ 3) (q : X.b.f c = -1) {s : Sg} (hC : CI X s) : okP (Hx_chain (c : Int) w s) (fun o => Ch LC s o.2 ∧ o.1 = .inr (-1)) := by
  have h81 := nn_le hX.n9
  have a7 : alen 7 = 81 := rfl
  have a8 : alen 8 = 81 := rfl
  have R3' : R 3 := by unfold R; omega
  have R2' : R 2 := by unfold R; omega
  unfold Hx_chain
  rw [rqC_t hC.1 hc, bndx_some, rqR_t hw R0 R3' hwr, bndx_some, hC.st hX hc, bnd_some, ifEq_t (hX.fr.r hc) R_n1 q]
  exact okP_some ⟨Ch.rf _ _, rfl⟩
theorem cq_chain_2 {X : Xs} (hX : XsOK X) {c : Nat}  {w : Int} (hx : R (c : Int)) (hw : R w) (hc : c < X.b.n * X.b.n) (hwr : 0 ≤ w ∧ w ≤ 3) (q : ¬ (X.b.f c = -1)) {s : Sg} (hC : CI X s) : okP (Hx_chain (c : Int) w s) (fun o => Ch LC s o.2 ∧ o.1 = .inr (if w = 0 then ((lab (Ech X.b.n X.b.f (X.b.f c)) c : Nat) : Int) else if w = 1 then ((cnt (fun x => Rch (Ech X.b.n X.b.f (X.b.f c)) c x) (X.b.n * X.b.n) : Nat) : Int) else if w = 2 then ((cnt (fun i => eCt (brs X.b.n X.b.f (X.b.f c)) i = 1 ∧ lab (Ech X.b.n X.b.f (X.b.f c)) (eLow (brs X.b.n X.b.f (X.b.f c)) i) = lab (Ech X.b.n X.b.f (X.b.f c)) c) (brs X.b.n X.b.f (X.b.f c)).1 : Nat) : Int) else evC X.b.n X.b.f (X.b.f c) (lab (Ech X.b.n X.b.f (X.b.f c)) c))) := by
  have h81 := nn_le hX.n9
  have a7 : alen 7 = 81 := rfl
  have a8 : alen 8 = 81 := rfl
  have R3' : R 3 := by unfold R; omega
  have R2' : R 2 := by unfold R; omega
  have hsd : X.b.f c = 0 ∨ X.b.f c = 1 := (hX.fr c hc).resolve_left q
  have hE : Ein X.b.n X.b.f (Ech X.b.n X.b.f (X.b.f c)) := Ein_Ech hX.1.1
  have hbw := brs_w (f := X.b.f) (sd := X.b.f c) hX.1.1
  have hlr := lab_r (Ech X.b.n X.b.f (X.b.f c)) c
  have hli := hE.r hc hlr
  have hll := lab_id (E := Ech X.b.n X.b.f (X.b.f c)) hE.1 c
  have hlf : X.b.f (lab (Ech X.b.n X.b.f (X.b.f c)) c) = X.b.f c := hli.2
  unfold Hx_chain
  rw [rqC_t hC.1 hc, bndx_some, rqR_t hw R0 R3' hwr, bndx_some, hC.st hX hc, bnd_some, ifEq_f (hX.fr.r hc) R_n1 q]
  refine okP_bnd (gatherChains_ok hC.G hC.T hC.cb hX.fr hsd) ?_
  rintro t - ⟨h1, h2, h3⟩
  have e6 : gi t 6 c = ((lab (Ech X.b.n X.b.f (X.b.f c)) c : Nat) : Int) := (h2.2.1 c (by omega)).1 hc rfl
  have e87 := h2.2.2 _ hli.1 hlf hll
  have hGt := hC.G.c h1
  by_cases w2 : w = 2
  · rw [ifEq_t hw R2' w2, h2.top hc hX.n9, bnd_some, e6, h2.countingIn hGt h3 hbw.1 hbw.2 hli.1, bnd_some]
    refine okP_some ⟨h1.mo (by decide), ?_⟩
    rw [if_neg (by omega), if_neg (by omega), if_pos w2]
  · rw [ifEq_f hw R2' w2]
    unfold Li_number Li_number_b30
    rw [h2.top hc hX.n9, bnd_some, e6]
    by_cases w0 : w = 0
    · rw [ifEq_t hw R0 w0, bnd_some, if_pos w0]
      exact okP_some ⟨h1.mo (by decide), rfl⟩
    · rw [ifEq_f hw R0 w0, if_neg w0]
      by_cases w1 : w = 1
      · rw [ifEq_t hw R1 w1, Hx_at_n (by omega), bnd_some, bnd_some, e87.1, if_pos w1]
        refine okP_some ⟨h1.mo (by decide), ?_⟩
        rw [cnt_congr (fun x _ => ⟨fun h => hlr.tr h, fun h => (hlr.sy hE.1).tr h⟩)]
      · rw [ifEq_f hw R1 w1, Hx_at_n (by omega), bnd_some, bnd_some, e87.2, if_neg w1, if_neg w2]
        exact okP_some ⟨h1.mo (by decide), rfl⟩
theorem cq_bridge {X : Xs} (hX : XsOK X)  {x w : Int} {k : Nat} (hx : R x) (hi : R (k : Int)) (hw : R w) (h : x = 0 ∨ x = 1) (hwr : 0 ≤ w ∧ w ≤ 4) (hk : k < (brs X.b.n X.b.f x).1) {s : Sg} (hC : CI X s) : okP (Hx_bridge x (k : Int) w s) (fun o => Ch LC s o.2 ∧ o.1 = .inr (if w = 0 then ((brs X.b.n X.b.f x).2.1 k).1 else if w = 1 then ((brs X.b.n X.b.f x).2.1 k).2.1 else if w = 2 then ((brs X.b.n X.b.f x).2.1 k).2.2.1 else if w = 3 then ((brs X.b.n X.b.f x).2.1 k).2.2.2.1 else ((brs X.b.n X.b.f x).2.1 k).2.2.2.2)) := by
  have R4' : R 4 := by unfold R; omega
  have R3' : R 3 := by unfold R; omega
  have R2' : R 2 := by unfold R; omega
  have a57 : alen 57 = 405 := rfl
  have a58 : alen 58 = 405 := rfl
  have a59 : alen 59 = 405 := rfl
  have a60 : alen 60 = 405 := rfl
  have a61 : alen 61 = 405 := rfl
  have hbw := brs_w (f := X.b.f) (sd := x) hX.1.1
  have hm := hbw.2
  obtain ⟨k0, l0, g0, q1, q2, q3, q4, q5, q6, -, -, -, q7, q8⟩ := hbw.1.1 k hk
  have h81 := nn_le hX.n9
  have r1 : R ((brs X.b.n X.b.f x).2.1 k).1 := by rw [q1]; exact R_nat (by omega)
  have r2 : R ((brs X.b.n X.b.f x).2.1 k).2.1 := by
    rcases q7 with ⟨o, e, ho, -⟩ | e | e
    · rw [e]; exact R_nat (by omega)
    · rw [e]; unfold R; omega
    · rw [e]; unfold R; omega
  have r3 : R ((brs X.b.n X.b.f x).2.1 k).2.2.1 := by rw [q2]; exact R_nat (by omega)
  have r4 : R ((brs X.b.n X.b.f x).2.1 k).2.2.2.1 := by rw [q3]; exact R_nat (by omega)
  have r5 : R ((brs X.b.n X.b.f x).2.1 k).2.2.2.2 := R_01 q8
  unfold Hx_bridge
  rw [rqS_t h, bndx_some, rqR_t hw R0 R4' hwr, bndx_some]
  refine okP_bnd (Bl_find_ok hC.G hC.T h (r1 := 11) ⟨rfl, by decide⟩ hC.cb hX.fr) ?_
  rintro t - ⟨h1, h2⟩
  have h2 : ClB t (brs X.b.n X.b.f x) := h2
  obtain ⟨e1, e2, e3, e4, e5⟩ := h2.2.1 k hk
  unfold Bl_number
  rw [ifLt_eq _ _ hi R0, if_neg (by omega), h2.1, ifLt_eq _ _ hi (R_nat (by omega)), if_pos (by omega)]
  by_cases w0 : w = 0
  · rw [ifEq_t hw R0 w0, Hx_at_n (by omega), bnd_some, bnd_some, e1, if_pos w0]
    exact okP_some ⟨h1.mo (by decide), rfl⟩
  · rw [ifEq_f hw R0 w0, if_neg w0]
    by_cases w1 : w = 1
    · rw [ifEq_t hw R1 w1, Hx_at_n (by omega), bnd_some, bnd_some, e2, if_pos w1]
      exact okP_some ⟨h1.mo (by decide), rfl⟩
    · rw [ifEq_f hw R1 w1, if_neg w1]
      by_cases w2 : w = 2
      · rw [ifEq_t hw R2' w2, Hx_at_n (by omega), bnd_some, bnd_some, e3, if_pos w2]
        exact okP_some ⟨h1.mo (by decide), rfl⟩
      · rw [ifEq_f hw R2' w2, if_neg w2]
        by_cases w3 : w = 3
        · rw [ifEq_t hw R3' w3, Hx_at_n (by omega), bnd_some, bnd_some, e4, if_pos w3]
          exact okP_some ⟨h1.mo (by decide), rfl⟩
        · rw [ifEq_f hw R3' w3, Hx_at_n (by omega), bnd_some, bnd_some, e5, if_neg w3]
          exact okP_some ⟨h1.mo (by decide), rfl⟩
theorem cq_bridge_2 {X : Xs} (hX : XsOK X)  {x i w : Int} (hx : R x) (hi : R i) (hw : R w) (h : x = 0 ∨ x = 1) (hwr : 0 ≤ w ∧ w ≤ 4) (hi' : ¬ (∃ k : Nat, i = (k : Int) ∧ k < (brs X.b.n X.b.f x).1)) {s : Sg} (hC : CI X s) : okP (Hx_bridge x i w s) (fun o => Ch LC s o.2 ∧ o.1 = .inr (-1)) := by
  have R4' : R 4 := by unfold R; omega
  have R3' : R 3 := by unfold R; omega
  have R2' : R 2 := by unfold R; omega
  have a57 : alen 57 = 405 := rfl
  have a58 : alen 58 = 405 := rfl
  have a59 : alen 59 = 405 := rfl
  have a60 : alen 60 = 405 := rfl
  have a61 : alen 61 = 405 := rfl
  have hbw := brs_w (f := X.b.f) (sd := x) hX.1.1
  have hm := hbw.2
  have hno : ¬ (0 ≤ i ∧ i < ((brs X.b.n X.b.f x).1 : Int)) := fun z => hi' ⟨i.toNat, by omega, by omega⟩
  unfold Hx_bridge
  rw [rqS_t h, bndx_some, rqR_t hw R0 R4' hwr, bndx_some]
  refine okP_bnd (Bl_find_ok hC.G hC.T h (r1 := 11) ⟨rfl, by decide⟩ hC.cb hX.fr) ?_
  rintro t - ⟨h1, h2⟩
  have h2 : ClB t (brs X.b.n X.b.f x) := h2
  unfold Bl_number
  rw [ifLt_eq _ _ hi R0]
  by_cases z : i < 0
  · rw [if_pos z, bnd_some]
    exact okP_some ⟨h1.mo (by decide), rfl⟩
  · rw [if_neg z, h2.1, ifLt_eq _ _ hi (R_nat (by omega)), if_neg (by omega), bnd_some]
    exact okP_some ⟨h1.mo (by decide), rfl⟩
theorem cq_potential {X : Xs} (hX : XsOK X) {c : Nat}  {x : Int} {k : Nat} (hx : R x) (hy : R (c : Int)) (hw : R (k : Int)) (h : x = 0 ∨ x = 1) (hwr : 0 ≤ (k : Int) ∧ (k : Int) ≤ 100) (hc : c < X.b.n * X.b.n) {s : Sg} (hC : CI X s) : okP (Hx_potential x (c : Int) (k : Int) s) (fun o => Ch LC s o.2 ∧ o.1 = .inr (if wtI X.b.f x c = 0 then -1 else sws X.b.n X.b.f x k c)) := by
  have h81 := nn_le hX.n9
  have a73 : alen 73 = 81 := rfl
  have hk : k ≤ 100 := by omega
  have hl := sws_rg X.b.n X.b.f x k c
  unfold Hx_potential
  rw [rqS_t h, bndx_some, rqR_t hw R0 R100 hwr, bndx_some, rqC_t hC.1 hc, bndx_some]
  refine okP_bnd2 (Fl_run_ok hC.G hC.cb hX.fr h hk) ?_
  rintro z t - ⟨h1, h2, h3⟩
  have h2 : FC t X.b.n X.b.f x (sws X.b.n X.b.f x k) := h2
  unfold Fl_level
  rw [Hx_at_n (by omega), bnd_some, bnd_some, (h2.2 c hc).2]
  exact okP_some ⟨Ch.mo h1 (by decide), rfl⟩
theorem cq_filled {X : Xs} (hX : XsOK X)  {x : Int} (hx : R x) (h : 0 ≤ x ∧ x ≤ 2147483647) {s : Sg} (hC : CI X s) : okP (Hx_filled x s) (fun o => Ch LC s o.2 ∧ o.1 = .inr (fow X.b.n (fil X.b.n x X.b.f (X.b.n * X.b.n)).2)) := by
  have hx' := hx
  unfold R at hx'
  have hr : 0 ≤ x ∧ x < 2147483648 := by omega
  unfold Hx_filled Fi_begin
  rw [rqR_t hx R0 R_big h, bndx_some, lett_eq, bnd_some]
  have h0 : Ch [78] s (si s 78 3 x) := Ch.si (by decide)
  refine okP_bnd2 (Fi_next_ok (hC.G.c h0) (hC.cb.ch h0 (by decide)) hX.fr (gi_si_s _ _ _ _)) ?_
  rintro y u - ⟨h1, -, -, h4⟩
  have h4 : y = fow X.b.n (fil X.b.n x X.b.f (X.b.n * X.b.n)).2 := h4
  rw [h4]
  exact okP_some ⟨(h0.mo (by decide)).tr (Ch.mo h1 (by decide)), rfl⟩
theorem cq_idle {X : Xs} (hX : XsOK X)  {x : Int} (hx : R x) (h : 0 ≤ x ∧ x ≤ 2147483647) {s : Sg} (hC : CI X s) : okP (Hx_idle x s) (fun o => Ch LC s o.2 ∧ o.1 = .inr ((cnt (idl X.b.n X.b.f (fil X.b.n x X.b.f (X.b.n * X.b.n)).2) (X.b.n * X.b.n) : Nat) : Int)) := by
  have hx' := hx
  unfold R at hx'
  have hr : 0 ≤ x ∧ x < 2147483648 := by omega
  unfold Hx_idle Fi_begin
  rw [rqR_t hx R0 R_big h, bndx_some, lett_eq, bnd_some]
  have h0 : Ch [78] s (si s 78 3 x) := Ch.si (by decide)
  refine okP_bnd2 (Fi_next_ok (hC.G.c h0) (hC.cb.ch h0 (by decide)) hX.fr (gi_si_s _ _ _ _)) ?_
  rintro y u - ⟨h1, -, h3, h4⟩
  have h1 : Ch Ci (si s 78 3 x) u := h1
  have h3 : CB u X.b.n 79 (fil X.b.n x X.b.f (X.b.n * X.b.n)).2 := h3
  have h4 : y = fow X.b.n (fil X.b.n x X.b.f (X.b.n * X.b.n)).2 := h4
  rw [h4]
  refine okP_bnd2 (countIdle_ok ((hC.G.c h0).c h1) ((hC.cb.ch h0 (by decide)).ch h1 (by decide)) hX.fr h3 (fil_full hX.fr)) ?_
  rintro z w - ⟨k1, k2⟩
  have k1 : Ch [5, 6, 7, 8, 9] u w := k1
  have k2 : z = (cnt (idl X.b.n X.b.f (fil X.b.n x X.b.f (X.b.n * X.b.n)).2) (X.b.n * X.b.n) : Int) := k2
  rw [k2]
  exact okP_some ⟨((h0.mo (by decide)).tr (Ch.mo h1 (by decide))).tr (k1.mo (by decide)), rfl⟩
theorem cq_fillings {X : Xs} (hX : XsOK X)  {x y : Int} {k : Nat} (hx : R x) (hy : R y) (hz : R (k : Int)) (h : x = 0 ∨ x = 1) (hyr : 0 ≤ y ∧ y ≤ 2147483647) (hzr : 1 ≤ (k : Int) ∧ (k : Int) ≤ 100) {s : Sg} (hC : CI X s) : okP (Hx_fillings x y (k : Int) s) (fun o => Ch LC s o.2 ∧ o.1 = .inr ((flc X.b.n y X.b.f x k : Nat) : Int)) := by
  have hy' := hy
  unfold R at hy'
  have hr : 0 ≤ y ∧ y < 2147483648 := by omega
  have hk : k ≤ 100 := by omega
  have hle : flc X.b.n y X.b.f x k ≤ k := cnt_le _ _
  unfold Hx_fillings Fi_begin
  rw [rqS_t h, bndx_some, rqR_t hy R0 R_big hyr, bndx_some, rqR_t hz R1 R100 hzr, bndx_some, lett_eq, bnd_some]
  have h0 : Ch [78] s (si s 78 3 y) := Ch.si (by decide)
  refine okP_mono (fillings_l_ok (hC.G.c h0) (hC.cb.ch h0 (by decide)) hX.fr h hk (gi_si_s _ _ _ _)) fun o ⟨h1, h2⟩ => ⟨(h0.mo (by decide)).tr (h1.mo (by decide)), h2⟩
theorem cq_forced {X : Xs} (hX : XsOK X)  {s : Sg} (hC : CI X s) : okP (Hx_forced s) (fun o => Ch LC s o.2 ∧ o.1 = (fcd X.b)) := by
  unfold Hx_forced
  refine okP_bnd2 (forcedCell_ok hX.1 hC.1) ?_
  rintro y u - ⟨h1, h2⟩
  exact okP_some ⟨Ch.mo h1 (by decide), h2⟩
theorem cq_size0 {X : Xs} (hX : XsOK X) {s : Sg} (hC : CI X s) : okP (Hx_size 0 s) (fun o => Ch LC s o.2 ∧ o.1 = .inr ((X.b.n : Nat) : Int)) := by
  have h81 := nn_le hX.n9
  have hn9 := hX.n9
  have hgR : R X.b.g := R_tri hX.1.2.2.2.2.1
  have htR : R X.b.t := R_01 hX.1.2.2.2.1
  have hm := hX.1.2.2.2.2.2.1
  have hx : R 0 := by unfold R; omega
  have cnC : ∀ w s, R w → CI X s → Po_count 10 w s = some ((cnt (fun c => X.b.f c = w) (X.b.n * X.b.n) : Nat) : Int) := fun w s hw hC => Po_count_eq hX.n9 hC.1.2.2.1 rfl hC.cb hX.fr hw
  have e1 : ∀ s, Hx_size 0 s = (some (.inr (gi s 10 2), s) : Option ((Nat ⊕ Int) × Sg)) := (fun s => by unfold Hx_size; rw [ifEq_t hx R0 rfl])
  have k1 : ∀ s, CI X s → okP (some (.inr (gi s 10 2), s) : Option ((Nat ⊕ Int) × Sg)) (fun o => Ch LC s o.2 ∧ o.1 = .inr ((X.b.n : Nat) : Int)) := (fun s hC => okP_some ⟨Ch.rf _ _, congrArg Sum.inr hC.1.2.2.1⟩)
  rw [e1]
  exact k1 s hC
theorem cq_size1 {X : Xs} (hX : XsOK X) {s : Sg} (hC : CI X s) : okP (Hx_size 1 s) (fun o => Ch LC s o.2 ∧ o.1 = .inr ((cnt (fun c => X.b.f c = 0) (X.b.n * X.b.n) : Nat) : Int)) := by
  have h81 := nn_le hX.n9
  have hn9 := hX.n9
  have hgR : R X.b.g := R_tri hX.1.2.2.2.2.1
  have htR : R X.b.t := R_01 hX.1.2.2.2.1
  have hm := hX.1.2.2.2.2.2.1
  have hx : R 1 := by unfold R; omega
  have cnC : ∀ w s, R w → CI X s → Po_count 10 w s = some ((cnt (fun c => X.b.f c = w) (X.b.n * X.b.n) : Nat) : Int) := fun w s hw hC => Po_count_eq hX.n9 hC.1.2.2.1 rfl hC.cb hX.fr hw
  have e1 : ∀ s, Hx_size 1 s = (bnd (Po_count 10 0 s) fun y3 => some (.inr y3, s) : Option ((Nat ⊕ Int) × Sg)) := (fun s => by unfold Hx_size; rw [ifEq_f hx R0 (by omega), ifEq_t hx (by unfold R; omega) rfl])
  have k1 : ∀ s, CI X s → okP (bnd (Po_count 10 0 s) fun y3 => some (.inr y3, s) : Option ((Nat ⊕ Int) × Sg)) (fun o => Ch LC s o.2 ∧ o.1 = .inr ((cnt (fun c => X.b.f c = 0) (X.b.n * X.b.n) : Nat) : Int)) := (fun s hC => by rw [cnC 0 s R0 hC, bnd_some]; exact okP_some ⟨Ch.rf _ _, rfl⟩)
  rw [e1]
  exact k1 s hC
theorem cq_size2 {X : Xs} (hX : XsOK X) {s : Sg} (hC : CI X s) : okP (Hx_size 2 s) (fun o => Ch LC s o.2 ∧ o.1 = .inr ((cnt (fun c => X.b.f c = 1) (X.b.n * X.b.n) : Nat) : Int)) := by
  have h81 := nn_le hX.n9
  have hn9 := hX.n9
  have hgR : R X.b.g := R_tri hX.1.2.2.2.2.1
  have htR : R X.b.t := R_01 hX.1.2.2.2.1
  have hm := hX.1.2.2.2.2.2.1
  have hx : R 2 := by unfold R; omega
  have cnC : ∀ w s, R w → CI X s → Po_count 10 w s = some ((cnt (fun c => X.b.f c = w) (X.b.n * X.b.n) : Nat) : Int) := fun w s hw hC => Po_count_eq hX.n9 hC.1.2.2.1 rfl hC.cb hX.fr hw
  have e1 : ∀ s, Hx_size 2 s = (bnd (Po_count 10 1 s) fun y3 => some (.inr y3, s) : Option ((Nat ⊕ Int) × Sg)) := (fun s => by unfold Hx_size; rw [ifEq_f hx R0 (by omega), ifEq_f hx R1 (by omega), ifEq_t hx (by unfold R; omega) rfl])
  have k1 : ∀ s, CI X s → okP (bnd (Po_count 10 1 s) fun y3 => some (.inr y3, s) : Option ((Nat ⊕ Int) × Sg)) (fun o => Ch LC s o.2 ∧ o.1 = .inr ((cnt (fun c => X.b.f c = 1) (X.b.n * X.b.n) : Nat) : Int)) := (fun s hC => by rw [cnC 1 s R1 hC, bnd_some]; exact okP_some ⟨Ch.rf _ _, rfl⟩)
  rw [e1]
  exact k1 s hC
theorem cq_size3 {X : Xs} (hX : XsOK X) {s : Sg} (hC : CI X s) : okP (Hx_size 3 s) (fun o => Ch LC s o.2 ∧ o.1 = .inr ((cnt (fun c => X.b.f c = -1) (X.b.n * X.b.n) : Nat) : Int)) := by
  have h81 := nn_le hX.n9
  have hn9 := hX.n9
  have hgR : R X.b.g := R_tri hX.1.2.2.2.2.1
  have htR : R X.b.t := R_01 hX.1.2.2.2.1
  have hm := hX.1.2.2.2.2.2.1
  have hx : R 3 := by unfold R; omega
  have cnC : ∀ w s, R w → CI X s → Po_count 10 w s = some ((cnt (fun c => X.b.f c = w) (X.b.n * X.b.n) : Nat) : Int) := fun w s hw hC => Po_count_eq hX.n9 hC.1.2.2.1 rfl hC.cb hX.fr hw
  have e1 : ∀ s, Hx_size 3 s = (bnd (Po_count 10 (-1) s) fun y3 => some (.inr y3, s) : Option ((Nat ⊕ Int) × Sg)) := (fun s => by unfold Hx_size; rw [ifEq_f hx R0 (by omega), ifEq_f hx R1 (by omega), ifEq_f hx (by unfold R; omega) (by omega), ifEq_t hx (by unfold R; omega) rfl])
  have k1 : ∀ s, CI X s → okP (bnd (Po_count 10 (-1) s) fun y3 => some (.inr y3, s) : Option ((Nat ⊕ Int) × Sg)) (fun o => Ch LC s o.2 ∧ o.1 = .inr ((cnt (fun c => X.b.f c = -1) (X.b.n * X.b.n) : Nat) : Int)) := (fun s hC => by rw [cnC (-1) s R_n1 hC, bnd_some]; exact okP_some ⟨Ch.rf _ _, rfl⟩)
  rw [e1]
  exact k1 s hC
theorem cq_size4 {X : Xs} (hX : XsOK X) {s : Sg} (hC : CI X s) : okP (Hx_size 4 s) (fun o => Ch LC s o.2 ∧ o.1 = .inr ((X.b.m : Nat) : Int)) := by
  have h81 := nn_le hX.n9
  have hn9 := hX.n9
  have hgR : R X.b.g := R_tri hX.1.2.2.2.2.1
  have htR : R X.b.t := R_01 hX.1.2.2.2.1
  have hm := hX.1.2.2.2.2.2.1
  have hx : R 4 := by unfold R; omega
  have cnC : ∀ w s, R w → CI X s → Po_count 10 w s = some ((cnt (fun c => X.b.f c = w) (X.b.n * X.b.n) : Nat) : Int) := fun w s hw hC => Po_count_eq hX.n9 hC.1.2.2.1 rfl hC.cb hX.fr hw
  have e1 : ∀ s, Hx_size 4 s = (some (.inr (gi s 10 4), s) : Option ((Nat ⊕ Int) × Sg)) := (fun s => by unfold Hx_size; rw [ifEq_f hx R0 (by omega), ifEq_f hx R1 (by omega), ifEq_f hx (by unfold R; omega) (by omega), ifEq_f hx (by unfold R; omega) (by omega), ifEq_t hx (by unfold R; omega) rfl])
  have k1 : ∀ s, CI X s → okP (some (.inr (gi s 10 4), s) : Option ((Nat ⊕ Int) × Sg)) (fun o => Ch LC s o.2 ∧ o.1 = .inr ((X.b.m : Nat) : Int)) := (fun s hC => okP_some ⟨Ch.rf _ _, congrArg Sum.inr hC.1.2.2.2.2.1⟩)
  rw [e1]
  exact k1 s hC
theorem cq_size5 {X : Xs} (hX : XsOK X) {s : Sg} (hC : CI X s) : okP (Hx_size 5 s) (fun o => Ch LC s o.2 ∧ o.1 = .inr X.b.t) := by
  have h81 := nn_le hX.n9
  have hn9 := hX.n9
  have hgR : R X.b.g := R_tri hX.1.2.2.2.2.1
  have htR : R X.b.t := R_01 hX.1.2.2.2.1
  have hm := hX.1.2.2.2.2.2.1
  have hx : R 5 := by unfold R; omega
  have cnC : ∀ w s, R w → CI X s → Po_count 10 w s = some ((cnt (fun c => X.b.f c = w) (X.b.n * X.b.n) : Nat) : Int) := fun w s hw hC => Po_count_eq hX.n9 hC.1.2.2.1 rfl hC.cb hX.fr hw
  have e1 : ∀ s, Hx_size 5 s = (some (.inr (gi s 10 5), s) : Option ((Nat ⊕ Int) × Sg)) := (fun s => by unfold Hx_size; rw [ifEq_f hx R0 (by omega), ifEq_f hx R1 (by omega), ifEq_f hx (by unfold R; omega) (by omega), ifEq_f hx (by unfold R; omega) (by omega), ifEq_f hx (by unfold R; omega) (by omega), ifEq_t hx (by unfold R; omega) rfl])
  have k1 : ∀ s, CI X s → okP (some (.inr (gi s 10 5), s) : Option ((Nat ⊕ Int) × Sg)) (fun o => Ch LC s o.2 ∧ o.1 = .inr X.b.t) := (fun s hC => okP_some ⟨Ch.rf _ _, congrArg Sum.inr hC.1.2.2.2.2.2.1⟩)
  rw [e1]
  exact k1 s hC
theorem cq_size6 {X : Xs} (hX : XsOK X) {s : Sg} (hC : CI X s) : okP (Hx_size 6 s) (fun o => Ch LC s o.2 ∧ o.1 = .inr (wnr X.b.n X.b.f X.b.g)) := by
  have h81 := nn_le hX.n9
  have hn9 := hX.n9
  have hgR : R X.b.g := R_tri hX.1.2.2.2.2.1
  have htR : R X.b.t := R_01 hX.1.2.2.2.1
  have hm := hX.1.2.2.2.2.2.1
  have hx : R 6 := by unfold R; omega
  have cnC : ∀ w s, R w → CI X s → Po_count 10 w s = some ((cnt (fun c => X.b.f c = w) (X.b.n * X.b.n) : Nat) : Int) := fun w s hw hC => Po_count_eq hX.n9 hC.1.2.2.1 rfl hC.cb hX.fr hw
  have e1 : ∀ s, Hx_size 6 s = (bnd2 (Hx_winner s) fun y16 s17 => some (.inr y16, s17) : Option ((Nat ⊕ Int) × Sg)) := (fun s => by unfold Hx_size; rw [ifEq_f hx R0 (by omega), ifEq_f hx R1 (by omega), ifEq_f hx (by unfold R; omega) (by omega), ifEq_f hx (by unfold R; omega) (by omega), ifEq_f hx (by unfold R; omega) (by omega), ifEq_f hx (by unfold R; omega) (by omega), ifEq_t hx (by unfold R; omega) rfl])
  have k1 : ∀ s, CI X s → okP (bnd2 (Hx_winner s) fun y16 s17 => some (.inr y16, s17) : Option ((Nat ⊕ Int) × Sg)) (fun o => Ch LC s o.2 ∧ o.1 = .inr (wnr X.b.n X.b.f X.b.g)) := (fun s hC => class_start hX.1 hC.1 fun t ht => okP_some ⟨ht.mo (by decide), rfl⟩)
  rw [e1]
  exact k1 s hC
theorem cq_size7 {X : Xs} (hX : XsOK X) {s : Sg} (hC : CI X s) : okP (Hx_size 7 s) (fun o => Ch LC s o.2 ∧ o.1 = .inr (bI (csw X.b))) := by
  have h81 := nn_le hX.n9
  have hn9 := hX.n9
  have hgR : R X.b.g := R_tri hX.1.2.2.2.2.1
  have htR : R X.b.t := R_01 hX.1.2.2.2.1
  have hm := hX.1.2.2.2.2.2.1
  have hx : R 7 := by unfold R; omega
  have cnC : ∀ w s, R w → CI X s → Po_count 10 w s = some ((cnt (fun c => X.b.f c = w) (X.b.n * X.b.n) : Nat) : Int) := fun w s hw hC => Po_count_eq hX.n9 hC.1.2.2.1 rfl hC.cb hX.fr hw
  have e1 : ∀ s, Hx_size 7 s = (bnd2 (Hx_canSwap s) fun y20 s21 => ifEq y20 0 (some (.inr 0, s21)) (some (.inr 1, s21)) : Option ((Nat ⊕ Int) × Sg)) := (fun s => by unfold Hx_size; rw [ifEq_f hx R0 (by omega), ifEq_f hx R1 (by omega), ifEq_f hx (by unfold R; omega) (by omega), ifEq_f hx (by unfold R; omega) (by omega), ifEq_f hx (by unfold R; omega) (by omega), ifEq_f hx (by unfold R; omega) (by omega), ifEq_f hx (by unfold R; omega) (by omega), ifEq_t hx (by unfold R; omega) rfl])
  have k1 : ∀ s, CI X s → okP (bnd2 (Hx_canSwap s) fun y20 s21 => ifEq y20 0 (some (.inr 0, s21)) (some (.inr 1, s21)) : Option ((Nat ⊕ Int) × Sg)) (fun o => Ch LC s o.2 ∧ o.1 = .inr (bI (csw X.b))) := (fun s hC => by
        refine okP_bnd2 (Hx_canSwap_ok hX.1 hC.1) ?_
        rintro y t - ⟨q1, q2⟩
        have q1 : Ch [5, 6, 7, 8, 9] s t := q1
        have q2 : y = bI (csw X.b) := q2
        rw [q2]
        rcases bI_rg (csw X.b) with e | e
        · rw [e, ifEq_t R0 R0 rfl]
          exact okP_some ⟨q1.mo (by decide), rfl⟩
        · rw [e, ifEq_f R1 R0 (by omega)]
          exact okP_some ⟨q1.mo (by decide), rfl⟩)
  rw [e1]
  exact k1 s hC
theorem cq_size8 {X : Xs} (hX : XsOK X) {s : Sg} (hC : CI X s) : okP (Hx_size 8 s) (fun o => Ch LC s o.2 ∧ o.1 = .inr X.b.g) := by
  have h81 := nn_le hX.n9
  have hn9 := hX.n9
  have hgR : R X.b.g := R_tri hX.1.2.2.2.2.1
  have htR : R X.b.t := R_01 hX.1.2.2.2.1
  have hm := hX.1.2.2.2.2.2.1
  have hx : R 8 := by unfold R; omega
  have cnC : ∀ w s, R w → CI X s → Po_count 10 w s = some ((cnt (fun c => X.b.f c = w) (X.b.n * X.b.n) : Nat) : Int) := fun w s hw hC => Po_count_eq hX.n9 hC.1.2.2.1 rfl hC.cb hX.fr hw
  have e1 : ∀ s, Hx_size 8 s = (some (.inr (gi s 10 6), s) : Option ((Nat ⊕ Int) × Sg)) := (fun s => by unfold Hx_size; rw [ifEq_f hx R0 (by omega), ifEq_f hx R1 (by omega), ifEq_f hx (by unfold R; omega) (by omega), ifEq_f hx (by unfold R; omega) (by omega), ifEq_f hx (by unfold R; omega) (by omega), ifEq_f hx (by unfold R; omega) (by omega), ifEq_f hx (by unfold R; omega) (by omega), ifEq_f hx (by unfold R; omega) (by omega), ifEq_t hx (by unfold R; omega) rfl])
  have k1 : ∀ s, CI X s → okP (some (.inr (gi s 10 6), s) : Option ((Nat ⊕ Int) × Sg)) (fun o => Ch LC s o.2 ∧ o.1 = .inr X.b.g) := (fun s hC => okP_some ⟨Ch.rf _ _, congrArg Sum.inr hC.1.2.2.2.2.2.2.1⟩)
  rw [e1]
  exact k1 s hC
theorem cq_solved {X : Xs} (hX : XsOK X) {s : Sg} (hC : CI X s) : okP (Hx_solved s) (fun o => Ch LC s o.2 ∧ o.1 = sol X.b) := okP_mono (Hx_solved_ok hX.1 hC.1) fun o ⟨h1, h2⟩ => ⟨h1.mo (by decide), h2⟩
theorem cq_goodMoves {X : Xs} (hX : XsOK X) {s : Sg} (hC : CI X s) : okP (Hx_goodMoves s) (fun o => Ch LC s o.2 ∧ o.1 = gdm X.b) := okP_mono (Hx_goodMoves_ok hX.1 hC.1) fun o ⟨h1, h2⟩ => ⟨h1.mo (by decide), h2⟩
theorem cq_bestMove {X : Xs} (hX : XsOK X) {s : Sg} (hC : CI X s) : okP (Hx_bestMove s) (fun o => Ch LC s o.2 ∧ o.1 = bsm X.b) := okP_mono (Hx_bestMove_ok hX.1 hC.1) fun o ⟨h1, h2⟩ => ⟨h1.mo (by decide), h2⟩
theorem cq_forcedWinner {X : Xs} (hX : XsOK X) {s : Sg} (hC : CI X s) : okP (Hx_forcedWinner s) (fun o => CF s o.2 ∧ CI X o.2 ∧ o.1 = fwn X.b) := okP_mono (Hx_forcedWinner_ok hX.1 hC.1) fun o ⟨h1, h2, h3⟩ => ⟨h1.cf, hC.keep h1 h2, h3⟩
theorem cq_forcedRow {X : Xs} (hX : XsOK X) {s : Sg} (hC : CI X s) : okP (Hx_forcedRow s) (fun o => CF s o.2 ∧ CI X o.2 ∧ o.1 = (fcn X.b 81 : Int)) := okP_mono (Hx_forcedRow_ok hX.1 hC.1) fun o ⟨h1, h2, h3⟩ => ⟨h1.cf, hC.keep h1 h2, h3⟩

/-! ===== the questions about a side ===== -/
def OpE (X : Xs) (cI cX : Int) (A : Sg → Option ((Nat ⊕ Int) × Sg)) (B : Sg → Option (Int × Sg)) : Prop := ∃ c v X', R c ∧ XsOK X' ∧ (∀ s, CI X s → okP (A s) (CPost cI cX c v X' s)) ∧ ∀ s, MI X s → okP (B s) (MPost c v X' s)
def OpN (X : Xs) (A : Sg → Option (Int × Sg)) (B : Sg → Option (Int × Sg)) : Prop := ∃ v X', R v ∧ XsOK X' ∧ (∀ s, CI X s → okP (A s) (fun o => CF s o.2 ∧ CI X' o.2 ∧ o.1 = v)) ∧ ∀ s, MI X s → okP (B s) (MPost 0 v X' s)
section SID
variable {X : Xs} {A : Sg → Option ((Nat ⊕ Int) × Sg)} {B : Sg → Option (Int × Sg)} {cI cX : Int}
theorem op_bad (hX : XsOK X) (hA : ∀ s, CI X s → A s = some (.inl 0, s)) (hB : ∀ s, MI X s → ∃ y, B s = some (y, si s 80 0 1)) : OpE X 1 cX A B :=
  ⟨1, 0, X, R1, hX, fun s hC => by rw [hA s hC]; exact eI hC 0, fun s hM => by
    obtain ⟨y, e⟩ := hB s hM
    rw [e]
    exact eM hX hM (by omega) _ _⟩
theorem op_badX (hX : XsOK X) (hA : ∀ s, CI X s → A s = some (.inl 1, s)) (hB : ∀ s, MI X s → ∃ y, B s = some (y, si s 80 0 1)) : OpE X cI 1 A B :=
  ⟨1, 0, X, R1, hX, fun s hC => by rw [hA s hC]; exact eX hC 0, fun s hM => by
    obtain ⟨y, e⟩ := hB s hM
    rw [e]
    exact eM hX hM (by omega) _ _⟩
theorem op_q (hX : XsOK X) (v : Int) (hv : R v) (hA : ∀ s, CI X s → okP (A s) (fun o => Ch LC s o.2 ∧ o.1 = .inr v)) (hB : ∀ s, MI X s → okP (B s) (MPost 0 v X s)) : OpE X cI cX A B :=
  ⟨0, v, X, R0, hX, fun s hC => qC hC (hA s hC) hv, hB⟩
theorem XsOK.n9 (hX : XsOK X) : X.b.n ≤ 9 := hX.1.1.2
theorem XsOK.fr (hX : XsOK X) : FR X.b.n X.b.f := hX.1.2.1
theorem CI.G {s : Sg} (h : CI X s) : GridOK s X.b.n := h.1.1
theorem CI.T {s : Sg} (h : CI X s) : Stat s := h.1.2.1
theorem CI.cb {s : Sg} (h : CI X s) : CB s X.b.n 11 X.b.f := h.1.2.2.2.2.2.2.2.1
theorem GridOK.c {s s' : Sg} {n : Nat} {L : List Nat} (h : GridOK s n) (hc : Ch L s s') (hL : ∀ x ∈ [1, 2, 3, 4], x ∉ L := by decide) : GridOK s' n := h.ch hc (hL 1 (by decide)) (hL 2 (by decide)) (hL 3 (by decide)) (hL 4 (by decide))
theorem R_cnt (hX : XsOK X) (p : Nat → Prop) : R ((cnt p (X.b.n * X.b.n) : Nat) : Int) := by
  have h1 := cnt_le p (X.b.n * X.b.n)
  have h81 := nn_le hX.n9
  exact R_nat (by omega)
theorem bst_R {n : Nat} (hn : n ≤ 9) (f : Nat → Int) (sd : Int) : R (bst n f sd (n * n)) := by
  have h81 := nn_le hn
  rcases bst_rg n f sd (n * n) with e | ⟨k, e, hk, -⟩
  · rw [e]; exact R_n1
  · rw [e]; exact R_nat (by omega)
theorem op_groups (hX : XsOK X) {x : Int} (hx : R x) : OpE X 1 0 (Hx_groups x) (Mo_groups x) := by
  by_cases h : x = 0 ∨ x = 1
  · refine op_q hX ((cnt (fun c => X.b.f c = x ∧ lab (Eb X.b.n X.b.f) c = c) (X.b.n * X.b.n) : Nat) : Int) (R_cnt hX _) (fun s hC => ?_) fun s hM => ?_
    · unfold Hx_groups
      rw [rqS_t h, bndx_some]
      refine okP_bnd (gather_ok hC.G ⟨rfl, by decide⟩ hC.cb hX.fr h) ?_
      rintro t - ⟨h1, h2⟩
      rw [Li_parts_eq (hC.G.c h1) h2, bnd_some]
      exact okP_some ⟨h1.mo (by decide), rfl⟩
    · have hP := MPb hX hM
      unfold Mo_groups
      rw [noSide_t h, bnd2_some, ifEq_eq _ _ R0 R0, if_pos rfl]
      refine qM0 hX hM (L := [87]) (okP_bnd (laysGroups_ok hP.1.1 hP.1.2 hX.fr) ?_)
      rintro t - ⟨h1, h2⟩
      rw [Mo_groups_l18_eq (hP.1.ch h1 (by decide)) hX.fr h2 h]
      exact okP_some ⟨h1, rfl⟩
  · exact op_bad hX (fun s hC => by unfold Hx_groups; rw [rqS_f hx h, bndx_thrown]) (fun s hM => ⟨_, by unfold Mo_groups; rw [noSide_f hx h, bnd2_some, ifEq_eq _ _ R1 R0, if_neg (by omega)]⟩)
theorem op_largest (hX : XsOK X) {x : Int} (hx : R x) : OpE X 1 0 (Hx_largest x) (Mo_largest x) := by
  by_cases h : x = 0 ∨ x = 1
  · refine op_q hX (bst X.b.n X.b.f x (X.b.n * X.b.n)) (bst_R hX.n9 _ _) (fun s hC => ?_) fun s hM => ?_
    · unfold Hx_largest
      rw [rqS_t h, bndx_some]
      refine okP_bnd (gather_ok hC.G ⟨rfl, by decide⟩ hC.cb hX.fr h) ?_
      rintro t - ⟨h1, h2⟩
      rw [Li_largestPart_eq (hC.G.c h1) h2, bnd_some]
      exact okP_some ⟨h1.mo (by decide), rfl⟩
    · have hP := MPb hX hM
      unfold Mo_largest
      rw [noSide_t h, bnd2_some, ifEq_eq _ _ R0 R0, if_pos rfl]
      refine qM0 hX hM (L := [87]) (okP_bnd (laysGroups_ok hP.1.1 hP.1.2 hX.fr) ?_)
      rintro t - ⟨h1, h2⟩
      rw [Mo_largest_l18_eq (hP.1.ch h1 (by decide)) hX.fr h2 h]
      exact okP_some ⟨h1, rfl⟩
  · exact op_bad hX (fun s hC => by unfold Hx_largest; rw [rqS_f hx h, bndx_thrown]) (fun s hM => ⟨_, by unfold Mo_largest; rw [noSide_f hx h, bnd2_some, ifEq_eq _ _ R1 R0, if_neg (by omega)]⟩)
theorem op_threats (hX : XsOK X) {x : Int} (hx : R x) : OpE X 1 0 (Hx_threats x) (Mo_threats x) := by
  by_cases h : x = 0 ∨ x = 1
  · have hle := thc_le X.b.n X.b.f x
    have h81 := nn_le hX.n9
    refine op_q hX (thc X.b.n X.b.f x : Int) (R_nat (by omega)) (fun s hC => ?_) fun s hM => ?_
    · unfold Hx_threats
      rw [rqS_t h, bndx_some]
      refine okP_bnd2 (countThreats_ok hC.G hC.cb hX.fr h) ?_
      rintro y t - ⟨h1, h2⟩
      have h2 : y = (thc X.b.n X.b.f x : Int) := h2
      rw [h2]
      exact okP_some ⟨h1.mo (by decide), rfl⟩
    · have hP := MPb hX hM
      unfold Mo_threats
      rw [noSide_t h, bnd2_some, ifEq_eq _ _ R0 R0, if_pos rfl]
      refine qM0 hX hM (L := [87]) (okP_bnd2 (Mo_hasJoined_ok hP.1 hX.fr h) ?_)
      rintro y t - ⟨h1, h2⟩
      have h1 : Ch [87] (si s 80 0 0) t := h1
      have h2 : y = bI (Jn X.b.n X.b.f x) := h2
      rw [h2]
      by_cases q : Jn X.b.n X.b.f x
      · rw [bI_t q, ifEq_eq _ _ R1 R0, if_neg (by omega)]
        exact okP_some ⟨h1, by unfold thc; rw [if_pos q]; rfl⟩
      · rw [bI_f q, ifEq_eq _ _ R0 R0, if_pos rfl]
        refine okP_mono (Mo_threats_l22_ok (hP.1.ch h1 (by decide)) hX.fr h) fun o ⟨k1, k2⟩ => ⟨h1.tr k1, ?_⟩
        rw [k2]
        unfold thc
        rw [if_neg q]
  · exact op_bad hX (fun s hC => by unfold Hx_threats; rw [rqS_f hx h, bndx_thrown]) (fun s hM => ⟨_, by unfold Mo_threats; rw [noSide_f hx h, bnd2_some, ifEq_eq _ _ R1 R0, if_neg (by omega)]⟩)
theorem op_threat (hX : XsOK X) {x k : Int} (hx : R x) (hk : R k) : OpE X 1 0 (Hx_threat x k) (Mo_threat x k) := by
  by_cases h : x = 0 ∨ x = 1
  · refine op_q hX (tho X.b.n X.b.f x k) (cellR hX.n9 (by
      rcases tho_rg X.b.n X.b.f x k with e | ⟨c, e, hc, -⟩
      · exact Or.inl e
      · exact Or.inr ⟨c, e, hc⟩)) (fun s hC => ?_) fun s hM => ?_
    · unfold Hx_threat
      rw [rqS_t h, bndx_some]
      refine okP_bnd2 (findThreat_ok hC.G hC.cb hX.fr h hk) ?_
      rintro y t - ⟨h1, h2⟩
      have h2 : y = tho X.b.n X.b.f x k := h2
      rw [h2]
      exact okP_some ⟨h1.mo (by decide), rfl⟩
    · have hP := MPb hX hM
      unfold Mo_threat
      rw [noSide_t h, bnd2_some, ifEq_eq _ _ R0 R0, if_pos rfl]
      refine qM0 hX hM (L := [87]) (okP_bnd2 (threatOf_ok hP.1 hX.fr h hk) ?_)
      rintro y t - ⟨h1, h2⟩
      exact okP_some ⟨h1, h2⟩
  · exact op_bad hX (fun s hC => by unfold Hx_threat; rw [rqS_f hx h, bndx_thrown]) (fun s hM => ⟨_, by unfold Mo_threat; rw [noSide_f hx h, bnd2_some, ifEq_eq _ _ R1 R0, if_neg (by omega)]⟩)
theorem lsw_R {n : Nat} (hn : n ≤ 9) (f : Nat → Int) (sd : Int) : R (lsw n f sd (n * n)) := by
  have h81 := nn_le hn
  rcases lsw_rg n f sd (n * n) with e | ⟨e1, e2⟩
  · rw [e]; exact R_n1
  · unfold R; omega
theorem pco_R {n : Nat} (hn : n ≤ 9) (f : Nat → Int) (sd : Int) (c : Nat) : R (pco n f sd c) := by
  have h81 := nn_le hn
  rcases pco_rg n f sd c with e | ⟨e1, e2, -⟩
  · rw [e]; exact R_n1
  · unfold R; omega
theorem pr_in {x : Int} : ∀ y ∈ [pr x + 1, pr x + 2, pr x + 3], y ∈ [64, 65, 66, 68, 69, 70] := by
  intro y hy
  unfold pr at hy
  split at hy <;> (revert y; decide)
theorem op_distance (hX : XsOK X) {x : Int} (hx : R x) : OpE X 1 0 (Hx_distance x) (Mo_distance x) := by
  by_cases h : x = 0 ∨ x = 1
  · refine op_q hX (lsw X.b.n X.b.f x (X.b.n * X.b.n)) (lsw_R hX.n9 _ _) (fun s hC => ?_) fun s hM => ?_
    · unfold Hx_distance
      rw [rqS_t h, bndx_some]
      refine okP_bnd2 (pathsOf_ok hC.G hC.cb hX.fr h) ?_
      rintro y t - ⟨h1, h2, h3⟩
      have h1 : y = pr x := h1
      have h2 : Ch [64, 65, 66, 68, 69, 70] s t := Ch.mo h2 pr_in
      have h3 : PX t (pr x) X.b.n X.b.f x := h3
      rw [h1, Pa_least_eq (hC.G.c h2) h h3, bnd_some]
      exact okP_some ⟨h2.mo (by decide), rfl⟩
    · have hP := MPb hX hM
      unfold Mo_distance
      rw [noSide_t h, bnd2_some, ifEq_eq _ _ R0 R0, if_pos rfl]
      refine qM0 hX hM (L := [95, 96]) (okP_bnd (laysWays_ok hP.1 hX.fr h) ?_)
      rintro t - ⟨h1, h2⟩
      rw [Mo_leastOf_eq (hP.1.ch h1 (by decide)) hX.fr h h2, bnd_some]
      exact okP_some ⟨h1, rfl⟩
  · exact op_bad hX (fun s hC => by unfold Hx_distance; rw [rqS_f hx h, bndx_thrown]) (fun s hM => ⟨_, by unfold Mo_distance; rw [noSide_f hx h, bnd2_some, ifEq_eq _ _ R1 R0, if_neg (by omega)]⟩)
theorem op_useful (hX : XsOK X) {x : Int} (hx : R x) : OpE X 1 0 (Hx_useful x) (Mo_useful x) := by
  by_cases h : x = 0 ∨ x = 1
  · refine op_q hX ((usf X.b.n X.b.f x : Nat) : Int) (R_cnt hX _) (fun s hC => ?_) fun s hM => ?_
    · unfold Hx_useful
      rw [rqS_t h, bndx_some]
      refine okP_bnd2 (pathsOf_ok hC.G hC.cb hX.fr h) ?_
      rintro y t - ⟨h1, h2, h3⟩
      have h1 : y = pr x := h1
      have h2 : Ch [64, 65, 66, 68, 69, 70] s t := Ch.mo h2 pr_in
      have h3 : PX t (pr x) X.b.n X.b.f x := h3
      have hCt := hC.ch h2
      rw [h1, Pa_least_eq (hC.G.c h2) h h3, bnd_some]
      rw [useful_l_eq hCt.G hCt.cb hX.fr h h3]
      exact okP_some ⟨h2.mo (by decide), rfl⟩
    · have hP := MPb hX hM
      unfold Mo_useful
      rw [noSide_t h, bnd2_some, ifEq_eq _ _ R0 R0, if_pos rfl]
      refine qM0 hX hM (L := [95, 96]) (okP_bnd (laysWays_ok hP.1 hX.fr h) ?_)
      rintro t - ⟨h1, h2⟩
      rw [Mo_leastOf_eq (hP.1.ch h1 (by decide)) hX.fr h h2, bnd_some, Mo_useful_l_eq (hP.1.ch h1 (by decide)) hX.fr h h2]
      exact okP_some ⟨h1, rfl⟩
  · exact op_bad hX (fun s hC => by unfold Hx_useful; rw [rqS_f hx h, bndx_thrown]) (fun s hM => ⟨_, by unfold Mo_useful; rw [noSide_f hx h, bnd2_some, ifEq_eq _ _ R1 R0, if_neg (by omega)]⟩)
theorem op_chains (hX : XsOK X) {x : Int} (hx : R x) : OpE X 1 0 (Hx_chains x) (Mo_chains x) := by
  by_cases h : x = 0 ∨ x = 1
  · refine op_q hX ((cnt (fun c => X.b.f c = x ∧ lab (Ech X.b.n X.b.f x) c = c) (X.b.n * X.b.n) : Nat) : Int) (R_cnt hX _) (fun s hC => ?_) fun s hM => ?_
    · unfold Hx_chains
      rw [rqS_t h, bndx_some]
      refine okP_bnd (gatherChains_ok hC.G hC.T hC.cb hX.fr h) ?_
      rintro t - ⟨h1, h2, h3⟩
      rw [LkC.parts (hC.G.c h1) h2, bnd_some]
      exact okP_some ⟨h1.mo (by decide), rfl⟩
    · have hP := MPb hX hM
      unfold Mo_chains
      rw [noSide_t h, bnd2_some, ifEq_eq _ _ R0 R0, if_pos rfl]
      refine qM0 hX hM (L := [94, 8024, 8025, 8026, 8027, 88, 89, 90, 91, 92, 93]) (okP_bnd (laysChains_ok hP.1 hX.fr h) ?_)
      rintro t - ⟨h1, h2, h3⟩
      rw [Mo_chains_l19_eq (hP.1.ch h1 (by decide)) hX.fr h3 h]
      exact okP_some ⟨h1, rfl⟩
  · exact op_bad hX (fun s hC => by unfold Hx_chains; rw [rqS_f hx h, bndx_thrown]) (fun s hM => ⟨_, by unfold Mo_chains; rw [noSide_f hx h, bnd2_some, ifEq_eq _ _ R1 R0, if_neg (by omega)]⟩)
end SID

/-! ===== the reference: the flow ===== -/
def FM (s : Sg) (n : Nat) (L : Nat → Int) : Prop := ∀ c, c < n * n → gi s 98 c = L c
section FLM
variable {s : Sg} {n : Nat} {f : Nat → Int} {sd : Int} {L : Nat → Int}
theorem Mo_weight_eq {c : Nat} (hM : MB s n f) (hfr : FR n f) (hsd : sd = 0 ∨ sd = 1) (hc : c < n * n) : Mo_weight sd (c : Int) s = some (wtI f sd c) := by
  unfold Mo_weight wtI
  rw [hM.st hc, bnd_some, bnd_some, ifEq_eq _ _ (hfr.r hc) (R_01 hsd), ifEq_eq _ _ (hfr.r hc) R_n1]
  by_cases q : f c = sd
  · rw [if_pos q, if_pos q]
  · rw [if_neg q, if_neg q]
    by_cases q2 : f c = -1
    · rw [if_pos q2, if_pos q2]
    · rw [if_neg q2, if_neg q2]
theorem sweepsCell_ok {c : Nat} (hM : MB s n f) (hfr : FR n f) (hsd : sd = 0 ∨ sd = 1) (hF : FM s n L) (hL : Lv L) (hc : c < n * n) : okP (Mo_sweepsCell sd (c : Int) s) (fun t => Ch [98] s t ∧ FM t n (ups L c (nlc n f sd L c))) := by
  have h81 := nn_le hM.1.2.1
  have hrg := nlv_rg (n := n) (f := f) (sd := sd) hL c
  have hfin : okP (Mo_sweepsCell_l35 sd (c : Int) (if edg n sd c = 2 then 1000000 else 0) (if edg n sd c = 0 then 0 else 1) 0 s) (fun t => Ch [98] s t ∧ FM t n (ups L c (nlc n f sd L c))) := by
    unfold Mo_sweepsCell_l35
    have key : whl (fun σ : Int × Int × Int => Mo_sweepsCell_t35 sd (c : Int) σ.1 σ.2.1 σ.2.2 s) ((if edg n sd c = 2 then (1000000 : Int) else 0), (if edg n sd c = 0 then (0 : Int) else 1), 0) = some ((nlv n f sd L c).1, (nlv n f sd L c).2) := by
      refine whl_up' 6 (fun j => ((fo (Fw f sd L) (rnd n c) (if edg n sd c = 2 then 1000000 else 0, if edg n sd c = 0 then 0 else 1) j).1, (fo (Fw f sd L) (rnd n c) (if edg n sd c = 2 then 1000000 else 0, if edg n sd c = 0 then 0 else 1) j).2, (j : Int))) _ rfl (fun j hj => ?_) ?_
      · show Mo_sweepsCell_t35 sd (c : Int) (fo (Fw f sd L) (rnd n c) _ j).1 (fo (Fw f sd L) (rnd n c) _ j).2 (j : Int) s = some (Sum.inl ((Fw f sd L (fo (Fw f sd L) (rnd n c) _ j) (rnd n c j)).1, (Fw f sd L (fo (Fw f sd L) (rnd n c) _ j) (rnd n c j)).2, ((j + 1 : Nat) : Int)))
        generalize fo (Fw f sd L) (rnd n c) (if edg n sd c = 2 then 1000000 else 0, if edg n sd c = 0 then 0 else 1) j = p
        unfold Mo_sweepsCell_t35 Mo_sweepsCell_b92 Fw
        rw [ifLt_eq _ _ (R_nat (by omega)) R6, if_pos (by omega), Mo_round_eq hM.1 hc hj, bnd_some]
        rcases rnd_rg n c j with e | ⟨y, e, hy⟩
        · rw [e, ifEq_eq _ _ R_n1 R_n1, if_pos rfl, if_pos rfl]; rfl
        · have ey : ((y : Int)).toNat = y := by omega
          rw [e, ifEq_eq _ _ (R_nat (by omega)) R_n1, if_neg (by omega), if_neg (by omega), Mo_weight_eq hM hfr hsd hy, bnd_some, grd_t ⟨by omega, by omega⟩, lett_eq, bnd_some, lett_eq, ey, hF y hy]
          rfl
      · show Mo_sweepsCell_t35 sd (c : Int) (nlv n f sd L c).1 (nlv n f sd L c).2 ((6 : Nat) : Int) s = _
        unfold Mo_sweepsCell_t35
        rw [ifLt_eq _ _ (R_nat (by omega)) R6, if_neg (by omega)]
    rw [key, bnd_some]
    show okP (ifLt 0 (nlv n f sd L c).2 _ _) _
    rw [ifLt_eq _ _ R0 (by unfold R; omega)]
    unfold nlc
    by_cases q : (nlv n f sd L c).2 = 0
    · rw [if_neg (by omega), if_pos q, ups_same]
      exact okP_some ⟨Ch.rf _ _, hF⟩
    · rw [if_pos (by omega), if_neg q, grd_t ⟨⟨hrg.1, by unfold R; omega⟩, by omega, by unfold R; omega⟩, grd_t ⟨by omega, by omega⟩, lett_eq]
      refine okP_some ⟨Ch.si (by decide), fun x hx => ?_⟩
      by_cases e : x = c
      · subst e
        show gi (si s 98 x _) 98 x = _
        rw [gi_si_s, ups_s]
      · rw [show gi (si s 98 ((c : Int)).toNat ((nlv n f sd L c).1 / (nlv n f sd L c).2)) 98 x = gi s 98 x from gi_si_k _ _ _ (by omega), ups_o e]
        exact hF x hx
  unfold Mo_sweepsCell Mo_sweepsCell_b21
  rw [Mo_edges_eq hM.1 hc hsd, bnd_some, ifEq_eq _ _ (R_iand _ _) R2, lett_eq, lett_eq]
  rcases edg_rg n sd c with e | e | e <;> rw [e] at hfin <;> rw [e] <;> exact hfin
theorem Mo_sweeps_ok {k : Nat} (hM : MB s n f) (hfr : FR n f) (hsd : sd = 0 ∨ sd = 1) (hk : k ≤ 100) : okP (Mo_sweeps sd (k : Int) s) (fun t => Ch [98] s t ∧ FM t n (sws n f sd k)) := by
  have h81 := nn_le hM.1.2.1
  unfold Mo_sweeps Mo_sweeps_l2
  refine okP_bnd (P := fun t => Ch [98] s t ∧ FM t n (sws n f sd 0)) (whl_for (fun (i : Nat) (t : Sg) => ((i : Int), t)) (n * n) (fun i t => Ch [98] s t ∧ ∀ c, c < i → gi t 98 c = 500000) (i0 := 0) (t0 := s) (Nat.zero_le _) ⟨Ch.rf _ _, fun c hc => absurd hc (Nat.not_lt_zero c)⟩ ?_ ?_) ?_
  · rintro i t hi' ⟨h1, h2⟩
    have hMt : MB t n f := hM.ch h1
    show okP (Mo_sweeps_t2 sd (k : Int) (i : Int) t) _
    unfold Mo_sweeps_t2
    rw [Mo_cells_eq hMt.1, bnd_some, ifLt_eq _ _ (R_nat (by omega)) (R_nat (by omega)), if_pos (by omega), grd_t ⟨by omega, by omega⟩, lett_eq]
    refine okP_some (Or.inl ⟨si t 98 i 500000, rfl, h1.tr (Ch.si (by decide)), fun c hc => ?_⟩)
    by_cases e : c = i
    · subst e; rw [gi_si_s]
    · rw [gi_si_k _ _ _ e]; exact h2 c (by omega)
  · rintro t ⟨h1, h2⟩
    have hMt : MB t n f := hM.ch h1
    show okP (Mo_sweeps_t2 sd (k : Int) ((n * n : Nat) : Int) t) _
    unfold Mo_sweeps_t2
    rw [Mo_cells_eq hMt.1, bnd_some, ifLt_eq _ _ (R_nat (by omega)) (R_nat (by omega)), if_neg (by omega)]
    exact okP_some ⟨t, rfl, h1, h2⟩
  · rintro t - ⟨h1, h2⟩
    unfold Mo_sweeps_l27
    refine okP_bnd (P := fun u => Ch [98] s u ∧ FM u n (sws n f sd k)) (whl_for (fun (j : Nat) (u : Sg) => ((j : Int), u)) k (fun j u => Ch [98] s u ∧ FM u n (sws n f sd j)) (i0 := 0) (t0 := t) (Nat.zero_le _) ⟨h1, h2⟩ ?_ ?_) ?_
    · rintro j u hj ⟨k1, k2⟩
      show okP (Mo_sweeps_t27 sd (k : Int) (j : Int) u) _
      unfold Mo_sweeps_t27
      rw [ifLt_eq _ _ (R_nat (by omega)) (R_nat (by omega)), if_pos (by omega)]
      unfold Mo_sweeps_l35
      refine okP_bnd (P := fun w => Ch [98] s w ∧ FM w n (swp n f sd (sws n f sd j) (n * n))) (whl_for (fun (i : Nat) (w : Sg) => ((i : Int), w)) (n * n) (fun i w => Ch [98] s w ∧ FM w n (swp n f sd (sws n f sd j) i)) (i0 := 0) (t0 := u) (Nat.zero_le _) ⟨k1, k2⟩ ?_ ?_) ?_
      · rintro i w hi' ⟨l1, l2⟩
        have hMw : MB w n f := hM.ch l1
        have hw := wtI_rg f sd i
        have es : swp n f sd (sws n f sd j) (i + 1) = if wtI f sd i = 0 then swp n f sd (sws n f sd j) i else ups (swp n f sd (sws n f sd j) i) i (nlc n f sd (swp n f sd (sws n f sd j) i) i) := rfl
        show okP (Mo_sweeps_t35 sd (k : Int) (j : Int) (i : Int) w) _
        unfold Mo_sweeps_t35 Mo_sweeps_b61
        rw [Mo_cells_eq hMw.1, bnd_some, ifLt_eq _ _ (R_nat (by omega)) (R_nat (by omega)), if_pos (by omega), Mo_weight_eq hMw hfr hsd hi', bnd_some, ifLt_eq _ _ R0 (wtR f sd i)]
        by_cases q : wtI f sd i = 0
        · rw [if_neg (by omega)]
          rw [if_pos q] at es
          exact okP_some (Or.inl ⟨w, rfl, l1, by rw [es]; exact l2⟩)
        · rw [if_pos (by omega)]
          rw [if_neg q] at es
          refine okP_bnd (sweepsCell_ok hMw hfr hsd l2 (swp_rg (sws_rg n f sd j) i) hi') ?_
          rintro v - ⟨m1, m2⟩
          exact okP_some (Or.inl ⟨v, rfl, l1.tr m1, by rw [es]; exact m2⟩)
      · rintro w ⟨l1, l2⟩
        have hMw : MB w n f := hM.ch l1
        show okP (Mo_sweeps_t35 sd (k : Int) (j : Int) ((n * n : Nat) : Int) w) _
        unfold Mo_sweeps_t35
        rw [Mo_cells_eq hMw.1, bnd_some, ifLt_eq _ _ (R_nat (by omega)) (R_nat (by omega)), if_neg (by omega)]
        exact okP_some ⟨w, rfl, l1, l2⟩
      · rintro w - ⟨l1, l2⟩
        exact okP_some (Or.inl ⟨w, rfl, l1, l2⟩)
    · rintro u ⟨k1, k2⟩
      show okP (Mo_sweeps_t27 sd (k : Int) (k : Int) u) _
      unfold Mo_sweeps_t27
      rw [ifLt_eq _ _ (R_nat (by omega)) (R_nat (by omega)), if_neg (by omega)]
      exact okP_some ⟨u, rfl, k1, k2⟩
    · rintro u - h
      exact okP_some h
theorem currentOf_ok {k : Nat} (hM : MB s n f) (hfr : FR n f) (hsd : sd = 0 ∨ sd = 1) (hk : k ≤ 100) : okP (Mo_currentOf sd (k : Int) s) (fun o => Ch [98] s o.2 ∧ FM o.2 n (sws n f sd k) ∧ o.1 = cur n f sd (sws n f sd k) (n * n)) := by
  have h81 := nn_le hM.1.2.1
  unfold Mo_currentOf
  refine okP_bnd (Mo_sweeps_ok hM hfr hsd hk) ?_
  rintro t - ⟨h1, h2⟩
  have hMt : MB t n f := hM.ch h1
  unfold Mo_currentOf_l11
  have key : whl (fun σ : Int × Int => Mo_currentOf_t11 sd σ.1 σ.2 t) (0, 0) = some (cur n f sd (sws n f sd k) (n * n)) := by
    refine whl_up' (n * n) (fun i => (cur n f sd (sws n f sd k) i, (i : Int))) _ rfl (fun i hi' => ?_) ?_
    · show Mo_currentOf_t11 sd (cur n f sd (sws n f sd k) i) (i : Int) t = some (Sum.inl (cur n f sd (sws n f sd k) i + (if edg n sd i = 1 then wtI f sd i * sws n f sd k i else 0), ((i + 1 : Nat) : Int)))
      unfold Mo_currentOf_t11 Mo_currentOf_b53
      have hb : iandI (edg n sd i) 1 = 1 ↔ edg n sd i = 1 := by rcases edg_rg n sd i with e | e | e <;> rw [e] <;> decide
      rw [Mo_cells_eq hMt.1, bnd_some, ifLt_eq _ _ (R_nat (by omega)) (R_nat (by omega)), if_pos (by omega), Mo_edges_eq hMt.1 hi' hsd, bnd_some, ifEq_eq _ _ (R_iand _ _) R1, Mo_weight_eq hMt hfr hsd hi', bnd_some, grd_t ⟨by omega, by omega⟩, lett_eq, lett_eq]
      show (if iandI (edg n sd i) 1 = 1 then some (Sum.inl (cur n f sd (sws n f sd k) i + wtI f sd i * gi t 98 i, (i : Int) + 1)) else _) = _
      rw [h2 i hi']
      by_cases q : edg n sd i = 1
      · rw [if_pos (hb.mpr q), if_pos q]; rfl
      · rw [if_neg (fun z => q (hb.mp z)), if_neg q]; rfl
    · show Mo_currentOf_t11 sd _ ((n * n : Nat) : Int) t = _
      unfold Mo_currentOf_t11
      rw [Mo_cells_eq hMt.1, bnd_some, ifLt_eq _ _ (R_nat (by omega)) (R_nat (by omega)), if_neg (by omega)]
  rw [key]
  exact okP_some ⟨h1, h2, rfl⟩
end FLM

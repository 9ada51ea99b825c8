/-! ===== the class: the flow ===== -/
def FC (s : Sg) (n : Nat) (f : Nat → Int) (sd : Int) (L : Nat → Int) : Prop := gi s 71 3 = sd ∧ ∀ c, c < n * n → gi s 72 c = wtI f sd c ∧ gi s 73 c = if wtI f sd c = 0 then -1 else L c
section FLC
variable {s : Sg} {n : Nat} {f : Nat → Int} {sd : Int} {L : Nat → Int}
theorem wtR (f : Nat → Int) (sd : Int) (c : Nat) : R (wtI f sd c) := by rcases wtI_rg f sd c with e | e | e <;> rw [e] <;> unfold R <;> omega
theorem LvR (hL : Lv L) (c : Nat) : R (L c) := by have := hL c; unfold R; omega
theorem FC.lR (h : FC s n f sd L) (hL : Lv L) {c : Nat} (hc : c < n * n) : R (gi s 73 c) := by
  rw [(h.2 c hc).2]
  split
  · exact R_n1
  · exact LvR hL c
theorem nextLevel_eq {c : Nat} (hG : GridOK s n) (hsd : sd = 0 ∨ sd = 1) (hF : FC s n f sd L) (hL : Lv L) (hc : c < n * n) (hw : wtI f sd c ≠ 0) : Fl_nextLevel (c : Int) s = some (nlc n f sd L c) := by
  have h81 := nn_le hG.2.1
  have a72 : alen 72 = 81 := rfl
  have a73 : alen 73 = 81 := rfl
  have hrg := nlv_rg (n := n) (f := f) (sd := sd) hL c
  have hfin : Fl_nextLevel_l39 (c : Int) (if edg n sd c = 0 then 0 else 1) (if edg n sd c = 2 then 1000000 else 0) 0 s = some (nlc n f sd L c) := by
    unfold Fl_nextLevel_l39
    have key : whl (fun σ : Int × Int × Int => Fl_nextLevel_t39 (c : Int) σ.1 σ.2.1 σ.2.2 s) ((if edg n sd c = 0 then (0 : Int) else 1), (if edg n sd c = 2 then (1000000 : Int) else 0), 0) = some ((nlv n f sd L c).2, (nlv n f sd L c).1) := by
      refine whl_up' 6 (fun j => ((fo (Fw f sd L) (nbj n c) (if edg n sd c = 2 then 1000000 else 0, if edg n sd c = 0 then 0 else 1) j).2, (fo (Fw f sd L) (nbj n c) (if edg n sd c = 2 then 1000000 else 0, if edg n sd c = 0 then 0 else 1) j).1, (j : Int))) _ rfl (fun j hj => ?_) ?_
      · show Fl_nextLevel_t39 (c : Int) (fo (Fw f sd L) (nbj n c) _ j).2 (fo (Fw f sd L) (nbj n c) _ j).1 (j : Int) s = some (Sum.inl ((Fw f sd L (fo (Fw f sd L) (nbj n c) _ j) (nbj n c j)).2, (Fw f sd L (fo (Fw f sd L) (nbj n c) _ j) (nbj n c j)).1, ((j + 1 : Nat) : Int)))
        generalize fo (Fw f sd L) (nbj n c) (if edg n sd c = 2 then 1000000 else 0, if edg n sd c = 0 then 0 else 1) j = p
        unfold Fl_nextLevel_t39 Fl_nextLevel_b112 Fw
        rw [ifLt_eq _ _ (R_nat (by omega)) R6, if_pos (by omega), Gr_near_eq hG hc hj, bnd_some]
        rcases nbj_rg n c j with e | ⟨y, e, hy, -⟩
        · rw [e, ifEq_eq _ _ R_n1 R_n1, if_pos rfl, if_pos rfl]; rfl
        · have hw2 := wtI_rg f sd y
          have ey : ((y : Int)).toNat = y := by omega
          rw [e, ifEq_eq _ _ (R_nat (by omega)) R_n1, if_neg (by omega), if_neg (by omega), Hx_at_n (by omega), bnd_some, (hF.2 y hy).1, ifLt_eq _ _ R0 (wtR f sd y), ey]
          by_cases q : wtI f sd y = 0
          · rw [if_neg (by omega), q, Int.zero_mul, Int.add_zero, Int.add_zero]; rfl
          · rw [if_pos (by omega), bnd_some, lett_eq, bnd_some, Hx_at_n (by omega), bnd_some, lett_eq, (hF.2 y hy).2, if_neg q]; rfl
      · show Fl_nextLevel_t39 (c : Int) (fo (Fw f sd L) (nbj n c) _ 6).2 (fo (Fw f sd L) (nbj n c) _ 6).1 ((6 : Nat) : Int) s = _
        unfold Fl_nextLevel_t39
        rw [ifLt_eq _ _ (R_nat (by omega)) R6, if_neg (by omega), fo_nb (Fw_m f sd L) n c]
        rfl
    rw [key, bnd_some]
    unfold nlc
    show ifEq (nlv n f sd L c).2 0 _ _ = _
    rw [ifEq_eq _ _ (by unfold R; omega) R0]
    by_cases q : (nlv n f sd L c).2 = 0
    · rw [if_pos q, if_pos q, Hx_at_n (by omega), bnd_some, (hF.2 c hc).2, if_neg hw]
    · rw [if_neg q, if_neg q, grd_t ⟨⟨hrg.1, by unfold R; omega⟩, by omega, by unfold R; omega⟩]
  unfold Fl_nextLevel Fl_nextLevel_b22 Fl_nextLevel_b34
  rw [hF.1, Gr_edges_eq hG hc hsd, bnd_some, ifEq_eq _ _ (R_edg n sd c) R0, ifEq_eq _ _ (R_edg n sd c) R2, ifEq_eq _ _ (R_edg n sd c) R2]
  rcases edg_rg n sd c with e | e | e <;> rw [e] at hfin <;> rw [e] <;> exact hfin
theorem ups_same (L : Nat → Int) (i : Nat) : ups L i (L i) = L := by
  funext c
  unfold ups
  split
  · subst c; rfl
  · rfl
theorem FC.ups {i : Nat} {v : Int} (h : FC s n f sd L) (hw : wtI f sd i ≠ 0) : FC (si s 73 i v) n f sd (ups L i v) := by
  refine ⟨by rw [gi_si_o _ _ _ _ (by omega)]; exact h.1, fun c hc => ⟨by rw [gi_si_o _ _ _ _ (by omega)]; exact (h.2 c hc).1, ?_⟩⟩
  by_cases e : c = i
  · subst e; rw [gi_si_s, if_neg hw, ups_s]
  · rw [gi_si_k _ _ _ e, ups_o e]; exact (h.2 c hc).2
theorem sweep_ok (hG : GridOK s n) (hsd : sd = 0 ∨ sd = 1) (hF : FC s n f sd L) (hL : Lv L) : okP (Fl_sweep s) (fun o => (o.1 = 0 ∨ o.1 = 1) ∧ Ch [73] s o.2 ∧ FC o.2 n f sd (swp n f sd L (n * n)) ∧ (o.1 = 0 → swp n f sd L (n * n) = L)) := by
  have h81 := nn_le hG.2.1
  have a72 : alen 72 = 81 := rfl
  have a73 : alen 73 = 81 := rfl
  unfold Fl_sweep Fl_sweep_l4
  refine okP_bnd (P := fun o => (o.1 = 0 ∨ o.1 = 1) ∧ Ch [73] s o.2 ∧ FC o.2 n f sd (swp n f sd L (n * n)) ∧ (o.1 = 0 → swp n f sd L (n * n) = L)) (whl_for (fun (i : Nat) (t : Int × Sg) => (t.1, (i : Int), t.2)) (n * n) (fun i t => (t.1 = 0 ∨ t.1 = 1) ∧ Ch [73] s t.2 ∧ FC t.2 n f sd (swp n f sd L i) ∧ (t.1 = 0 → swp n f sd L i = L)) (i0 := 0) (t0 := (0, s)) (Nat.zero_le _) ⟨Or.inl rfl, Ch.rf _ _, hF, fun _ => rfl⟩ ?_ ?_) ?_
  · rintro i ⟨a, t⟩ hi' ⟨h1, h2, h3, h4⟩
    have h1 : a = 0 ∨ a = 1 := h1
    have h2 : Ch [73] s t := h2
    have h3 : FC t n f sd (swp n f sd L i) := h3
    have h4 : a = 0 → swp n f sd L i = L := h4
    have hGt := hG.ch h2 (by decide) (by decide) (by decide) (by decide)
    have hLi := swp_rg (n := n) (f := f) (sd := sd) hL i
    have hw := wtI_rg f sd i
    have es : swp n f sd L (i + 1) = if wtI f sd i = 0 then swp n f sd L i else ups (swp n f sd L i) i (nlc n f sd (swp n f sd L i) i) := rfl
    show okP (Fl_sweep_t4 a (i : Int) t) _
    unfold Fl_sweep_t4 Fl_sweep_b50 Fl_sweep_b61
    rw [hGt.2.2.2.1, ifLt_eq _ _ (R_nat (by omega)) (R_nat (by omega)), if_pos (by omega), Hx_at_n (by omega), bnd_some, (h3.2 i hi').1, ifLt_eq _ _ R0 (wtR f sd i)]
    by_cases q : wtI f sd i = 0
    · rw [if_neg (by omega)]
      rw [if_pos q] at es
      exact okP_some (Or.inl ⟨(a, t), rfl, h1, h2, by rw [es]; exact h3, by rw [es]; exact h4⟩)
    · rw [if_pos (by omega), nextLevel_eq hGt hsd h3 hLi hi' q, bnd_some, Hx_at_n (by omega), bnd_some, (h3.2 i hi').2, if_neg q]
      rw [if_neg q] at es
      have hn := nlc_rg (n := n) (f := f) (sd := sd) hLi i
      rw [ifEq_eq _ _ (by unfold R; omega) (LvR hLi i), lett_eq, lett_eq, Hx_set_n (by omega), bnd_some]
      have hC2 : Ch [73] s (si t 73 i (nlc n f sd (swp n f sd L i) i)) := h2.tr (Ch.si (by decide))
      have hF2 := h3.ups (i := i) (v := nlc n f sd (swp n f sd L i) i) q
      rw [← es] at hF2
      by_cases q2 : nlc n f sd (swp n f sd L i) i = swp n f sd L i i
      · rw [if_pos q2]
        have ho := ior01 h1 (Or.inl rfl : (0 : Int) = 0 ∨ (0 : Int) = 1)
        refine okP_some (Or.inl ⟨(iorI a 0, si t 73 i (nlc n f sd (swp n f sd L i) i)), rfl, ho.1, hC2, hF2, fun z => ?_⟩)
        rw [es, q2, ups_same]
        exact h4 (ho.2 z).1
      · rw [if_neg q2]
        have ho := ior01 h1 (Or.inr rfl : (1 : Int) = 0 ∨ (1 : Int) = 1)
        exact okP_some (Or.inl ⟨(iorI a 1, si t 73 i (nlc n f sd (swp n f sd L i) i)), rfl, ho.1, hC2, hF2, fun z => absurd (ho.2 z).2 (by omega)⟩)
  · rintro ⟨a, t⟩ ⟨h1, h2, h3, h4⟩
    have h2 : Ch [73] s t := h2
    have hGt := hG.ch h2 (by decide) (by decide) (by decide) (by decide)
    show okP (Fl_sweep_t4 a ((n * n : Nat) : Int) t) _
    unfold Fl_sweep_t4
    rw [hGt.2.2.2.1, ifLt_eq _ _ (R_nat (by omega)) (R_nat (by omega)), if_neg (by omega)]
    exact okP_some ⟨(a, t), rfl, h1, h2, h3, h4⟩
  · rintro ⟨a, t⟩ - ⟨h1, h2, h3, h4⟩
    rw [grd_t (show b01 a from h1)]
    exact okP_some ⟨h1, h2, h3, h4⟩
theorem Fl_amount_eq (hG : GridOK s n) (hsd : sd = 0 ∨ sd = 1) (hF : FC s n f sd L) (hL : Lv L) : Fl_amount s = some (cur n f sd L (n * n)) := by
  have h81 := nn_le hG.2.1
  have a72 : alen 72 = 81 := rfl
  have a73 : alen 73 = 81 := rfl
  unfold Fl_amount Fl_amount_l4
  have key : whl (fun σ : Int × Int => Fl_amount_t4 σ.1 σ.2 s) (0, 0) = some (cur n f sd L (n * n)) := by
    refine whl_up' (n * n) (fun i => (cur n f sd L i, (i : Int))) _ rfl (fun i hi' => ?_) ?_
    · show Fl_amount_t4 (cur n f sd L i) (i : Int) s = some (Sum.inl (cur n f sd L i + (if edg n sd i = 1 then wtI f sd i * L i else 0), ((i + 1 : Nat) : Int)))
      have hw := wtI_rg f sd i
      unfold Fl_amount_t4 Fl_amount_b62
      rw [hG.2.2.2.1, ifLt_eq _ _ (R_nat (by omega)) (R_nat (by omega)), if_pos (by omega), hF.1, Gr_edges_eq hG hi' hsd, bnd_some, ifEq_eq _ _ (R_edg n sd i) R1, Hx_at_n (by omega), bnd_some, (hF.2 i hi').1, ifLt_eq _ _ R0 (wtR f sd i), bnd_some, Hx_at_n (by omega), bnd_some, lett_eq, (hF.2 i hi').2]
      by_cases q : edg n sd i = 1
      · rw [if_pos q, if_pos q]
        by_cases q2 : wtI f sd i = 0
        · rw [if_neg (by omega), q2, Int.zero_mul, Int.add_zero]; rfl
        · rw [if_pos (by omega), if_neg q2]; rfl
      · rw [if_neg q, if_neg q, Int.add_zero]; rfl
    · show Fl_amount_t4 _ ((n * n : Nat) : Int) s = _
      unfold Fl_amount_t4
      rw [hG.2.2.2.1, ifLt_eq _ _ (R_nat (by omega)) (R_nat (by omega)), if_neg (by omega)]
  rw [key]; rfl
theorem Fl_run_ok {k : Nat} (hG : GridOK s n) (hC : CB s n 11 f) (hfr : FR n f) (hsd : sd = 0 ∨ sd = 1) (hk : k ≤ 100) : okP (Fl_run 11 sd (k : Int) s) (fun o => Ch [71, 72, 73] s o.2 ∧ FC o.2 n f sd (sws n f sd k) ∧ o.1 = cur n f sd (sws n f sd k) (n * n)) := by
  have h81 := nn_le hG.2.1
  have a11 : alen 11 = 81 := rfl
  have a72 : alen 72 = 81 := rfl
  have a73 : alen 73 = 81 := rfl
  unfold Fl_run
  rw [lett_eq]
  unfold Fl_run_l8
  refine okP_bnd (P := fun t => Ch [71, 72, 73] s t ∧ FC t n f sd (sws n f sd 0)) (whl_for (fun (i : Nat) (t : Sg) => ((i : Int), t)) (n * n) (fun i t => Ch [71, 72, 73] s t ∧ gi t 71 3 = sd ∧ ∀ c, c < i → gi t 72 c = wtI f sd c ∧ gi t 73 c = if wtI f sd c = 0 then -1 else 500000) (i0 := 0) (t0 := si s 71 3 sd) (Nat.zero_le _) ⟨Ch.si (by decide), gi_si_s _ _ _ _, fun c hc => absurd hc (Nat.not_lt_zero c)⟩ ?_ ?_) ?_
  · rintro i t hi' ⟨h1, h2, h3⟩
    have hGt := hG.ch h1 (by decide) (by decide) (by decide) (by decide)
    have hput : ∀ v : Int, R v → v = wtI f sd i → okP (Fl_run_b52 11 (k : Int) (i : Int) v t) (fun o => (∃ t', o = .inl (((i + 1 : Nat) : Int), t') ∧ Ch [71, 72, 73] s t' ∧ gi t' 71 3 = sd ∧ ∀ c, c < i + 1 → gi t' 72 c = wtI f sd c ∧ gi t' 73 c = if wtI f sd c = 0 then -1 else 500000) ∨ ∃ r, o = .inr r ∧ Ch [71, 72, 73] s r ∧ FC r n f sd (sws n f sd 0)) := by
      intro v hvR hv
      have hset : ∀ z : Int, z = (if wtI f sd i = 0 then -1 else 500000) → okP (Fl_run_b82 11 (k : Int) (i : Int) (i : Int) z (si t 72 i v)) (fun o => (∃ t', o = .inl (((i + 1 : Nat) : Int), t') ∧ Ch [71, 72, 73] s t' ∧ gi t' 71 3 = sd ∧ ∀ c, c < i + 1 → gi t' 72 c = wtI f sd c ∧ gi t' 73 c = if wtI f sd c = 0 then -1 else 500000) ∨ ∃ r, o = .inr r ∧ Ch [71, 72, 73] s r ∧ FC r n f sd (sws n f sd 0)) := by
        intro z hz
        unfold Fl_run_b82
        rw [Hx_set_n (by omega), bnd_some]
        refine okP_some (Or.inl ⟨_, rfl, (h1.tr (Ch.si (by decide))).tr (Ch.si (by decide)), by rw [gi_si_o _ _ _ _ (by omega), gi_si_o _ _ _ _ (by omega)]; exact h2, fun c hc => ?_⟩)
        rw [gi_si_o _ _ _ _ (show (72 : Nat) ≠ 73 by omega)]
        by_cases e : c = i
        · subst e; rw [gi_si_s, gi_si_s]; exact ⟨hv, hz⟩
        · rw [gi_si_k _ _ _ e, gi_si_k _ _ _ e, gi_si_o _ _ _ _ (show (73 : Nat) ≠ 72 by omega)]; exact h3 c (by omega)
      unfold Fl_run_b52
      rw [Hx_set_n (by omega), bnd_some, ifEq_eq _ _ hvR R0]
      by_cases q : v = 0
      · rw [if_pos q]; exact hset (-1) (by rw [if_pos (by omega)])
      · rw [if_neg q]; exact hset 500000 (by rw [if_neg (by omega)])
    show okP (Fl_run_t8 11 (k : Int) (i : Int) t) _
    unfold Fl_run_t8
    rw [hGt.2.2.2.1, ifLt_eq _ _ (R_nat (by omega)) (R_nat (by omega)), if_pos (by omega), Hx_at_n (by omega), bnd_some, h1.g 11, hC i hi', h2, ifEq_eq _ _ (hfr.r hi') R_n1, ifEq_eq _ _ (hfr.r hi') (R_01 hsd)]
    by_cases q : f i = -1
    · rw [if_pos q]; exact hput 1 R1 (by unfold wtI; rw [if_neg (by omega), if_pos q])
    · rw [if_neg q]
      by_cases q2 : f i = sd
      · rw [if_pos q2]; exact hput 3 R3 (by unfold wtI; rw [if_pos q2])
      · rw [if_neg q2]; exact hput 0 R0 (by unfold wtI; rw [if_neg q2, if_neg q])
  · rintro t ⟨h1, h2, h3⟩
    have hGt := hG.ch h1 (by decide) (by decide) (by decide) (by decide)
    show okP (Fl_run_t8 11 (k : Int) ((n * n : Nat) : Int) t) _
    unfold Fl_run_t8
    rw [hGt.2.2.2.1, ifLt_eq _ _ (R_nat (by omega)) (R_nat (by omega)), if_neg (by omega)]
    exact okP_some ⟨t, rfl, h1, h2, h3⟩
  · rintro t - ⟨h1, h2⟩
    unfold Fl_run_l97 Fl_run_b120
    refine okP_bnd (P := fun u => Ch [71, 72, 73] s u ∧ FC u n f sd (sws n f sd k)) (whl_for (fun (j : Nat) (u : Int × Sg) => (u.1, (j : Int), u.2)) k (fun j u => (u.1 = 0 ∨ u.1 = 1) ∧ Ch [71, 72, 73] s u.2 ∧ FC u.2 n f sd (sws n f sd j) ∧ (u.1 = 0 → sws n f sd (j + 1) = sws n f sd j)) (i0 := 0) (t0 := (1, t)) (Nat.zero_le _) ⟨Or.inr rfl, h1, h2, fun q => absurd (show (1 : Int) = 0 from q) (by omega)⟩ ?_ ?_) ?_
    · rintro j ⟨a, u⟩ hj ⟨k1, k2, k3, k4⟩
      have k1 : a = 0 ∨ a = 1 := k1
      have k2 : Ch [71, 72, 73] s u := k2
      have k3 : FC u n f sd (sws n f sd j) := k3
      have k4 : a = 0 → sws n f sd (j + 1) = sws n f sd j := k4
      have hGu := hG.ch k2 (by decide) (by decide) (by decide) (by decide)
      show okP (Fl_run_t97 (k : Int) a (j : Int) u) _
      unfold Fl_run_t97
      rw [ifLt_eq _ _ (R_nat (by omega)) (R_nat (by omega)), if_pos (by omega), ifEq_eq _ _ (R_01 k1) R0]
      by_cases q : a = 0
      · rw [if_pos q]
        refine okP_some (Or.inr ⟨u, rfl, k2, ?_⟩)
        have e := sws_fix (k4 q) (k - j)
        have e2 : j + (k - j) = k := by omega
        rw [e2] at e
        rw [e]; exact k3
      · rw [if_neg q]
        refine okP_bnd2 (sweep_ok hGu hsd k3 (sws_rg n f sd j)) ?_
        rintro v w - ⟨l1, l2, l3, l4⟩
        have l1 : v = 0 ∨ v = 1 := l1
        have l2 : Ch [73] u w := l2
        have l3 : FC w n f sd (sws n f sd (j + 1)) := l3
        have l4 : v = 0 → sws n f sd (j + 1) = sws n f sd j := l4
        refine okP_some (Or.inl ⟨(v, w), rfl, l1, k2.tr (l2.mo (by decide)), l3, fun z => ?_⟩)
        have e : sws n f sd (j + 1 + 1) = swp n f sd (sws n f sd (j + 1)) (n * n) := rfl
        have e2 : sws n f sd (j + 1) = swp n f sd (sws n f sd j) (n * n) := rfl
        rw [e, l4 z, ← e2, l4 z]
    · rintro ⟨a, u⟩ ⟨k1, k2, k3, k4⟩
      show okP (Fl_run_t97 (k : Int) a (k : Int) u) _
      unfold Fl_run_t97
      rw [ifLt_eq _ _ (R_nat (by omega)) (R_nat (by omega)), if_neg (by omega)]
      exact okP_some ⟨u, rfl, k2, k3⟩
    · rintro u - ⟨k1, k2⟩
      have hGu := hG.ch k1 (by decide) (by decide) (by decide) (by decide)
      rw [Fl_amount_eq hGu hsd k2 (sws_rg n f sd k), bnd_some]
      exact okP_some ⟨k1, k2, rfl⟩
end FLC


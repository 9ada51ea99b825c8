/-! ===== distances: the questions ===== -/
noncomputable def usf (n : Nat) (f : Nat → Int) (sd : Int) : Nat := cnt (fun c => lsw n f sd (n * n) ≠ -1 ∧ f c = -1 ∧ pco n f sd c = lsw n f sd (n * n)) (n * n)
def shC (n : Nat) (f : Nat → Int) (p : Int × Int) (i : Nat) : Prop := f i = -1 ∧ pco n f 0 i ≠ -1 ∧ pco n f 1 i ≠ -1 ∧ (p.1 = -1 ∨ pco n f 0 i + pco n f 1 i < p.2)
noncomputable def shr (n : Nat) (f : Nat → Int) : Nat → Int × Int
  | 0 => (-1, 0)
  | i + 1 => @ite _ (shC n f (shr n f i) i) (Classical.propDecidable _) ((i : Int), pco n f 0 i + pco n f 1 i) (shr n f i)
section WQ
variable {s : Sg} {n : Nat} {f : Nat → Int} {sd : Int}
theorem shr_s (i : Nat) : shr n f (i + 1) = @ite _ (shC n f (shr n f i) i) (Classical.propDecidable _) ((i : Int), pco n f 0 i + pco n f 1 i) (shr n f i) := rfl
theorem shr_rg (hn : n ≤ 9) : ∀ i, i ≤ n * n → R (shr n f i).1 ∧ R (shr n f i).2
  | 0, _ => ⟨R_n1, R0⟩
  | i + 1, h => by
    have h81 := nn_le hn
    have ih := shr_rg hn i (by omega)
    rw [shr_s]
    split
    · have h0 := pco_rg n f 0 i
      have h1 := pco_rg n f 1 i
      exact ⟨R_nat (by omega), by show R (pco n f 0 i + pco n f 1 i); unfold R; omega⟩
    · exact ih
/-! the class -/
theorem useful_l_eq (hG : GridOK s n) (hC : CB s n 11 f) (hfr : FR n f) (hsd : sd = 0 ∨ sd = 1) (hP : PX s (pr sd) n f sd) : Hx_useful_l21 (pr sd) (lsw n f sd (n * n)) 0 0 s = some (.inr ((usf n f sd : Nat) : Int), s) := by
  have h81 := nn_le hG.2.1
  have a11 : alen 11 = 81 := rfl
  let p : Nat → Prop := fun c => lsw n f sd (n * n) ≠ -1 ∧ f c = -1 ∧ pco n f sd c = lsw n f sd (n * n)
  unfold Hx_useful_l21
  have key : whl (fun σ : Int × Int => Hx_useful_t21 (pr sd) (lsw n f sd (n * n)) σ.1 σ.2 s) (0, 0) = some ((cnt p (n * n) : Nat) : Int) := by
    refine whl_up' (n * n) (fun i => (((cnt p i : Nat) : Int), (i : Int))) _ rfl (fun i hi' => ?_) ?_
    · show Hx_useful_t21 (pr sd) (lsw n f sd (n * n)) _ (i : Int) s = _
      unfold Hx_useful_t21 Hx_useful_b64 Po_stone
      rw [hG.2.2.2.1, ifLt_eq _ _ (R_nat (by omega)) (R_nat (by omega)), if_pos (by omega), ifEq_eq _ _ (lswR hG.2.1 _) R_n1]
      by_cases q : lsw n f sd (n * n) = -1
      · rw [if_pos q, cnt_f (p := p) (fun k => k.1 q)]; rfl
      · rw [if_neg q]
        show bnd (bnd (Hx_at 11 (i : Int) s) _) _ = _
        rw [Hx_at_n (by omega), bnd_some, bnd_some, hC i hi', ifEq_eq _ _ (hfr.r hi') R_n1]
        by_cases q1 : f i = -1
        · rw [if_pos q1, Pa_cost_eq hG.2.1 hsd hP hi', bnd_some, ifEq_eq _ _ (pcoR hG.2.1 i) (lswR hG.2.1 _)]
          by_cases q2 : pco n f sd i = lsw n f sd (n * n)
          · rw [if_pos q2, cnt_t (p := p) ⟨q, q1, q2⟩]; rfl
          · rw [if_neg q2, cnt_f (p := p) (fun k => q2 k.2.2)]; rfl
        · rw [if_neg q1, cnt_f (p := p) (fun k => q1 k.2.1)]; rfl
    · show Hx_useful_t21 (pr sd) (lsw n f sd (n * n)) _ ((n * n : Nat) : Int) s = _
      unfold Hx_useful_t21
      rw [hG.2.2.2.1, ifLt_eq _ _ (R_nat (by omega)) (R_nat (by omega)), if_neg (by omega)]
  rw [key]; rfl
theorem shared_l_eq (hG : GridOK s n) (hC : CB s n 11 f) (hfr : FR n f) (hP : PX s 63 n f 0) (hQ : PX s 67 n f 1) : Hx_shared_l20 63 67 (-1) 0 0 s = some ((shr n f (n * n)).1, s) := by
  have h81 := nn_le hG.2.1
  have a11 : alen 11 = 81 := rfl
  unfold Hx_shared_l20
  have key : whl (fun σ : Int × Int × Int => Hx_shared_t20 63 67 σ.1 σ.2.1 σ.2.2 s) (-1, 0, 0) = some (shr n f (n * n)).1 := by
    refine whl_up' (n * n) (fun i => ((shr n f i).1, (shr n f i).2, (i : Int))) _ rfl (fun i hi' => ?_) ?_
    · show Hx_shared_t20 63 67 (shr n f i).1 (shr n f i).2 (i : Int) s = some (Sum.inl ((shr n f (i + 1)).1, (shr n f (i + 1)).2, ((i + 1 : Nat) : Int)))
      have hrg := shr_rg (f := f) hG.2.1 i (by omega)
      have h0 := pco_rg n f 0 i
      have h1 := pco_rg n f 1 i
      have c0 : Pa_cost 63 (i : Int) s = some (pco n f 0 i) := Pa_cost_eq (sd := 0) hG.2.1 (Or.inl rfl) hP hi'
      have c1 : Pa_cost 67 (i : Int) s = some (pco n f 1 i) := Pa_cost_eq (sd := 1) hG.2.1 (Or.inr rfl) hQ hi'
      unfold Hx_shared_t20 Hx_shared_b77 Hx_shared_b78 Hx_shared_b100 Hx_shared_b110 Po_stone
      rw [hG.2.2.2.1, ifLt_eq _ _ (R_nat (by omega)) (R_nat (by omega)), if_pos (by omega), c0, bnd_some, c1, bnd_some]
      show bnd (bnd (Hx_at 11 (i : Int) s) _) _ = _
      rw [Hx_at_n (by omega), bnd_some, bnd_some, hC i hi', ifEq_eq _ _ (hfr.r hi') R_n1, ifEq_eq _ _ (pcoR hG.2.1 i) R_n1, ifEq_eq _ _ (pcoR hG.2.1 i) R_n1, ifEq_eq _ _ R0 R0, ifEq_eq _ _ R1 R0, ifEq_eq _ _ hrg.1 R_n1, ifLt_eq _ _ (by unfold R; omega) hrg.2, if_pos rfl, if_neg (show ¬ (1 : Int) = 0 by omega), lett_eq, shr_s]
      by_cases q1 : f i = -1
      · rw [if_pos q1]
        by_cases q2 : pco n f 0 i = -1
        · rw [if_pos q2, if_neg (fun k : shC n f (shr n f i) i => k.2.1 q2)]; rfl
        · rw [if_neg q2]
          by_cases q3 : pco n f 1 i = -1
          · rw [if_pos q3, if_neg (fun k : shC n f (shr n f i) i => k.2.2.1 q3)]; rfl
          · rw [if_neg q3]
            by_cases q4 : (shr n f i).1 = -1
            · rw [if_pos q4, if_pos (show shC n f (shr n f i) i from ⟨q1, q2, q3, Or.inl q4⟩)]; rfl
            · rw [if_neg q4]
              by_cases q5 : pco n f 0 i + pco n f 1 i < (shr n f i).2
              · rw [if_pos q5, if_pos (show shC n f (shr n f i) i from ⟨q1, q2, q3, Or.inr q5⟩)]; rfl
              · rw [if_neg q5, if_neg (fun k : shC n f (shr n f i) i => k.2.2.2.elim q4 q5)]; rfl
      · rw [if_neg q1, if_neg (fun k : shC n f (shr n f i) i => q1 k.1)]; rfl
    · show Hx_shared_t20 63 67 _ _ ((n * n : Nat) : Int) s = _
      unfold Hx_shared_t20
      rw [hG.2.2.2.1, ifLt_eq _ _ (R_nat (by omega)) (R_nat (by omega)), if_neg (by omega)]
  rw [key]; rfl
/-! the reference -/
def MX (s : Sg) (n : Nat) (f : Nat → Int) (sd : Int) : Prop := ∀ x, x < n * n → gi s 95 x = mds n f sd 1 x ∧ gi s 96 x = mds n f sd 2 x
theorem laysWays_ok (hM : MB s n f) (hfr : FR n f) (hsd : sd = 0 ∨ sd = 1) : okP (Mo_laysWays sd s) (fun t => Ch [95, 96] s t ∧ MX t n f sd) := by
  unfold Mo_laysWays
  refine okP_bnd (laysCosts_ok (k := 0) hM hfr hsd (Or.inl rfl) (by omega)) ?_
  rintro t - ⟨h1, h2⟩
  refine okP_bnd (laysCosts_ok (k := 1) (hM.o1 h1 (Or.inl rfl)) hfr hsd (Or.inr rfl) (by omega)) ?_
  rintro u - ⟨k1, k2⟩
  exact okP_some ⟨(h1.mo (by decide)).tr (k1.mo (by decide)), fun x hx => ⟨by rw [k1.g 95]; exact h2 x hx, k2 x hx⟩⟩
theorem Mo_by_eq {c : Nat} (hM : MB s n f) (hfr : FR n f) (hsd : sd = 0 ∨ sd = 1) (hX : MX s n f sd) (hc : c < n * n) : Mo_by sd (c : Int) s = some (pco n f sd c) := by
  have h81 := nn_le hM.1.2.1
  have hu1 : f c = 1 - sd → ¬ Ub f sd c := fun q k => by rcases k with k | k <;> omega
  have hu2 : ¬ f c = 1 - sd → Ub f sd c := fun q => by
    unfold Ub
    rcases hfr c hc with k | k | k <;> omega
  have hmc := mcI_rg f sd c
  have hm : ∀ e, mds n f sd e c = 1000 ∧ dst n f sd e c = -1 ∨ ∃ v : Nat, mds n f sd e c = (v : Int) ∧ dst n f sd e c = (v : Int) ∧ v ≤ n * n ∧ Wk n f sd e c v := by
    intro e
    unfold mds
    rcases dst_rg n f sd e c with q | ⟨v, q, hv, hw⟩
    · exact Or.inl ⟨if_pos q, q⟩
    · exact Or.inr ⟨v, by rw [if_neg (by omega), q], q, hv, hw⟩
  unfold Mo_by Mo_by_b39 pco
  rw [grd_t ⟨by omega, by omega⟩, grd_t ⟨by omega, by omega⟩, Mo_cost_eq hM hfr hsd hc, bnd_some, lett_eq, hM.st hc, bnd_some, ifEq_eq _ _ (hfr.r hc) (by unfold R; omega)]
  show (if f c = 1 - sd then _ else ifLt (gi s 95 c + gi s 96 c - mcI f sd c) 1000 (some (gi s 95 c + gi s 96 c - mcI f sd c)) _) = _
  rw [(hX c hc).1, (hX c hc).2]
  have hm1 := hm 1
  have hm2 := hm 2
  by_cases q : f c = 1 - sd
  · have hu := hu1 q
    have hd : dst n f sd 1 c = -1 := by
      rcases hm1 with ⟨-, k⟩ | ⟨v, -, -, -, hw⟩
      · exact k
      · exact absurd hw.i.2.1 hu
    rw [if_pos q, if_pos (Or.inl hd)]
  · have hu := hu2 q
    have hcu := mcI_u hu
    have hcl := cst_le f sd c
    rw [if_neg q]
    rcases hm1 with ⟨m1, d1⟩ | ⟨v1, m1, d1, b1, w1⟩
    · rw [if_pos (Or.inl d1), m1, hcu]
      rcases hm2 with ⟨m2, d2⟩ | ⟨v2, m2, d2, b2, w2⟩
      · rw [m2, ifLt_eq _ _ (by unfold R; omega) (by unfold R; omega), if_neg (by omega)]
      · have := w2.i.2.2
        rw [m2, ifLt_eq _ _ (by unfold R; omega) (by unfold R; omega), if_neg (by omega)]
    · rw [m1, hcu]
      have := w1.i.2.2
      rcases hm2 with ⟨m2, d2⟩ | ⟨v2, m2, d2, b2, w2⟩
      · rw [if_pos (Or.inr d2), m2, ifLt_eq _ _ (by unfold R; omega) (by unfold R; omega), if_neg (by omega)]
      · rw [m2, ifLt_eq _ _ (by unfold R; omega) (by unfold R; omega), if_pos (by omega), if_neg (fun k => by omega), d1, d2]
theorem Mo_leastOf_eq (hM : MB s n f) (hfr : FR n f) (hsd : sd = 0 ∨ sd = 1) (hX : MX s n f sd) : Mo_leastOf sd s = some (lsw n f sd (n * n)) := by
  have hn := hM.1.2.1
  have h81 := nn_le hn
  unfold Mo_leastOf Mo_leastOf_l4
  have key : whl (fun σ : Int × Int => Mo_leastOf_t4 sd σ.1 σ.2 s) (-1, 0) = some (lsw n f sd (n * n)) := by
    refine whl_up' (n * n) (fun i => (lsw n f sd i, (i : Int))) _ rfl (fun i hi' => ?_) ?_
    · show Mo_leastOf_t4 sd (lsw n f sd i) (i : Int) s = some (Sum.inl (lsw n f sd (i + 1), ((i + 1 : Nat) : Int)))
      have el : lsw n f sd (i + 1) = if pco n f sd i = -1 then lsw n f sd i else if lsw n f sd i = -1 ∨ pco n f sd i < lsw n f sd i then pco n f sd i else lsw n f sd i := rfl
      unfold Mo_leastOf_t4 Mo_leastOf_b37 Mo_leastOf_b40
      rw [el, Mo_cells_eq hM.1, bnd_some, ifLt_eq _ _ (R_nat (by omega)) (R_nat (by omega)), if_pos (by omega), Mo_by_eq hM hfr hsd hX hi', bnd_some, ifEq_eq _ _ (pcoR hn i) R_n1, ifEq_eq _ _ (lswR hn i) R_n1, ifLt_eq _ _ (pcoR hn i) (lswR hn i)]
      by_cases q : pco n f sd i = -1
      · rw [if_pos q, if_pos q]; rfl
      · rw [if_neg q, if_neg q]
        by_cases q2 : lsw n f sd i = -1
        · rw [if_pos q2, if_pos (Or.inl q2)]; rfl
        · rw [if_neg q2]
          by_cases q3 : pco n f sd i < lsw n f sd i
          · rw [if_pos q3, if_pos (Or.inr q3)]; rfl
          · rw [if_neg q3, if_neg (fun k => k.elim q2 q3)]; rfl
    · show Mo_leastOf_t4 sd _ ((n * n : Nat) : Int) s = _
      unfold Mo_leastOf_t4
      rw [Mo_cells_eq hM.1, bnd_some, ifLt_eq _ _ (R_nat (by omega)) (R_nat (by omega)), if_neg (by omega)]
  rw [key]; rfl
theorem Mo_useful_l_eq (hM : MB s n f) (hfr : FR n f) (hsd : sd = 0 ∨ sd = 1) (hX : MX s n f sd) : Mo_useful_l26 sd (lsw n f sd (n * n)) 0 0 s = some (((usf n f sd : Nat) : Int), s) := by
  have hn := hM.1.2.1
  have h81 := nn_le hn
  let p : Nat → Prop := fun c => lsw n f sd (n * n) ≠ -1 ∧ f c = -1 ∧ pco n f sd c = lsw n f sd (n * n)
  unfold Mo_useful_l26
  have key : whl (fun σ : Int × Int => Mo_useful_t26 sd (lsw n f sd (n * n)) σ.1 σ.2 s) (0, 0) = some ((cnt p (n * n) : Nat) : Int) := by
    refine whl_up' (n * n) (fun i => (((cnt p i : Nat) : Int), (i : Int))) _ rfl (fun i hi' => ?_) ?_
    · show Mo_useful_t26 sd (lsw n f sd (n * n)) ((cnt p i : Nat) : Int) (i : Int) s = _
      have z : ((cnt p i : Nat) : Int) + 0 = ((cnt p i : Nat) : Int) := Int.add_zero _
      unfold Mo_useful_t26 Mo_useful_b66 Mo_useful_b67
      rw [lett_eq, lett_eq, z, Mo_cells_eq hM.1, bnd_some, ifLt_eq _ _ (R_nat (by omega)) (R_nat (by omega)), if_pos (by omega), hM.st hi', bnd_some, ifEq_eq _ _ (hfr.r hi') R_n1, ifEq_eq _ _ (lswR hn _) R_n1]
      by_cases q1 : f i = -1
      · rw [if_pos q1]
        by_cases q : lsw n f sd (n * n) = -1
        · rw [if_pos q, cnt_f (p := p) (fun k => k.1 q)]; rfl
        · rw [if_neg q, Mo_by_eq hM hfr hsd hX hi', bnd_some, ifEq_eq _ _ (pcoR hn i) (lswR hn _)]
          by_cases q2 : pco n f sd i = lsw n f sd (n * n)
          · rw [if_pos q2, cnt_t (p := p) ⟨q, q1, q2⟩]; rfl
          · rw [if_neg q2, cnt_f (p := p) (fun k => q2 k.2.2)]; rfl
      · rw [if_neg q1, cnt_f (p := p) (fun k => q1 k.2.1)]; rfl
    · show Mo_useful_t26 sd (lsw n f sd (n * n)) _ ((n * n : Nat) : Int) s = _
      unfold Mo_useful_t26
      rw [Mo_cells_eq hM.1, bnd_some, ifLt_eq _ _ (R_nat (by omega)) (R_nat (by omega)), if_neg (by omega)]
  rw [key]; rfl
theorem Mo_shared_l_ok (hM : MB s n f) (hfr : FR n f) (hX : MX s n f 0) : okP (Mo_shared_l12 0 s) (fun o => Ch [95, 96, 97] s o.2 ∧ o.1 = (shr n f (n * n)).1) := by
  have hn := hM.1.2.1
  have h81 := nn_le hn
  unfold Mo_shared_l12
  refine okP_bnd (P := fun t => Ch [97] s t ∧ ∀ x, x < n * n → gi t 97 x = pco n f 0 x) (whl_for (fun (i : Nat) (t : Sg) => ((i : Int), t)) (n * n) (fun i t => Ch [97] s t ∧ ∀ x, x < i → gi t 97 x = pco n f 0 x) (i0 := 0) (t0 := s) (Nat.zero_le _) ⟨Ch.rf _ _, fun x hx => absurd hx (Nat.not_lt_zero x)⟩ ?_ ?_) ?_
  · rintro i t hi' ⟨h1, h2⟩
    have hMt : MB t n f := hM.ch h1
    have hXt : MX t n f 0 := fun x hx => by rw [h1.g 95, h1.g 96]; exact hX x hx
    show okP (Mo_shared_t12 (i : Int) t) _
    unfold Mo_shared_t12
    rw [Mo_cells_eq hMt.1, bnd_some, ifLt_eq _ _ (R_nat (by omega)) (R_nat (by omega)), if_pos (by omega), Mo_by_eq hMt hfr (Or.inl rfl) hXt hi', bnd_some, grd_t ⟨by omega, by omega⟩, lett_eq]
    refine okP_some (Or.inl ⟨si t 97 i (pco n f 0 i), rfl, h1.tr (Ch.si (by decide)), fun x hx => ?_⟩)
    by_cases q : x = i
    · subst q; rw [gi_si_s]
    · rw [gi_si_k _ _ _ q]; exact h2 x (by omega)
  · rintro t ⟨h1, h2⟩
    have hMt : MB t n f := hM.ch h1
    show okP (Mo_shared_t12 ((n * n : Nat) : Int) t) _
    unfold Mo_shared_t12
    rw [Mo_cells_eq hMt.1, bnd_some, ifLt_eq _ _ (R_nat (by omega)) (R_nat (by omega)), if_neg (by omega)]
    exact okP_some ⟨t, rfl, h1, h2⟩
  · rintro t - ⟨h1, h2⟩
    have hMt : MB t n f := hM.ch h1
    refine okP_bnd (laysWays_ok hMt hfr (Or.inr rfl)) ?_
    rintro u - ⟨k1, k2⟩
    have hMu : MB u n f := hMt.ch k1
    have h97 : ∀ x, x < n * n → gi u 97 x = pco n f 0 x := fun x hx => by rw [k1.g 97]; exact h2 x hx
    unfold Mo_shared_l49
    have key : whl (fun σ : Int × Int × Int => Mo_shared_t49 σ.1 σ.2.1 σ.2.2 u) (-1, 0, 0) = some (shr n f (n * n)).1 := by
      refine whl_up' (n * n) (fun i => ((shr n f i).1, (shr n f i).2, (i : Int))) _ rfl (fun i hi' => ?_) ?_
      · show Mo_shared_t49 (shr n f i).1 (shr n f i).2 (i : Int) u = some (Sum.inl ((shr n f (i + 1)).1, (shr n f (i + 1)).2, ((i + 1 : Nat) : Int)))
        have hrg := shr_rg (f := f) hn i (by omega)
        have h0 := pco_rg n f 0 i
        have h1 := pco_rg n f 1 i
        unfold Mo_shared_t49 Mo_shared_b118 Mo_shared_b123
        rw [Mo_cells_eq hMu.1, bnd_some, ifLt_eq _ _ (R_nat (by omega)) (R_nat (by omega)), if_pos (by omega), hMu.st hi', bnd_some, ifEq_eq _ _ (hfr.r hi') R_n1, grd_t ⟨by omega, by omega⟩]
        show (if f i = -1 then ifEq (gi u 97 i) (-1) _ (bnd _ _) else _) = _
        rw [Mo_by_eq hMu hfr (Or.inr rfl) k2 hi', bnd_some, h97 i hi', ifEq_eq _ _ (pcoR hn i) R_n1, ifEq_eq _ _ (pcoR hn i) R_n1, grd_t ⟨by omega, by omega⟩, bnd_some, lett_eq]
        show (if f i = -1 then (if pco n f 0 i = -1 then _ else if pco n f 1 i = -1 then _ else ifEq (shr n f i).1 (-1) (some (Sum.inl ((i : Int), gi u 97 i + pco n f 1 i, (i : Int) + 1))) (ifLt (gi u 97 i + pco n f 1 i) (shr n f i).2 (some (Sum.inl ((i : Int), gi u 97 i + pco n f 1 i, (i : Int) + 1))) _)) else _) = _
        rw [h97 i hi', ifEq_eq _ _ hrg.1 R_n1, ifLt_eq _ _ (by unfold R; omega) hrg.2, shr_s]
        by_cases q1 : f i = -1
        · rw [if_pos q1]
          by_cases q2 : pco n f 0 i = -1
          · rw [if_pos q2, if_neg (fun k : shC n f (shr n f i) i => k.2.1 q2)]; rfl
          · rw [if_neg q2]
            by_cases q3 : pco n f 1 i = -1
            · rw [if_pos q3, if_neg (fun k : shC n f (shr n f i) i => k.2.2.1 q3)]; rfl
            · rw [if_neg q3]
              by_cases q4 : (shr n f i).1 = -1
              · rw [if_pos q4, if_pos (show shC n f (shr n f i) i from ⟨q1, q2, q3, Or.inl q4⟩)]; rfl
              · rw [if_neg q4]
                by_cases q5 : pco n f 0 i + pco n f 1 i < (shr n f i).2
                · rw [if_pos q5, if_pos (show shC n f (shr n f i) i from ⟨q1, q2, q3, Or.inr q5⟩)]; rfl
                · rw [if_neg q5, if_neg (fun k : shC n f (shr n f i) i => k.2.2.2.elim q4 q5)]; rfl
        · rw [if_neg q1, if_neg (fun k : shC n f (shr n f i) i => q1 k.1)]; rfl
      · show Mo_shared_t49 _ _ ((n * n : Nat) : Int) u = _
        unfold Mo_shared_t49
        rw [Mo_cells_eq hMu.1, bnd_some, ifLt_eq _ _ (R_nat (by omega)) (R_nat (by omega)), if_neg (by omega)]
    rw [key]
    exact okP_some ⟨(h1.mo (by decide)).tr (k1.mo (by decide)), rfl⟩
end WQ

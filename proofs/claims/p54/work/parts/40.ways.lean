/-! ===== the class: what ways cost ===== -/
noncomputable def pco (n : Nat) (f : Nat → Int) (sd : Int) (c : Nat) : Int := if dst n f sd 1 c = -1 ∨ dst n f sd 2 c = -1 then -1 else dst n f sd 1 c + dst n f sd 2 c - (cst f sd c : Int)
noncomputable def lsw (n : Nat) (f : Nat → Int) (sd : Int) : Nat → Int
  | 0 => -1
  | i + 1 => if pco n f sd i = -1 then lsw n f sd i else if lsw n f sd i = -1 ∨ pco n f sd i < lsw n f sd i then pco n f sd i else lsw n f sd i
section WAY
variable {s : Sg} {n : Nat} {f : Nat → Int} {sd e : Int} {r0 A : Nat}
theorem pco_rg (n : Nat) (f : Nat → Int) (sd : Int) (c : Nat) : pco n f sd c = -1 ∨ (0 ≤ pco n f sd c ∧ pco n f sd c ≤ 2 * (n * n : Nat) ∧ Ub f sd c) := by
  unfold pco
  have hcl := cst_le f sd c
  split
  · exact Or.inl rfl
  · rename_i h
    rcases dst_rg n f sd 1 c with q | ⟨v, q, hv, hw⟩
    · exact absurd (Or.inl q) h
    · rcases dst_rg n f sd 2 c with q2 | ⟨v2, q2, hv2, hw2⟩
      · exact absurd (Or.inr q2) h
      · have h1 := hw.i
        have h2 := hw2.i
        exact Or.inr ⟨by omega, by omega, h1.2.1⟩
theorem pcoR (hn : n ≤ 9) (c : Nat) : R (pco n f sd c) := by
  have h81 := nn_le hn
  rcases pco_rg n f sd c with q | ⟨q1, q2, -⟩
  · rw [q]; exact R_n1
  · unfold R; omega
theorem lsw_rg (n : Nat) (f : Nat → Int) (sd : Int) : ∀ i, lsw n f sd i = -1 ∨ (0 ≤ lsw n f sd i ∧ lsw n f sd i ≤ 2 * (n * n : Nat))
  | 0 => Or.inl rfl
  | i + 1 => by
    have ih := lsw_rg n f sd i
    unfold lsw
    split
    · exact ih
    · split
      · rcases pco_rg n f sd i with q | ⟨q1, q2, -⟩
        · exact Or.inl q
        · exact Or.inr ⟨q1, q2⟩
      · exact ih
theorem lswR (hn : n ≤ 9) (i : Nat) : R (lsw n f sd i) := by
  have h81 := nn_le hn
  rcases lsw_rg n f sd i with q | ⟨q1, q2⟩
  · rw [q]; exact R_n1
  · unfold R; omega
theorem and_e {v : Int} (hv : v = 0 ∨ v = 1 ∨ v = 2) (he : e = 1 ∨ e = 2) : iandI v e = 0 ↔ ¬ v = e := by
  rcases hv with rfl | rfl | rfl <;> rcases he with rfl | rfl <;> decide
theorem spread_ok (hG : GridOK s n) (hsd : sd = 0 ∨ sd = 1) (he : e = 1 ∨ e = 2) (hA : Fine A) (hr : alen (r0 + 1) = 81) (hrA : r0 + 1 ≠ A) (hcost : ∀ x, x < n * n → gi s (r0 + 1) x = cvI f sd x) :
    okP (Pa_spread r0 A sd e s) (fun t => Ch [A] s t ∧ AllX t A n f sd e) := by
  have h81 := nn_le hG.2.1
  have hA80 := ne80 hA.1
  have hA1 := hA.1
  unfold Pa_spread Pa_spread_l3
  refine okP_bnd (P := fun t => Ch [A] s t ∧ ∀ x, x < n * n → gi t A x = if edg n sd x = e then cvI f sd x else -1) (whl_for (fun (i : Nat) (t : Sg) => ((i : Int), t)) (n * n) (fun i t => Ch [A] s t ∧ ∀ x, x < i → gi t A x = if edg n sd x = e then cvI f sd x else -1) (i0 := 0) (t0 := s) (Nat.zero_le _) ⟨Ch.rf _ _, fun x hx => absurd hx (Nat.not_lt_zero x)⟩ ?_ ?_) ?_
  · rintro i t hi' ⟨h1, h2⟩
    have hGt := hG.o hA h1
    have hput : ∀ v : Int, v = (if edg n sd i = e then cvI f sd i else -1) → okP (Pa_spread_b58 r0 A sd e (i : Int) (i : Int) v t) (fun o => (∃ t', o = .inl (((i + 1 : Nat) : Int), t') ∧ Ch [A] s t' ∧ ∀ x, x < i + 1 → gi t' A x = if edg n sd x = e then cvI f sd x else -1) ∨ ∃ r, o = .inr r ∧ Ch [A] s r ∧ ∀ x, x < n * n → gi r A x = if edg n sd x = e then cvI f sd x else -1) := by
      intro v hv
      unfold Pa_spread_b58
      rw [Hx_set_n (by omega), bnd_some]
      refine okP_some (Or.inl ⟨_, rfl, h1.tr (Ch.si List.mem_cons_self hA80), fun x hx => ?_⟩)
      by_cases q : x = i
      · subst q; rw [gi_si_s]; exact hv
      · rw [gi_si_k _ _ _ q]; exact h2 x (by omega)
    show okP (Pa_spread_t3 r0 A sd e (i : Int) t) _
    unfold Pa_spread_t3 Pa_spread_b35
    rw [hGt.2.2.2.1, ifLt_eq _ _ (R_nat (by omega)) (R_nat (by omega)), if_pos (by omega), Gr_edges_eq hGt hi' hsd, bnd_some, ifEq_eq _ _ (R_iand _ _) R0]
    by_cases q : edg n sd i = e
    · rw [if_neg (fun k => (and_e (edg_rg n sd i) he).mp k q), ifEq_eq _ _ R1 R0, if_neg (by omega), Hx_at_n (by omega), bnd_some, h1.g (r0 + 1) (fun q => hrA (List.mem_singleton.mp q)) (ne80 hr), hcost i hi']
      exact hput _ (by rw [if_pos q])
    · rw [if_pos ((and_e (edg_rg n sd i) he).mpr q), ifEq_eq _ _ R0 R0, if_pos rfl]
      exact hput _ (by rw [if_neg q])
  · rintro t ⟨h1, h2⟩
    have hGt := hG.o hA h1
    show okP (Pa_spread_t3 r0 A sd e ((n * n : Nat) : Int) t) _
    unfold Pa_spread_t3
    rw [hGt.2.2.2.1, ifLt_eq _ _ (R_nat (by omega)) (R_nat (by omega)), if_neg (by omega)]
    exact okP_some ⟨t, rfl, h1, h2⟩
  · rintro t - ⟨h1, h2⟩
    have hGt := hG.o hA h1
    have hct : ∀ x, x < n * n → gi t (r0 + 1) x = cvI f sd x := fun x hx => by rw [h1.g (r0 + 1) (fun q => hrA (List.mem_singleton.mp q)) (ne80 hr)]; exact hcost x hx
    refine okP_mono (rounds_ok (e := e) hGt hsd hA hr hrA hct ?_ ?_) ?_
    · intro x hx
      rw [h2 x hx]
      by_cases q : edg n sd x = e
      · rw [if_pos q]
        by_cases hu : Ub f sd x
        · rw [cvI_u hsd hu]
          exact Or.inr ⟨cst f sd x, rfl, cst_le f sd x, Wk.b hx hu q⟩
        · exact Or.inl (cvI_n.mpr hu)
      · rw [if_neg q]; exact Or.inl rfl
    · intro x hx hu q
      rw [h2 x hx, if_pos q, cvI_u hsd hu]
      exact ⟨by omega, Int.le_refl _⟩
    · rintro u ⟨k1, k2⟩
      exact ⟨h1.tr k1, k2⟩
def PX (s : Sg) (r0 n : Nat) (f : Nat → Int) (sd : Int) : Prop := ∀ x, x < n * n → gi s (r0 + 1) x = cvI f sd x ∧ gi s (r0 + 2) x = dst n f sd 1 x ∧ gi s (r0 + 3) x = dst n f sd 2 x
theorem PX.ch {s' : Sg} {L : List Nat} (h : PX s r0 n f sd) (hc : Ch L s s') (hr : r0 < 70) (hL : ∀ x ∈ [r0 + 1, r0 + 2, r0 + 3], x ∉ L) : PX s' r0 n f sd := by
  intro x hx
  rw [hc.g (r0 + 1) (hL _ (by simp)) (by omega), hc.g (r0 + 2) (hL _ (by simp)) (by omega), hc.g (r0 + 3) (hL _ (by simp)) (by omega)]
  exact h x hx
theorem find_ok (hG : GridOK s n) (hC : CB s n 11 f) (hfr : FR n f) (hsd : sd = 0 ∨ sd = 1) (hr : r0 = 63 ∨ r0 = 67) :
    okP (Pa_find r0 11 sd s) (fun t => Ch [r0 + 1, r0 + 2, r0 + 3] s t ∧ PX t r0 n f sd) := by
  have h81 := nn_le hG.2.1
  have a11 : alen 11 = 81 := rfl
  have a1 : alen (r0 + 1) = 81 := by rcases hr with rfl | rfl <;> rfl
  have f1 : Fine (r0 + 1) := ⟨a1, by omega, by omega, by omega, by omega⟩
  have f2 : Fine (r0 + 2) := ⟨by rcases hr with rfl | rfl <;> rfl, by omega, by omega, by omega, by omega⟩
  have f3 : Fine (r0 + 3) := ⟨by rcases hr with rfl | rfl <;> rfl, by omega, by omega, by omega, by omega⟩
  unfold Pa_find Pa_find_l2
  refine okP_bnd (P := fun t => Ch [r0 + 1] s t ∧ ∀ x, x < n * n → gi t (r0 + 1) x = cvI f sd x) (whl_for (fun (i : Nat) (t : Sg) => ((i : Int), t)) (n * n) (fun i t => Ch [r0 + 1] s t ∧ ∀ x, x < i → gi t (r0 + 1) x = cvI f sd x) (i0 := 0) (t0 := s) (Nat.zero_le _) ⟨Ch.rf _ _, fun x hx => absurd hx (Nat.not_lt_zero x)⟩ ?_ ?_) ?_
  · rintro i t hi' ⟨h1, h2⟩
    have hGt := hG.o f1 h1
    have hput : ∀ v : Int, v = cvI f sd i → okP (Pa_find_b46 r0 11 sd (i : Int) (i : Int) v t) (fun o => (∃ t', o = .inl (((i + 1 : Nat) : Int), t') ∧ Ch [r0 + 1] s t' ∧ ∀ x, x < i + 1 → gi t' (r0 + 1) x = cvI f sd x) ∨ ∃ r, o = .inr r ∧ Ch [r0 + 1] s r ∧ ∀ x, x < n * n → gi r (r0 + 1) x = cvI f sd x) := by
      intro v hv
      unfold Pa_find_b46
      rw [Hx_set_n (by omega), bnd_some]
      refine okP_some (Or.inl ⟨_, rfl, h1.tr (Ch.si List.mem_cons_self (ne80 a1)), fun x hx => ?_⟩)
      by_cases q : x = i
      · subst q; rw [gi_si_s]; exact hv
      · rw [gi_si_k _ _ _ q]; exact h2 x (by omega)
    show okP (Pa_find_t2 r0 11 sd (i : Int) t) _
    unfold Pa_find_t2
    rw [hGt.2.2.2.1, ifLt_eq _ _ (R_nat (by omega)) (R_nat (by omega)), if_pos (by omega), Hx_at_n (by omega), bnd_some, h1.g 11 (fun q => by have := List.mem_singleton.mp q; omega), hC i hi', ifEq_eq _ _ (hfr.r hi') R_n1, ifEq_eq _ _ (hfr.r hi') (R_01 hsd)]
    by_cases q : f i = -1
    · rw [if_pos q]
      exact hput 1 (by unfold cvI; rw [if_pos q])
    · rw [if_neg q]
      by_cases q2 : f i = sd
      · rw [if_pos q2]
        exact hput 0 (by unfold cvI; rw [if_neg q, if_pos q2])
      · rw [if_neg q2]
        exact hput (-1) (by unfold cvI; rw [if_neg q, if_neg q2])
  · rintro t ⟨h1, h2⟩
    have hGt := hG.o f1 h1
    show okP (Pa_find_t2 r0 11 sd ((n * n : Nat) : Int) t) _
    unfold Pa_find_t2
    rw [hGt.2.2.2.1, ifLt_eq _ _ (R_nat (by omega)) (R_nat (by omega)), if_neg (by omega)]
    exact okP_some ⟨t, rfl, h1, h2⟩
  · rintro t - ⟨h1, h2⟩
    have hGt := hG.o f1 h1
    refine okP_bnd (spread_ok (e := 1) hGt hsd (Or.inl rfl) f2 a1 (by omega) h2) ?_
    rintro u - ⟨k1, k2⟩
    have hGu := hGt.o f2 k1
    refine okP_bnd (spread_ok (e := 2) hGu hsd (Or.inr rfl) f3 a1 (by omega) (fun x hx => by rw [k1.g (r0 + 1) (fun q => by have := List.mem_singleton.mp q; omega) (ne80 a1)]; exact h2 x hx)) ?_
    rintro w - ⟨l1, l2⟩
    refine okP_some ⟨((h1.mo ?_).tr (k1.mo ?_)).tr (l1.mo ?_), fun x hx => ⟨?_, ?_, l2 x hx⟩⟩
    · intro x hx; rw [List.mem_singleton.mp hx]; simp
    · intro x hx; rw [List.mem_singleton.mp hx]; simp
    · intro x hx; rw [List.mem_singleton.mp hx]; simp
    · rw [l1.g (r0 + 1) (fun q => by have := List.mem_singleton.mp q; omega) (ne80 a1), k1.g (r0 + 1) (fun q => by have := List.mem_singleton.mp q; omega) (ne80 a1)]; exact h2 x hx
    · rw [l1.g (r0 + 2) (fun q => by have := List.mem_singleton.mp q; omega) (ne80 f2.1)]; exact k2 x hx
def pr (sd : Int) : Nat := if sd = 0 then 63 else 67
theorem pathsOf_ok (hG : GridOK s n) (hC : CB s n 11 f) (hfr : FR n f) (hsd : sd = 0 ∨ sd = 1) :
    okP (Hx_pathsOf sd s) (fun o => o.1 = pr sd ∧ Ch [pr sd + 1, pr sd + 2, pr sd + 3] s o.2 ∧ PX o.2 (pr sd) n f sd) := by
  unfold Hx_pathsOf Hx_pathsOf_b15
  rw [ifEq_eq _ _ (R_01 hsd) R0]
  rcases hsd with rfl | rfl
  · rw [if_pos rfl]
    refine okP_bnd (find_ok hG hC hfr (Or.inl rfl) (Or.inl rfl)) ?_
    rintro t - h
    exact okP_some ⟨rfl, h⟩
  · rw [if_neg (by omega)]
    refine okP_bnd (find_ok hG hC hfr (Or.inr rfl) (Or.inr rfl)) ?_
    rintro t - h
    exact okP_some ⟨rfl, h⟩
theorem pr_a (sd : Int) : alen (pr sd + 1) = 81 ∧ alen (pr sd + 2) = 81 ∧ alen (pr sd + 3) = 81 := by
  unfold pr
  split <;> exact ⟨rfl, rfl, rfl⟩
theorem Pa_cost_eq {c : Nat} (hn : n ≤ 9) (hsd : sd = 0 ∨ sd = 1) (hP : PX s (pr sd) n f sd) (hc : c < n * n) : Pa_cost (pr sd) (c : Int) s = some (pco n f sd c) := by
  have h81 := nn_le hn
  obtain ⟨a1, a2, a3⟩ := pr_a sd
  obtain ⟨h1, h2, h3⟩ := hP c hc
  have hR : ∀ e, R (dst n f sd e c) := by
    intro e
    rcases dst_rg n f sd e c with q | ⟨v, q, hv, -⟩
    · rw [q]; exact R_n1
    · rw [q]; exact R_nat (by omega)
  unfold Pa_cost Pa_cost_b28 pco
  rw [Hx_at_n (by omega), bnd_some, Hx_at_n (by omega), bnd_some, h2, h3, ifEq_eq _ _ (hR 1) R_n1, ifEq_eq _ _ (hR 2) R_n1, Hx_at_n (by omega), bnd_some, h1]
  by_cases q : dst n f sd 1 c = -1
  · rw [if_pos q, if_pos (Or.inl q)]
  · rw [if_neg q]
    by_cases q2 : dst n f sd 2 c = -1
    · rw [if_pos q2, if_pos (Or.inr q2)]
    · have hu : Ub f sd c := by
        rcases dst_rg n f sd 1 c with k | ⟨v, -, -, hw⟩
        · exact absurd k q
        · exact hw.i.2.1
      rw [if_neg q2, if_neg (fun k => k.elim q q2), cvI_u hsd hu]
theorem Pa_least_eq (hG : GridOK s n) (hsd : sd = 0 ∨ sd = 1) (hP : PX s (pr sd) n f sd) : Pa_least (pr sd) s = some (lsw n f sd (n * n)) := by
  have h81 := nn_le hG.2.1
  unfold Pa_least Pa_least_l4
  have key : whl (fun σ : Int × Int => Pa_least_t4 (pr sd) σ.1 σ.2 s) (-1, 0) = some (lsw n f sd (n * n)) := by
    refine whl_up' (n * n) (fun i => (lsw n f sd i, (i : Int))) _ rfl (fun i hi' => ?_) ?_
    · show Pa_least_t4 (pr sd) (lsw n f sd i) (i : Int) s = some (Sum.inl (lsw n f sd (i + 1), ((i + 1 : Nat) : Int)))
      have el : lsw n f sd (i + 1) = if pco n f sd i = -1 then lsw n f sd i else if lsw n f sd i = -1 ∨ pco n f sd i < lsw n f sd i then pco n f sd i else lsw n f sd i := rfl
      unfold Pa_least_t4 Pa_least_b36 Pa_least_b38
      rw [el, hG.2.2.2.1, ifLt_eq _ _ (R_nat (by omega)) (R_nat (by omega)), if_pos (by omega), Pa_cost_eq hG.2.1 hsd hP hi', bnd_some, ifEq_eq _ _ (pcoR hG.2.1 i) R_n1, ifEq_eq _ _ (lswR hG.2.1 i) R_n1, ifLt_eq _ _ (pcoR hG.2.1 i) (lswR hG.2.1 i)]
      by_cases q : pco n f sd i = -1
      · rw [if_pos q, if_pos q]; rfl
      · rw [if_neg q, if_neg q]
        by_cases q2 : lsw n f sd i = -1
        · rw [if_pos q2, if_pos (Or.inl q2)]; rfl
        · rw [if_neg q2]
          by_cases q3 : pco n f sd i < lsw n f sd i
          · rw [if_pos q3, if_pos (Or.inr q3)]; rfl
          · rw [if_neg q3, if_neg (fun k => k.elim q2 q3)]; rfl
    · show Pa_least_t4 (pr sd) _ ((n * n : Nat) : Int) s = _
      unfold Pa_least_t4
      rw [hG.2.2.2.1, ifLt_eq _ _ (R_nat (by omega)) (R_nat (by omega)), if_neg (by omega)]
  rw [key]; rfl
end WAY


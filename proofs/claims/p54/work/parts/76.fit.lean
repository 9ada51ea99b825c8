/-! ===== the grid is fitted; a board begins ===== -/
def npl (n c k : Nat) : List Int := ((List.range k).map (rnd n c)).filter (fun x => decide (x ≠ -1))
def bgn (n : Nat) : Bd := Bd.mk n (fun _ => -1) 0 0 (-1) 0 (fun _ => 0)
section FIT
variable {s : Sg} {n : Nat}
theorem npl_s (n c k : Nat) : npl n c (k + 1) = npl n c k ++ (if rnd n c k = -1 then [] else [rnd n c k]) := by
  unfold npl
  rw [List.range_succ, List.map_append, List.filter_append]
  congr 1
  show List.filter _ [rnd n c k] = _
  by_cases q : rnd n c k = -1
  · rw [if_pos q, List.filter_cons_of_neg (by simp [q])]
    rfl
  · rw [if_neg q, List.filter_cons_of_pos (by simp [q])]
    rfl
theorem npl_len (n c : Nat) : ∀ k, (npl n c k).length ≤ k
  | 0 => Nat.le_refl _
  | k + 1 => by
    have := npl_len n c k
    rw [npl_s, List.length_append]
    split
    · simp; omega
    · simp; omega
theorem rnd_R (hn : n ≤ 9) (c k : Nat) : R (rnd n c k) := by
  have h81 := nn_le hn
  rcases rnd_rg n c k with e | ⟨y, e, hy⟩
  · rw [e]; exact R_n1
  · rw [e]; exact R_nat (by omega)
theorem list_ok {c : Nat} (h3 : gi s 1 3 = (n : Int)) (hn : 2 ≤ n ∧ n ≤ 9) (hS : Stat s) (hc : c < n * n) : okP (Gr_listNeighbours (c : Int) s) (fun t => Ch [2] s t ∧ (∀ i, ¬ (c * 6 ≤ i ∧ i < c * 6 + 6) → gi t 2 i = gi s 2 i) ∧ ∀ j, j < 6 → gi t 2 (c * 6 + j) = nbj n c j) := by
  have h81 := nn_le hn.2
  have a2 : alen 2 = 486 := rfl
  have a10 : alen 1000 = 6 := rfl
  have a11 : alen 1001 = 6 := rfl
  have hn0 : 0 < n ∧ n ≤ 9 := ⟨by omega, hn.2⟩
  have R6 : R 6 := by unfold R; omega
  unfold Gr_listNeighbours Gr_listNeighbours_l4
  refine okP_bnd (P := fun r : Int × Sg => r.1 = ((npl n c 6).length : Int) ∧ Ch [2] s r.2 ∧ (∀ i, ¬ (c * 6 ≤ i ∧ i < c * 6 + 6) → gi r.2 2 i = gi s 2 i) ∧ ∀ j, j < (npl n c 6).length → gi r.2 2 (c * 6 + j) = nbj n c j) (whl_for (fun (i : Nat) (t : Sg) => (((npl n c i).length : Int), (i : Int), t)) 6 (fun i t => Ch [2] s t ∧ (∀ i, ¬ (c * 6 ≤ i ∧ i < c * 6 + 6) → gi t 2 i = gi s 2 i) ∧ ∀ j, j < (npl n c i).length → gi t 2 (c * 6 + j) = ((npl n c i)[j]?).getD (-1)) (i0 := 0) (t0 := s) (Nat.zero_le _) ⟨Ch.rf _ _, fun _ _ => rfl, fun j hj => absurd hj (Nat.not_lt_zero j)⟩ ?_ ?_) ?_
  · rintro i t hi' ⟨h1, h2, h4⟩
    have hl := npl_len n c i
    have e3 : gi t 1 3 = (n : Int) := (h1.g 1).trans h3
    have hSt := hS.ch h1 (by decide)
    have hR1 : R (((c / n : Nat) : Int) + drow i) := by
      have h5 : c / n < n := Nat.div_lt_of_lt_mul hc
      have h6 : ∀ k, k < 6 → -1 ≤ drow k ∧ drow k ≤ 1 := by decide
      have := h6 i hi'
      have h7 := Int.natCast_nonneg (c / n)
      unfold R; omega
    have hR2 : R (((c % n : Nat) : Int) + dcol i) := by
      have h5 : c % n < n := Nat.mod_lt _ hn0.1
      have h6 : ∀ k, k < 6 → -1 ≤ dcol k ∧ dcol k ≤ 1 := by decide
      have := h6 i hi'
      have h7 := Int.natCast_nonneg (c % n)
      unfold R; omega
    have e9 : (c : Int) * 6 + ((npl n c i).length : Int) = ((c * 6 + (npl n c i).length : Nat) : Int) := by omega
    show okP (Gr_listNeighbours_t4 (c : Int) ((npl n c i).length : Int) (i : Int) t) _
    unfold Gr_listNeighbours_t4 Gr_listNeighbours_b66
    rw [ifLt_eq _ _ (R_nat (by omega)) R6, if_pos (by omega), Gr_row_eq e3 hn0 (by omega), bnd_some, Hx_at_n (by omega), bnd_some, Gr_column_eq e3 hn0 (by omega), bnd_some, Hx_at_n (by omega), bnd_some, (hSt.1 i hi').1, (hSt.1 i hi').2, Gr_cellAt_eq e3 hn.2 hR1 hR2, bnd_some]
    show okP (ifEq (rnd n c i) (-1) _ _) _
    rw [ifEq_eq _ _ (rnd_R hn.2 c i) R_n1]
    by_cases q : rnd n c i = -1
    · have e := npl_s n c i
      rw [if_pos q, List.append_nil] at e
      rw [if_pos q]
      refine okP_some (Or.inl ⟨t, by rw [e]; rfl, h1, h2, ?_⟩)
      rw [e]
      exact h4
    · have e := npl_s n c i
      rw [if_neg q] at e
      have el : (npl n c (i + 1)).length = (npl n c i).length + 1 := by rw [e, List.length_append]; rfl
      rw [if_neg q, e9, Hx_set_n (by omega), bnd_some]
      refine okP_some (Or.inl ⟨si t 2 (c * 6 + (npl n c i).length) (rnd n c i), by rw [el]; rfl, h1.tr (Ch.si (by decide)), fun k hk => ?_, fun j hj => ?_⟩)
      · rw [gi_si_k _ _ _ (by omega)]
        exact h2 k hk
      · by_cases z : j = (npl n c i).length
        · subst z
          rw [gi_si_s, e, List.getElem?_append_right (Nat.le_refl _), Nat.sub_self]
          rfl
        · rw [gi_si_k _ _ _ (by omega), e, List.getElem?_append_left (by omega)]
          exact h4 j (by omega)
  · rintro t ⟨h1, h2, h4⟩
    show okP (Gr_listNeighbours_t4 (c : Int) ((npl n c 6).length : Int) ((6 : Nat) : Int) t) _
    unfold Gr_listNeighbours_t4
    rw [ifLt_eq _ _ (R_nat (by omega)) R6, if_neg (by omega)]
    exact okP_some ⟨(((npl n c 6).length : Int), t), rfl, rfl, h1, h2, h4⟩
  · rintro ⟨m, t⟩ - ⟨e, h1, h2, h4⟩
    have e : m = ((npl n c 6).length : Int) := e
    have h1 : Ch [2] s t := h1
    have h2 : ∀ i, ¬ (c * 6 ≤ i ∧ i < c * 6 + 6) → gi t 2 i = gi s 2 i := h2
    have h4 : ∀ j, j < (npl n c 6).length → gi t 2 (c * 6 + j) = nbj n c j := h4
    have hl := npl_len n c 6
    subst e
    unfold Gr_listNeighbours_l74
    refine okP_bnd (P := fun u => Ch [2] s u ∧ (∀ i, ¬ (c * 6 ≤ i ∧ i < c * 6 + 6) → gi u 2 i = gi s 2 i) ∧ ∀ j, j < 6 → gi u 2 (c * 6 + j) = nbj n c j) (whl_for (fun (i : Nat) (t : Sg) => ((i : Int), t)) 6 (fun i u => (npl n c 6).length ≤ i ∧ Ch [2] s u ∧ (∀ i, ¬ (c * 6 ≤ i ∧ i < c * 6 + 6) → gi u 2 i = gi s 2 i) ∧ ∀ j, j < i → gi u 2 (c * 6 + j) = nbj n c j) (i0 := (npl n c 6).length) (t0 := t) hl ⟨Nat.le_refl _, h1, h2, h4⟩ ?_ ?_) ?_
    · rintro i u hi' ⟨k0, k1, k2, k3⟩
      have e9 : (c : Int) * 6 + (i : Int) = ((c * 6 + i : Nat) : Int) := by omega
      show okP (Gr_listNeighbours_t74 (c : Int) (i : Int) u) _
      unfold Gr_listNeighbours_t74
      rw [ifLt_eq _ _ (R_nat (by omega)) R6, if_pos (by omega), e9, Hx_set_n (by omega), bnd_some]
      refine okP_some (Or.inl ⟨si u 2 (c * 6 + i) (-1), rfl, by omega, k1.tr (Ch.si (by decide)), fun k hk => by rw [gi_si_k _ _ _ (by omega)]; exact k2 k hk, fun j hj => ?_⟩)
      by_cases y : j = i
      · subst y
        rw [gi_si_s]
        unfold nbj
        rw [show (nbl n c)[j]? = none from List.getElem?_eq_none (by show (npl n c 6).length ≤ j; omega)]
        rfl
      · rw [gi_si_k _ _ _ (by omega)]
        exact k3 j (by omega)
    · rintro u ⟨k0, k1, k2, k3⟩
      show okP (Gr_listNeighbours_t74 (c : Int) ((6 : Nat) : Int) u) _
      unfold Gr_listNeighbours_t74
      rw [ifLt_eq _ _ (R_nat (by omega)) R6, if_neg (by omega)]
      exact okP_some ⟨u, rfl, k1, k2, k3⟩
    · rintro u - h
      exact okP_some h
theorem edgesOfLine_eq {l : Nat} (h3 : gi s 1 3 = (n : Int)) (hn : n ≤ 9) (hl : l ≤ 1000) (h1 : 1 ≤ n) : Gr_edgesOfLine (l : Int) s = some (edgeOf n l) := by
  unfold Gr_edgesOfLine edgeOf
  rw [h3, ifEq_eq _ _ (R_nat (by omega)) R0, ifEq_eq _ _ (R_nat (by omega)) (by unfold R; omega)]
  by_cases q : l = 0
  · rw [if_pos (by omega), if_pos q]
  · rw [if_neg (by omega), if_neg q]
    by_cases z : l = n - 1
    · rw [if_pos (by omega), if_pos z]
    · rw [if_neg (by omega), if_neg z]
theorem fit_ok (hn : 2 ≤ n ∧ n ≤ 9) (hS : Stat s) (h3 : gi s 1 3 = (n : Int) → GridOK s n) (hR : R (gi s 1 3)) : okP (Gr_fit (n : Int) s) (fun t => Ch [1, 2, 3, 4] s t ∧ GridOK t n) := by
  have h81 := nn_le hn.2
  have a3 : alen 3 = 81 := rfl
  have a4 : alen 4 = 81 := rfl
  unfold Gr_fit
  rw [ifEq_eq _ _ (R_nat (by omega)) hR]
  by_cases q : (n : Int) = gi s 1 3
  · rw [if_pos q]
    exact okP_some ⟨Ch.rf _ _, h3 q.symm⟩
  · have c0 : Ch [1, 2, 3, 4] s (si (si s 1 3 (n : Int)) 1 4 ((n : Int) * (n : Int))) := (Ch.si (by decide)).tr (Ch.si (by decide))
    rw [if_neg q, lett_eq, lett_eq]
    unfold Gr_fit_l23
    have hnn : (n : Int) * (n : Int) = ((n * n : Nat) : Int) := nnI n
    have p3 : gi (si (si s 1 3 (n : Int)) 1 4 ((n : Int) * (n : Int))) 1 3 = (n : Int) := by rw [gi_si_k _ _ _ (by omega), gi_si_s]
    have p4 : gi (si (si s 1 3 (n : Int)) 1 4 ((n : Int) * (n : Int))) 1 4 = ((n * n : Nat) : Int) := by rw [gi_si_s]; exact hnn
    generalize si (si s 1 3 (n : Int)) 1 4 ((n : Int) * (n : Int)) = s0 at c0 p3 p4
    refine okP_bnd (P := fun t => Ch [2, 3, 4] s0 t ∧ ∀ c, c < n * n → gi t 3 c = edgeOf n (c / n) ∧ gi t 4 c = edgeOf n (c % n) ∧ ∀ j, j < 6 → gi t 2 (c * 6 + j) = nbj n c j) (whl_for (fun (i : Nat) (t : Sg) => ((i : Int), t)) (n * n) (fun i t => Ch [2, 3, 4] s0 t ∧ ∀ c, c < i → gi t 3 c = edgeOf n (c / n) ∧ gi t 4 c = edgeOf n (c % n) ∧ ∀ j, j < 6 → gi t 2 (c * 6 + j) = nbj n c j) (i0 := 0) (t0 := s0) (Nat.zero_le _) ⟨Ch.rf _ _, fun c hc => absurd hc (Nat.not_lt_zero c)⟩ ?_ ?_) ?_
    · rintro i t hi' ⟨h1, h2⟩
      have hn0 : 0 < n ∧ n ≤ 9 := ⟨by omega, hn.2⟩
      have hd : i / n < n := Nat.div_lt_of_lt_mul hi'
      have hm : i % n < n := Nat.mod_lt _ hn0.1
      have e3 : gi t 1 3 = (n : Int) := (h1.g 1).trans p3
      have k1 : Ch [3] t (si t 3 i (edgeOf n (i / n))) := Ch.si (by decide)
      have k2 : Ch [4] (si t 3 i (edgeOf n (i / n))) (si (si t 3 i (edgeOf n (i / n))) 4 i (edgeOf n (i % n))) := Ch.si (by decide)
      show okP (Gr_fit_t23 (i : Int) t) _
      unfold Gr_fit_t23
      rw [h1.g 1, p4, ifLt_eq _ _ (R_nat (by omega)) (R_nat (by omega)), if_pos (by omega), Gr_row_eq e3 hn0 (by omega), bnd_some, edgesOfLine_eq e3 hn.2 (by omega) (by omega), bnd_some, Hx_set_n (by omega), bnd_some, Gr_column_eq ((k1.g 1).trans e3) hn0 (by omega), bnd_some, edgesOfLine_eq ((k1.g 1).trans e3) hn.2 (by omega) (by omega), bnd_some, Hx_set_n (by omega), bnd_some]
      refine okP_bnd (list_ok ((k2.g 1).trans ((k1.g 1).trans e3)) hn ((((hS.ch c0 (by decide)).ch h1 (by decide)).ch k1 (by decide)).ch k2 (by decide)) hi') ?_
      rintro u - ⟨l1, l2, l3⟩
      refine okP_some (Or.inl ⟨u, rfl, ((h1.tr (k1.mo (by decide))).tr (k2.mo (by decide))).tr (l1.mo (by decide)), fun c hc => ?_⟩)
      by_cases z : c = i
      · subst z
        refine ⟨?_, ?_, l3⟩
        · rw [l1.g 3, gi_si_o _ _ _ _ (by omega), gi_si_s]
        · rw [l1.g 4, gi_si_s]
      · obtain ⟨m1, m2, m3⟩ := h2 c (by omega)
        refine ⟨?_, ?_, fun j hj => ?_⟩
        · rw [l1.g 3, gi_si_o _ _ _ _ (by omega), gi_si_k _ _ _ z]; exact m1
        · rw [l1.g 4, gi_si_k _ _ _ z, gi_si_o _ _ _ _ (by omega)]; exact m2
        · rw [l2 _ (by omega), k2.g 2, k1.g 2]; exact m3 j hj
    · rintro t ⟨h1, h2⟩
      show okP (Gr_fit_t23 ((n * n : Nat) : Int) t) _
      unfold Gr_fit_t23
      rw [h1.g 1, p4, ifLt_eq _ _ (R_nat (by omega)) (R_nat (by omega)), if_neg (by omega)]
      exact okP_some ⟨t, rfl, h1, h2⟩
    · rintro t - ⟨h1, h2⟩
      exact okP_some ⟨c0.tr (h1.mo (by decide)), hn.1, hn.2, (h1.g 1).trans p3, (h1.g 1).trans p4, fun c hc => (h2 c hc).1, fun c hc => (h2 c hc).2.1, fun c hc => (h2 c hc).2.2⟩
theorem bgn_ok (hn : 2 ≤ n ∧ n ≤ 9) : BdOK (bgn n) := ⟨hn, fun c hc => Or.inl rfl, Or.inl rfl, Or.inl rfl, Or.inl rfl, Nat.zero_le _, fun i hi' => absurd hi' (Nat.not_lt_zero i)⟩
theorem begin_ok {p : Nat} (hp : p = 10 ∨ p = 53) (hn : 2 ≤ n ∧ n ≤ 9) : okP (Po_begin p (n : Int) s) (fun t => Ch [p, p + 1] s t ∧ CP t p (bgn n)) := by
  have h81 := nn_le hn.2
  have a1 : alen (p + 1) = 81 := by rcases hp with rfl | rfl <;> rfl
  have hp80 : p ≠ 80 ∧ p + 1 ≠ 80 := by omega
  have R81' : R 81 := by unfold R; omega
  unfold Po_begin
  rw [lett_eq, lett_eq, lett_eq, lett_eq, lett_eq]
  have c0 : Ch [p] s (si (si (si (si (si s p 2 (n : Int)) p 3 0) p 4 0) p 5 0) p 6 (-1)) := (((((Ch.si (List.mem_singleton.mpr rfl) hp80.1).tr (Ch.si (List.mem_singleton.mpr rfl) hp80.1)).tr (Ch.si (List.mem_singleton.mpr rfl) hp80.1)).tr (Ch.si (List.mem_singleton.mpr rfl) hp80.1)).tr (Ch.si (List.mem_singleton.mpr rfl) hp80.1))
  have v2 : gi (si (si (si (si (si s p 2 (n : Int)) p 3 0) p 4 0) p 5 0) p 6 (-1)) p 2 = (n : Int) := by rw [gi_si_k _ _ _ (by omega), gi_si_k _ _ _ (by omega), gi_si_k _ _ _ (by omega), gi_si_k _ _ _ (by omega), gi_si_s]
  have v3 : gi (si (si (si (si (si s p 2 (n : Int)) p 3 0) p 4 0) p 5 0) p 6 (-1)) p 3 = 0 := by rw [gi_si_k _ _ _ (by omega), gi_si_k _ _ _ (by omega), gi_si_k _ _ _ (by omega), gi_si_s]
  have v4 : gi (si (si (si (si (si s p 2 (n : Int)) p 3 0) p 4 0) p 5 0) p 6 (-1)) p 4 = 0 := by rw [gi_si_k _ _ _ (by omega), gi_si_k _ _ _ (by omega), gi_si_s]
  have v5 : gi (si (si (si (si (si s p 2 (n : Int)) p 3 0) p 4 0) p 5 0) p 6 (-1)) p 5 = 0 := by rw [gi_si_k _ _ _ (by omega), gi_si_s]
  have v6 : gi (si (si (si (si (si s p 2 (n : Int)) p 3 0) p 4 0) p 5 0) p 6 (-1)) p 6 = -1 := gi_si_s _ _ _ _
  generalize si (si (si (si (si s p 2 (n : Int)) p 3 0) p 4 0) p 5 0) p 6 (-1) = s0 at c0 v2 v3 v4 v5 v6
  unfold Po_begin_l27
  refine okP_bnd (P := fun t => Ch [p + 1] s0 t ∧ ∀ c, c < 81 → gi t (p + 1) c = -1) (whl_for (fun (i : Nat) (t : Sg) => ((i : Int), t)) 81 (fun i t => Ch [p + 1] s0 t ∧ ∀ c, c < i → gi t (p + 1) c = -1) (i0 := 0) (t0 := s0) (Nat.zero_le _) ⟨Ch.rf _ _, fun c hc => absurd hc (Nat.not_lt_zero c)⟩ ?_ ?_) ?_
  · rintro i t hi' ⟨h1, h2⟩
    show okP (Po_begin_t27 p (i : Int) t) _
    unfold Po_begin_t27
    rw [ifLt_eq _ _ (R_nat (by omega)) R81', if_pos (by omega), Hx_set_n (by omega), bnd_some]
    refine okP_some (Or.inl ⟨si t (p + 1) i (-1), rfl, h1.tr (Ch.si (List.mem_singleton.mpr rfl) hp80.2), fun c hc => ?_⟩)
    rw [gi_si_r]
    split
    · rfl
    · exact h2 c (by omega)
  · rintro t ⟨h1, h2⟩
    show okP (Po_begin_t27 p ((81 : Nat) : Int) t) _
    unfold Po_begin_t27
    rw [ifLt_eq _ _ (R_nat (by omega)) R81', if_neg (by omega)]
    exact okP_some ⟨t, rfl, h1, h2⟩
  · rintro t - ⟨h1, h2⟩
    have g : ∀ k, gi t p k = gi s0 p k := fun k => h1.g p (by simp) hp80.1
    exact okP_some ⟨(c0.mo (by simp)).tr (h1.mo (by simp)), (g 2).trans v2, (g 3).trans v3, (g 4).trans v4, (g 5).trans v5, (g 6).trans v6, fun c hc => h2 c (by have hc : c < n * n := hc; omega), fun i hi' => absurd hi' (Nat.not_lt_zero i)⟩
end FIT


/-! ===== the reference: what ways cost ===== -/
def mcI (f : Nat → Int) (sd : Int) (c : Nat) : Int := if f c = sd then 0 else if f c = -1 then 1 else 1000
noncomputable def mds (n : Nat) (f : Nat → Int) (sd e : Int) (c : Nat) : Int := if dst n f sd e c = -1 then 1000 else dst n f sd e c
def MD (s : Sg) (A n : Nat) (f : Nat → Int) (sd e : Int) : Prop := ∀ x, x < n * n → gi s A x = 1000 ∨ ∃ v : Nat, gi s A x = (v : Int) ∧ v < 1000 ∧ Wk n f sd e x v
section MWAY
variable {s : Sg} {n : Nat} {f : Nat → Int} {sd e : Int} {A : Nat}
theorem mcI_u {c : Nat} (h : Ub f sd c) : mcI f sd c = (cst f sd c : Int) := by
  unfold mcI cst
  by_cases q : f c = sd
  · rw [if_pos q, if_pos q]; rfl
  · rw [if_neg q, if_pos (h.resolve_left q), if_neg q]; rfl
theorem mcI_n {c : Nat} (h : ¬ Ub f sd c) : mcI f sd c = 1000 := by
  unfold mcI
  rw [if_neg (fun q => h (Or.inl q)), if_neg (fun q => h (Or.inr q))]
theorem mcI_rg (f : Nat → Int) (sd : Int) (c : Nat) : 0 ≤ mcI f sd c ∧ mcI f sd c ≤ 1000 := by
  unfold mcI
  split
  · omega
  · split <;> omega
theorem MD.rg (h : MD s A n f sd e) {x : Nat} (hx : x < n * n) : 0 ≤ gi s A x ∧ gi s A x ≤ 1000 := by
  rcases h x hx with q | ⟨v, q, hv, -⟩ <;> omega
theorem Mo_cost_eq {c : Nat} (hM : MB s n f) (hfr : FR n f) (hsd : sd = 0 ∨ sd = 1) (hc : c < n * n) : Mo_cost sd (c : Int) s = some (mcI f sd c) := by
  unfold Mo_cost mcI
  rw [hM.st hc, bnd_some, bnd_some, ifEq_eq _ _ (hfr.r hc) (R_01 hsd), ifEq_eq _ _ (hfr.r hc) R_n1]
  by_cases q : f c = sd
  · rw [if_pos q, if_pos q]
  · rw [if_neg q, if_neg q]
    by_cases q2 : f c = -1
    · rw [if_pos q2, if_pos q2]
    · rw [if_neg q2, if_neg q2]
def RI (n : Nat) (f : Nat → Int) (sd e : Int) (A : Nat) (s0 : Sg) (a : Int) (t : Sg) (D : Nat → Nat → Prop) : Prop :=
  (a = 0 ∨ a = 1) ∧ Ch [A] s0 t ∧ MD t A n f sd e ∧ (∀ x, x < n * n → gi t A x ≤ gi s0 A x) ∧ (a = 0 → (∀ x, x < n * n → gi t A x = gi s0 A x) ∧ ∀ c j, c < n * n → j < 6 → D c j → ∀ y : Nat, rnd n c j = (y : Int) → gi s0 A c ≤ gi s0 A y + mcI f sd c) ∧ (a = 1 → ∃ x, x < n * n ∧ gi t A x < gi s0 A x)
theorem RI.mo {s0 t : Sg} {a : Int} {D D' : Nat → Nat → Prop} (h : RI n f sd e A s0 a t D) (k : ∀ c j, c < n * n → j < 6 → D' c j → D c j) : RI n f sd e A s0 a t D' := by
  obtain ⟨h1, h2, h3, h4, h5, h6⟩ := h
  exact ⟨h1, h2, h3, h4, fun q => ⟨(h5 q).1, fun c j hc hj hd => (h5 q).2 c j hc hj (k c j hc hj hd)⟩, h6⟩
theorem MB.o1 {s' : Sg} (h : MB s n f) (hc : Ch [A] s s') (hA : A = 95 ∨ A = 96 ∨ A = 97 ∨ A = 98) : MB s' n f := h.ch hc (fun q => by have := List.mem_singleton.mp q; omega)
theorem cstep_ok {s0 t : Sg} {a : Int} {D : Nat → Nat → Prop} {c j : Nat} (hM : MB t n f) (hfr : FR n f) (hsd : sd = 0 ∨ sd = 1) (hA : A = 95 ∨ A = 96) (h : RI n f sd e A s0 a t D) (hc : c < n * n) (hj : j < 6) :
    okP (Mo_laysCosts_t76 A sd a (c : Int) (j : Int) t) (fun o => ∃ a' t', o = .inl (a', ((j + 1 : Nat) : Int), t') ∧ RI n f sd e A s0 a' t' (fun c' j' => D c' j' ∨ (c' = c ∧ j' = j))) := by
  have h81 := nn_le hM.1.2.1
  have hAl : alen A = 81 := by rcases hA with rfl | rfl <;> rfl
  have hA80 := ne80 hAl
  obtain ⟨h1, h2, h3, h4, h5, h6⟩ := h
  unfold Mo_laysCosts_t76 Mo_laysCosts_b140
  rw [ifLt_eq _ _ (R_nat (by omega)) R6, if_pos (by omega), Mo_round_eq hM.1 hc hj, bnd_some]
  have hmc := mcI_rg f sd c
  have hgc := h3.rg hc
  rcases rnd_rg n c j with q | ⟨y, q, hy⟩
  · rw [q, ifEq_eq _ _ R_n1 R_n1, if_pos rfl]
    refine okP_some ⟨a, t, rfl, h1, h2, h3, h4, fun k => ⟨(h5 k).1, fun c' j' hc' hj' hd y hy => ?_⟩, h6⟩
    rcases hd with hd | ⟨rfl, rfl⟩
    · exact (h5 k).2 c' j' hc' hj' hd y hy
    · omega
  · have hgy := h3.rg hy
    rw [q, ifEq_eq _ _ (R_nat (by omega)) R_n1, if_neg (by omega), grd_t ⟨by omega, by omega⟩, Mo_cost_eq hM hfr hsd hc, bnd_some, bnd_some, grd_t ⟨by omega, by omega⟩]
    show okP (ifLt (gi t A y + mcI f sd c) (gi t A c) _ _) _
    rw [ifLt_eq _ _ (by unfold R; omega) (by unfold R; omega)]
    by_cases hlt : gi t A y + mcI f sd c < gi t A c
    · rw [if_pos hlt, grd_t ⟨by omega, by omega⟩, grd_t ⟨by omega, by omega⟩, lett_eq]
      show okP (some (Sum.inl ((1 : Int), ((j + 1 : Nat) : Int), si t A c (gi t A y + mcI f sd c)))) _
      have hu : Ub f sd c := by
        apply Classical.byContradiction
        intro hn
        have := mcI_n hn
        omega
      have hw : ∃ v : Nat, gi t A y = (v : Int) ∧ v < 1000 ∧ Wk n f sd e y v := by
        rcases h3 y hy with k | k
        · omega
        · exact k
      obtain ⟨v, hv1, hv2, hv3⟩ := hw
      have hcu := mcI_u hu
      have h4c := h4 c hc
      refine okP_some ⟨1, _, rfl, Or.inr rfl, h2.tr (Ch.si List.mem_cons_self hA80), fun x hx => ?_, fun x hx => ?_, fun k => absurd k (by omega), fun _ => ⟨c, hc, ?_⟩⟩
      · by_cases k : x = c
        · subst k
          rw [gi_si_s]
          exact Or.inr ⟨v + cst f sd x, by omega, by omega, hv3.st hx (adj_symm hx ⟨j, hj, q⟩) hu⟩
        · rw [gi_si_k _ _ _ k]; exact h3 x hx
      · by_cases k : x = c
        · subst k
          rw [gi_si_s]; omega
        · rw [gi_si_k _ _ _ k]; exact h4 x hx
      · rw [gi_si_s]; omega
    · rw [if_neg hlt]
      refine okP_some ⟨a, t, rfl, h1, h2, h3, h4, fun k => ⟨(h5 k).1, fun c' j' hc' hj' hd y' hy' => ?_⟩, h6⟩
      rcases hd with hd | ⟨rfl, rfl⟩
      · exact (h5 k).2 c' j' hc' hj' hd y' hy'
      · have : y' = y := by omega
        subst this
        have k1 := (h5 k).1 _ hc
        have k2 := (h5 k).1 _ hy
        omega
theorem ccell_ok {s0 t : Sg} {a : Int} {c : Nat} (hM : MB s0 n f) (hfr : FR n f) (hsd : sd = 0 ∨ sd = 1) (hA : A = 95 ∨ A = 96) (h : RI n f sd e A s0 a t (fun c' _ => c' < c)) (hc : c < n * n) :
    okP (whl (fun σ : Int × Int × Sg => Mo_laysCosts_t76 A sd σ.1 (c : Int) σ.2.1 σ.2.2) (a, 0, t)) (fun o => RI n f sd e A s0 o.1 o.2 (fun c' _ => c' < c + 1)) := by
  refine whl_for (fun (j : Nat) (t : Int × Sg) => (t.1, (j : Int), t.2)) 6 (fun j t => RI n f sd e A s0 t.1 t.2 (fun c' j' => c' < c ∨ (c' = c ∧ j' < j))) (i0 := 0) (t0 := (a, t)) (Nat.zero_le _) (h.mo fun c' j' _ _ hd => by omega) ?_ ?_
  · rintro j ⟨b, u⟩ hj hI
    have hI : RI n f sd e A s0 b u (fun c' j' => c' < c ∨ (c' = c ∧ j' < j)) := hI
    refine okP_mono (cstep_ok (hM.o1 hI.2.1 (by omega)) hfr hsd hA hI hc hj) ?_
    rintro o ⟨a', t', rfl, h'⟩
    exact Or.inl ⟨(a', t'), rfl, h'.mo fun c' j' _ _ hd => by omega⟩
  · rintro ⟨b, u⟩ hI
    have hI : RI n f sd e A s0 b u (fun c' j' => c' < c ∨ (c' = c ∧ j' < 6)) := hI
    show okP (Mo_laysCosts_t76 A sd b (c : Int) ((6 : Nat) : Int) u) _
    unfold Mo_laysCosts_t76
    rw [ifLt_eq _ _ (R_nat (by omega)) R6, if_neg (by omega)]
    exact okP_some ⟨(b, u), rfl, hI.mo fun c' j' _ hj hd => by omega⟩
theorem cround_ok {t : Sg} (hM : MB t n f) (hfr : FR n f) (hsd : sd = 0 ∨ sd = 1) (hA : A = 95 ∨ A = 96) (hD : MD t A n f sd e) :
    okP (whl (fun σ : Int × Int × Sg => Mo_laysCosts_t64 A sd σ.1 σ.2.1 σ.2.2) (0, 0, t)) (fun o => RI n f sd e A t o.1 o.2 (fun _ _ => True)) := by
  have h81 := nn_le hM.1.2.1
  refine whl_for (fun (c : Nat) (t : Int × Sg) => (t.1, (c : Int), t.2)) (n * n) (fun c u => RI n f sd e A t u.1 u.2 (fun c' _ => c' < c)) (i0 := 0) (t0 := (0, t)) (Nat.zero_le _) ⟨Or.inl rfl, Ch.rf _ _, hD, fun _ _ => Int.le_refl _, fun _ => ⟨fun _ _ => rfl, fun c j _ _ hd => absurd hd (Nat.not_lt_zero c)⟩, fun q => absurd (show (0 : Int) = 1 from q) (by omega)⟩ ?_ ?_
  · rintro c ⟨b, u⟩ hc hI
    have hI : RI n f sd e A t b u (fun c' _ => c' < c) := hI
    show okP (Mo_laysCosts_t64 A sd b (c : Int) u) _
    unfold Mo_laysCosts_t64 Mo_laysCosts_l76
    rw [Mo_cells_eq (hM.o1 hI.2.1 (by omega)).1, bnd_some, ifLt_eq _ _ (R_nat (by omega)) (R_nat (by omega)), if_pos (by omega)]
    refine okP_bnd (ccell_ok hM hfr hsd hA hI hc) ?_
    rintro ⟨b', u'⟩ - hI'
    exact okP_some (Or.inl ⟨(b', u'), rfl, hI'⟩)
  · rintro ⟨b, u⟩ hI
    have hI : RI n f sd e A t b u (fun c' _ => c' < n * n) := hI
    show okP (Mo_laysCosts_t64 A sd b ((n * n : Nat) : Int) u) _
    unfold Mo_laysCosts_t64
    rw [Mo_cells_eq (hM.o1 hI.2.1 (by omega)).1, bnd_some, ifLt_eq _ _ (R_nat (by omega)) (R_nat (by omega)), if_neg (by omega)]
    exact okP_some ⟨(b, u), rfl, hI.mo fun c' j' hc' _ _ => hc'⟩
theorem laysCosts_ok {k : Nat} (hM : MB s n f) (hfr : FR n f) (hsd : sd = 0 ∨ sd = 1) (hA : A = 95 ∨ A = 96) (hk : k < 2) :
    okP (Mo_laysCosts A sd (k : Int) s) (fun t => Ch [A] s t ∧ ∀ x, x < n * n → gi t A x = mds n f sd ((k : Int) + 1) x) := by
  have h81 := nn_le hM.1.2.1
  have hAl : alen A = 81 := by rcases hA with rfl | rfl <;> rfl
  have hA80 := ne80 hAl
  unfold Mo_laysCosts Mo_laysCosts_l3
  refine okP_bnd (P := fun t => Ch [A] s t ∧ ∀ x, x < n * n → gi t A x = if edg n sd x = (k : Int) + 1 then mcI f sd x else 1000) (whl_for (fun (i : Nat) (t : Sg) => ((i : Int), t)) (n * n) (fun i t => Ch [A] s t ∧ ∀ x, x < i → gi t A x = if edg n sd x = (k : Int) + 1 then mcI f sd x else 1000) (i0 := 0) (t0 := s) (Nat.zero_le _) ⟨Ch.rf _ _, fun x hx => absurd hx (Nat.not_lt_zero x)⟩ ?_ ?_) ?_
  · rintro i t hi' ⟨h1, h2⟩
    have hMt := hM.o1 h1 (by omega)
    have hput : ∀ v : Int, v = (if edg n sd i = (k : Int) + 1 then mcI f sd i else 1000) → okP (Mo_laysCosts_b43 A sd (k : Int) (i : Int) (i : Int) v t) (fun o => (∃ t', o = .inl (((i + 1 : Nat) : Int), t') ∧ Ch [A] s t' ∧ ∀ x, x < i + 1 → gi t' A x = if edg n sd x = (k : Int) + 1 then mcI f sd x else 1000) ∨ ∃ r, o = .inr r ∧ Ch [A] s r ∧ ∀ x, x < n * n → gi r A x = if edg n sd x = (k : Int) + 1 then mcI f sd x else 1000) := by
      intro v hv
      unfold Mo_laysCosts_b43
      rw [grd_t ⟨by omega, by omega⟩, lett_eq]
      refine okP_some (Or.inl ⟨si t A i v, rfl, h1.tr (Ch.si List.mem_cons_self hA80), fun x hx => ?_⟩)
      by_cases q : x = i
      · subst q; rw [gi_si_s]; exact hv
      · rw [gi_si_k _ _ _ q]; exact h2 x (by omega)
    show okP (Mo_laysCosts_t3 A sd (k : Int) (i : Int) t) _
    unfold Mo_laysCosts_t3
    rw [Mo_cells_eq hMt.1, bnd_some, ifLt_eq _ _ (R_nat (by omega)) (R_nat (by omega)), if_pos (by omega), Mo_edges_eq hMt.1 hi' hsd, bnd_some, ifEq_eq _ _ (R_iand _ _) R1]
    by_cases q : edg n sd i = (k : Int) + 1
    · rw [if_pos ((ebit2 (edg_rg n sd i) hk).mpr q), Mo_cost_eq hMt hfr hsd hi', bnd_some]
      exact hput _ (by rw [if_pos q])
    · rw [if_neg (fun z => q ((ebit2 (edg_rg n sd i) hk).mp z))]
      exact hput _ (by rw [if_neg q])
  · rintro t ⟨h1, h2⟩
    have hMt := hM.o1 h1 (by omega)
    show okP (Mo_laysCosts_t3 A sd (k : Int) ((n * n : Nat) : Int) t) _
    unfold Mo_laysCosts_t3
    rw [Mo_cells_eq hMt.1, bnd_some, ifLt_eq _ _ (R_nat (by omega)) (R_nat (by omega)), if_neg (by omega)]
    exact okP_some ⟨t, rfl, h1, h2⟩
  · rintro t - ⟨h1, h2⟩
    unfold Mo_laysCosts_l53
    refine okP_bnd (P := fun t => Ch [A] s t ∧ ∀ x, x < n * n → gi t A x = mds n f sd ((k : Int) + 1) x) (okP_whl (fun σ : Int × Sg => (σ.1 = 0 ∨ σ.1 = 1) ∧ Ch [A] s σ.2 ∧ MD σ.2 A n f sd ((k : Int) + 1) ∧ (∀ x, x < n * n → Ub f sd x → edg n sd x = (k : Int) + 1 → gi σ.2 A x ≤ (cst f sd x : Int)) ∧ (σ.1 = 0 → ∀ x y, x < n * n → y < n * n → Adj n x y → gi σ.2 A y ≤ gi σ.2 A x + mcI f sd y)) (fun σ => if σ.1 = 0 then 0 else msum (gi σ.2 A) (n * n) + 1) ⟨Or.inr rfl, h1, ?_, ?_, fun q => absurd (show (1 : Int) = 0 from q) (by omega)⟩ ?_) ?_
    · intro x hx
      rw [h2 x hx]
      by_cases q : edg n sd x = (k : Int) + 1
      · rw [if_pos q]
        by_cases hu : Ub f sd x
        · have := cst_le f sd x
          rw [mcI_u hu]
          exact Or.inr ⟨cst f sd x, rfl, by omega, Wk.b hx hu q⟩
        · exact Or.inl (mcI_n hu)
      · rw [if_neg q]; exact Or.inl rfl
    · intro x hx hu q
      show gi t A x ≤ _
      rw [h2 x hx, if_pos q, mcI_u hu]
      exact Int.le_refl _
    · rintro ⟨a, u⟩ ⟨k1, k2, k3, k4, k5⟩
      have k1 : a = 0 ∨ a = 1 := k1
      have k2 : Ch [A] s u := k2
      have k3 : MD u A n f sd ((k : Int) + 1) := k3
      have k4 : ∀ x, x < n * n → Ub f sd x → edg n sd x = (k : Int) + 1 → gi u A x ≤ (cst f sd x : Int) := k4
      have k5 : a = 0 → ∀ x y, x < n * n → y < n * n → Adj n x y → gi u A y ≤ gi u A x + mcI f sd y := k5
      show okP (Mo_laysCosts_t53 A sd a u) _
      unfold Mo_laysCosts_t53
      rw [ifEq_eq _ _ (R_01 k1) R0]
      by_cases ha : a = 0
      · rw [if_pos ha]
        refine okP_some (Or.inr ⟨u, rfl, k2, fun x hx => ?_⟩)
        have hfix : ∀ {w : Nat}, Wk n f sd ((k : Int) + 1) x w → gi u A x ≤ (w : Int) := fun hw => dst_fix (d := fun x => gi u A x) k4 (fun x y hx hy hAd hu => by
          have := k5 ha x y hx hy hAd
          rw [mcI_u hu] at this
          exact this) hw
        unfold mds
        rcases dst_rg n f sd ((k : Int) + 1) x with q | ⟨v, q, hv, hw⟩
        · rw [if_pos q]
          rcases k3 x hx with q2 | ⟨v, q2, -, hw⟩
          · exact q2
          · obtain ⟨w, q3, -⟩ := dst_w hw
            omega
        · rw [if_neg (by omega), q]
          have := hfix hw
          rcases k3 x hx with q2 | ⟨v', q2, -, hw'⟩
          · omega
          · obtain ⟨w, q3, -, q5, -⟩ := dst_w hw'
            omega
      · rw [if_neg ha]
        unfold Mo_laysCosts_l64
        refine okP_bnd (cround_ok (hM.o1 k2 (by omega)) hfr hsd hA k3) ?_
        rintro ⟨b, w⟩ - ⟨r1, r2, r3, r4, r5, r6⟩
        have r1 : b = 0 ∨ b = 1 := r1
        have r2 : Ch [A] u w := r2
        have r3 : MD w A n f sd ((k : Int) + 1) := r3
        have r4 : ∀ x, x < n * n → gi w A x ≤ gi u A x := r4
        have r5 : b = 0 → (∀ x, x < n * n → gi w A x = gi u A x) ∧ ∀ c j, c < n * n → j < 6 → True → ∀ y : Nat, rnd n c j = (y : Int) → gi u A c ≤ gi u A y + mcI f sd c := r5
        have r6 : b = 1 → ∃ x, x < n * n ∧ gi w A x < gi u A x := r6
        refine okP_some (Or.inl ⟨(b, w), rfl, ⟨r1, k2.tr r2, r3, fun x hx hu q => ?_, fun hb x y hx hy hAd => ?_⟩, ?_⟩)
        · have q1 := k4 x hx hu q
          have q2 := r4 x hx
          show gi w A x ≤ _
          omega
        · show gi w A y ≤ gi w A x + mcI f sd y
          obtain ⟨q1, q2⟩ := r5 hb
          obtain ⟨j, hj, q3⟩ := adj_symm hx hAd
          have := q2 y j hy hj trivial x q3
          rw [q1 x hx, q1 y hy]; exact this
        · show (if b = 0 then 0 else msum (gi w A) (n * n) + 1) < (if a = 0 then 0 else msum (gi u A) (n * n) + 1)
          rw [if_neg ha]
          by_cases hb : b = 0
          · rw [if_pos hb]; omega
          · rw [if_neg hb]
            obtain ⟨x, hx, hlt⟩ := r6 (r1.resolve_left hb)
            have := msum_lt (N := n * n) r4 hx hlt (r3.rg hx).1
            omega
    · rintro u - h
      exact okP_some h
end MWAY

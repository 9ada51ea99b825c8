/-! ===== the class: ways ===== -/
def cvI (f : Nat → Int) (sd : Int) (c : Nat) : Int := if f c = -1 then 1 else if f c = sd then 0 else -1
def DB (s : Sg) (A n : Nat) (f : Nat → Int) (sd e : Int) (M : Nat) : Prop := ∀ x, x < n * n → gi s A x = -1 ∨ ∃ v : Nat, gi s A x = (v : Int) ∧ v ≤ M ∧ Wk n f sd e x v
theorem cnt_full {p : Nat → Prop} : ∀ {N : Nat}, N ≤ cnt p N → ∀ i, i < N → p i
  | 0, _, i, hi' => absurd hi' (Nat.not_lt_zero i)
  | N + 1, h, i, hi' => by
    have h1 := cnt_le p N
    by_cases hp : p N
    · rw [cnt_t hp] at h
      by_cases e : i = N
      · subst e; exact hp
      · exact cnt_full (p := p) (N := N) (by omega) i (by omega)
    · rw [cnt_f hp] at h; omega
theorem cvI_u {f : Nat → Int} {sd : Int} {c : Nat} (hsd : sd = 0 ∨ sd = 1) (h : Ub f sd c) : cvI f sd c = (cst f sd c : Int) := by
  unfold cvI cst
  rcases h with h | h
  · rw [if_neg (by omega), if_pos h, if_pos h]; rfl
  · rw [if_pos h, if_neg (by omega)]; rfl
theorem cvI_n {f : Nat → Int} {sd : Int} {c : Nat} : cvI f sd c = -1 ↔ ¬ Ub f sd c := by
  unfold cvI Ub
  split
  · constructor
    · intro h; omega
    · intro h; exact absurd (Or.inr ‹_›) h
  · split
    · constructor
      · intro h; omega
      · intro h; exact absurd (Or.inl ‹_›) h
    · exact ⟨fun _ h => by rcases h with h | h <;> contradiction, fun _ => rfl⟩
theorem cvI_R (f : Nat → Int) (sd : Int) (c : Nat) : R (cvI f sd c) := by
  unfold cvI
  split
  · exact R1
  · split
    · exact R0
    · exact R_n1
section PATH
variable {s : Sg} {n : Nat} {f : Nat → Int} {sd e : Int} {r0 A : Nat}
theorem DB.r {M : Nat} (hM : M ≤ 1000000) (h : DB s A n f sd e M) {c : Nat} (hc : c < n * n) : R (gi s A c) := by
  rcases h c hc with q | ⟨v, q, hv, -⟩
  · rw [q]; exact R_n1
  · rw [q]; exact R_nat (by omega)
theorem lower_ok {c M : Nat} (hG : GridOK s n) (hsd : sd = 0 ∨ sd = 1) (hA : alen A = 81) (hr : alen (r0 + 1) = 81) (hcost : ∀ x, x < n * n → gi s (r0 + 1) x = cvI f sd x) (hM : M ≤ 500000) (hD : DB s A n f sd e M) (hc : c < n * n) :
    okP (Pa_lower r0 A (c : Int) s) (fun o => (o.1 = 0 ∨ o.1 = 1) ∧ Ch [A] s o.2 ∧ (∀ x, x ≠ c → gi o.2 A x = gi s A x) ∧ DB o.2 A n f sd e (M + 1) ∧ (gi s A c ≠ -1 → gi o.2 A c ≠ -1 ∧ gi o.2 A c ≤ gi s A c) ∧ (o.1 = 0 → gi o.2 A c = gi s A c) ∧ (Ub f sd c → ∀ y, y < n * n → Adj n y c → gi s A y ≠ -1 → gi o.2 A c ≠ -1 ∧ gi o.2 A c ≤ gi s A y + (cst f sd c : Int))) := by
  have h81 := nn_le hG.2.1
  have hA80 := ne80 hA
  unfold Pa_lower
  rw [Hx_at_n (by omega), bnd_some, Hx_at_n (by omega), bnd_some, hcost c hc, ifEq_eq _ _ (cvI_R _ _ _) R_n1]
  by_cases hu : Ub f sd c
  · rw [if_neg (fun q => cvI_n.mp q hu), cvI_u hsd hu]
    have hcl := cst_le f sd c
    unfold Pa_lower_l26
    refine okP_bnd (P := fun t => (t = -1 ∨ ∃ v : Nat, t = (v : Int) ∧ v ≤ M + 1 ∧ Wk n f sd e c v) ∧ (gi s A c ≠ -1 → t ≠ -1 ∧ t ≤ gi s A c) ∧ ∀ j, j < 6 → ∀ y : Nat, nbj n c j = (y : Int) → gi s A y ≠ -1 → t ≠ -1 ∧ t ≤ gi s A y + (cst f sd c : Int)) (whl_for (fun (j : Nat) (t : Int) => (t, (j : Int))) 6 (fun j t => (t = -1 ∨ ∃ v : Nat, t = (v : Int) ∧ v ≤ M + 1 ∧ Wk n f sd e c v) ∧ (gi s A c ≠ -1 → t ≠ -1 ∧ t ≤ gi s A c) ∧ ∀ i, i < j → ∀ y : Nat, nbj n c i = (y : Int) → gi s A y ≠ -1 → t ≠ -1 ∧ t ≤ gi s A y + (cst f sd c : Int)) (i0 := 0) (t0 := gi s A c) (Nat.zero_le _) ⟨?_, ?_, ?_⟩ ?_ ?_) ?_
    · rcases hD c hc with q | ⟨v, q, hv, hw⟩
      · exact Or.inl q
      · exact Or.inr ⟨v, q, by omega, hw⟩
    · exact fun q => ⟨q, Int.le_refl _⟩
    · exact fun i hi' => absurd hi' (Nat.not_lt_zero i)
    · rintro j t hj ⟨h1, h2, h3⟩
      show okP (Pa_lower_t26 r0 A (c : Int) (cst f sd c : Int) t (j : Int) s) _
      have htR : R t := by
        rcases h1 with q | ⟨v, q, hv, -⟩
        · rw [q]; exact R_n1
        · rw [q]; exact R_nat (by omega)
      unfold Pa_lower_t26
      rw [ifLt_eq _ _ (R_nat (by omega)) R6, if_pos (by omega), Gr_near_eq hG hc hj, bnd_some]
      have keep : (∀ y : Nat, nbj n c j = (y : Int) → gi s A y ≠ -1 → t ≠ -1 ∧ t ≤ gi s A y + (cst f sd c : Int)) → okP (Pa_lower_b76 r0 A (c : Int) (cst f sd c : Int) t (j : Int) s) (fun o => (∃ t', o = .inl (t', ((j + 1 : Nat) : Int)) ∧ (t' = -1 ∨ ∃ v : Nat, t' = (v : Int) ∧ v ≤ M + 1 ∧ Wk n f sd e c v) ∧ (gi s A c ≠ -1 → t' ≠ -1 ∧ t' ≤ gi s A c) ∧ ∀ i, i < j + 1 → ∀ y : Nat, nbj n c i = (y : Int) → gi s A y ≠ -1 → t' ≠ -1 ∧ t' ≤ gi s A y + (cst f sd c : Int)) ∨ ∃ r, o = .inr r ∧ (r = -1 ∨ ∃ v : Nat, r = (v : Int) ∧ v ≤ M + 1 ∧ Wk n f sd e c v) ∧ (gi s A c ≠ -1 → r ≠ -1 ∧ r ≤ gi s A c) ∧ ∀ j, j < 6 → ∀ y : Nat, nbj n c j = (y : Int) → gi s A y ≠ -1 → r ≠ -1 ∧ r ≤ gi s A y + (cst f sd c : Int)) := by
        intro hk
        refine okP_some (Or.inl ⟨t, rfl, h1, h2, fun i hi' y => ?_⟩)
        by_cases e9 : i = j
        · subst e9; exact hk y
        · exact h3 i (by omega) y
      rcases nbj_rg n c j with q | ⟨y, q, hy, hAd⟩
      · rw [q, Hx_at_m, bnd_some, ifEq_eq _ _ R_n1 R_n1, if_pos rfl]
        exact keep fun y q2 => by omega
      · rw [q, Hx_at_n (by omega), bnd_some, ifEq_eq _ _ (hD.r (by omega) hy) R_n1]
        rcases hD y hy with q2 | ⟨v, q2, hv, hw⟩
        · rw [if_pos q2]
          refine keep fun y' q3 q4 => ?_
          have : y' = y := by omega
          exact absurd (this ▸ q2) q4
        · have hput : t = -1 ∨ (v : Int) + (cst f sd c : Int) < t → okP (Pa_lower_b70 r0 A (c : Int) (cst f sd c : Int) (j : Int) (gi s A y) s) (fun o => (∃ t', o = .inl (t', ((j + 1 : Nat) : Int)) ∧ (t' = -1 ∨ ∃ v : Nat, t' = (v : Int) ∧ v ≤ M + 1 ∧ Wk n f sd e c v) ∧ (gi s A c ≠ -1 → t' ≠ -1 ∧ t' ≤ gi s A c) ∧ ∀ i, i < j + 1 → ∀ y : Nat, nbj n c i = (y : Int) → gi s A y ≠ -1 → t' ≠ -1 ∧ t' ≤ gi s A y + (cst f sd c : Int)) ∨ ∃ r, o = .inr r ∧ (r = -1 ∨ ∃ v : Nat, r = (v : Int) ∧ v ≤ M + 1 ∧ Wk n f sd e c v) ∧ (gi s A c ≠ -1 → r ≠ -1 ∧ r ≤ gi s A c) ∧ ∀ j, j < 6 → ∀ y : Nat, nbj n c j = (y : Int) → gi s A y ≠ -1 → r ≠ -1 ∧ r ≤ gi s A y + (cst f sd c : Int)) := by
            intro hlt
            unfold Pa_lower_b70
            rw [lett_eq, q2]
            refine okP_some (Or.inl ⟨(v : Int) + (cst f sd c : Int), rfl, Or.inr ⟨v + cst f sd c, by omega, by omega, hw.st hc (adj_symm hc hAd) hu⟩, fun h4 => ?_, fun i hi' y' q3 q4 => ?_⟩)
            · have := h2 h4
              omega
            · by_cases e9 : i = j
              · subst e9
                have : y' = y := by omega
                subst this
                omega
              · have := h3 i (by omega) y' q3 q4
                omega
          rw [if_neg (by omega), ifEq_eq _ _ htR R_n1]
          by_cases ht : t = -1
          · rw [if_pos ht]; exact hput (Or.inl ht)
          · rw [if_neg ht, q2, ifLt_eq _ _ (by unfold R; omega) htR]
            by_cases hlt : (v : Int) + (cst f sd c : Int) < t
            · rw [if_pos hlt, ← q2]; exact hput (Or.inr hlt)
            · rw [if_neg hlt]
              refine keep fun y' q3 q4 => ?_
              have : y' = y := by omega
              subst this
              omega
    · rintro t ⟨h1, h2, h3⟩
      show okP (Pa_lower_t26 r0 A (c : Int) (cst f sd c : Int) t ((6 : Nat) : Int) s) _
      unfold Pa_lower_t26
      rw [ifLt_eq _ _ (R_nat (by omega)) R6, if_neg (by omega)]
      exact okP_some ⟨t, rfl, h1, h2, h3⟩
    · rintro t - ⟨h1, h2, h3⟩
      have htR : R t := by
        rcases h1 with q | ⟨v, q, hv, -⟩
        · rw [q]; exact R_n1
        · rw [q]; exact R_nat (by omega)
      have fin : ∀ a : Int, (a = 0 ∨ a = 1) → (a = 0 → t = gi s A c) → okP (Pa_lower_b97 A (c : Int) t a s) (fun o => (o.1 = 0 ∨ o.1 = 1) ∧ Ch [A] s o.2 ∧ (∀ x, x ≠ c → gi o.2 A x = gi s A x) ∧ DB o.2 A n f sd e (M + 1) ∧ (gi s A c ≠ -1 → gi o.2 A c ≠ -1 ∧ gi o.2 A c ≤ gi s A c) ∧ (o.1 = 0 → gi o.2 A c = gi s A c) ∧ (Ub f sd c → ∀ y, y < n * n → Adj n y c → gi s A y ≠ -1 → gi o.2 A c ≠ -1 ∧ gi o.2 A c ≤ gi s A y + (cst f sd c : Int))) := by
        intro a ha hat
        unfold Pa_lower_b97
        rw [Hx_set_n (by omega), bnd_some, grd_t (show b01 a from ha)]
        refine okP_some ⟨ha, Ch.si List.mem_cons_self hA80, fun x hx => gi_si_k _ _ _ hx, fun x hx => ?_, ?_, ?_, ?_⟩
        · by_cases e9 : x = c
          · subst e9
            rw [gi_si_s]; exact h1
          · rw [gi_si_k _ _ _ e9]
            rcases hD x hx with q | ⟨v, q, hv, hw⟩
            · exact Or.inl q
            · exact Or.inr ⟨v, q, by omega, hw⟩
        · show gi s A c ≠ -1 → gi (si s A c t) A c ≠ -1 ∧ gi (si s A c t) A c ≤ gi s A c
          rw [gi_si_s]; exact h2
        · show a = 0 → gi (si s A c t) A c = gi s A c
          rw [gi_si_s]; exact hat
        · intro _ y hy hAd hne
          show gi (si s A c t) A c ≠ -1 ∧ gi (si s A c t) A c ≤ _
          rw [gi_si_s]
          obtain ⟨j, hj, q⟩ := nbj_of (adj_symm hy hAd)
          exact h3 j hj y q hne
      rw [Hx_at_n (by omega), bnd_some, ifEq_eq _ _ htR (hD.r (by omega) hc)]
      by_cases e9 : t = gi s A c
      · rw [if_pos e9]; exact fin 0 (Or.inl rfl) (fun _ => e9)
      · rw [if_neg e9]; exact fin 1 (Or.inr rfl) (fun q => by omega)
  · rw [if_pos (cvI_n.mpr hu)]
    refine okP_some ⟨Or.inl rfl, Ch.rf _ _, fun _ _ => rfl, fun x hx => ?_, fun q => ⟨q, Int.le_refl _⟩, fun _ => rfl, fun q => absurd q hu⟩
    rcases hD x hx with q | ⟨v, q, hv, hw⟩
    · exact Or.inl q
    · exact Or.inr ⟨v, q, by omega, hw⟩
end PATH


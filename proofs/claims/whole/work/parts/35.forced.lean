/-! ===== neighbour ===== -/
def nbx (n c : Nat) (k : Int) : Int := if 0 ≤ k ∧ k < 6 then nbj n c k.toNat else -1
theorem Gr_near_all {s : Sg} {n c : Nat} {k : Int} (h : GridOK s n) (hc : c < n * n) (hk : R k) : Gr_near (c : Int) k s = some (nbx n c k) := by
  have h81 := nn_le h.2.1
  by_cases hr : 0 ≤ k ∧ k < 6
  · obtain ⟨j, rfl⟩ := Int.eq_ofNat_of_zero_le hr.1
    rw [Gr_near_eq h hc (by omega)]
    unfold nbx
    rw [if_pos hr]; rfl
  · unfold nbx Gr_near Gr_near_b30 Gr_near_b35
    rw [if_neg hr, lett_eq, ifLt_eq _ _ hk R0]
    by_cases h1 : k < 0
    · rw [if_pos h1, ifEq_eq _ _ R1 R0, if_neg (by omega)]
    · rw [if_neg h1, ifLt_eq _ _ hk R6, if_neg (by omega), ifEq_eq _ _ R1 R0, if_neg (by omega)]
theorem filt_get {a : Nat → Int} {N c : Nat} (hc : c < N) (hp : a c ≠ -1) : (((List.range N).map a).filter (fun x => decide (x ≠ -1)))[cnt (fun i => a i ≠ -1) c]? = some (a c) := by
  have hlen : ∀ N, (((List.range N).map a).filter (fun x => decide (x ≠ -1))).length = cnt (fun i => a i ≠ -1) N := by
    intro N
    induction N with
    | zero => rfl
    | succ N ih =>
      rw [List.range_succ, List.map_append, List.filter_append, List.length_append, ih]
      by_cases h : a N ≠ -1
      · rw [cnt_t (p := fun i => a i ≠ -1) h]; simp [h]
      · rw [cnt_f (p := fun i => a i ≠ -1) h]; simp [h]
  induction N with
  | zero => exact absurd hc (Nat.not_lt_zero c)
  | succ N ih =>
    rw [List.range_succ, List.map_append, List.filter_append]
    by_cases e : c = N
    · subst e
      rw [← hlen c, List.getElem?_append_right (Nat.le_refl _)]
      simp [hp]
    · have h1 := ih (by omega)
      have h2 := (List.getElem?_eq_some_iff.mp h1).1
      rw [List.getElem?_append_left h2]; exact h1
theorem filt_len (a : Nat → Int) : ∀ N, (((List.range N).map a).filter (fun x => decide (x ≠ -1))).length = cnt (fun i => a i ≠ -1) N
  | 0 => rfl
  | N + 1 => by
    rw [List.range_succ, List.map_append, List.filter_append, List.length_append, filt_len a N]
    by_cases h : a N ≠ -1
    · rw [cnt_t (p := fun i => a i ≠ -1) h]; simp [h]
    · rw [cnt_f (p := fun i => a i ≠ -1) h]; simp [h]
theorem Mo_neighbour_l15_eq {s : Sg} {n c : Nat} {k : Int} (hM : MoN s n) (hc : c < n * n) (hk : R k) : Mo_neighbour_l15 (c : Int) k 0 s = some (nbx n c k, s) := by
  have h81 := nn_le hM.2.1
  have hR : ∀ i, R (rnd n c i) := by
    intro i
    rcases rnd_rg n c i with e | ⟨y, e, hy⟩
    · rw [e]; exact R_n1
    · rw [e]; exact R_nat (by omega)
  let p : Nat → Prop := fun i => rnd n c i ≠ -1
  unfold Mo_neighbour_l15
  have main : okP (whl (fun σ : Int × Int => Mo_neighbour_t15 (c : Int) σ.1 σ.2 s) (k, 0)) (fun r => (∃ i : Nat, r = .inl (i : Int) ∧ i < 6 ∧ p i ∧ (cnt p i : Int) = k) ∨ (r = .inr () ∧ ∀ j, j < 6 → ¬ (p j ∧ (cnt p j : Int) = k))) := by
    refine whl_for (fun (i : Nat) (t : Int) => (t, (i : Int))) 6 (fun i t => R t ∧ (t = k - (cnt p i : Int) ∨ (t = k - (cnt p i : Int) + 4294967296 ∧ k - (cnt p i : Int) < 0)) ∧ ∀ j, j < i → ¬ (p j ∧ (cnt p j : Int) = k)) (i0 := 0) (t0 := k) (Nat.zero_le _) ⟨hk, Or.inl (show k = k - 0 by omega), fun j hj => absurd hj (Nat.not_lt_zero j)⟩ ?_ ?_
    · rintro i a hi ⟨h2, h3, h4⟩
      have hle := cnt_le p i
      show okP (Mo_neighbour_t15 (c : Int) a (i : Int) s) _
      unfold Mo_neighbour_t15 Mo_neighbour_b51
      rw [ifLt_eq _ _ (R_nat (by omega)) R6, if_pos (by omega), Mo_round_eq hM hc hi, bnd_some, ifEq_eq _ _ (hR i) R_n1]
      by_cases h : rnd n c i = -1
      · rw [if_pos h]
        refine okP_some (Or.inl ⟨a, rfl, h2, by rw [cnt_f (p := p) (fun q => q h)]; exact h3, fun j hj => ?_⟩)
        by_cases e : j = i
        · subst e
          exact fun q => q.1 h
        · exact h4 j (by omega)
      · rw [if_neg h, ifEq_eq _ _ h2 R0]
        by_cases ha : a = 0
        · rw [if_pos ha]
          refine okP_some (Or.inr ⟨_, rfl, Or.inl ⟨i, rfl, hi, h, ?_⟩⟩)
          unfold R at hk
          omega
        · rw [if_neg ha]
          refine okP_some (Or.inl ⟨dec32 a, rfl, R_i32 _, ?_, ?_⟩)
          · rw [dec_ok h2, cnt_t (p := p) h]
            unfold R at hk h2
            split
            · right; constructor <;> omega
            · omega
          · intro j hj
            by_cases e : j = i
            · subst e
              rintro ⟨-, q⟩
              unfold R at hk h2
              omega
            · exact h4 j (by omega)
    · rintro a ⟨-, -, h4⟩
      show okP (Mo_neighbour_t15 (c : Int) a ((6 : Nat) : Int) s) _
      unfold Mo_neighbour_t15
      rw [ifLt_eq _ _ (R_nat (by omega)) R6, if_neg (by omega)]
      exact okP_some ⟨_, rfl, Or.inr ⟨rfl, h4⟩⟩
  obtain ⟨r, er, h⟩ := main
  rw [er]
  rcases h with ⟨i, rfl, hi, hp, hcnt⟩ | ⟨rfl, hn⟩
  · show bnd (Mo_round (c : Int) (i : Int) s) _ = _
    rw [Mo_round_eq hM hc hi, bnd_some]
    have h1 := filt_get (a := rnd n c) hi hp
    have hle := cnt_le p i
    unfold nbx
    rw [if_pos ⟨by omega, by omega⟩]
    have e : k.toNat = cnt p i := by omega
    rw [e]
    unfold nbj nbl
    have h1' : (((List.range 6).map (rnd n c)).filter (fun x => decide (x ≠ -1)))[cnt p i]? = some (rnd n c i) := h1
    rw [h1']; rfl
  · show some ((-1 : Int), s) = _
    unfold nbx
    by_cases hr : 0 ≤ k ∧ k < 6
    · rw [if_pos hr]
      unfold nbj nbl
      rw [List.getElem?_eq_none]
      · rfl
      · rw [filt_len]
        apply Classical.byContradiction
        intro hlt
        obtain ⟨i, h1, h2, h3⟩ := cnt_hit (p := p) (k := k.toNat) (N := 6) (by show k.toNat < cnt (fun i => rnd n c i ≠ -1) 6; omega)
        exact hn i h1 ⟨h2, by omega⟩
    · rw [if_neg hr]

/-! ===== neighbour ===== -/
def nbx (n c : Nat) (k : Int) : Int := if 0 ≤ k ∧ k < 6 then nbj n c k.toNat else -1
theorem Gr_near_all {s : Sg} {n c : Nat} {k : Int} (h : GridOK s n) (hc : c < n * n) (hk : R k) : Gr_near (c : Int) k s = some (nbx n c k) := by
  have h81 := nn_le h.2.1
  by_cases hr : 0 ≤ k ∧ k < 6
  · obtain ⟨j, rfl⟩ := Int.eq_ofNat_of_zero_le hr.1
    rw [Gr_near_eq h hc (by omega)]
    unfold nbx
    rw [if_pos hr]; rfl
  · unfold nbx Gr_near Gr_near_b30 Gr_near_b35
    rw [if_neg hr, lett_eq, ifLt_eq _ _ hk R0]
    by_cases h1 : k < 0
    · rw [if_pos h1, ifEq_eq _ _ R1 R0, if_neg (by omega)]
    · rw [if_neg h1, ifLt_eq _ _ hk R6, if_neg (by omega), ifEq_eq _ _ R1 R0, if_neg (by omega)]
theorem filt_get {a : Nat → Int} {N c : Nat} (hc : c < N) (hp : a c ≠ -1) : (((List.range N).map a).filter (fun x => decide (x ≠ -1)))[cnt (fun i => a i ≠ -1) c]? = some (a c) := by
  have hlen : ∀ N, (((List.range N).map a).filter (fun x => decide (x ≠ -1))).length = cnt (fun i => a i ≠ -1) N := by
    intro N
    induction N with
    | zero => rfl
    | succ N ih =>
      rw [List.range_succ, List.map_append, List.filter_append, List.length_append, ih]
      by_cases h : a N ≠ -1
      · rw [cnt_t (p := fun i => a i ≠ -1) h]; simp [h]
      · rw [cnt_f (p := fun i => a i ≠ -1) h]; simp [h]
  induction N with
  | zero => exact absurd hc (Nat.not_lt_zero c)
  | succ N ih =>
    rw [List.range_succ, List.map_append, List.filter_append]
    by_cases e : c = N
    · subst e
      rw [← hlen c, List.getElem?_append_right (Nat.le_refl _)]
      simp [hp]
    · have h1 := ih (by omega)
      have h2 := (List.getElem?_eq_some_iff.mp h1).1
      rw [List.getElem?_append_left h2]; exact h1
theorem filt_len (a : Nat → Int) : ∀ N, (((List.range N).map a).filter (fun x => decide (x ≠ -1))).length = cnt (fun i => a i ≠ -1) N
  | 0 => rfl
  | N + 1 => by
    rw [List.range_succ, List.map_append, List.filter_append, List.length_append, filt_len a N]
    by_cases h : a N ≠ -1
    · rw [cnt_t (p := fun i => a i ≠ -1) h]; simp [h]
    · rw [cnt_f (p := fun i => a i ≠ -1) h]; simp [h]

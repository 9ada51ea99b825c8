/-! ===== the class: the board is turned over ===== -/
def osd (x : Int) : Int := if x = -1 then -1 else 1 - x
section MIR2
variable {s : Sg} {n : Nat} {f : Nat → Int}
theorem Po_mirrored_eq {x : Int} (h : x = -1 ∨ x = 0 ∨ x = 1) : Po_mirrored x s = some (osd x) := by
  unfold Po_mirrored osd
  rw [ifEq_eq _ _ (R_tri h) R_n1]
  by_cases q : x = -1
  · rw [if_pos q, if_pos q]
  · rw [if_neg q, if_neg q, Hx_otherSide_eq (h.resolve_left q), bnd_some]
theorem mirror_cells (hG : GridOK s n) (h2 : gi s 10 2 = (n : Int)) (hC : CB s n 11 f) (hfr : FR n f) : okP (whl (fun σ : Int × Sg => Po_mirror_t2 10 σ.1 σ.2) (0, s)) (fun t => Ch [11] s t ∧ ∀ c, c < n * n → gi t 11 c = osd (f (mir n c))) := by
  have h81 := nn_le hG.2.1
  have a11 : alen 11 = 81 := rfl
  have hnn : gi s 10 2 * gi s 10 2 = ((n * n : Nat) : Int) := by rw [h2]; exact nnI n
  refine whl_for (fun (i : Nat) (t : Sg) => ((i : Int), t)) (n * n) (fun i t => Ch [11] s t ∧ ∀ c, c < n * n → gi t 11 c = if c < i ∨ mir n c < i then osd (f (mir n c)) else f c) (i0 := 0) (t0 := s) (Nat.zero_le _) ⟨Ch.rf _ _, fun c hc => by rw [if_neg (by omega)]; exact hC c hc⟩ ?_ ?_
  · rintro i t hi' ⟨h1, h3⟩
    have hGt := hG.ch h1 (by decide) (by decide) (by decide) (by decide)
    have hy := mir_lt hi'
    have hyy := mir_mir hi'
    show okP (Po_mirror_t2 10 (i : Int) t) _
    unfold Po_mirror_t2 Po_mirror_b62 Po_stone
    rw [h1.g 10, hnn, ifLt_eq _ _ (R_nat (by omega)) (R_nat (by omega)), if_pos (by omega), Gr_mirror_eq hGt hi', bnd_some, ifLt_eq _ _ (R_nat (by omega)) (R_nat (by omega))]
    by_cases q : mir n i < i
    · rw [if_pos (by omega)]
      refine okP_some (Or.inl ⟨t, rfl, h1, fun c hc => ?_⟩)
      rw [h3 c hc]
      by_cases z : c < i ∨ mir n c < i
      · rw [if_pos z, if_pos (by omega)]
      · rw [if_neg z, if_neg]
        rintro (k | k)
        · have : c = i := by omega
          subst this; omega
        · have e : mir n c = i := by omega
          have := mir_mir hc
          rw [e] at this
          omega
    · have hi0 := h3 i hi'
      have hy0 := h3 _ hy
      rw [if_neg (by omega)] at hi0
      rw [if_neg (by omega)] at hy0
      rw [if_neg (by omega)]
      show okP (bnd (bnd (Hx_at 11 (i : Int) t) _) _) _
      rw [Hx_at_n (by omega), bnd_some, bnd_some, hi0]
      show okP (bnd (bnd (Hx_at 11 ((mir n i : Nat) : Int) t) _) _) _
      rw [Hx_at_n (by omega), bnd_some, bnd_some, hy0, Po_mirrored_eq (hfr _ hy), bnd_some]
      show okP (bnd (Hx_set 11 (i : Int) _ t) _) _
      rw [Hx_set_n (by omega), bnd_some, Po_mirrored_eq (hfr _ hi'), bnd_some]
      show okP (bnd (Hx_set 11 ((mir n i : Nat) : Int) _ _) _) _
      rw [Hx_set_n (by omega), bnd_some]
      refine okP_some (Or.inl ⟨_, rfl, (h1.tr (Ch.si (by decide))).tr (Ch.si (by decide)), fun c hc => ?_⟩)
      by_cases e1 : c = mir n i
      · rw [e1, gi_si_s, if_pos (by omega), hyy]
      · rw [gi_si_k _ _ _ e1]
        by_cases e2 : c = i
        · rw [e2, gi_si_s, if_pos (by omega)]
        · rw [gi_si_k _ _ _ e2, h3 c hc]
          have e3 : mir n c ≠ i := fun k => e1 (by rw [← k]; exact (mir_mir hc).symm)
          by_cases z : c < i ∨ mir n c < i
          · rw [if_pos z, if_pos (by omega)]
          · rw [if_neg z, if_neg (by omega)]
  · rintro t ⟨h1, h3⟩
    show okP (Po_mirror_t2 10 ((n * n : Nat) : Int) t) _
    unfold Po_mirror_t2
    rw [h1.g 10, hnn, ifLt_eq _ _ (R_nat (by omega)) (R_nat (by omega)), if_neg (by omega)]
    refine okP_some ⟨t, rfl, h1, fun c hc => ?_⟩
    rw [h3 c hc, if_pos (Or.inl hc)]
end MIR2


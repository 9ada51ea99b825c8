/-! ===== both read one cell alike ===== -/
section PAI
variable {L : Nat} {B : Nat → Int} {s : Sg} {b : Bd}
theorem Cs.ch {t : Sg} {p : Nat} {M : List Nat} (h : Cs s L B b p) (hc : Ch M s t) (h1 : ∀ x ∈ [1, 2, 3, 4, 48, 49, 52, 53, 54, 55], x ∉ M := by decide) : Cs t L B b p := by
  obtain ⟨a1, a2, a3, a4, a5, a6⟩ := h
  exact ⟨a1.ch hc (h1 48 (by decide)) (h1 49 (by decide)), a2, a3.ch hc (h1 52 (by decide)), (hc.g 52 (h1 52 (by decide))).trans a4, a5.c hc (fun x hx => h1 x (by revert x; decide)), a6.ch hc (h1 53 (by decide)) (h1 54 (by decide)) (h1 55 (by decide))⟩
theorem readC_over {p : Nat} {mv side : Int} {Q : Sg → Prop} (hb : BdOK b) (hC : Cs s L B b p) (hmv : mv = 1) (hw : wnr b.n b.f b.g ≠ -1) (k : ∀ s', Ch [5, 6, 7, 8, 9] s s' → Cs s' L B b p → okP (Re_readCell_b29 mv side ((sk L B p : Nat) : Int) 1 s') Q) : okP (Re_readCell mv side s) Q := by
  unfold Re_readCell
  rw [hC.2.2.1.1, lett_eq, hmv, ifEq_f R1 R0 (by omega)]
  obtain ⟨q1, q2, q3, q4, q5, q6, q7⟩ := hC.2.2.2.2.2
  refine okP_bnd2 (Po_winner_ok hC.2.2.2.2.1 (p := 53) (by decide) q6 hb.2.1 q5 hb.2.2.2.2.1) ?_
  rintro y t - ⟨h1, h2⟩
  have h1 : Ch [5, 6, 7, 8, 9] s t := h1
  have h2 : y = wnr b.n b.f b.g := h2
  rw [h2, ifEq_f (R_tri (wnr_rg hb.2.2.2.2.1)) R_n1 hw]
  rw [hmv] at k
  exact k t h1 (hC.ch h1)
theorem readC_free {p : Nat} {mv side : Int} {Q : Sg → Prop} (hb : BdOK b) (hC : Cs s L B b p) (hmv : mv = 0 ∨ (mv = 1 ∧ wnr b.n b.f b.g = -1)) (k : ∀ s', Ch [5, 6, 7, 8, 9] s s' → Cs s' L B b p → okP (Re_readCell_b29 mv side ((sk L B p : Nat) : Int) 0 s') Q) : okP (Re_readCell mv side s) Q := by
  unfold Re_readCell Re_readCell_b28
  rw [hC.2.2.1.1, lett_eq]
  rcases hmv with hmv | ⟨hmv, hw⟩
  · rw [hmv, ifEq_t R0 R0 rfl]
    rw [hmv] at k
    exact k s (Ch.rf _ _) hC
  · rw [hmv, ifEq_f R1 R0 (by omega)]
    obtain ⟨q1, q2, q3, q4, q5, q6, q7⟩ := hC.2.2.2.2.2
    refine okP_bnd2 (Po_winner_ok hC.2.2.2.2.1 (p := 53) (by decide) q6 hb.2.1 q5 hb.2.2.2.2.1) ?_
    rintro y t - ⟨h1, h2⟩
    have h1 : Ch [5, 6, 7, 8, 9] s t := h1
    have h2 : y = wnr b.n b.f b.g := h2
    rw [h2, ifEq_t (R_tri (wnr_rg hb.2.2.2.2.1)) R_n1 hw]
    rw [hmv] at k
    exact k t h1 (hC.ch h1)
/-! the reference -/
theorem Ms.ch {t : Sg} {p : Nat} {M : List Nat} (h : Ms s L B b p) (hc : Ch M s t) (h1 : ∀ x ∈ [81, 86, 8008, 8009], x ∉ M := by decide) : Ms t L B b p := by
  obtain ⟨a1, a2, a3, a4⟩ := h
  exact ⟨a1.ch hc (h1 8008 (by decide)) (h1 86 (by decide)), a2, (hc.g8 9 (h1 8009 (by decide))).trans a3, a4.ch hc (h1 81 (by decide))⟩
theorem mfl {t : Sg} (hc : Ch Mks s t) (e : Int) (pl : Nat) : MFl s (0, si (si t 80 12 e) 80 13 (pl : Int)) e pl := ⟨((hc.mo (by decide)).tr (Ch.s8 (by decide))).tr (Ch.s8 (by decide)), rfl, by
  show gi (si (si t 80 12 e) 80 13 (pl : Int)) 80 12 = e
  rw [gi_si_k _ _ _ (by omega)]; exact gi_si_s _ _ _ _, gi_si_s _ _ _ _⟩
theorem MFl.tr {t : Sg} {r : Int × Sg} {e : Int} {pl : Nat} (h1 : Ch Mks s t) (h2 : MFl t r e pl) : MFl s r e pl := ⟨(h1.mo (by decide)).tr h2.1, h2.2⟩
end PAI


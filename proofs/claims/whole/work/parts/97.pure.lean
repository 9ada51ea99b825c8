/-! ===== the law ends, and says 1 ===== -/
theorem pure_law (L : Nat) (xs : Nat → Int32) (z : Int32) (hL : L ≤ 2048) : ∃ s', La_run L (sgS L xs z) = some (1, s') := by
  obtain ⟨s2, e, hI⟩ := starts_ok (L := L) (xs := xs) (z := z)
  have hw : okP (whl (fun σ : Int × Sg => La_law_t28 L σ.1 σ.2) (0, s2)) (fun _ => True) := by
    refine okP_whl (fun σ : Int × Sg => 0 ≤ σ.1 ∧ σ.1 ≤ (L : Int) ∧ LInv σ.2) (fun σ => ((L : Int) - σ.1).toNat) ⟨Int.le_refl _, by show (0 : Int) ≤ (L : Int); omega, hI⟩ ?_
    rintro ⟨x5, s⟩ ⟨h1, h2, h3⟩
    have h1 : 0 ≤ x5 := h1
    have h2 : x5 ≤ (L : Int) := h2
    refine okP_mono (t28_ok h3 h1 hL h2) ?_
    rintro o (⟨s', e, k1, k2⟩ | ⟨r, e⟩)
    · refine Or.inl ⟨(x5 + 4, s'), e, ⟨by show 0 ≤ x5 + 4; omega, k2, k1⟩, ?_⟩
      show ((L : Int) - (x5 + 4)).toNat < ((L : Int) - x5).toNat
      omega
    · exact Or.inr ⟨r, e, trivial⟩
  obtain ⟨r, er, -⟩ := hw
  refine ⟨r, ?_⟩
  unfold La_run
  cases e1 : Hx_starts (sgS L xs z) with
  | none =>
    rw [e1] at e
    cases e
  | some s1 =>
    rw [e1, bnd_some] at e
    rw [bnd_some, e, bnd_some]
    unfold La_law_l28
    rw [er]
    rfl

/-! ===== snapshots ===== -/
section SNP
variable {X : Xs} {s t : Sg}
def upS (S : Nat → Option Bd) (k : Nat) (b : Bd) : Nat → Option Bd := fun j => if j = k then some b else S j
theorem XsOK.sn (hX : XsOK X) (k : Nat) {b : Bd} (hb : BdOK b) : XsOK (X.wS (upS X.S k b)) := ⟨hX.1, hX.2.1, fun j b' e => by
  have e : upS X.S k b j = some b' := e
  unfold upS at e
  by_cases q : j = k
  · rw [if_pos q] at e
    cases e
    exact hb
  · rw [if_neg q] at e
    exact hX.2.2.1 j b' e, hX.2.2.2⟩
theorem CI.sn {k : Nat} (hC : CI X s) (hk : k = 0 ∨ k = 1) (hc : Ch [42 + 3 * k, 42 + 3 * k + 1, 42 + 3 * k + 2] s t) (hP : CP t (42 + 3 * k) X.b) : CI (X.wS (upS X.S k X.b)) t := by
  refine ⟨?_, ?_, fun j hj => ?_, ?_⟩
  · rcases hk with rfl | rfl
    · exact hC.1.ch hc (by decide) (by decide)
    · exact hC.1.ch hc (by decide) (by decide)
  · rcases hk with rfl | rfl
    · exact hC.2.1.ch hc (by decide) (by decide)
    · exact hC.2.1.ch hc (by decide) (by decide)
  · show (upS X.S k X.b j = none → gi t (42 + 3 * j) 2 = 0) ∧ ∀ b, upS X.S k X.b j = some b → CP t (42 + 3 * j) b
    unfold upS
    by_cases q : j = k
    · rw [if_pos q]
      refine ⟨fun e => (nomatch e), fun b e => ?_⟩
      cases e
      rw [q]
      exact hP
    · rw [if_neg q]
      have h := hC.2.2.1 j hj
      have n0 : 42 + 3 * j ∉ [42 + 3 * k, 42 + 3 * k + 1, 42 + 3 * k + 2] := by simp; omega
      have n1 : 42 + 3 * j + 1 ∉ [42 + 3 * k, 42 + 3 * k + 1, 42 + 3 * k + 2] := by simp; omega
      have n2 : 42 + 3 * j + 2 ∉ [42 + 3 * k, 42 + 3 * k + 1, 42 + 3 * k + 2] := by simp; omega
      exact ⟨fun e => by rw [hc.g _ n0 (by omega)]; exact h.1 e, fun b e => (h.2 b e).ch hc n0 n1 n2 (by omega)⟩
  · rcases hk with rfl | rfl
    · exact hC.2.2.2.ch hc (by decide)
    · exact hC.2.2.2.ch hc (by decide)
theorem Fc_R (hX : XsOK X) : R ((Fc X.b.n X.b.f : Nat) : Int) := R_cnt hX _
theorem clearC {h : Nat} {H : Nat → Bd} (hH : HC s h H) : Hi_clear s = some (si s 16 2 0) ∧ HC (si s 16 2 0) 0 H := by
  obtain ⟨-, -, a, h3, h4, -⟩ := hH
  refine ⟨rfl, gi_si_s _ _ _ _, by omega, a, by rw [gi_si_k _ _ _ (by omega)]; exact h3, h4, fun i hi' => absurd hi' (Nat.not_lt_zero i)⟩
/-- another board is taken from the place p -/
theorem takeC {p : Nat} {b : Bd} (hX : XsOK X) (hC : CI X s) (hb : BdOK b) (hp : p = 42 ∨ p = 45 ∨ p = 53) (hP : CP s p b) (hg : gi s 1 3 = (b.n : Int) → GridOK s b.n) (hR : R (gi s 1 3)) : okP (bnd (Po_copy 10 p s) fun s5 => bnd (Gr_fit (gi s5 10 2) s5) fun s7 => Hi_clear s7) (fun t => Ch [1, 2, 3, 4, 10, 11, 12, 16] s t ∧ CI (X.wb b 0 X.H) t) := by
  refine okP_bnd (Po_copy_ok (p := 10) (q := p) hb hP (by omega) (by omega)) ?_
  rintro t - ⟨h1, h2⟩
  have h1 : Ch [10, 11, 12] s t := h1
  have hSt := hC.1.2.1.ch h1 (by decide)
  rw [h2.1]
  refine okP_bnd (fit_ok hb.1 hSt (fun e => (hg ((h1.g 1).symm.trans e)).c h1) (by rw [h1.g 1]; exact hR)) ?_
  rintro u - ⟨k1, k2⟩
  have hH := (hC.2.1.ch h1 (by decide) (by decide)).ch k1 (by decide) (by decide)
  obtain ⟨e, hH2⟩ := clearC hH
  have l1 : Ch [16] u (si u 16 2 0) := Ch.si (by decide)
  have hc : Ch [1, 2, 3, 4, 10, 11, 12, 16] s (si u 16 2 0) := ((h1.mo (by decide)).tr (k1.mo (by decide))).tr (l1.mo (by decide))
  rw [e]
  exact okP_some ⟨hc, hC.up hc ⟨k2.c l1, (hSt.ch k1 (by decide)).ch l1 (by decide), (h2.ch k1).ch l1⟩ hH2⟩
theorem XsOK.tk (hX : XsOK X) {b : Bd} (hb : BdOK b) : XsOK (X.wb b 0 X.H) := hX.up hb fun i hi' => absurd hi' (Nat.not_lt_zero i)
end SNP


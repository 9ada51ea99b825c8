/-! ===== the questions about cells, bridges and chains ===== -/
def OpB (X : Xs) (cI cX : Int) (A : Sg → Option ((Nat ⊕ Int) × Sg)) (B : Sg → Option (Int × Sg)) : Prop := ∃ c v X', (v = 0 ∨ v = 1) ∧ R c ∧ XsOK X' ∧ (∀ s, CI X s → okP (A s) (CPost cI cX c v X' s)) ∧ ∀ s, MI X s → okP (B s) (MPost c v X' s)
section CEL
variable {X : Xs} {A : Sg → Option ((Nat ⊕ Int) × Sg)} {B : Sg → Option (Int × Sg)} {cI cX : Int}
theorem fst1_s {p : Nat → Prop} {m : Nat} (h : fst1 p m < m) : p (fst1 p m) := by
  by_cases q : ∃ k, k < m ∧ p k ∧ ∀ j, j < k → ¬ p j
  · obtain ⟨k, h1, h2, h3⟩ := q
    rw [fst1_k h1 h2 h3]
    exact h2
  · have e : fst1 p m = m := dif_neg q
    omega
theorem evc {p q p' q' : Prop} (h1 : p ↔ p') (h2 : q ↔ q') : ev p q = ev p' q' := by rw [propext h1, propext h2]
theorem CI.st {s : Sg} (h : CI X s) (hX : XsOK X) {c : Nat} (hc : c < X.b.n * X.b.n) : Po_stone 10 (c : Int) s = some (X.b.f c) := by
  have h81 := nn_le hX.n9
  have a11 : alen 11 = 81 := rfl
  unfold Po_stone
  show bnd (Hx_at 11 (c : Int) s) _ = _
  rw [Hx_at_n (by omega), bnd_some, h.cb c hc]
theorem ob_q (hX : XsOK X) (v : Int) (hv : v = 0 ∨ v = 1) (hA : ∀ s, CI X s → okP (A s) (fun o => Ch LC s o.2 ∧ o.1 = .inr v)) (hB : ∀ s, MI X s → okP (B s) (MPost 0 v X s)) : OpB X cI cX A B :=
  ⟨0, v, X, hv, R0, hX, fun s hC => qC hC (hA s hC) (R_01 hv), hB⟩
theorem nbx_R {n : Nat} (hn : n ≤ 9) (c : Nat) (k : Int) : R (nbx n c k) := by
  have h81 := nn_le hn
  unfold nbx
  split
  · rcases nbj_rg n c k.toNat with e | ⟨y, e, hy, -⟩
    · rw [e]; exact R_n1
    · rw [e]; exact R_nat (by omega)
  · exact R_n1
theorem bcnt_R {n : Nat} (hn : 2 ≤ n ∧ n ≤ 9) (f : Nat → Int) (sd : Int) : R ((bcnt (brs n f sd) : Nat) : Int) := by
  have h1 := (brs_w (f := f) (sd := sd) hn).2
  have h2 := cnt_le (fun i => eCt (brs n f sd) i = 1) (brs n f sd).1
  have h2 : bcnt (brs n f sd) ≤ (brs n f sd).1 := h2
  exact R_nat (by omega)
end CEL


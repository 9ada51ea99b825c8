/-! ===== the questions about a side ===== -/
def OpE (X : Xs) (cI cX : Int) (A : Sg → Option ((Nat ⊕ Int) × Sg)) (B : Sg → Option (Int × Sg)) : Prop := ∃ c v X', R c ∧ XsOK X' ∧ (∀ s, CI X s → okP (A s) (CPost cI cX c v X' s)) ∧ ∀ s, MI X s → okP (B s) (MPost c v X' s)
def OpN (X : Xs) (A : Sg → Option (Int × Sg)) (B : Sg → Option (Int × Sg)) : Prop := ∃ v X', R v ∧ XsOK X' ∧ (∀ s, CI X s → okP (A s) (fun o => CF s o.2 ∧ CI X' o.2 ∧ o.1 = v)) ∧ ∀ s, MI X s → okP (B s) (MPost 0 v X' s)
section SID
variable {X : Xs} {A : Sg → Option ((Nat ⊕ Int) × Sg)} {B : Sg → Option (Int × Sg)} {cI cX : Int}
theorem op_bad (hX : XsOK X) (hA : ∀ s, CI X s → A s = some (.inl 0, s)) (hB : ∀ s, MI X s → ∃ y, B s = some (y, si s 80 0 1)) : OpE X 1 cX A B :=
  ⟨1, 0, X, R1, hX, fun s hC => by rw [hA s hC]; exact eI hC 0, fun s hM => by
    obtain ⟨y, e⟩ := hB s hM
    rw [e]
    exact eM hX hM (by omega) _ _⟩
theorem op_badX (hX : XsOK X) (hA : ∀ s, CI X s → A s = some (.inl 1, s)) (hB : ∀ s, MI X s → ∃ y, B s = some (y, si s 80 0 1)) : OpE X cI 1 A B :=
  ⟨1, 0, X, R1, hX, fun s hC => by rw [hA s hC]; exact eX hC 0, fun s hM => by
    obtain ⟨y, e⟩ := hB s hM
    rw [e]
    exact eM hX hM (by omega) _ _⟩
theorem op_q (hX : XsOK X) (v : Int) (hv : R v) (hA : ∀ s, CI X s → okP (A s) (fun o => Ch LC s o.2 ∧ o.1 = .inr v)) (hB : ∀ s, MI X s → okP (B s) (MPost 0 v X s)) : OpE X cI cX A B :=
  ⟨0, v, X, R0, hX, fun s hC => qC hC (hA s hC) hv, hB⟩
theorem XsOK.n9 (hX : XsOK X) : X.b.n ≤ 9 := hX.1.1.2
theorem XsOK.fr (hX : XsOK X) : FR X.b.n X.b.f := hX.1.2.1
theorem CI.G {s : Sg} (h : CI X s) : GridOK s X.b.n := h.1.1
theorem CI.T {s : Sg} (h : CI X s) : Stat s := h.1.2.1
theorem CI.cb {s : Sg} (h : CI X s) : CB s X.b.n 11 X.b.f := h.1.2.2.2.2.2.2.2.1
theorem GridOK.c {s s' : Sg} {n : Nat} {L : List Nat} (h : GridOK s n) (hc : Ch L s s') (hL : ∀ x ∈ [1, 2, 3, 4], x ∉ L := by decide) : GridOK s' n := h.ch hc (hL 1 (by decide)) (hL 2 (by decide)) (hL 3 (by decide)) (hL 4 (by decide))
theorem R_cnt (hX : XsOK X) (p : Nat → Prop) : R ((cnt p (X.b.n * X.b.n) : Nat) : Int) := by
  have h1 := cnt_le p (X.b.n * X.b.n)
  have h81 := nn_le hX.n9
  exact R_nat (by omega)
theorem bst_R {n : Nat} (hn : n ≤ 9) (f : Nat → Int) (sd : Int) : R (bst n f sd (n * n)) := by
  have h81 := nn_le hn
  rcases bst_rg n f sd (n * n) with e | ⟨k, e, hk, -⟩
  · rw [e]; exact R_n1
  · rw [e]; exact R_nat (by omega)
theorem lsw_R {n : Nat} (hn : n ≤ 9) (f : Nat → Int) (sd : Int) : R (lsw n f sd (n * n)) := by
  have h81 := nn_le hn
  rcases lsw_rg n f sd (n * n) with e | ⟨e1, e2⟩
  · rw [e]; exact R_n1
  · unfold R; omega
theorem pco_R {n : Nat} (hn : n ≤ 9) (f : Nat → Int) (sd : Int) (c : Nat) : R (pco n f sd c) := by
  have h81 := nn_le hn
  rcases pco_rg n f sd c with e | ⟨e1, e2, -⟩
  · rw [e]; exact R_n1
  · unfold R; omega
theorem pr_in {x : Int} : ∀ y ∈ [pr x + 1, pr x + 2, pr x + 3], y ∈ [64, 65, 66, 68, 69, 70] := by
  intro y hy
  unfold pr at hy
  split at hy <;> (revert y; decide)
end SID


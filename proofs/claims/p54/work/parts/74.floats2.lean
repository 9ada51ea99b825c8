/-! ===== answers without a change; answers that are floats ===== -/
def OpS (X : Xs) (A : Sg → Option Int) (B : Sg → Option (Int × Sg)) : Prop := ∃ v, R v ∧ (∀ s, CI X s → A s = some v) ∧ ∀ s, MI X s → okP (B s) (MPost 0 v X s)
def CPostG {α : Type} (cI cX c : Int) (v : α) (X : Xs) (s : Sg) (o : (Nat ⊕ α) × Sg) : Prop := CF s o.2 ∧ CI X o.2 ∧ ((c = 0 ∧ o.1 = .inr v) ∨ (o.1 = .inl 0 ∧ c = cI ∧ cI ≠ 0) ∨ (o.1 = .inl 1 ∧ c = cX ∧ cX ≠ 0))
def MPostG {α : Type} (c : Int) (v : α) (X : Xs) (s : Sg) (o : α × Sg) : Prop := MF s o.2 ∧ MI X o.2 ∧ gi o.2 80 0 = c ∧ (c = 0 → o.1 = v)
section FL2
variable {X : Xs}
theorem qMG {α : Type} {m : Option (α × Sg)} {v : α} {s : Sg} (hX : XsOK X) (hM : MI X s) {L : List Nat} (h : okP m (fun o => Ch L (si s 80 0 0) o.2 ∧ o.1 = v)) (hL : ∀ x ∈ L, x ∈ LM := by decide) (h0 : 8000 ∉ L := by decide) : okP m (MPostG 0 v X s) :=
  okP_mono h fun o ⟨h1, h2⟩ => ⟨(mf0 s 0).tr (Ch.mf (h1.mo hL)), (hM.e0 hX 0).ch hX (h1.mo hL), by rw [h1.g8 0 h0]; exact gi_si_s _ _ _ _, fun _ => h2⟩
end FL2


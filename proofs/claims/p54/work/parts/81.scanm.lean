/-! ===== the reference scans the text ===== -/
section SCM
variable {L : Nat} {B : Nat → Int} {s : Sg}
theorem sk_sk (p : Nat) : sk L B (sk L B p) = sk L B p := by
  obtain ⟨h1, h2, h3⟩ := rE_s L B 32 32 p
  exact rE_u ⟨Nat.le_refl _, fun i k1 k2 => absurd k1 (by omega), h3⟩
theorem sk_ge (p : Nat) : p ≤ sk L B p := rE_ge 32 32 p
theorem sk_le {p : Nat} (hp : p ≤ L) : sk L B p ≤ L := rE_le hp
theorem sx_in {v l h : Int} (hv : 1 ≤ v ∧ v ≤ 255) (hl : 0 ≤ l) (hh : h < 128) : (l ≤ sx v ∧ sx v ≤ h) ↔ (l ≤ v ∧ v ≤ h) := by
  unfold sx
  split <;> omega
theorem sx_R {v : Int} (hv : 1 ≤ v ∧ v ≤ 255) : R (sx v) := by
  unfold sx R
  split <;> omega
theorem byt_in (hB : ∀ i, i < L → 1 ≤ B i ∧ B i ≤ 255) {l h : Int} (hl : 0 ≤ l) (q : Nat) : (l ≤ byt L B q ∧ byt L B q ≤ h) ↔ (q < L ∧ l ≤ B q ∧ B q ≤ h) := by
  unfold byt
  by_cases z : q < L
  · rw [if_pos z]
    exact ⟨fun w => ⟨z, w⟩, fun w => w.2⟩
  · rw [if_neg z]
    exact ⟨fun w => by omega, fun w => absurd w.1 z⟩
end SCM


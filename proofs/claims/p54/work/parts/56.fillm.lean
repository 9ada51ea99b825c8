/-! ===== the reference: fillings ===== -/
/-- as Ch; the seed may change too -/
def Cl (L : List Nat) (s s' : Sg) : Prop := (∀ o k, ky o k ∉ L → gi s' o k = gi s o k) ∧ (∀ b j, ¬ (b = 80 ∧ j = 33) → gl s' b j = gl s b j) ∧ s'.2.2 = s.2.2
theorem Ch.cl {L : List Nat} {s s' : Sg} (h : Ch L s s') : Cl L s s' := ⟨h.1, fun b j _ => by unfold gl; rw [h.2], by rw [h.2]⟩
theorem Cl.tr {L : List Nat} {s s1 s2 : Sg} (h1 : Cl L s s1) (h2 : Cl L s1 s2) : Cl L s s2 := ⟨fun o k ho => (h2.1 o k ho).trans (h1.1 o k ho), fun b j hb => (h2.2.1 b j hb).trans (h1.2.1 b j hb), h2.2.2.trans h1.2.2⟩
theorem Cl.mo {L M : List Nat} {s s' : Sg} (h : Cl L s s') (hm : ∀ x ∈ L, x ∈ M) : Cl M s s' := ⟨fun o k ho => h.1 o k (fun q => ho (hm _ q)), h.2⟩
theorem Cl.g {L : List Nat} {s s' : Sg} (h : Cl L s s') (o : Nat) {k : Nat} (ho : o ∉ L := by decide) (h8 : o ≠ 80 := by decide) : gi s' o k = gi s o k := h.1 o k (by rw [ky_o h8]; exact ho)
theorem Cl.g8 {L : List Nat} {s s' : Sg} (h : Cl L s s') (k : Nat) (ho : 8000 + k ∉ L := by decide) : gi s' 80 k = gi s 80 k := h.1 80 k (by rw [ky_80]; exact ho)
theorem Cl.sl (L : List Nat) (s : Sg) (v : Int) : Cl L s (sl s 80 33 v) := ⟨fun _ _ _ => rfl, fun b j hb => by rw [gl_sl, if_neg hb], rfl⟩
theorem Ch.l {L : List Nat} {s s' : Sg} (h : Ch L s s') (b j : Nat) : gl s' b j = gl s b j := by unfold gl; rw [h.2]
section FILM
variable {n : Nat} {f : Nat → Int} {x : Int} {s : Sg}
theorem MB.same {t : Sg} (h : MB s n f) (e : ∀ k, k < 286 → gi t 81 k = gi s 81 k) : MB t n f := by
  have h81 := nn_le h.1.2.1
  exact ⟨⟨h.1.1, h.1.2.1, by rw [e 0 (by omega)]; exact h.1.2.2⟩, fun c hc => by rw [e (5 + c) (by omega)]; exact h.2 c hc⟩
end FILM


/-! ===== the class's own start ===== -/
section STB
variable {L : Nat} {xs : Nat → Int32} {z : Int32}
theorem starts_okC : okP (Hx_starts (sgS L xs z)) (fun v => CI X0 v ∧ Ch [1, 2, 3, 4, 10, 11] (sgS L xs z) v) := by
  unfold Hx_starts
  obtain ⟨u, eu, u1, u2⟩ := fit_ok (s := sgS L xs z) (n := 2) (by omega) S_stat (fun e => absurd ((S_z (by omega) 3).symm.trans e) (by decide)) (by rw [S_z (by omega) 3]; exact R0)
  obtain ⟨v, ev, v1, v2⟩ := begin_ok (p := 10) (s := u) (n := 2) (Or.inl rfl) (by omega)
  have v1 : Ch [10, 11] u v := v1
  have hc : Ch [1, 2, 3, 4, 10, 11] (sgS L xs z) v := (u1.mo (by decide)).tr (v1.mo (by decide))
  have zz : ∀ a k, a < 1000 → a ∉ [1, 2, 3, 4, 10, 11] → a ≠ 80 → gi v a k = 0 := fun a k h1 h2 h3 => (hc.g a h2 h3).trans (S_z h1 k)
  have hC : CI X0 v := by
    refine ⟨⟨u2.c v1, (S_stat.ch u1 (by decide)).ch v1 (by decide), v2⟩, ⟨zz 16 2 (by omega) (by decide) (by omega), by decide, 0, zz 16 1 (by omega) (by decide) (by omega), by omega, fun i hi' => absurd hi' (Nat.not_lt_zero i)⟩, fun j hj => ⟨fun _ => ?_, fun b e => (nomatch (show (none : Option Bd) = some b from e))⟩, ⟨zz 48 1 (by omega) (by decide) (by omega), fun i hi' => absurd hi' (Nat.not_lt_zero i)⟩, ⟨zz 50 1 (by omega) (by decide) (by omega), fun i hi' => absurd hi' (Nat.not_lt_zero i)⟩, zz 52 8 (by omega) (by decide) (by omega), fun _ => rfl, fun w => absurd rfl w⟩
    have : j = 0 ∨ j = 1 := by omega
    rcases this with rfl | rfl
    · exact zz 42 2 (by omega) (by decide) (by omega)
    · exact zz 45 2 (by omega) (by decide) (by omega)
  have eu2 : Gr_fit 2 (sgS L xs z) = some u := eu
  have ev2 : Po_begin 10 2 u = some v := ev
  rw [eu2, bnd_some, ev2, bnd_some]
  exact okP_some ⟨hC, hc⟩
end STB

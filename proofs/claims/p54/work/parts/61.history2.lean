/-! ===== taking back; the reference's record ===== -/
section HIS2
variable {s : Sg} {b : Bd} {h : Nat} {H : Nat → Bd}
theorem Hi_back_ok (hb : ∀ i, i < h → BdOK (H i)) (hH : HC s h H) (h0 : h ≠ 0) : okP (Hi_back 10 s) (fun o => Ch [16, 10, 11, 12] s o.2 ∧ CP o.2 10 (H (h - 1)) ∧ HC o.2 (h - 1) H ∧ o.1 = 1) := by
  obtain ⟨e1, e2, a, e3, e4, e5⟩ := hH
  have hj : (a + (h - 1)) % 8 < 8 := Nat.mod_lt _ (by omega)
  have em : (h : Int) - 1 = ((h - 1 : Nat) : Int) := by omega
  unfold Hi_back
  rw [e1, ifEq_eq _ _ (R_nat (by omega)) R0, if_neg (by omega), em, Hi_latest_eq e3 e4 (by omega), bnd_some]
  refine okP_bnd (Po_copy_ok (p := 10) (q := 18 + 3 * ((a + (h - 1)) % 8)) (hb _ (by omega)) (e5 _ (by omega)) (by omega) (by omega)) ?_
  rintro t - ⟨h1, h2⟩
  have h1 : Ch [10, 11, 12] s t := h1
  have hch : Ch [16] t (si t 16 2 ((h - 1 : Nat) : Int)) := Ch.si (by decide)
  rw [h1.g 16, e1, em, lett_eq]
  refine okP_some ⟨(h1.mo (by decide)).tr (hch.mo (by decide)), h2.ch hch, ⟨gi_si_s _ _ _ _, by omega, a, by rw [gi_si_k _ _ _ (by omega), h1.g 16]; exact e3, e4, fun i hi' => ?_⟩, rfl⟩
  have hi8 : (a + i) % 8 < 8 := Nat.mod_lt _ (by omega)
  exact ((e5 i (by omega)).ch h1 (by simp; omega) (by simp; omega) (by simp; omega) (by omega)).ch hch (by simp; omega) (by simp; omega) (by simp; omega) (by omega)
theorem Hx_undo_ok (hb : BdOK b) (hHb : ∀ i, i < h → BdOK (H i) ∧ (H i).n = b.n) (hC : CQ s b) (hH : HC s h H) : okP (Hx_undo s) (fun o => Ch [16, 10, 11, 12] s o.2 ∧ (h = 0 → o.1 = -1 ∧ CQ o.2 b ∧ HC o.2 h H) ∧ (h ≠ 0 → o.1 = ((h - 1 : Nat) : Int) ∧ CQ o.2 (H (h - 1)) ∧ HC o.2 (h - 1) H)) := by
  unfold Hx_undo
  by_cases h0 : h = 0
  · unfold Hi_back
    rw [hH.1, ifEq_eq _ _ (R_nat (by omega)) R0, if_pos (by omega)]
    show okP (ifEq 0 0 _ _) _
    rw [ifEq_eq _ _ R0 R0, if_pos rfl]
    exact okP_some ⟨Ch.rf _ _, fun _ => ⟨rfl, hC, hH⟩, fun z => absurd h0 z⟩
  · refine okP_bnd2 (Hi_back_ok (fun i hi' => (hHb i hi').1) hH h0) ?_
    rintro y t - ⟨h1, h2, h3, h4⟩
    have h1 : Ch [16, 10, 11, 12] s t := h1
    have h2 : CP t 10 (H (h - 1)) := h2
    have h3 : HC t (h - 1) H := h3
    have h4 : y = 1 := h4
    have hG := hC.1.ch h1 (by decide) (by decide) (by decide) (by decide)
    rw [← (hHb (h - 1) (by omega)).2] at hG
    rw [h4, ifEq_eq _ _ R1 R0, if_neg (by omega)]
    exact okP_some ⟨h1, fun z => absurd z h0, fun _ => ⟨h3.1, ⟨hG, hC.2.1.ch h1 (by decide), h2⟩, h3⟩⟩
/-! the reference -/
end HIS2


/-! ===== taking back; the reference's record ===== -/
section HIS2
variable {s : Sg} {b : Bd} {h : Nat} {H : Nat → Bd}
theorem Hi_back_ok (hb : ∀ i, i < h → BdOK (H i)) (hH : HC s h H) (h0 : h ≠ 0) : okP (Hi_back 10 s) (fun o => Ch [16, 10, 11, 12] s o.2 ∧ CP o.2 10 (H (h - 1)) ∧ HC o.2 (h - 1) H ∧ o.1 = 1) := by
  obtain ⟨e1, e2, a, e3, e4, e5⟩ := hH
  have hj : (a + (h - 1)) % 8 < 8 := Nat.mod_lt _ (by omega)
  have em : (h : Int) - 1 = ((h - 1 : Nat) : Int) := by omega
  unfold Hi_back
  rw [e1, ifEq_eq _ _ (R_nat (by omega)) R0, if_neg (by omega), em, Hi_latest_eq e3 e4 (by omega), bnd_some]
  refine okP_bnd (Po_copy_ok (p := 10) (q := 18 + 3 * ((a + (h - 1)) % 8)) (hb _ (by omega)) (e5 _ (by omega)) (by omega) (by omega)) ?_
  rintro t - ⟨h1, h2⟩
  have h1 : Ch [10, 11, 12] s t := h1
  have hch : Ch [16] t (si t 16 2 ((h - 1 : Nat) : Int)) := Ch.si (by decide)
  rw [h1.g 16, e1, em, lett_eq]
  refine okP_some ⟨(h1.mo (by decide)).tr (hch.mo (by decide)), h2.ch hch, ⟨gi_si_s _ _ _ _, by omega, a, by rw [gi_si_k _ _ _ (by omega), h1.g 16]; exact e3, e4, fun i hi' => ?_⟩, rfl⟩
  have hi8 : (a + i) % 8 < 8 := Nat.mod_lt _ (by omega)
  exact ((e5 i (by omega)).ch h1 (by simp; omega) (by simp; omega) (by simp; omega) (by omega)).ch hch (by simp; omega) (by simp; omega) (by simp; omega) (by omega)
theorem Hx_undo_ok (hb : BdOK b) (hHb : ∀ i, i < h → BdOK (H i) ∧ (H i).n = b.n) (hC : CQ s b) (hH : HC s h H) : okP (Hx_undo s) (fun o => Ch [16, 10, 11, 12] s o.2 ∧ (h = 0 → o.1 = -1 ∧ CQ o.2 b ∧ HC o.2 h H) ∧ (h ≠ 0 → o.1 = ((h - 1 : Nat) : Int) ∧ CQ o.2 (H (h - 1)) ∧ HC o.2 (h - 1) H)) := by
  unfold Hx_undo
  by_cases h0 : h = 0
  · unfold Hi_back
    rw [hH.1, ifEq_eq _ _ (R_nat (by omega)) R0, if_pos (by omega)]
    show okP (ifEq 0 0 _ _) _
    rw [ifEq_eq _ _ R0 R0, if_pos rfl]
    exact okP_some ⟨Ch.rf _ _, fun _ => ⟨rfl, hC, hH⟩, fun z => absurd h0 z⟩
  · refine okP_bnd2 (Hi_back_ok (fun i hi' => (hHb i hi').1) hH h0) ?_
    rintro y t - ⟨h1, h2, h3, h4⟩
    have h1 : Ch [16, 10, 11, 12] s t := h1
    have h2 : CP t 10 (H (h - 1)) := h2
    have h3 : HC t (h - 1) H := h3
    have h4 : y = 1 := h4
    have hG := hC.1.ch h1 (by decide) (by decide) (by decide) (by decide)
    rw [← (hHb (h - 1) (by omega)).2] at hG
    rw [h4, ifEq_eq _ _ R1 R0, if_neg (by omega)]
    exact okP_some ⟨h1, fun z => absurd z h0, fun _ => ⟨h3.1, ⟨hG, hC.2.1.ch h1 (by decide), h2⟩, h3⟩⟩
/-! the reference -/
theorem keeps_low (hb : BdOK b) (hHb : ∀ i, i < h → BdOK (H i)) (hM : MP s b) (hH : HM s h H) (hh : h < 8) : okP (Mo_keeps_b55 s) (fun t => Ch [8006, 85] s t ∧ HM t (h + 1) (fun i => if i = h then b else H i)) := by
  obtain ⟨e1, e2, e3⟩ := hH
  unfold Mo_keeps_b55 Mo_keeps_l57
  refine okP_bnd (P := fun t => Ch [85] s t ∧ (∀ k, k < 286 → gi t 85 (286 * h + k) = gi s 81 k) ∧ ∀ j, j < 286 * h → gi t 85 j = gi s 85 j) (whl_for (fun (i : Nat) (t : Sg) => ((i : Int), t)) 286 (fun i t => Ch [85] s t ∧ (∀ k, k < i → gi t 85 (286 * h + k) = gi s 81 k) ∧ ∀ j, j < 286 * h → gi t 85 j = gi s 85 j) (i0 := 0) (t0 := s) (Nat.zero_le _) ⟨Ch.rf _ _, fun k hk => absurd hk (Nat.not_lt_zero k), fun _ _ => rfl⟩ ?_ ?_) ?_
  · rintro i t hi' ⟨h1, h2, h3⟩
    have e6 : (286 * (h : Int) + (i : Int)).toNat = 286 * h + i := by omega
    show okP (Mo_keeps_t57 (i : Int) t) _
    unfold Mo_keeps_t57
    rw [ifLt_eq _ _ (R_nat (by omega)) (by unfold R; omega), if_pos (by omega), grd_t ⟨by omega, by omega⟩, h1.g8 6, e1, grd_t ⟨by omega, by omega⟩, lett_eq, e6]
    refine okP_some (Or.inl ⟨si t 85 (286 * h + i) (gi t 81 i), rfl, h1.tr (Ch.si (by decide)), fun k hk => ?_, fun j hj => ?_⟩)
    · by_cases e : k = i
      · subst e; rw [gi_si_s, h1.g 81]
      · rw [gi_si_k _ _ _ (by omega)]; exact h2 k (by omega)
    · rw [gi_si_k _ _ _ (by omega)]; exact h3 j hj
  · rintro t ⟨h1, h2, h3⟩
    show okP (Mo_keeps_t57 ((286 : Nat) : Int) t) _
    unfold Mo_keeps_t57
    rw [ifLt_eq _ _ (R_nat (by omega)) (by unfold R; omega), if_neg (by omega)]
    exact okP_some ⟨t, rfl, h1, h2, h3⟩
  · rintro t - ⟨h1, h2, h3⟩
    rw [lett_eq, h1.g8 6, e1]
    refine okP_some ⟨(h1.mo (by decide)).tr (Ch.s8 (by decide)), by rw [gi_si_s]; rfl, by omega, fun i hi' => ?_⟩
    show rec' (fun k => gi (si t 80 6 ((h : Int) + 1)) 85 (286 * i + k)) (if i = h then b else H i)
    by_cases q : i = h
    · subst q
      rw [if_pos rfl]
      refine rec_congr hb (fun k hk => ?_) (MP_rec.mp hM)
      show gi (si t 80 6 _) 85 _ = gi s 81 k
      rw [gi_si_o _ _ _ _ (by omega)]; exact h2 k hk
    · rw [if_neg q]
      refine rec_congr (hHb i (by omega)) (fun k hk => ?_) (e3 i (by omega))
      show gi (si t 80 6 _) 85 _ = gi s 85 _
      rw [gi_si_o _ _ _ _ (by omega)]; exact h3 _ (by omega)
theorem keeps_ok (hb : BdOK b) (hHb : ∀ i, i < h → BdOK (H i)) (hM : MP s b) (hH : HM s h H) : okP (Mo_keeps s) (fun t => Ch [8006, 85] s t ∧ HM t (psh h H b).1 (psh h H b).2) := by
  have hH' := hH
  obtain ⟨e1, e2, e3⟩ := hH'
  unfold Mo_keeps psh
  rw [e1, ifEq_eq _ _ (R_nat (by omega)) (by unfold R; omega)]
  by_cases q : h = 8
  · rw [if_pos (by omega), if_pos q, lett_eq]
    unfold Mo_keeps_l21
    have c0 : Ch [8006] s (si s 80 6 ((h : Int) - 1)) := Ch.s8 (by decide)
    refine okP_bnd (P := fun t => Ch [8006, 85] s t ∧ gi t 80 6 = 7 ∧ ∀ k, k < 2002 → gi t 85 k = gi s 85 (k + 286)) (whl_for (fun (i : Nat) (t : Sg) => ((i : Int), t)) 2002 (fun i t => Ch [8006, 85] s t ∧ gi t 80 6 = 7 ∧ (∀ k, k < i → gi t 85 k = gi s 85 (k + 286)) ∧ ∀ k, i ≤ k → gi t 85 k = gi s 85 k) (i0 := 0) (t0 := si s 80 6 ((h : Int) - 1)) (Nat.zero_le _) ⟨c0.mo (by decide), by rw [gi_si_s]; omega, fun k hk => absurd hk (Nat.not_lt_zero k), fun k _ => c0.g 85⟩ ?_ ?_) ?_
    · rintro i t hi' ⟨h1, h2, h3, h4⟩
      have e6 : ((i : Int) + 286).toNat = i + 286 := by omega
      show okP (Mo_keeps_t21 (i : Int) t) _
      unfold Mo_keeps_t21
      rw [h2, ifLt_eq _ _ (R_nat (by omega)) (by unfold R; omega), if_pos (by omega), grd_t ⟨by omega, by omega⟩, grd_t ⟨by omega, by omega⟩, lett_eq, e6]
      refine okP_some (Or.inl ⟨si t 85 i (gi t 85 (i + 286)), rfl, h1.tr (Ch.si (by decide)), by rw [gi_si_o _ _ _ _ (by omega)]; exact h2, fun k hk => ?_, fun k hk => ?_⟩)
      · by_cases e : k = i
        · subst e; rw [gi_si_s]; exact h4 _ (by omega)
        · rw [gi_si_k _ _ _ e]; exact h3 k (by omega)
      · rw [gi_si_k _ _ _ (by omega)]; exact h4 k (by omega)
    · rintro t ⟨h1, h2, h3, h4⟩
      show okP (Mo_keeps_t21 ((2002 : Nat) : Int) t) _
      unfold Mo_keeps_t21
      rw [h2, ifLt_eq _ _ (R_nat (by omega)) (by unfold R; omega), if_neg (by omega)]
      exact okP_some ⟨t, rfl, h1, h2, h3⟩
    · rintro t - ⟨h1, h2, h3⟩
      have hMt : MP t b := hM.ch h1
      have hHt : HM t 7 (fun i => H (i + 1)) := ⟨h2, by omega, fun i hi' => rec_congr (hHb (i + 1) (by omega)) (fun k hk => by
        show gi t 85 (286 * i + k) = gi s 85 (286 * (i + 1) + k)
        rw [h3 _ (by omega)]
        congr 1
        omega) (e3 (i + 1) (by omega))⟩
      refine okP_mono (keeps_low hb (fun i hi' => hHb (i + 1) (by omega)) hMt hHt (by omega)) ?_
      rintro u ⟨k1, k2⟩
      refine ⟨h1.tr k1, k2.1, k2.2.1, fun i hi' => ?_⟩
      have k : rec' (fun k => gi u 85 (286 * i + k)) (if i = 7 then b else H (i + 1)) := k2.2.2 i hi'
      show rec' (fun k => gi u 85 (286 * i + k)) (if i < 7 then H (i + 1) else b)
      have hi9 : i < 8 := hi'
      by_cases z : i = 7
      · rw [if_neg (by omega)]
        rw [if_pos z] at k
        exact k
      · rw [if_pos (by omega)]
        rw [if_neg z] at k
        exact k
  · rw [if_neg (by omega), if_neg q]
    exact keeps_low hb hHb hM hH (by omega)
theorem Mo_undo_ok (hHb : ∀ i, i < h → BdOK (H i)) (hM : MP s b) (hH : HM s h H) : okP (Mo_undo s) (fun o => Ch [8000, 8006, 81] s o.2 ∧ gi o.2 80 0 = 0 ∧ (h = 0 → o.1 = -1 ∧ MP o.2 b ∧ HM o.2 h H) ∧ (h ≠ 0 → o.1 = ((h - 1 : Nat) : Int) ∧ MP o.2 (H (h - 1)) ∧ HM o.2 (h - 1) H)) := by
  obtain ⟨e1, e2, e3⟩ := hH
  have c0 : Ch [8000] s (si s 80 0 0) := Ch.s8 (by decide)
  unfold Mo_undo
  rw [lett_eq, gi_si_k _ _ _ (show (6 : Nat) ≠ 0 by omega), e1, ifEq_eq _ _ (R_nat (by omega)) R0]
  by_cases h0 : h = 0
  · rw [if_pos (by omega)]
    exact okP_some ⟨c0.mo (by decide), gi_si_s _ _ _ _, fun _ => ⟨rfl, hM.ch c0, by rw [gi_si_k _ _ _ (by omega)]; exact e1, e2, fun i hi' => by omega⟩, fun z => absurd h0 z⟩
  · have em : (h : Int) - 1 = ((h - 1 : Nat) : Int) := by omega
    rw [if_neg (by omega), lett_eq, em]
    have c1 : Ch [8000, 8006] s (si (si s 80 0 0) 80 6 ((h - 1 : Nat) : Int)) := (c0.mo (by decide)).tr (Ch.s8 (by decide))
    unfold Mo_undo_l26
    refine okP_bnd (P := fun t => Ch [8000, 8006, 81] s t ∧ gi t 80 0 = 0 ∧ gi t 80 6 = ((h - 1 : Nat) : Int) ∧ ∀ k, k < 286 → gi t 81 k = gi s 85 (286 * (h - 1) + k)) (whl_for (fun (i : Nat) (t : Sg) => ((i : Int), t)) 286 (fun i t => Ch [8000, 8006, 81] s t ∧ gi t 80 0 = 0 ∧ gi t 80 6 = ((h - 1 : Nat) : Int) ∧ ∀ k, k < i → gi t 81 k = gi s 85 (286 * (h - 1) + k)) (i0 := 0) (t0 := si (si s 80 0 0) 80 6 ((h - 1 : Nat) : Int)) (Nat.zero_le _) ⟨c1.mo (by decide), by rw [gi_si_k _ _ _ (by omega), gi_si_s], gi_si_s _ _ _ _, fun k hk => absurd hk (Nat.not_lt_zero k)⟩ ?_ ?_) ?_
    · rintro i t hi' ⟨h1, h2, h3, h4⟩
      have e6 : (286 * ((h - 1 : Nat) : Int) + (i : Int)).toNat = 286 * (h - 1) + i := by omega
      show okP (Mo_undo_t26 (i : Int) t) _
      unfold Mo_undo_t26
      rw [ifLt_eq _ _ (R_nat (by omega)) (by unfold R; omega), if_pos (by omega), h3, grd_t ⟨by omega, by omega⟩, grd_t ⟨by omega, by omega⟩, lett_eq, e6]
      refine okP_some (Or.inl ⟨si t 81 i (gi t 85 (286 * (h - 1) + i)), rfl, h1.tr (Ch.si (by decide)), by rw [gi_si_o _ _ _ _ (by omega)]; exact h2, by rw [gi_si_o _ _ _ _ (by omega)]; exact h3, fun k hk => ?_⟩)
      by_cases e : k = i
      · subst e; rw [gi_si_s, h1.g 85]
      · rw [gi_si_k _ _ _ e]; exact h4 k (by omega)
    · rintro t ⟨h1, h2, h3, h4⟩
      show okP (Mo_undo_t26 ((286 : Nat) : Int) t) _
      unfold Mo_undo_t26
      rw [ifLt_eq _ _ (R_nat (by omega)) (by unfold R; omega), if_neg (by omega)]
      exact okP_some ⟨t, rfl, h1, h2, h3, h4⟩
    · rintro t - ⟨h1, h2, h3, h4⟩
      refine okP_some ⟨h1, h2, fun z => absurd z h0, fun _ => ⟨h3, MP_rec.mpr (rec_congr (hHb _ (by omega)) h4 (e3 (h - 1) (by omega))), h3, by omega, fun i hi' => rec_congr (hHb i (by omega)) (fun k hk => ?_) (e3 i (by omega))⟩⟩
      show gi t 85 _ = gi s 85 _
      exact h1.g 85
end HIS2

/-! ===== the board is turned over: the rest ===== -/
def tov (b : Bd) : Bd := Bd.mk b.n (fun c => osd (b.f (mir b.n c))) b.w (1 - b.t) (osd b.g) b.m (fun i => ((mir b.n (b.mv i).toNat : Nat) : Int))
section TOV
variable {s : Sg} {b : Bd}
theorem osd_rg {x : Int} (h : x = -1 ∨ x = 0 ∨ x = 1) : osd x = -1 ∨ osd x = 0 ∨ osd x = 1 := by
  unfold osd
  split <;> omega
theorem tov_ok (hb : BdOK b) : BdOK (tov b) := by
  obtain ⟨hn, hfr, hw, ht, hg, hm, hmv⟩ := hb
  refine ⟨hn, fun c hc => osd_rg (hfr _ (mir_lt hc)), hw, ?_, osd_rg hg, hm, fun i hi' => ?_⟩
  · show 1 - b.t = 0 ∨ 1 - b.t = 1
    omega
  · obtain ⟨c, ec, hc⟩ := hmv i hi'
    refine ⟨mir b.n c, ?_, mir_lt hc⟩
    show ((mir b.n (b.mv i).toNat : Nat) : Int) = _
    rw [ec]
    rfl
theorem Po_mirror_ok (hb : BdOK b) (hC : CQ s b) : okP (Po_mirror 10 s) (fun t => Ch [10, 11, 12] s t ∧ CP t 10 (tov b)) := by
  obtain ⟨hn, hfr, hw, ht, hg, hm, hmv⟩ := hb
  have h81 := nn_le hn.2
  have a12 : alen 12 = 200 := rfl
  obtain ⟨hG, hS, p1, p2, p3, p4, p5, p6, p7⟩ := hC
  unfold Po_mirror Po_mirror_l2
  refine okP_bnd (mirror_cells hG p1 p6 hfr) ?_
  rintro t - ⟨h1, h2⟩
  have hGt := hG.ch h1 (by decide) (by decide) (by decide) (by decide)
  unfold Po_mirror_l70
  refine okP_bnd (P := fun u => Ch [12] t u ∧ ∀ i, i < b.m → gi u 12 i = ((mir b.n (b.mv i).toNat : Nat) : Int)) (whl_for (fun (i : Nat) (u : Sg) => ((i : Int), u)) b.m (fun i u => Ch [12] t u ∧ ∀ j, j < b.m → gi u 12 j = if j < i then ((mir b.n (b.mv j).toNat : Nat) : Int) else b.mv j) (i0 := 0) (t0 := t) (Nat.zero_le _) ⟨Ch.rf _ _, fun j hj => by rw [if_neg (by omega), h1.g 12]; exact p7 j hj⟩ ?_ ?_) ?_
  · rintro i u hi' ⟨k1, k2⟩
    obtain ⟨c, ec, hc⟩ := hmv i hi'
    have hGu := hGt.ch k1 (by decide) (by decide) (by decide) (by decide)
    have e4 : gi u 10 4 = (b.m : Int) := by rw [k1.g 10, h1.g 10]; exact p3
    have e12 : gi u 12 i = (c : Int) := by rw [k2 i hi', if_neg (by omega)]; exact ec
    have em : Po_moved 10 (i : Int) u = some (c : Int) := by
      unfold Po_moved
      rw [ifLt_eq _ _ (R_nat (by omega)) R0, if_neg (by omega), e4, ifLt_eq _ _ (R_nat (by omega)) (R_nat (by omega)), if_pos (by omega)]
      show bnd (Hx_at 12 ((i : Nat) : Int) u) _ = _
      rw [Hx_at_n (by omega), bnd_some, e12]
    show okP (Po_mirror_t70 10 (i : Int) u) _
    unfold Po_mirror_t70
    rw [e4, ifLt_eq _ _ (R_nat (by omega)) (R_nat (by omega)), if_pos (by omega), em, bnd_some, Gr_mirror_eq hGu hc, bnd_some]
    show okP (bnd (Hx_set 12 (i : Int) _ u) _) _
    rw [Hx_set_n (by omega), bnd_some]
    refine okP_some (Or.inl ⟨_, rfl, k1.tr (Ch.si (by decide)), fun j hj => ?_⟩)
    by_cases e : j = i
    · subst e
      rw [gi_si_s, if_pos (by omega), ec]
      rfl
    · rw [gi_si_k _ _ _ e, k2 j hj]
      by_cases z : j < i
      · rw [if_pos z, if_pos (by omega)]
      · rw [if_neg z, if_neg (by omega)]
  · rintro u ⟨k1, k2⟩
    have e4 : gi u 10 4 = (b.m : Int) := by rw [k1.g 10, h1.g 10]; exact p3
    show okP (Po_mirror_t70 10 ((b.m : Nat) : Int) u) _
    unfold Po_mirror_t70
    rw [e4, ifLt_eq _ _ (R_nat (by omega)) (R_nat (by omega)), if_neg (by omega)]
    exact okP_some ⟨u, rfl, k1, fun j hj => by rw [k2 j hj, if_pos hj]⟩
  · rintro u - ⟨k1, k2⟩
    have g10 : ∀ k, gi u 10 k = gi s 10 k := fun k => by rw [k1.g 10, h1.g 10]
    rw [g10, p4, Hx_otherSide_eq ht, bnd_some, lett_eq, gi_si_k _ _ _ (show (6 : Nat) ≠ 5 by omega), g10, p5, Po_mirrored_eq hg, bnd_some, lett_eq]
    have o : ∀ k, k ≠ 5 → k ≠ 6 → gi (si (si u 10 5 (1 - b.t)) 10 6 (osd b.g)) 10 k = gi s 10 k := fun k z5 z6 => by rw [gi_si_k _ _ _ z6, gi_si_k _ _ _ z5, g10]
    refine okP_some ⟨((h1.mo (by decide)).tr (k1.mo (by decide))).tr ((Ch.si (by decide)).tr (Ch.si (by decide))), (o 2 (by omega) (by omega)).trans p1, (o 3 (by omega) (by omega)).trans p2, (o 4 (by omega) (by omega)).trans p3, ?_, gi_si_s _ _ _ _, fun c hc => ?_, fun i hi' => ?_⟩
    · rw [gi_si_k _ _ _ (by omega), gi_si_s]
      rfl
    · rw [gi_si_o _ _ _ _ (by omega), gi_si_o _ _ _ _ (by omega), k1.g (10 + 1)]
      exact h2 c hc
    · rw [gi_si_o _ _ _ _ (by omega), gi_si_o _ _ _ _ (by omega)]
      exact k2 i hi'
end TOV


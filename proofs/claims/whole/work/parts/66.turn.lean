/-! ===== the board is turned over: the rest ===== -/
def tov (b : Bd) : Bd := Bd.mk b.n (fun c => osd (b.f (mir b.n c))) b.w (1 - b.t) (osd b.g) b.m (fun i => ((mir b.n (b.mv i).toNat : Nat) : Int))
section TOV
variable {s : Sg} {b : Bd}
theorem osd_rg {x : Int} (h : x = -1 ∨ x = 0 ∨ x = 1) : osd x = -1 ∨ osd x = 0 ∨ osd x = 1 := by
  unfold osd
  split <;> omega
theorem tov_ok (hb : BdOK b) : BdOK (tov b) := by
  obtain ⟨hn, hfr, hw, ht, hg, hm, hmv⟩ := hb
  refine ⟨hn, fun c hc => osd_rg (hfr _ (mir_lt hc)), hw, ?_, osd_rg hg, hm, fun i hi' => ?_⟩
  · show 1 - b.t = 0 ∨ 1 - b.t = 1
    omega
  · obtain ⟨c, ec, hc⟩ := hmv i hi'
    refine ⟨mir b.n c, ?_, mir_lt hc⟩
    show ((mir b.n (b.mv i).toNat : Nat) : Int) = _
    rw [ec]
    rfl
theorem Po_mirror_ok (hb : BdOK b) (hC : CQ s b) : okP (Po_mirror 10 s) (fun t => Ch [10, 11, 12] s t ∧ CP t 10 (tov b)) := by
  obtain ⟨hn, hfr, hw, ht, hg, hm, hmv⟩ := hb
  have h81 := nn_le hn.2
  have a12 : alen 12 = 200 := rfl
  obtain ⟨hG, hS, p1, p2, p3, p4, p5, p6, p7⟩ := hC
  unfold Po_mirror Po_mirror_l2
  refine okP_bnd (mirror_cells hG p1 p6 hfr) ?_
  rintro t - ⟨h1, h2⟩
  have hGt := hG.ch h1 (by decide) (by decide) (by decide) (by decide)
  unfold Po_mirror_l70
  refine okP_bnd (P := fun u => Ch [12] t u ∧ ∀ i, i < b.m → gi u 12 i = ((mir b.n (b.mv i).toNat : Nat) : Int)) (whl_for (fun (i : Nat) (u : Sg) => ((i : Int), u)) b.m (fun i u => Ch [12] t u ∧ ∀ j, j < b.m → gi u 12 j = if j < i then ((mir b.n (b.mv j).toNat : Nat) : Int) else b.mv j) (i0 := 0) (t0 := t) (Nat.zero_le _) ⟨Ch.rf _ _, fun j hj => by rw [if_neg (by omega), h1.g 12]; exact p7 j hj⟩ ?_ ?_) ?_
  · rintro i u hi' ⟨k1, k2⟩
    obtain ⟨c, ec, hc⟩ := hmv i hi'
    have hGu := hGt.ch k1 (by decide) (by decide) (by decide) (by decide)
    have e4 : gi u 10 4 = (b.m : Int) := by rw [k1.g 10, h1.g 10]; exact p3
    have e12 : gi u 12 i = (c : Int) := by rw [k2 i hi', if_neg (by omega)]; exact ec
    have em : Po_moved 10 (i : Int) u = some (c : Int) := by
      unfold Po_moved
      rw [ifLt_eq _ _ (R_nat (by omega)) R0, if_neg (by omega), e4, ifLt_eq _ _ (R_nat (by omega)) (R_nat (by omega)), if_pos (by omega)]
      show bnd (Hx_at 12 ((i : Nat) : Int) u) _ = _
      rw [Hx_at_n (by omega), bnd_some, e12]
    show okP (Po_mirror_t70 10 (i : Int) u) _
    unfold Po_mirror_t70
    rw [e4, ifLt_eq _ _ (R_nat (by omega)) (R_nat (by omega)), if_pos (by omega), em, bnd_some, Gr_mirror_eq hGu hc, bnd_some]
    show okP (bnd (Hx_set 12 (i : Int) _ u) _) _
    rw [Hx_set_n (by omega), bnd_some]
    refine okP_some (Or.inl ⟨_, rfl, k1.tr (Ch.si (by decide)), fun j hj => ?_⟩)
    by_cases e : j = i
    · subst e
      rw [gi_si_s, if_pos (by omega), ec]
      rfl
    · rw [gi_si_k _ _ _ e, k2 j hj]
      by_cases z : j < i
      · rw [if_pos z, if_pos (by omega)]
      · rw [if_neg z, if_neg (by omega)]
  · rintro u ⟨k1, k2⟩
    have e4 : gi u 10 4 = (b.m : Int) := by rw [k1.g 10, h1.g 10]; exact p3
    show okP (Po_mirror_t70 10 ((b.m : Nat) : Int) u) _
    unfold Po_mirror_t70
    rw [e4, ifLt_eq _ _ (R_nat (by omega)) (R_nat (by omega)), if_neg (by omega)]
    exact okP_some ⟨u, rfl, k1, fun j hj => by rw [k2 j hj, if_pos hj]⟩
  · rintro u - ⟨k1, k2⟩
    have g10 : ∀ k, gi u 10 k = gi s 10 k := fun k => by rw [k1.g 10, h1.g 10]
    rw [g10, p4, Hx_otherSide_eq ht, bnd_some, lett_eq, gi_si_k _ _ _ (show (6 : Nat) ≠ 5 by omega), g10, p5, Po_mirrored_eq hg, bnd_some, lett_eq]
    have o : ∀ k, k ≠ 5 → k ≠ 6 → gi (si (si u 10 5 (1 - b.t)) 10 6 (osd b.g)) 10 k = gi s 10 k := fun k z5 z6 => by rw [gi_si_k _ _ _ z6, gi_si_k _ _ _ z5, g10]
    refine okP_some ⟨((h1.mo (by decide)).tr (k1.mo (by decide))).tr ((Ch.si (by decide)).tr (Ch.si (by decide))), (o 2 (by omega) (by omega)).trans p1, (o 3 (by omega) (by omega)).trans p2, (o 4 (by omega) (by omega)).trans p3, ?_, gi_si_s _ _ _ _, fun c hc => ?_, fun i hi' => ?_⟩
    · rw [gi_si_k _ _ _ (by omega), gi_si_s]
      rfl
    · rw [gi_si_o _ _ _ _ (by omega), gi_si_o _ _ _ _ (by omega), k1.g (10 + 1)]
      exact h2 c hc
    · rw [gi_si_o _ _ _ _ (by omega), gi_si_o _ _ _ _ (by omega)]
      exact k2 i hi'
theorem Mo_otherSide_eq {x : Int} (h : x = -1 ∨ x = 0 ∨ x = 1) : Mo_otherSide x s = some (osd x) := by
  unfold Mo_otherSide osd
  rw [ifEq_eq _ _ (R_tri h) R_n1]
  split <;> rfl
theorem turned_ok (hb : BdOK b) (hM : MP s b) (h82 : ∀ k, k < 286 → gi s 82 k = gi s 81 k) : okP (Mo_turnOver_l15 0 s) (fun o => Ch [81] s o.2 ∧ MP o.2 (tov b) ∧ o.1 = (b.n : Int)) := by
  obtain ⟨hn, hfr, hw, ht, hg, hm, hmv⟩ := hb
  have h81 := nn_le hn.2
  obtain ⟨⟨hN, p1⟩, p2, p3, p4, p5, p6⟩ := hM
  unfold Mo_turnOver_l15
  refine okP_bnd (P := fun u => Ch [81] s u ∧ (∀ k, (k < 5 ∨ 86 ≤ k) → gi u 81 k = gi s 81 k) ∧ ∀ c, c < b.n * b.n → gi u 81 (5 + c) = osd (b.f (mir b.n c))) (whl_for (fun (i : Nat) (u : Sg) => ((i : Int), u)) (b.n * b.n) (fun i u => Ch [81] s u ∧ (∀ k, (k < 5 ∨ 86 ≤ k) → gi u 81 k = gi s 81 k) ∧ ∀ c, c < b.n * b.n → mir b.n c < i → gi u 81 (5 + c) = osd (b.f (mir b.n c))) (i0 := 0) (t0 := s) (Nat.zero_le _) ⟨Ch.rf _ _, fun _ _ => rfl, fun c _ h => absurd h (Nat.not_lt_zero _)⟩ ?_ ?_) ?_
  · rintro i u hi' ⟨k1, k2, k3⟩
    have hNu : MoN u b.n := ⟨hN.1, hN.2.1, (k2 0 (by omega)).trans hN.2.2⟩
    have hy := mir_lt hi'
    have ey : (5 + ((mir b.n i : Nat) : Int)).toNat = 5 + mir b.n i := by omega
    have ei : (5 + (i : Int)).toNat = 5 + i := by omega
    have ef : gi u 82 (5 + i) = b.f i := by rw [k1.g 82, h82 _ (by omega)]; exact p1 i hi'
    show okP (Mo_turnOver_t15 (i : Int) u) _
    unfold Mo_turnOver_t15
    rw [Mo_cells_eq hNu, bnd_some, ifLt_eq _ _ (R_nat (by omega)) (R_nat (by omega)), if_pos (by omega), Mo_exchanged_eq hNu hi', bnd_some, grd_t ⟨by omega, by omega⟩, ei, ef, Mo_otherSide_eq (hfr i hi'), bnd_some, grd_t ⟨by omega, by omega⟩, ey, lett_eq]
    refine okP_some (Or.inl ⟨_, rfl, k1.tr (Ch.si (by decide)), fun k hk => ?_, fun c hc hl => ?_⟩)
    · rw [gi_si_k _ _ _ (by omega)]
      exact k2 k hk
    · by_cases e : c = mir b.n i
      · subst e
        rw [gi_si_s, mir_mir hi']
      · rw [gi_si_k _ _ _ (by omega)]
        refine k3 c hc ?_
        rcases Nat.lt_succ_iff_lt_or_eq.mp hl with z | z
        · exact z
        · exact absurd (by rw [← z]; exact (mir_mir hc).symm) e
  · rintro u ⟨k1, k2, k3⟩
    have hNu : MoN u b.n := ⟨hN.1, hN.2.1, (k2 0 (by omega)).trans hN.2.2⟩
    show okP (Mo_turnOver_t15 ((b.n * b.n : Nat) : Int) u) _
    unfold Mo_turnOver_t15
    rw [Mo_cells_eq hNu, bnd_some, ifLt_eq _ _ (R_nat (by omega)) (R_nat (by omega)), if_neg (by omega)]
    exact okP_some ⟨u, rfl, k1, k2, fun c hc => k3 c hc (mir_lt hc)⟩
  · rintro t - ⟨k1, k2, k3⟩
    unfold Mo_turnOver_l54
    refine okP_bnd (P := fun u => Ch [81] t u ∧ (∀ k, k < 86 → gi u 81 k = gi t 81 k) ∧ ∀ i, i < b.m → gi u 81 (86 + i) = ((mir b.n (b.mv i).toNat : Nat) : Int)) (whl_for (fun (i : Nat) (u : Sg) => ((i : Int), u)) b.m (fun i u => Ch [81] t u ∧ (∀ k, k < 86 → gi u 81 k = gi t 81 k) ∧ ∀ j, j < i → gi u 81 (86 + j) = ((mir b.n (b.mv j).toNat : Nat) : Int)) (i0 := 0) (t0 := t) (Nat.zero_le _) ⟨Ch.rf _ _, fun _ _ => rfl, fun j h => absurd h (Nat.not_lt_zero _)⟩ ?_ ?_) ?_
    · rintro i u hi' ⟨l1, l2, l3⟩
      obtain ⟨c, ec, hc⟩ := hmv i hi'
      have hNu : MoN u b.n := ⟨hN.1, hN.2.1, ((l2 0 (by omega)).trans (k2 0 (by omega))).trans hN.2.2⟩
      have e4 : gi u 81 4 = (b.m : Int) := ((l2 4 (by omega)).trans (k2 4 (by omega))).trans p5
      have ei : (86 + (i : Int)).toNat = 86 + i := by omega
      have ef : gi u 82 (86 + i) = (c : Int) := by rw [l1.g 82, k1.g 82, h82 _ (by omega), p6 i hi', ec]
      have hil : i < 200 := by omega
      show okP (Mo_turnOver_t54 (i : Int) u) _
      unfold Mo_turnOver_t54
      rw [grd_t ⟨by omega, by omega⟩, e4, ifLt_eq _ _ (R_nat (by omega)) (R_nat (by omega)), if_pos (by omega), grd_t ⟨by omega, by omega⟩, ei, ef, Mo_exchanged_eq hNu hc, bnd_some, grd_t ⟨by omega, by omega⟩, lett_eq]
      refine okP_some (Or.inl ⟨_, rfl, l1.tr (Ch.si (by decide)), fun k hk => ?_, fun j hj => ?_⟩)
      · rw [gi_si_k _ _ _ (by omega)]
        exact l2 k hk
      · by_cases e : j = i
        · subst e
          rw [gi_si_s, ec]
          rfl
        · rw [gi_si_k _ _ _ (by omega)]
          exact l3 j (by omega)
    · rintro u ⟨l1, l2, l3⟩
      have e4 : gi u 81 4 = (b.m : Int) := ((l2 4 (by omega)).trans (k2 4 (by omega))).trans p5
      show okP (Mo_turnOver_t54 ((b.m : Nat) : Int) u) _
      unfold Mo_turnOver_t54
      rw [grd_t ⟨by omega, by omega⟩, e4, ifLt_eq _ _ (R_nat (by omega)) (R_nat (by omega)), if_neg (by omega)]
      exact okP_some ⟨u, rfl, l1, l2, l3⟩
    · rintro u - ⟨l1, l2, l3⟩
      have g : ∀ k, k < 5 → gi u 81 k = gi s 81 k := fun k hk => (l2 k (by omega)).trans (k2 k (by omega))
      rw [grd_t ⟨by omega, by omega⟩, grd_t ⟨by omega, by omega⟩, g 2 (by omega), p3, lett_eq, grd_t ⟨by omega, by omega⟩, gi_si_k _ _ _ (show (3 : Nat) ≠ 2 by omega), g 3 (by omega), p4, Mo_otherSide_eq hg, bnd_some, grd_t ⟨by omega, by omega⟩, lett_eq, grd_t ⟨by omega, by omega⟩]
      have o : ∀ k, k ≠ 2 → k ≠ 3 → gi (si (si u 81 2 (1 - b.t)) 81 3 (osd b.g)) 81 k = gi u 81 k := fun k z5 z6 => by rw [gi_si_k _ _ _ z6, gi_si_k _ _ _ z5]
      have e0 : gi (si (si u 81 2 (1 - b.t)) 81 3 (osd b.g)) 81 0 = (b.n : Int) := ((o 0 (by omega) (by omega)).trans (g 0 (by omega))).trans hN.2.2
      refine okP_some ⟨(k1.tr l1).tr ((Ch.si (by decide)).tr (Ch.si (by decide))), ⟨⟨⟨hN.1, hN.2.1, e0⟩, fun c hc => ?_⟩, ((o 1 (by omega) (by omega)).trans (g 1 (by omega))).trans p2, ?_, gi_si_s _ _ _ _, ((o 4 (by omega) (by omega)).trans (g 4 (by omega))).trans p5, fun i hi' => ?_⟩, e0⟩
      · rw [o _ (by omega) (by omega), l2 _ (by have hc : c < b.n * b.n := hc; omega)]
        exact k3 c hc
      · rw [gi_si_k _ _ _ (by omega), gi_si_s]
        rfl
      · rw [o _ (by omega) (by omega)]
        exact l3 i hi'
end TOV

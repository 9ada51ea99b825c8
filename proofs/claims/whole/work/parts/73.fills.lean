/-! ===== boards filled by chance; other questions ===== -/
section FLL
variable {X : Xs} {s t : Sg}
theorem CI.up {L : List Nat} {b : Bd} {h : Nat} {H : Nat → Bd} (k : CI X s) (hc : Ch L s t) (hQ : CQ t b) (hH : HC t h H) (hL : ∀ x ∈ PC2, x ∉ L := by decide) : CI (X.wb b h H) t :=
  ⟨hQ, hH, k.2.2.1.ch hc (fun x hx => hL x (by revert x; decide)), (k.2.2.2.ch hc (fun x hx => hL x (by revert x; decide)) : CTx t X)⟩
theorem MI.up {L : List Nat} {b : Bd} {h : Nat} {H : Nat → Bd} (hX : XsOK X) (k : MI X s) (hc : Ch L s t) (hQ : MP t b) (hH : HM t h H) (hL : ∀ x ∈ PM2, x ∉ L := by decide) : MI (X.wb b h H) t :=
  ⟨hQ, hH, k.2.2.1.ch hX.2.2.1 hc (hL 83 (by decide)) (hL 84 (by decide)), (k.2.2.2.ch hc (fun x hx => hL x (by revert x; decide)) : MTx t X)⟩
theorem CI.keep {L : List Nat} (k : CI X s) (hc : Ch L s t) (hQ : CQ t X.b) (hL : ∀ x ∈ PC2, x ∉ L := by decide) (h16 : 16 ∉ L := by decide) (hs : ∀ j, j < 8 → 18 + 3 * j ∉ L ∧ 18 + 3 * j + 1 ∉ L ∧ 18 + 3 * j + 2 ∉ L := by decide) : CI X t :=
  k.up hc hQ (k.2.1.ch hc h16 hs) hL
theorem MI.keep {L : List Nat} (hX : XsOK X) (k : MI X s) (hc : Ch L s t) (hQ : MP t X.b) (hL : ∀ x ∈ PM2, x ∉ L := by decide) (h1 : 8006 ∉ L := by decide) (h2 : 85 ∉ L := by decide) : MI X t :=
  k.up hX hc hQ (k.2.1.ch (fun i hi' => (hX.2.1 i hi').1) hc h1 h2) hL
theorem MI.same (hX : XsOK X) (k : MI X s) (hc : Cl Mi s t) (e : Same s t) : MI X t := by
  have hP : MP t X.b := k.1.same hX.1 e
  have h1 : Ch Mi s (t.1, s.2) := ⟨hc.1, rfl⟩
  have h2 : MI X (t.1, s.2) := k.keep hX h1 hP
  exact h2
theorem qMS {m : Option (Int × Sg)} {v : Int} (hX : XsOK X) (hM : MI X s) (h : okP m (fun o => Cl Mi (si s 80 0 0) o.2 ∧ Same (si s 80 0 0) o.2 ∧ o.1 = v)) : okP m (MPost 0 v X s) :=
  okP_mono h fun o ⟨h1, h2, h3⟩ => ⟨(mf0 s 0).tr h1.mf, (hM.e0 hX 0).same hX h1 h2, by rw [h1.g8 0]; exact gi_si_s _ _ _ _, fun _ => h3⟩
theorem R_big : R 2147483647 := by unfold R; omega
theorem op_filled (hX : XsOK X) {x : Int} (hx : R x) : OpE X 1 0 (Hx_filled x) (Mo_filled x) := by
  have hx' := hx
  unfold R at hx'
  by_cases h : 0 ≤ x ∧ x ≤ 2147483647
  · have hr : 0 ≤ x ∧ x < 2147483648 := by omega
    refine op_q hX (fow X.b.n (fil X.b.n x X.b.f (X.b.n * X.b.n)).2) (R_01 (fow_rg _ _)) (fun s hC => ?_) fun s hM => ?_
    · unfold Hx_filled Fi_begin
      rw [rqR_t hx R0 R_big h, bndx_some, lett_eq, bnd_some]
      have h0 : Ch [78] s (si s 78 3 x) := Ch.si (by decide)
      refine okP_bnd2 (Fi_next_ok (hC.G.c h0) (hC.cb.ch h0 (by decide)) hX.fr (gi_si_s _ _ _ _)) ?_
      rintro y u - ⟨h1, -, -, h4⟩
      have h4 : y = fow X.b.n (fil X.b.n x X.b.f (X.b.n * X.b.n)).2 := h4
      rw [h4]
      exact okP_some ⟨(h0.mo (by decide)).tr (Ch.mo h1 (by decide)), rfl⟩
    · unfold Mo_filled Mo_filled_b10
      rw [ifLt_eq _ _ hx R0, if_neg (by omega), wrong_0, bnd2_some, ifEq_t R0 R0 rfl, grd_t hx, lett_eq]
      exact qMS hX hM (filledM_ok (MPb hX hM).1 hX.fr hr)
  · exact op_bad hX (fun s hC => by unfold Hx_filled; rw [rqR_f hx R0 R_big h, bndx_thrown]) (fun s hM => ⟨_, by unfold Mo_filled Mo_filled_b10; rw [ifLt_eq _ _ hx R0, if_pos (by omega), wrong_1, bnd2_some, ifEq_f R1 R0 (by omega)]⟩)
theorem op_idle (hX : XsOK X) {x : Int} (hx : R x) : OpE X 1 0 (Hx_idle x) (Mo_idle x) := by
  have hx' := hx
  unfold R at hx'
  by_cases h : 0 ≤ x ∧ x ≤ 2147483647
  · have hr : 0 ≤ x ∧ x < 2147483648 := by omega
    refine op_q hX ((cnt (idl X.b.n X.b.f (fil X.b.n x X.b.f (X.b.n * X.b.n)).2) (X.b.n * X.b.n) : Nat) : Int) (R_cnt hX _) (fun s hC => ?_) fun s hM => ?_
    · unfold Hx_idle Fi_begin
      rw [rqR_t hx R0 R_big h, bndx_some, lett_eq, bnd_some]
      have h0 : Ch [78] s (si s 78 3 x) := Ch.si (by decide)
      refine okP_bnd2 (Fi_next_ok (hC.G.c h0) (hC.cb.ch h0 (by decide)) hX.fr (gi_si_s _ _ _ _)) ?_
      rintro y u - ⟨h1, -, h3, h4⟩
      have h1 : Ch Ci (si s 78 3 x) u := h1
      have h3 : CB u X.b.n 79 (fil X.b.n x X.b.f (X.b.n * X.b.n)).2 := h3
      have h4 : y = fow X.b.n (fil X.b.n x X.b.f (X.b.n * X.b.n)).2 := h4
      rw [h4]
      refine okP_bnd2 (countIdle_ok ((hC.G.c h0).c h1) ((hC.cb.ch h0 (by decide)).ch h1 (by decide)) hX.fr h3 (fil_full hX.fr)) ?_
      rintro z w - ⟨k1, k2⟩
      have k1 : Ch [5, 6, 7, 8, 9] u w := k1
      have k2 : z = (cnt (idl X.b.n X.b.f (fil X.b.n x X.b.f (X.b.n * X.b.n)).2) (X.b.n * X.b.n) : Int) := k2
      rw [k2]
      exact okP_some ⟨((h0.mo (by decide)).tr (Ch.mo h1 (by decide))).tr (k1.mo (by decide)), rfl⟩
    · unfold Mo_idle Mo_idle_b10
      rw [ifLt_eq _ _ hx R0, if_neg (by omega), wrong_0, bnd2_some, ifEq_t R0 R0 rfl, grd_t hx, lett_eq]
      exact qMS hX hM (idleM_ok (MPb hX hM).1 hX.fr hr)
  · exact op_bad hX (fun s hC => by unfold Hx_idle; rw [rqR_f hx R0 R_big h, bndx_thrown]) (fun s hM => ⟨_, by unfold Mo_idle Mo_idle_b10; rw [ifLt_eq _ _ hx R0, if_pos (by omega), wrong_1, bnd2_some, ifEq_f R1 R0 (by omega)]⟩)
theorem op_fillings (hX : XsOK X) {x y z : Int} (hx : R x) (hy : R y) (hz : R z) : OpE X 1 0 (Hx_fillings x y z) (Mo_fillings x y z) := by
  have hy' := hy
  unfold R at hy'
  by_cases h : x = 0 ∨ x = 1
  · by_cases hyr : 0 ≤ y ∧ y ≤ 2147483647
    · have hr : 0 ≤ y ∧ y < 2147483648 := by omega
      by_cases hzr : 1 ≤ z ∧ z ≤ 100
      · obtain ⟨k, rfl⟩ := Int.eq_ofNat_of_zero_le (show 0 ≤ z by omega)
        have hk : k ≤ 100 := by omega
        have hle : flc X.b.n y X.b.f x k ≤ k := cnt_le _ _
        refine op_q hX ((flc X.b.n y X.b.f x k : Nat) : Int) (R_nat (by omega)) (fun s hC => ?_) fun s hM => ?_
        · unfold Hx_fillings Fi_begin
          rw [rqS_t h, bndx_some, rqR_t hy R0 R_big hyr, bndx_some, rqR_t hz R1 R100 hzr, bndx_some, lett_eq, bnd_some]
          have h0 : Ch [78] s (si s 78 3 y) := Ch.si (by decide)
          refine okP_mono (fillings_l_ok (hC.G.c h0) (hC.cb.ch h0 (by decide)) hX.fr h hk (gi_si_s _ _ _ _)) fun o ⟨h1, h2⟩ => ⟨(h0.mo (by decide)).tr (h1.mo (by decide)), h2⟩
        · unfold Mo_fillings Mo_fillings_b29
          rw [isSide_t h, bnd_some, ifEq_f R1 R0 (by omega), ifLt_eq _ _ hy R0, if_neg (by omega), grd_t hz, in_t hz R1 R100 hzr, bnd_some, ifEq_f R1 R0 (by omega), wrong_0, bnd2_some, ifEq_t R0 R0 rfl, grd_t hy, lett_eq]
          exact qMS hX hM (fillingsM_ok (MPb hX hM).1 hX.fr h hk hr)
      · exact op_bad hX (fun s hC => by unfold Hx_fillings; rw [rqS_t h, bndx_some, rqR_t hy R0 R_big hyr, bndx_some, rqR_f hz R1 R100 hzr, bndx_thrown]) (fun s hM => ⟨_, by unfold Mo_fillings Mo_fillings_b24 Mo_fillings_b29; rw [isSide_t h, bnd_some, ifEq_f R1 R0 (by omega), ifLt_eq _ _ hy R0, if_neg (by omega), grd_t hz, in_f hz R1 R100 hzr, bnd_some, ifEq_t R0 R0 rfl, wrong_1, bnd2_some, ifEq_f R1 R0 (by omega)]⟩)
    · exact op_bad hX (fun s hC => by unfold Hx_fillings; rw [rqS_t h, bndx_some, rqR_f hy R0 R_big hyr, bndx_thrown]) (fun s hM => ⟨_, by unfold Mo_fillings Mo_fillings_b24 Mo_fillings_b29; rw [isSide_t h, bnd_some, ifEq_f R1 R0 (by omega), ifLt_eq _ _ hy R0, if_pos (by omega), wrong_1, bnd2_some, ifEq_f R1 R0 (by omega)]⟩)
  · exact op_bad hX (fun s hC => by unfold Hx_fillings; rw [rqS_f hx h, bndx_thrown]) (fun s hM => ⟨_, by unfold Mo_fillings Mo_fillings_b24 Mo_fillings_b29; rw [isSide_f hx h, bnd_some, ifEq_t R0 R0 rfl, wrong_1, bnd2_some, ifEq_f R1 R0 (by omega)]⟩)
/-! questions without a check -/
theorem on_q (hX : XsOK X) {A B : Sg → Option (Int × Sg)} (v : Int) (hv : R v) (hA : ∀ s, CI X s → okP (A s) (fun o => Ch LC s o.2 ∧ o.1 = v)) (hB : ∀ s, MI X s → okP (B s) (MPost 0 v X s)) : OpN X A B :=
  ⟨v, X, hv, hX, fun s hC => okP_mono (hA s hC) fun o ⟨h1, h2⟩ => ⟨h1.cf, hC.ch h1, h2⟩, hB⟩
theorem on_forced (hX : XsOK X) : OpN X Hx_forced Mo_forced := by
  refine on_q hX (fcd X.b) (cellR hX.n9 (fcd_rg hX.1)) (fun s hC => ?_) fun s hM => ?_
  · unfold Hx_forced
    refine okP_bnd2 (forcedCell_ok hX.1 hC.1) ?_
    rintro y u - ⟨h1, h2⟩
    exact okP_some ⟨Ch.mo h1 (by decide), h2⟩
  · unfold Mo_forced
    rw [lett_eq]
    refine qM0 hX hM (L := Mf) (okP_bnd2 (forcedNow_ok hX.1 (MPb hX hM)) ?_)
    rintro y u - ⟨h1, h2⟩
    exact okP_some ⟨h1, h2⟩
theorem on_shared (hX : XsOK X) : OpN X Hx_shared Mo_shared := by
  refine on_q hX (shr X.b.n X.b.f (X.b.n * X.b.n)).1 (shr_rg hX.n9 _ (Nat.le_refl _)).1 (fun s hC => ?_) fun s hM => ?_
  · unfold Hx_shared
    refine okP_bnd2 (pathsOf_ok hC.G hC.cb hX.fr (Or.inl rfl)) ?_
    rintro y u - ⟨h1, h2, h3⟩
    have h1 : y = 63 := h1
    have h2 : Ch [64, 65, 66] s u := h2
    have h3 : PX u 63 X.b.n X.b.f 0 := h3
    have hCu := hC.ch h2
    rw [h1]
    refine okP_bnd2 (pathsOf_ok hCu.G hCu.cb hX.fr (Or.inr rfl)) ?_
    rintro z w - ⟨k1, k2, k3⟩
    have k1 : z = 67 := k1
    have k2 : Ch [68, 69, 70] u w := k2
    have k3 : PX w 67 X.b.n X.b.f 1 := k3
    have hCw := hCu.ch k2
    rw [k1, shared_l_eq hCw.G hCw.cb hX.fr (fun c hc => ⟨(k2.g 64).trans (h3 c hc).1, (k2.g 65).trans (h3 c hc).2.1, (k2.g 66).trans (h3 c hc).2.2⟩) k3]
    exact okP_some ⟨(h2.mo (by decide)).tr (k2.mo (by decide)), rfl⟩
  · unfold Mo_shared
    rw [lett_eq]
    have hP := MPb hX hM
    refine qM0 hX hM (L := [95, 96, 97]) (okP_bnd (laysWays_ok hP.1 hX.fr (Or.inl rfl)) ?_)
    rintro u - ⟨h1, h2⟩
    refine okP_mono (Mo_shared_l_ok (hP.1.ch h1 (by decide)) hX.fr h2) fun o ⟨k1, k2⟩ => ⟨(h1.mo (by decide)).tr k1, k2⟩
theorem sol_R {b : Bd} (hb : BdOK b) : R (sol b) ∧ R (gdm b) ∧ R (bsm b) := by
  have h81 := nn_le hb.1.2
  have hw := R_tri (wnr_rg (n := b.n) (f := b.f) hb.2.2.2.2.1)
  refine ⟨?_, ?_, ?_⟩
  · unfold sol
    split
    · split
      · exact R_n1
      · exact R_01 (cv_rg (hp := hb.2.2.2.1) _ _)
    · exact hw
  · unfold gdm
    split
    · split
      · exact R_n1
      · have := cnt_le (gud b.n b.f b.t) (b.n * b.n)
        exact R_nat (by omega)
    · exact R0
  · unfold bsm
    split
    · split
      · exact R_n1
      · unfold nth
        split
        · exact R_nat (by omega)
        · exact R_n1
    · exact R_n1
theorem on_solved (hX : XsOK X) : OpN X Hx_solved Mo_solved :=
  on_q hX (sol X.b) (sol_R hX.1).1 (fun s hC => okP_mono (Hx_solved_ok hX.1 hC.1) fun o ⟨h1, h2⟩ => ⟨h1.mo (by decide), h2⟩) fun s hM => qM hX hM (okP_mono (Mo_solved_ok hX.1 hM.1) fun o ⟨h1, h2, h3⟩ => ⟨h1.mo (by decide), h2, h3⟩)
theorem on_goodMoves (hX : XsOK X) : OpN X Hx_goodMoves Mo_goodMoves :=
  on_q hX (gdm X.b) (sol_R hX.1).2.1 (fun s hC => okP_mono (Hx_goodMoves_ok hX.1 hC.1) fun o ⟨h1, h2⟩ => ⟨h1.mo (by decide), h2⟩) fun s hM => qM hX hM (okP_mono (Mo_goodMoves_ok hX.1 hM.1) fun o ⟨h1, h2, h3⟩ => ⟨h1.mo (by decide), h2, h3⟩)
theorem on_bestMove (hX : XsOK X) : OpN X Hx_bestMove Mo_bestMove :=
  on_q hX (bsm X.b) (sol_R hX.1).2.2 (fun s hC => okP_mono (Hx_bestMove_ok hX.1 hC.1) fun o ⟨h1, h2⟩ => ⟨h1.mo (by decide), h2⟩) fun s hM => qM hX hM (okP_mono (Mo_bestMove_ok hX.1 hM.1) fun o ⟨h1, h2, h3⟩ => ⟨h1.mo (by decide), h2, h3⟩)
theorem fcn_R (b : Bd) {k : Nat} (hk : k ≤ 100) : R (fcn b k : Int) := by
  have := fcn_le b k
  exact R_nat (by omega)
theorem fwn_R {b : Bd} (hb : BdOK b) : R (fwn b) := R_tri (wnr_rg ((itb_ok hb _ (fcn_ok hb 81)).1.2.2.2.2.1))
theorem on_forcedWinner (hX : XsOK X) : OpN X Hx_forcedWinner Mo_forcedWinner := by
  refine ⟨fwn X.b, X, fwn_R hX.1, hX, fun s hC => ?_, fun s hM => ?_⟩
  · exact okP_mono (Hx_forcedWinner_ok hX.1 hC.1) fun o ⟨h1, h2, h3⟩ => ⟨h1.cf, hC.keep h1 h2, h3⟩
  · exact okP_mono (Mo_forcedWinner_ok hX.1 hM.1) fun o ⟨h1, h2, h3, h4⟩ => ⟨h1.mf, hM.keep hX h1 h2, h3, fun _ => h4⟩
theorem on_forcedRow (hX : XsOK X) : OpN X Hx_forcedRow Mo_forcedRow := by
  refine ⟨(fcn X.b 81 : Int), X, fcn_R _ (by omega), hX, fun s hC => ?_, fun s hM => ?_⟩
  · exact okP_mono (Hx_forcedRow_ok hX.1 hC.1) fun o ⟨h1, h2, h3⟩ => ⟨h1.cf, hC.keep h1 h2, h3⟩
  · exact okP_mono (Mo_forcedRow_ok hX.1 hM.1) fun o ⟨h1, h2, h3, h4⟩ => ⟨h1.mf, hM.keep hX h1 h2, h3, fun _ => h4⟩
end FLL

/-! ===== the actions ===== -/
section ACT
variable {X : Xs} {s : Sg}
abbrev Xs.pu (X : Xs) (b : Bd) : Xs := X.wb b (psh X.h X.H X.b).1 (psh X.h X.H X.b).2
theorem psh_okk {h : Nat} {H : Nat → Bd} {b : Bd} (hb : BdOK b) (hH : ∀ i, i < h → BdOK (H i) ∧ (H i).n = b.n) : ∀ i, i < (psh h H b).1 → BdOK ((psh h H b).2 i) ∧ ((psh h H b).2 i).n = b.n := by
  unfold psh
  intro i hi'
  by_cases q : h = 8
  · rw [if_pos q] at hi' ⊢
    show BdOK (if i < 7 then H (i + 1) else b) ∧ (if i < 7 then H (i + 1) else b).n = b.n
    by_cases z : i < 7
    · rw [if_pos z]; exact hH _ (by omega)
    · rw [if_neg z]; exact ⟨hb, rfl⟩
  · rw [if_neg q] at hi' ⊢
    have hi9 : i < h + 1 := hi'
    show BdOK (if i = h then b else H i) ∧ (if i = h then b else H i).n = b.n
    by_cases z : i = h
    · rw [if_pos z]; exact ⟨hb, rfl⟩
    · rw [if_neg z]; exact hH _ (by omega)
theorem XsOK.up (hX : XsOK X) {b : Bd} {h : Nat} {H : Nat → Bd} (hb : BdOK b) (hH : ∀ i, i < h → BdOK (H i) ∧ (H i).n = b.n) : XsOK (X.wb b h H) := ⟨hb, hH, hX.2.2⟩
theorem XsOK.pu (hX : XsOK X) {b : Bd} (hb : BdOK b) (hn : b.n = X.b.n) : XsOK (X.pu b) := hX.up hb fun i hi' => by
  rw [hn]
  exact psh_okk hX.1 hX.2.1 i hi'
theorem rememberC (hX : XsOK X) (hC : CI X s) : okP (Hi_remember 10 s) (fun t => Ch Ch' s t ∧ CI (X.pu X.b) t) :=
  okP_mono (remember_ok hX.1 hC.1.2.2 hC.2.1) fun t ⟨h1, h2⟩ => ⟨h1, hC.up h1 (hC.1.ch h1) h2⟩
theorem keepsM (hX : XsOK X) (hM : MI X s) : okP (Mo_keeps s) (fun t => Ch [8006, 85] s t ∧ MI (X.pu X.b) t) :=
  okP_mono (keeps_ok hX.1 (fun i hi' => (hX.2.1 i hi').1) hM.1 hM.2.1) fun t ⟨h1, h2⟩ => ⟨h1, hM.up hX h1 (hM.1.ch h1) h2⟩
/-- only the board is another -/
theorem CI.bd {t : Sg} {b : Bd} (k : CI X s) (hc : Ch [10, 11, 12] s t) (hn : b.n = X.b.n) (hP : CP t 10 b) : CI (X.wb b X.h X.H) t :=
  k.up hc ⟨by rw [hn]; exact k.1.1.c hc, k.1.2.1.ch hc (by decide), hP⟩ (k.2.1.ch hc (by decide) (by decide))
theorem MI.bd {t : Sg} {b : Bd} (hX : XsOK X) (k : MI X s) {L : List Nat} (hc : Ch L s t) (hP : MP t b) (hL : ∀ x ∈ PM2, x ∉ L := by decide) (h1 : 8006 ∉ L := by decide) (h2 : 85 ∉ L := by decide) : MI (X.wb b X.h X.H) t :=
  k.up hX hc hP (k.2.1.ch (fun i hi' => (hX.2.1 i hi').1) hc h1 h2) hL
theorem winC (hX : XsOK X) (hC : CI X s) {α : Type} {Q : α → Prop} {m : Int → Sg → Option α} (k : ∀ t, Ch [5, 6, 7, 8, 9] s t → CI X t → okP (m (wnr X.b.n X.b.f X.b.g) t) Q) : okP (bnd2 (Hx_winner s) m) Q :=
  class_start hX.1 hC.1 fun t ht => k t ht (hC.ch ht)
theorem winM (hX : XsOK X) (hM : MI X s) {α : Type} {Q : α → Prop} {m : Int → Sg → Option α} (k : ∀ t, Ch [87] s t → MI X t → okP (m (wnr X.b.n X.b.f X.b.g) t) Q) : okP (bnd2 (Mo_winner s) m) Q := by
  refine okP_bnd2 (Mo_winner_ok hM.1.1 hX.fr hM.1.2.2.2.1 hX.1.2.2.2.2.1) ?_
  rintro y t - ⟨h1, h2⟩
  have h1 : Ch [87] s t := h1
  have h2 : y = wnr X.b.n X.b.f X.b.g := h2
  rw [h2]
  exact k t h1 (hM.ch hX h1)
theorem wnr_R (hX : XsOK X) : R (wnr X.b.n X.b.f X.b.g) := R_tri (wnr_rg hX.1.2.2.2.2.1)
theorem op_move (hX : XsOK X) {x : Int} (hx : R x) : OpE X 0 1 (Hx_move x) (Mo_move x) := by
  have hm := hX.1.2.2.2.2.2.1
  have R200 : R 200 := by unfold R; omega
  rcases cell_dec (N := X.b.n * X.b.n) x with ⟨c, rfl, hc⟩ | h
  · by_cases q : X.b.f c = -1
    · by_cases w : wnr X.b.n X.b.f X.b.g = -1
      · by_cases hm2 : X.b.m < 200
        · have hb2 := ply_ok hX.1 hm2 hc
          have hX2 : XsOK (X.pu (ply X.b c)) := hX.pu hb2 rfl
          refine ⟨0, wnr (ply X.b c).n (ply X.b c).f (ply X.b c).g, X.pu (ply X.b c), R0, hX2, fun s hC => ?_, fun s hM => ?_⟩
          · unfold Hx_move
            rw [rqC_t hC.1 hc, bndx_some, hC.st hX hc, bnd_some, ifEq_t (hX.fr.r hc) R_n1 q]
            refine winC hX hC fun t h1 h2 => ?_
            rw [ifEq_t (wnr_R hX) R_n1 w, h2.1.2.2.2.2.1, ifLt_eq _ _ (R_nat (by omega)) R200, if_pos (by omega)]
            refine okP_bnd (rememberC hX h2) ?_
            rintro u - ⟨k1, k2⟩
            refine okP_bnd (Po_play_ok (Or.inl rfl) hX.1 hm2 hc k2.1.2.2) ?_
            rintro v - ⟨l1, l2⟩
            have l1 : Ch [10, 11, 12] u v := l1
            have hCv : CI (X.pu (ply X.b c)) v := k2.bd l1 rfl l2
            refine winC hX2 hCv fun r m1 m2 => ?_
            exact okP_some ⟨((h1.cf.tr k1.cf).tr l1.cf).tr m1.cf, m2, Or.inl ⟨rfl, rfl, wnr_R hX2⟩⟩
          · have hM0 := hM.e0 hX 0
            unfold Mo_move
            rw [noCell_t hM.1.1.1 hc, bnd2_some, ifEq_t R0 R0 rfl, hM0.1.1.st hc, bnd_some, ifEq_t (hX.fr.r hc) R_n1 q]
            refine winM hX hM0 fun t h1 h2 => ?_
            rw [ifEq_t (wnr_R hX) R_n1 w, grd_t ⟨by omega, by omega⟩, h2.1.2.2.2.2.1, ifEq_f (R_nat (by omega)) R200 (by omega)]
            refine okP_bnd (keepsM hX h2) ?_
            rintro u - ⟨k1, k2⟩
            refine okP_bnd (Mo_moves_ok hX.1 hm2 hc k2.1) ?_
            rintro v - ⟨l1, l2⟩
            have hMv : MI (X.pu (ply X.b c)) v := k2.bd (hX.pu hX.1 rfl) l1 l2
            refine winM hX2 hMv fun r m1 m2 => ?_
            refine okP_some ⟨((((mf0 s 0).tr h1.mf).tr k1.mf).tr l1.mf).tr m1.mf, m2, ?_, fun _ => rfl⟩
            show gi r 80 0 = 0
            rw [m1.g8 0, l1.g8 0, k1.g8 0, h1.g8 0]
            exact gi_si_s _ _ _ _
        · refine ⟨0, -2, X, R0, hX, fun s hC => ?_, fun s hM => ?_⟩
          · unfold Hx_move
            rw [rqC_t hC.1 hc, bndx_some, hC.st hX hc, bnd_some, ifEq_t (hX.fr.r hc) R_n1 q]
            refine winC hX hC fun t h1 h2 => ?_
            rw [ifEq_t (wnr_R hX) R_n1 w, h2.1.2.2.2.2.1, ifLt_eq _ _ (R_nat (by omega)) R200, if_neg (by omega)]
            exact okP_some ⟨h1.cf, h2, Or.inl ⟨rfl, rfl, by unfold R; omega⟩⟩
          · have hM0 := hM.e0 hX 0
            unfold Mo_move
            rw [noCell_t hM.1.1.1 hc, bnd2_some, ifEq_t R0 R0 rfl, hM0.1.1.st hc, bnd_some, ifEq_t (hX.fr.r hc) R_n1 q]
            refine qM0 hX hM (L := [87]) (winM hX hM0 fun t h1 h2 => ?_)
            rw [ifEq_t (wnr_R hX) R_n1 w, grd_t ⟨by omega, by omega⟩, h2.1.2.2.2.2.1, ifEq_t (R_nat (by omega)) R200 (by omega)]
            exact okP_some ⟨h1, rfl⟩
      · refine ⟨0, -3, X, R0, hX, fun s hC => ?_, fun s hM => ?_⟩
        · unfold Hx_move
          rw [rqC_t hC.1 hc, bndx_some, hC.st hX hc, bnd_some, ifEq_t (hX.fr.r hc) R_n1 q]
          refine winC hX hC fun t h1 h2 => ?_
          rw [ifEq_f (wnr_R hX) R_n1 w]
          exact okP_some ⟨h1.cf, h2, Or.inl ⟨rfl, rfl, by unfold R; omega⟩⟩
        · have hM0 := hM.e0 hX 0
          unfold Mo_move
          rw [noCell_t hM.1.1.1 hc, bnd2_some, ifEq_t R0 R0 rfl, hM0.1.1.st hc, bnd_some, ifEq_t (hX.fr.r hc) R_n1 q]
          refine qM0 hX hM (L := [87]) (winM hX hM0 fun t h1 h2 => ?_)
          rw [ifEq_f (wnr_R hX) R_n1 w]
          exact okP_some ⟨h1, rfl⟩
    · refine op_q hX (-3) (by unfold R; omega) (fun s hC => ?_) fun s hM => ?_
      · unfold Hx_move
        rw [rqC_t hC.1 hc, bndx_some, hC.st hX hc, bnd_some, ifEq_f (hX.fr.r hc) R_n1 q]
        exact okP_some ⟨Ch.rf _ _, rfl⟩
      · have hM0 := hM.e0 hX 0
        unfold Mo_move
        rw [noCell_t hM.1.1.1 hc, bnd2_some, ifEq_t R0 R0 rfl, hM0.1.1.st hc, bnd_some, ifEq_f (hX.fr.r hc) R_n1 q]
        exact qM0 hX hM (L := []) (okP_some ⟨Ch.rf _ _, rfl⟩)
  · exact op_badX hX (fun s hC => by unfold Hx_move; rw [rqC_f hC.1 hx h, bndx_thrown]) (fun s hM => ⟨_, by unfold Mo_move; rw [noCell_f hM.1.1.1 hx h, bnd2_some, ifEq_f R1 R0 (by omega)]⟩)
theorem on_swap (hX : XsOK X) : OpN X Hx_swap Mo_swap := by
  have h81 := nn_le hX.n9
  have a12 : alen 12 = 200 := rfl
  have a11 : alen 11 = 81 := rfl
  by_cases q : csw X.b
  · obtain ⟨q1, q2, q3, q4, q5⟩ := id q
    obtain ⟨c, ec, hc⟩ := hX.1.2.2.2.2.2.2 0 (by omega)
    have hy := mir_lt hc
    have hb1 : BdOK (pst X.b c (-1)) := pst_ok hX.1 (Or.inl rfl)
    have hm1 : (pst X.b c (-1)).m < 200 := by show X.b.m < 200; omega
    have hy1 : mir X.b.n c < (pst X.b c (-1)).n * (pst X.b c (-1)).n := hy
    have hb2 := ply_ok hb1 hm1 hy1
    have hX1 : XsOK (X.pu X.b) := hX.pu hX.1 rfl
    have hX2 : XsOK (X.pu (pst X.b c (-1))) := hX.pu hb1 rfl
    refine ⟨((mir X.b.n c : Nat) : Int), X.pu (ply (pst X.b c (-1)) (mir X.b.n c)), R_nat (by omega), hX.pu hb2 rfl, fun s hC => ?_, fun s hM => ?_⟩
    · unfold Hx_swap
      refine okP_bnd2 (Hx_canSwap_ok hX.1 hC.1) ?_
      rintro y t - ⟨h1, h2⟩
      have h1 : Ch [5, 6, 7, 8, 9] s t := h1
      have h2 : y = bI (csw X.b) := h2
      rw [h2, bI_t q, ifEq_f R1 R0 (by omega)]
      refine okP_bnd (rememberC hX (hC.ch h1)) ?_
      rintro u - ⟨k1, k2⟩
      have em : Po_moved 10 0 u = some (c : Int) := by
        unfold Po_moved
        rw [ifLt_eq _ _ R0 R0, if_neg (by omega), k2.1.2.2.2.2.1, ifLt_eq _ _ R0 (R_nat (by show X.b.m ≤ _; omega)), if_pos (by show (0 : Int) < (X.b.m : Int); omega)]
        show bnd (Hx_at 12 ((0 : Nat) : Int) u) _ = _
        rw [Hx_at_n (by omega), bnd_some, show gi u 12 0 = X.b.mv 0 from k2.1.2.2.2.2.2.2.2.2 0 (by show 0 < X.b.m; omega), ec]
      have epl : Po_place 10 (c : Int) (-1) u = some (si u 11 c (-1)) := by
        unfold Po_place
        show bnd (Hx_set 11 (c : Int) _ u) _ = _
        rw [Hx_set_n (by omega), bnd_some]
      rw [em, bnd_some, epl, bnd_some]
      have l1 : Ch [10, 11, 12] u (si u 11 c (-1)) := Ch.si (by decide)
      have l2 : CI (X.pu (pst X.b c (-1))) (si u 11 c (-1)) := k2.bd l1 rfl (CP_pst k2.1.2.2 c (-1))
      rw [Gr_mirror_eq l2.G hc, bnd_some]
      refine okP_bnd (Po_play_ok (Or.inl rfl) hb1 hm1 hy1 l2.1.2.2) ?_
      rintro v - ⟨m1, m2⟩
      have m1 : Ch [10, 11, 12] (si u 11 c (-1)) v := m1
      exact okP_some ⟨((h1.cf.tr k1.cf).tr l1.cf).tr m1.cf, l2.bd m1 rfl m2, rfl⟩
    · have hM0 := hM.e0 hX 0
      unfold Mo_swap
      rw [lett_eq]
      refine okP_bnd2 (Mo_canSwap_ok hX.1 hM0.1) ?_
      rintro y t - ⟨h1, h2⟩
      have h1 : Ch [87] (si s 80 0 0) t := h1
      have h2 : y = bI (csw X.b) := h2
      rw [h2, bI_t q, ifEq_f R1 R0 (by omega)]
      refine okP_bnd (keepsM hX (hM0.ch hX h1)) ?_
      rintro u - ⟨k1, k2⟩
      have e86 : gi u 81 86 = (c : Int) := (k2.1.2.2.2.2.2 0 (by show 0 < X.b.m; omega)).trans ec
      have eT : (5 + ((c : Nat) : Int)).toNat = 5 + c := by omega
      rw [grd_t ⟨by omega, by omega⟩, e86, lett_eq, Mo_exchanged_eq k2.1.1.1 hc, bnd_some, grd_t ⟨by omega, by omega⟩, eT, lett_eq]
      have l1 : Ch [81] u (si u 81 (5 + c) (-1)) := Ch.si (by decide)
      have l2 : MI (X.pu (pst X.b c (-1))) (si u 81 (5 + c) (-1)) := k2.bd hX1 l1 (MP_pst hX.1 k2.1 hc (-1))
      refine okP_bnd (Mo_moves_ok hb1 hm1 hy1 l2.1) ?_
      rintro v - ⟨m1, m2⟩
      have m1 : Ch [81] (si u 81 (5 + c) (-1)) v := m1
      refine okP_some ⟨((((mf0 s 0).tr h1.mf).tr k1.mf).tr l1.mf).tr m1.mf, l2.bd hX2 m1 m2, ?_, fun _ => rfl⟩
      show gi v 80 0 = 0
      rw [m1.g8 0, l1.g8 0, k1.g8 0, h1.g8 0]
      exact gi_si_s _ _ _ _
  · refine on_q hX (-3) (by unfold R; omega) (fun s hC => ?_) fun s hM => ?_
    · unfold Hx_swap
      refine okP_bnd2 (Hx_canSwap_ok hX.1 hC.1) ?_
      rintro y t - ⟨h1, h2⟩
      have h1 : Ch [5, 6, 7, 8, 9] s t := h1
      have h2 : y = bI (csw X.b) := h2
      rw [h2, bI_f q, ifEq_t R0 R0 rfl]
      exact okP_some ⟨h1.mo (by decide), rfl⟩
    · unfold Mo_swap
      rw [lett_eq]
      refine qM0 hX hM (L := [87]) (okP_bnd2 (Mo_canSwap_ok hX.1 (MPb hX hM)) ?_)
      rintro y t - ⟨h1, h2⟩
      have h1 : Ch [87] (si s 80 0 0) t := h1
      have h2 : y = bI (csw X.b) := h2
      rw [h2, bI_f q, ifEq_t R0 R0 rfl]
      exact okP_some ⟨h1, rfl⟩
theorem on_giveUp (hX : XsOK X) : OpN X Hx_giveUp Mo_giveUp := by
  by_cases w : wnr X.b.n X.b.f X.b.g = -1
  · have ht := hX.1.2.2.2.1
    have hb1 : BdOK (pgv X.b X.b.t) := pgv_ok hX.1 (Or.inr ht)
    have hX1 : XsOK (X.pu X.b) := hX.pu hX.1 rfl
    have hX2 : XsOK (X.pu (pgv X.b X.b.t)) := hX.pu hb1 rfl
    refine ⟨wnr (pgv X.b X.b.t).n (pgv X.b X.b.t).f (pgv X.b X.b.t).g, X.pu (pgv X.b X.b.t), wnr_R hX2, hX2, fun s hC => ?_, fun s hM => ?_⟩
    · unfold Hx_giveUp
      refine winC hX hC fun t h1 h2 => ?_
      rw [ifEq_t (wnr_R hX) R_n1 w]
      refine okP_bnd (rememberC hX h2) ?_
      rintro u - ⟨k1, k2⟩
      have e5 : gi u 10 5 = X.b.t := k2.1.2.2.2.2.2.1
      rw [e5, lett_eq]
      have l1 : Ch [10, 11, 12] u (si u 10 6 X.b.t) := Ch.si (by decide)
      have l2 : CI (X.pu (pgv X.b X.b.t)) (si u 10 6 X.b.t) := k2.bd l1 rfl (CP_pgv k2.1.2.2 _)
      refine winC hX2 l2 fun r m1 m2 => ?_
      exact okP_some ⟨((h1.cf.tr k1.cf).tr l1.cf).tr m1.cf, m2, rfl⟩
    · have hM0 := hM.e0 hX 0
      unfold Mo_giveUp
      rw [lett_eq]
      refine winM hX hM0 fun t h1 h2 => ?_
      rw [ifEq_t (wnr_R hX) R_n1 w]
      refine okP_bnd (keepsM hX h2) ?_
      rintro u - ⟨k1, k2⟩
      have e5 : gi u 81 2 = X.b.t := k2.1.2.2.1
      rw [grd_t ⟨by omega, by omega⟩, grd_t ⟨by omega, by omega⟩, e5, lett_eq]
      have l1 : Ch [81] u (si u 81 3 X.b.t) := Ch.si (by decide)
      have l2 : MI (X.pu (pgv X.b X.b.t)) (si u 81 3 X.b.t) := k2.bd hX1 l1 (MP_pgv k2.1 _)
      refine winM hX2 l2 fun r m1 m2 => ?_
      refine okP_some ⟨((((mf0 s 0).tr h1.mf).tr k1.mf).tr l1.mf).tr m1.mf, m2, ?_, fun _ => rfl⟩
      show gi r 80 0 = 0
      rw [m1.g8 0, l1.g8 0, k1.g8 0, h1.g8 0]
      exact gi_si_s _ _ _ _
  · refine on_q hX (-3) (by unfold R; omega) (fun s hC => ?_) fun s hM => ?_
    · unfold Hx_giveUp
      refine winC hX hC fun t h1 h2 => ?_
      rw [ifEq_f (wnr_R hX) R_n1 w]
      exact okP_some ⟨h1.mo (by decide), rfl⟩
    · unfold Mo_giveUp
      rw [lett_eq]
      refine qM0 hX hM (L := [87]) (winM hX (hM.e0 hX 0) fun t h1 h2 => ?_)
      rw [ifEq_f (wnr_R hX) R_n1 w]
      exact okP_some ⟨h1, rfl⟩
theorem op_put (hX : XsOK X) {x v : Int} (hx : R x) (hv : R v) : OpE X 2 1 (Hx_put x v) (Mo_put x v) := by
  have h81 := nn_le hX.n9
  have a11 : alen 11 = 81 := rfl
  rcases cell_dec (N := X.b.n * X.b.n) x with ⟨c, rfl, hc⟩ | h
  · by_cases hr : -1 ≤ v ∧ v ≤ 1
    · have hv3 : v = -1 ∨ v = 0 ∨ v = 1 := by omega
      have hb1 : BdOK (pst X.b c v) := pst_ok hX.1 hv3
      have hX1 : XsOK (X.pu X.b) := hX.pu hX.1 rfl
      refine ⟨0, X.b.f c, X.pu (pst X.b c v), R0, hX.pu hb1 rfl, fun s hC => ?_, fun s hM => ?_⟩
      · unfold Hx_put
        rw [rqC_t hC.1 hc, bndx_some, rqR_t hv R_n1 R1 hr, bndx_some]
        refine okP_bnd (rememberC hX hC) ?_
        rintro u - ⟨k1, k2⟩
        have epl : Po_place 10 (c : Int) v u = some (si u 11 c v) := by
          unfold Po_place
          show bnd (Hx_set 11 (c : Int) _ u) _ = _
          rw [Hx_set_n (by omega), bnd_some]
        rw [k2.st hX1 hc, bnd_some, epl, bnd_some]
        have l1 : Ch [10, 11, 12] u (si u 11 c v) := Ch.si (by decide)
        exact okP_some ⟨k1.cf.tr l1.cf, k2.bd l1 rfl (CP_pst k2.1.2.2 c v), Or.inl ⟨rfl, rfl, hX.fr.r hc⟩⟩
      · have hM0 := hM.e0 hX 0
        have eT : (5 + ((c : Nat) : Int)).toNat = 5 + c := by omega
        unfold Mo_put Mo_put_b26
        rw [noCell_t hM.1.1.1 hc, bnd2_some, ifEq_t R0 R0 rfl, grd_t hv, in_t hv R_n1 R1 hr, bnd_some, ifEq_f R1 R0 (by omega), thr_0, bnd2_some, ifEq_t R0 R0 rfl]
        refine okP_bnd (keepsM hX hM0) ?_
        rintro u - ⟨k1, k2⟩
        rw [k2.1.1.st hc, bnd_some, grd_t ⟨by omega, by omega⟩, eT, lett_eq]
        have l1 : Ch [81] u (si u 81 (5 + c) v) := Ch.si (by decide)
        refine okP_some ⟨((mf0 s 0).tr k1.mf).tr l1.mf, k2.bd hX1 l1 (MP_pst hX.1 k2.1 hc v), ?_, fun _ => rfl⟩
        show gi (si u 81 (5 + c) v) 80 0 = 0
        rw [l1.g8 0, k1.g8 0]
        exact gi_si_s _ _ _ _
    · refine ⟨2, 0, X, by unfold R; omega, hX, fun s hC => ?_, fun s hM => ?_⟩
      · unfold Hx_put
        rw [rqC_t hC.1 hc, bndx_some, rqR_f hv R_n1 R1 hr, bndx_thrown]
        exact eI2 hC 0
      · unfold Mo_put Mo_put_b26
        rw [noCell_t hM.1.1.1 hc, bnd2_some, ifEq_t R0 R0 rfl, grd_t hv, in_f hv R_n1 R1 hr, bnd_some, ifEq_t R0 R0 rfl, thr_1, bnd2_some, ifEq_f R1 R0 (by omega)]
        exact eM' hX hM (by omega) _ _
  · exact op_badX hX (fun s hC => by unfold Hx_put; rw [rqC_f hC.1 hx h, bndx_thrown]) (fun s hM => ⟨_, by unfold Mo_put; rw [noCell_f hM.1.1.1 hx h, bnd2_some, ifEq_f R1 R0 (by omega)]⟩)
theorem op_setTurn (hX : XsOK X) {x : Int} (hx : R x) : OpE X 1 0 (Hx_setTurn x) (Mo_setTurn x) := by
  by_cases h : x = 0 ∨ x = 1
  · have hb1 : BdOK (ptn X.b x) := ptn_ok hX.1 h
    have hX1 : XsOK (X.pu X.b) := hX.pu hX.1 rfl
    refine ⟨0, X.b.t, X.pu (ptn X.b x), R0, hX.pu hb1 rfl, fun s hC => ?_, fun s hM => ?_⟩
    · unfold Hx_setTurn
      rw [rqS_t h, bndx_some]
      refine okP_bnd (rememberC hX hC) ?_
      rintro u - ⟨k1, k2⟩
      have e5 : gi u 10 5 = X.b.t := k2.1.2.2.2.2.2.1
      rw [e5, lett_eq, lett_eq]
      have l1 : Ch [10, 11, 12] u (si u 10 5 x) := Ch.si (by decide)
      exact okP_some ⟨k1.cf.tr l1.cf, k2.bd l1 rfl (CP_ptn k2.1.2.2 x), Or.inl ⟨rfl, rfl, R_01 hX.1.2.2.2.1⟩⟩
    · have hM0 := hM.e0 hX 0
      unfold Mo_setTurn
      rw [noSide_t h, bnd2_some, ifEq_t R0 R0 rfl]
      refine okP_bnd (keepsM hX hM0) ?_
      rintro u - ⟨k1, k2⟩
      have e5 : gi u 81 2 = X.b.t := k2.1.2.2.1
      rw [grd_t ⟨by omega, by omega⟩, e5, lett_eq, grd_t ⟨by omega, by omega⟩, lett_eq]
      have l1 : Ch [81] u (si u 81 2 x) := Ch.si (by decide)
      refine okP_some ⟨((mf0 s 0).tr k1.mf).tr l1.mf, k2.bd hX1 l1 (MP_ptn k2.1 x), ?_, fun _ => rfl⟩
      show gi (si u 81 2 x) 80 0 = 0
      rw [l1.g8 0, k1.g8 0]
      exact gi_si_s _ _ _ _
  · exact op_bad hX (fun s hC => by unfold Hx_setTurn; rw [rqS_f hx h, bndx_thrown]) (fun s hM => ⟨_, by unfold Mo_setTurn; rw [noSide_f hx h, bnd2_some, ifEq_f R1 R0 (by omega)]⟩)
theorem on_turnOver (hX : XsOK X) : OpN X Hx_turnOver Mo_turnOver := by
  have hn9 := hX.n9
  have hX1 : XsOK (X.pu X.b) := hX.pu hX.1 rfl
  refine ⟨(X.b.n : Int), X.pu (tov X.b), R_nat (by omega), hX.pu (tov_ok hX.1) rfl, fun s hC => ?_, fun s hM => ?_⟩
  · unfold Hx_turnOver
    refine okP_bnd (rememberC hX hC) ?_
    rintro u - ⟨k1, k2⟩
    refine okP_bnd (Po_mirror_ok hX.1 k2.1) ?_
    rintro v - ⟨l1, l2⟩
    exact okP_some ⟨k1.cf.tr l1.cf, k2.bd l1 rfl l2, l2.1⟩
  · have hM0 := hM.e0 hX 0
    unfold Mo_turnOver
    rw [lett_eq]
    refine okP_bnd (keepsM hX hM0) ?_
    rintro u - ⟨k1, k2⟩
    refine okP_bnd (goesAside_ok u) ?_
    rintro v - ⟨l1, l2⟩
    have hMv : MI (X.pu X.b) v := k2.ch hX1 l1
    refine okP_mono (turned_ok hX.1 hMv.1 (fun k hk => by rw [l2 k hk, l1.g 81])) fun o ⟨m1, m2, m3⟩ => ⟨(((mf0 s 0).tr k1.mf).tr l1.mf).tr m1.mf, hMv.bd hX1 m1 m2, ?_, fun _ => m3⟩
    rw [m1.g8 0, l1.g8 0, k1.g8 0]
    exact gi_si_s _ _ _ _
theorem op_playForced (hX : XsOK X) {x : Int} (hx : R x) : OpE X 1 0 (Hx_playForced x) (Mo_playForced x) := by
  have R81' : R 81 := by unfold R; omega
  by_cases h : 1 ≤ x ∧ x ≤ 81
  · obtain ⟨k, rfl⟩ := Int.eq_ofNat_of_zero_le (show 0 ≤ x by omega)
    have hk : k ≤ 100 := by omega
    have hb1 : BdOK (itb X.b (fcn X.b k)) := (itb_ok hX.1 _ (fcn_ok hX.1 k)).1
    have hn1 : (itb X.b (fcn X.b k)).n = X.b.n := itb_n hX.1 k
    have hX1 : XsOK (X.pu X.b) := hX.pu hX.1 rfl
    refine ⟨0, (fcn X.b k : Int), X.pu (itb X.b (fcn X.b k)), R0, hX.pu hb1 hn1, fun s hC => ?_, fun s hM => ?_⟩
    · unfold Hx_playForced
      rw [rqR_t hx R1 R81' h, bndx_some]
      refine okP_bnd (rememberC hX hC) ?_
      rintro u - ⟨k1, k2⟩
      refine okP_bnd2 (makeForced_ok hX.1 k2.1 hk) ?_
      rintro y v - ⟨l1, l2, -, l4⟩
      have l1 : Ch Cp u v := l1
      have l2 : CQ v (itb X.b (fcn X.b k)) := l2
      have l4 : y = (fcn X.b k : Int) := l4
      rw [l4]
      exact okP_some ⟨k1.cf.tr l1.cf, k2.up l1 l2 (k2.2.1.ch l1 (by decide) (by decide)), Or.inl ⟨rfl, rfl, fcn_R _ hk⟩⟩
    · have hM0 := hM.e0 hX 0
      unfold Mo_playForced Mo_playForced_b18
      rw [grd_t hx, in_t hx R1 R81' h, bnd_some, ifEq_f R1 R0 (by omega), wrong_0, bnd2_some, ifEq_t R0 R0 rfl]
      refine okP_bnd (keepsM hX hM0) ?_
      rintro u - ⟨k1, k2⟩
      refine okP_bnd2 (plays_ok hX.1 k2.1 hk) ?_
      rintro y v - ⟨l1, l2, -, l4⟩
      have l1 : Ch Mp u v := l1
      have l2 : MP v (itb X.b (fcn X.b k)) := l2
      have l4 : y = (fcn X.b k : Int) := l4
      refine okP_some ⟨((mf0 s 0).tr k1.mf).tr l1.mf, k2.bd hX1 l1 l2, ?_, fun _ => l4⟩
      show gi v 80 0 = 0
      rw [l1.g8 0, k1.g8 0]
      exact gi_si_s _ _ _ _
  · exact op_bad hX (fun s hC => by unfold Hx_playForced; rw [rqR_f hx R1 R81' h, bndx_thrown]) (fun s hM => ⟨_, by unfold Mo_playForced Mo_playForced_b18; rw [grd_t hx, in_f hx R1 R81' h, bnd_some, ifEq_t R0 R0 rfl, wrong_1, bnd2_some, ifEq_f R1 R0 (by omega)]⟩)
theorem on_undo (hX : XsOK X) (h8 : X.h ≤ 8) : OpN X Hx_undo Mo_undo := by
  by_cases h0 : X.h = 0
  · refine ⟨-1, X, R_n1, hX, fun s hC => ?_, fun s hM => ?_⟩
    · refine okP_mono (Hx_undo_ok hX.1 hX.2.1 hC.1 hC.2.1) fun o ⟨h1, h2, _⟩ => ?_
      obtain ⟨k1, k2, k3⟩ := h2 h0
      exact ⟨h1.cf, hC.up h1 k2 k3, k1⟩
    · refine okP_mono (Mo_undo_ok (fun i hi' => (hX.2.1 i hi').1) hM.1 hM.2.1) fun o ⟨h1, h2, h3, _⟩ => ?_
      obtain ⟨k1, k2, k3⟩ := h3 h0
      exact ⟨h1.mf, hM.up hX h1 k2 k3, h2, fun _ => k1⟩
  · have hb := hX.2.1 (X.h - 1) (by omega)
    refine ⟨((X.h - 1 : Nat) : Int), X.wb (X.H (X.h - 1)) (X.h - 1) X.H, R_nat (by omega), hX.up hb.1 (fun i hi' => ⟨(hX.2.1 i (by omega)).1, (hX.2.1 i (by omega)).2.trans hb.2.symm⟩), fun s hC => ?_, fun s hM => ?_⟩
    · refine okP_mono (Hx_undo_ok hX.1 hX.2.1 hC.1 hC.2.1) fun o ⟨h1, _, h2⟩ => ?_
      obtain ⟨k1, k2, k3⟩ := h2 h0
      exact ⟨h1.cf, hC.up h1 k2 k3, k1⟩
    · refine okP_mono (Mo_undo_ok (fun i hi' => (hX.2.1 i hi').1) hM.1 hM.2.1) fun o ⟨h1, h2, _, h3⟩ => ?_
      obtain ⟨k1, k2, k3⟩ := h3 h0
      exact ⟨h1.mf, hM.up hX h1 k2 k3, h2, fun _ => k1⟩
end ACT

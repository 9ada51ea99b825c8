/-! ===== the actions: what they leave ===== -/
theorem ca_move {X : Xs} (hX : XsOK X) {c : Nat}   (hx : R (c : Int)) (hc : c < X.b.n * X.b.n) (q : X.b.f c = -1) (w : wnr X.b.n X.b.f X.b.g = -1) (hm2 : X.b.m < 200) {s : Sg} (hC : CI X s) : okP (Hx_move (c : Int) s) (CPost 0 1 0 (wnr (ply X.b c).n (ply X.b c).f (ply X.b c).g) (X.pu (ply X.b c)) s) := by
  have hm := hX.1.2.2.2.2.2.1
  have R200 : R 200 := by unfold R; omega
  have hb2 := ply_ok hX.1 hm2 hc
  have hX2 : XsOK (X.pu (ply X.b c)) := hX.pu hb2 rfl
  unfold Hx_move
  rw [rqC_t hC.1 hc, bndx_some, hC.st hX hc, bnd_some, ifEq_t (hX.fr.r hc) R_n1 q]
  refine winC hX hC fun t h1 h2 => ?_
  rw [ifEq_t (wnr_R hX) R_n1 w, h2.1.2.2.2.2.1, ifLt_eq _ _ (R_nat (by omega)) R200, if_pos (by omega)]
  refine okP_bnd (rememberC hX h2) ?_
  rintro u - ⟨k1, k2⟩
  refine okP_bnd (Po_play_ok (Or.inl rfl) hX.1 hm2 hc k2.1.2.2) ?_
  rintro v - ⟨l1, l2⟩
  have l1 : Ch [10, 11, 12] u v := l1
  have hCv : CI (X.pu (ply X.b c)) v := k2.bd l1 rfl l2
  refine winC hX2 hCv fun r m1 m2 => ?_
  exact okP_some ⟨((h1.cf.tr k1.cf).tr l1.cf).tr m1.cf, m2, Or.inl ⟨rfl, rfl, wnr_R hX2⟩⟩
theorem ca_move_2 {X : Xs} (hX : XsOK X) {c : Nat}   (hx : R (c : Int)) (hc : c < X.b.n * X.b.n) (q : X.b.f c = -1) (w : wnr X.b.n X.b.f X.b.g = -1) (hm2 : ¬ (X.b.m < 200)) {s : Sg} (hC : CI X s) : okP (Hx_move (c : Int) s) (CPost 0 1 0 (-2) X s) := by
  have hm := hX.1.2.2.2.2.2.1
  have R200 : R 200 := by unfold R; omega
  unfold Hx_move
  rw [rqC_t hC.1 hc, bndx_some, hC.st hX hc, bnd_some, ifEq_t (hX.fr.r hc) R_n1 q]
  refine winC hX hC fun t h1 h2 => ?_
  rw [ifEq_t (wnr_R hX) R_n1 w, h2.1.2.2.2.2.1, ifLt_eq _ _ (R_nat (by omega)) R200, if_neg (by omega)]
  exact okP_some ⟨h1.cf, h2, Or.inl ⟨rfl, rfl, by unfold R; omega⟩⟩
theorem ca_move_3 {X : Xs} (hX : XsOK X) {c : Nat}   (hx : R (c : Int)) (hc : c < X.b.n * X.b.n) (q : X.b.f c = -1) (w : ¬ (wnr X.b.n X.b.f X.b.g = -1)) {s : Sg} (hC : CI X s) : okP (Hx_move (c : Int) s) (CPost 0 1 0 (-3) X s) := by
  have hm := hX.1.2.2.2.2.2.1
  have R200 : R 200 := by unfold R; omega
  unfold Hx_move
  rw [rqC_t hC.1 hc, bndx_some, hC.st hX hc, bnd_some, ifEq_t (hX.fr.r hc) R_n1 q]
  refine winC hX hC fun t h1 h2 => ?_
  rw [ifEq_f (wnr_R hX) R_n1 w]
  exact okP_some ⟨h1.cf, h2, Or.inl ⟨rfl, rfl, by unfold R; omega⟩⟩
theorem ca_move_4 {X : Xs} (hX : XsOK X) {c : Nat}   (hx : R (c : Int)) (hc : c < X.b.n * X.b.n) (q : ¬ (X.b.f c = -1)) {s : Sg} (hC : CI X s) : okP (Hx_move (c : Int) s) (fun o => Ch LC s o.2 ∧ o.1 = .inr (-3)) := by
  have hm := hX.1.2.2.2.2.2.1
  have R200 : R 200 := by unfold R; omega
  unfold Hx_move
  rw [rqC_t hC.1 hc, bndx_some, hC.st hX hc, bnd_some, ifEq_f (hX.fr.r hc) R_n1 q]
  exact okP_some ⟨Ch.rf _ _, rfl⟩
theorem ca_swap {X : Xs} (hX : XsOK X)  (q : csw X.b) {c : Nat} (ec : X.b.mv 0 = (c : Int)) (hc : c < X.b.n * X.b.n) {s : Sg} (hC : CI X s) : okP (Hx_swap s) (fun o => CF s o.2 ∧ CI (X.pu (ply (pst X.b c (-1)) (mir X.b.n c))) o.2 ∧ o.1 = ((mir X.b.n c : Nat) : Int)) := by
  have h81 := nn_le hX.n9
  have a12 : alen 12 = 200 := rfl
  have a11 : alen 11 = 81 := rfl
  obtain ⟨q1, q2, q3, q4, q5⟩ := id q
  have hy := mir_lt hc
  have hb1 : BdOK (pst X.b c (-1)) := pst_ok hX.1 (Or.inl rfl)
  have hm1 : (pst X.b c (-1)).m < 200 := by show X.b.m < 200; omega
  have hy1 : mir X.b.n c < (pst X.b c (-1)).n * (pst X.b c (-1)).n := hy
  have hb2 := ply_ok hb1 hm1 hy1
  have hX1 : XsOK (X.pu X.b) := hX.pu hX.1 rfl
  have hX2 : XsOK (X.pu (pst X.b c (-1))) := hX.pu hb1 rfl
  unfold Hx_swap
  refine okP_bnd2 (Hx_canSwap_ok hX.1 hC.1) ?_
  rintro y t - ⟨h1, h2⟩
  have h1 : Ch [5, 6, 7, 8, 9] s t := h1
  have h2 : y = bI (csw X.b) := h2
  rw [h2, bI_t q, ifEq_f R1 R0 (by omega)]
  refine okP_bnd (rememberC hX (hC.ch h1)) ?_
  rintro u - ⟨k1, k2⟩
  have em : Po_moved 10 0 u = some (c : Int) := by
    unfold Po_moved
    rw [ifLt_eq _ _ R0 R0, if_neg (by omega), k2.1.2.2.2.2.1, ifLt_eq _ _ R0 (R_nat (by show X.b.m ≤ _; omega)), if_pos (by show (0 : Int) < (X.b.m : Int); omega)]
    show bnd (Hx_at 12 ((0 : Nat) : Int) u) _ = _
    rw [Hx_at_n (by omega), bnd_some, show gi u 12 0 = X.b.mv 0 from k2.1.2.2.2.2.2.2.2.2 0 (by show 0 < X.b.m; omega), ec]
  have epl : Po_place 10 (c : Int) (-1) u = some (si u 11 c (-1)) := by
    unfold Po_place
    show bnd (Hx_set 11 (c : Int) _ u) _ = _
    rw [Hx_set_n (by omega), bnd_some]
  rw [em, bnd_some, epl, bnd_some]
  have l1 : Ch [10, 11, 12] u (si u 11 c (-1)) := Ch.si (by decide)
  have l2 : CI (X.pu (pst X.b c (-1))) (si u 11 c (-1)) := k2.bd l1 rfl (CP_pst k2.1.2.2 c (-1))
  rw [Gr_mirror_eq l2.G hc, bnd_some]
  refine okP_bnd (Po_play_ok (Or.inl rfl) hb1 hm1 hy1 l2.1.2.2) ?_
  rintro v - ⟨m1, m2⟩
  have m1 : Ch [10, 11, 12] (si u 11 c (-1)) v := m1
  exact okP_some ⟨((h1.cf.tr k1.cf).tr l1.cf).tr m1.cf, l2.bd m1 rfl m2, rfl⟩
theorem ca_swap_2 {X : Xs} (hX : XsOK X)  (q : ¬ (csw X.b)) {s : Sg} (hC : CI X s) : okP (Hx_swap s) (fun o => Ch LC s o.2 ∧ o.1 = (-3)) := by
  have h81 := nn_le hX.n9
  have a12 : alen 12 = 200 := rfl
  have a11 : alen 11 = 81 := rfl
  unfold Hx_swap
  refine okP_bnd2 (Hx_canSwap_ok hX.1 hC.1) ?_
  rintro y t - ⟨h1, h2⟩
  have h1 : Ch [5, 6, 7, 8, 9] s t := h1
  have h2 : y = bI (csw X.b) := h2
  rw [h2, bI_f q, ifEq_t R0 R0 rfl]
  exact okP_some ⟨h1.mo (by decide), rfl⟩
theorem ca_giveUp {X : Xs} (hX : XsOK X)  (w : wnr X.b.n X.b.f X.b.g = -1) {s : Sg} (hC : CI X s) : okP (Hx_giveUp s) (fun o => CF s o.2 ∧ CI (X.pu (pgv X.b X.b.t)) o.2 ∧ o.1 = (wnr (pgv X.b X.b.t).n (pgv X.b X.b.t).f (pgv X.b X.b.t).g)) := by
  have ht := hX.1.2.2.2.1
  have hb1 : BdOK (pgv X.b X.b.t) := pgv_ok hX.1 (Or.inr ht)
  have hX1 : XsOK (X.pu X.b) := hX.pu hX.1 rfl
  have hX2 : XsOK (X.pu (pgv X.b X.b.t)) := hX.pu hb1 rfl
  unfold Hx_giveUp
  refine winC hX hC fun t h1 h2 => ?_
  rw [ifEq_t (wnr_R hX) R_n1 w]
  refine okP_bnd (rememberC hX h2) ?_
  rintro u - ⟨k1, k2⟩
  have e5 : gi u 10 5 = X.b.t := k2.1.2.2.2.2.2.1
  rw [e5, lett_eq]
  have l1 : Ch [10, 11, 12] u (si u 10 6 X.b.t) := Ch.si (by decide)
  have l2 : CI (X.pu (pgv X.b X.b.t)) (si u 10 6 X.b.t) := k2.bd l1 rfl (CP_pgv k2.1.2.2 _)
  refine winC hX2 l2 fun r m1 m2 => ?_
  exact okP_some ⟨((h1.cf.tr k1.cf).tr l1.cf).tr m1.cf, m2, rfl⟩
theorem ca_giveUp_2 {X : Xs} (hX : XsOK X)  (w : ¬ (wnr X.b.n X.b.f X.b.g = -1)) {s : Sg} (hC : CI X s) : okP (Hx_giveUp s) (fun o => Ch LC s o.2 ∧ o.1 = (-3)) := by
  unfold Hx_giveUp
  refine winC hX hC fun t h1 h2 => ?_
  rw [ifEq_f (wnr_R hX) R_n1 w]
  exact okP_some ⟨h1.mo (by decide), rfl⟩
theorem ca_put {X : Xs} (hX : XsOK X) {c : Nat}  {v : Int} (hx : R (c : Int)) (hv : R v) (hc : c < X.b.n * X.b.n) (hr : -1 ≤ v ∧ v ≤ 1) {s : Sg} (hC : CI X s) : okP (Hx_put (c : Int) v s) (CPost 2 1 0 (X.b.f c) (X.pu (pst X.b c v)) s) := by
  have h81 := nn_le hX.n9
  have a11 : alen 11 = 81 := rfl
  have hv3 : v = -1 ∨ v = 0 ∨ v = 1 := by omega
  have hb1 : BdOK (pst X.b c v) := pst_ok hX.1 hv3
  have hX1 : XsOK (X.pu X.b) := hX.pu hX.1 rfl
  unfold Hx_put
  rw [rqC_t hC.1 hc, bndx_some, rqR_t hv R_n1 R1 hr, bndx_some]
  refine okP_bnd (rememberC hX hC) ?_
  rintro u - ⟨k1, k2⟩
  have epl : Po_place 10 (c : Int) v u = some (si u 11 c v) := by
    unfold Po_place
    show bnd (Hx_set 11 (c : Int) _ u) _ = _
    rw [Hx_set_n (by omega), bnd_some]
  rw [k2.st hX1 hc, bnd_some, epl, bnd_some]
  have l1 : Ch [10, 11, 12] u (si u 11 c v) := Ch.si (by decide)
  exact okP_some ⟨k1.cf.tr l1.cf, k2.bd l1 rfl (CP_pst k2.1.2.2 c v), Or.inl ⟨rfl, rfl, hX.fr.r hc⟩⟩
theorem ca_setTurn {X : Xs} (hX : XsOK X)  {x : Int} (hx : R x) (h : x = 0 ∨ x = 1) {s : Sg} (hC : CI X s) : okP (Hx_setTurn x s) (CPost 1 0 0 X.b.t (X.pu (ptn X.b x)) s) := by
  have hb1 : BdOK (ptn X.b x) := ptn_ok hX.1 h
  have hX1 : XsOK (X.pu X.b) := hX.pu hX.1 rfl
  unfold Hx_setTurn
  rw [rqS_t h, bndx_some]
  refine okP_bnd (rememberC hX hC) ?_
  rintro u - ⟨k1, k2⟩
  have e5 : gi u 10 5 = X.b.t := k2.1.2.2.2.2.2.1
  rw [e5, lett_eq, lett_eq]
  have l1 : Ch [10, 11, 12] u (si u 10 5 x) := Ch.si (by decide)
  exact okP_some ⟨k1.cf.tr l1.cf, k2.bd l1 rfl (CP_ptn k2.1.2.2 x), Or.inl ⟨rfl, rfl, R_01 hX.1.2.2.2.1⟩⟩
theorem ca_turnOver {X : Xs} (hX : XsOK X)  {s : Sg} (hC : CI X s) : okP (Hx_turnOver s) (fun o => CF s o.2 ∧ CI (X.pu (tov X.b)) o.2 ∧ o.1 = (X.b.n : Int)) := by
  have hn9 := hX.n9
  have hX1 : XsOK (X.pu X.b) := hX.pu hX.1 rfl
  unfold Hx_turnOver
  refine okP_bnd (rememberC hX hC) ?_
  rintro u - ⟨k1, k2⟩
  refine okP_bnd (Po_mirror_ok hX.1 k2.1) ?_
  rintro v - ⟨l1, l2⟩
  exact okP_some ⟨k1.cf.tr l1.cf, k2.bd l1 rfl l2, l2.1⟩
theorem ca_playForced {X : Xs} (hX : XsOK X)  {k : Nat} (hx : R (k : Int)) (h : 1 ≤ (k : Int) ∧ (k : Int) ≤ 81) {s : Sg} (hC : CI X s) : okP (Hx_playForced (k : Int) s) (CPost 1 0 0 (fcn X.b k : Int) (X.pu (itb X.b (fcn X.b k))) s) := by
  have R81' : R 81 := by unfold R; omega
  have hk : k ≤ 100 := by omega
  have hb1 : BdOK (itb X.b (fcn X.b k)) := (itb_ok hX.1 _ (fcn_ok hX.1 k)).1
  have hn1 : (itb X.b (fcn X.b k)).n = X.b.n := itb_n hX.1 k
  have hX1 : XsOK (X.pu X.b) := hX.pu hX.1 rfl
  unfold Hx_playForced
  rw [rqR_t hx R1 R81' h, bndx_some]
  refine okP_bnd (rememberC hX hC) ?_
  rintro u - ⟨k1, k2⟩
  refine okP_bnd2 (makeForced_ok hX.1 k2.1 hk) ?_
  rintro y v - ⟨l1, l2, -, l4⟩
  have l1 : Ch Cp u v := l1
  have l2 : CQ v (itb X.b (fcn X.b k)) := l2
  have l4 : y = (fcn X.b k : Int) := l4
  rw [l4]
  exact okP_some ⟨k1.cf.tr l1.cf, k2.up l1 l2 (k2.2.1.ch l1 (by decide) (by decide)), Or.inl ⟨rfl, rfl, fcn_R _ hk⟩⟩
theorem ca_undo {X : Xs} (hX : XsOK X)  (h8 : X.h ≤ 8) (h0 : X.h = 0) {s : Sg} (hC : CI X s) : okP (Hx_undo s) (fun o => CF s o.2 ∧ CI X o.2 ∧ o.1 = (-1)) := by
  refine okP_mono (Hx_undo_ok hX.1 hX.2.1 hC.1 hC.2.1) fun o ⟨h1, h2, _⟩ => ?_
  obtain ⟨k1, k2, k3⟩ := h2 h0
  exact ⟨h1.cf, hC.up h1 k2 k3, k1⟩
theorem ca_undo_2 {X : Xs} (hX : XsOK X)  (h8 : X.h ≤ 8) (h0 : ¬ (X.h = 0)) {s : Sg} (hC : CI X s) : okP (Hx_undo s) (fun o => CF s o.2 ∧ CI (X.wb (X.H (X.h - 1)) (X.h - 1) X.H) o.2 ∧ o.1 = ((X.h - 1 : Nat) : Int)) := by
  have hb := hX.2.1 (X.h - 1) (by omega)
  refine okP_mono (Hx_undo_ok hX.1 hX.2.1 hC.1 hC.2.1) fun o ⟨h1, _, h2⟩ => ?_
  obtain ⟨k1, k2, k3⟩ := h2 h0
  exact ⟨h1.cf, hC.up h1 k2 k3, k1⟩
theorem ca_saveSnapshot {X : Xs} (hX : XsOK X)  {k : Nat} (hx : R (k : Int)) (h : 0 ≤ (k : Int) ∧ (k : Int) ≤ 1) {s : Sg} (hC : CI X s) : okP (Hx_saveSnapshot (k : Int) s) (CPost 1 0 0 ((Fc X.b.n X.b.f : Nat) : Int) (X.wS (upS X.S k X.b)) s) := by
  have hk : k = 0 ∨ k = 1 := by omega
  have key : okP (Hx_saveSnapshot_b21 (42 + 3 * k) s) (CPost 1 0 0 ((Fc X.b.n X.b.f : Nat) : Int) (X.wS (upS X.S k X.b)) s) := by
    unfold Hx_saveSnapshot_b21
    refine okP_bnd (Po_copy_ok (p := 42 + 3 * k) (q := 10) hX.1 hC.1.2.2 (by omega) (by omega)) ?_
    rintro t - ⟨h1, h2⟩
    have hCt := hC.sn hk h1 h2
    rw [count_free (b := X.b) hX.1 hCt.1, bnd_some]
    refine okP_some ⟨?_, hCt, Or.inl ⟨rfl, rfl, Fc_R hX⟩⟩
    rcases hk with rfl | rfl
    · exact h1.cf
    · exact h1.cf
  unfold Hx_saveSnapshot
  rw [rqR_t hx R0 R1 h, bndx_some, ifEq_eq _ _ hx R0]
  rcases hk with rfl | rfl
  · rw [if_pos (by omega)]
    exact key
  · rw [if_neg (by omega)]
    exact key
theorem ca_restoreSnapshot {X : Xs} (hX : XsOK X) {k : Nat} (hk : k = 0 ∨ k = 1) {b : Bd} (hs : X.S k = some b) {s : Sg} (hC : CI X s) : okP (Hx_restoreSnapshot (k : Int) s) (CPost 1 0 0 ((Fc b.n b.f : Nat) : Int) (X.wb b 0 X.H) s) := by
  have hx : R (k : Int) := R_nat (by omega)
  have h : 0 ≤ (k : Int) ∧ (k : Int) ≤ 1 := by omega
  have hsel : ∀ s, CI X s → Hx_restoreSnapshot (k : Int) s = Hx_restoreSnapshot_b21 (42 + 3 * k) s := fun s hC => by
    unfold Hx_restoreSnapshot
    rw [rqR_t hx R0 R1 h, bndx_some, ifEq_eq _ _ hx R0]
    rcases hk with rfl | rfl
    · rw [if_pos (by omega)]
    · rw [if_neg (by omega)]
  have hb := hX.2.2.1 k b hs
  have h81 := nn_le hb.1.2
  have hcl := cnt_le (fun c => b.f c = -1) (b.n * b.n)
  have hcl : Fc b.n b.f ≤ b.n * b.n := hcl
  have hP := (hC.2.2.1 k (by omega)).2 b hs
  have hn := hb.1.1
  have hn9 := hb.1.2
  have hg3 : gi s 1 3 = (X.b.n : Int) := hC.G.2.2.1
  rw [hsel s hC]
  unfold Hx_restoreSnapshot_b21 Po_isBegun
  rw [hP.1, ifEq_f (R_nat (by omega)) R0 (by omega), bnd_some, ifEq_f R1 R0 (by omega)]
  have key := takeC (b := b) hX hC hb (p := 42 + 3 * k) (by omega) hP (fun e => by
    have : X.b.n = b.n := by omega
    rw [← this]
    exact hC.G) (by rw [hg3]; exact R_nat (by have := hX.n9; omega))
  obtain ⟨t, e, k1, k2⟩ := key
  have e2 : (bnd (Po_copy 10 (42 + 3 * k) s) fun s5 => bnd (Gr_fit (gi s5 10 2) s5) fun s7 => bnd (Hi_clear s7) fun s9 => bnd (Po_count 10 (-1) s9) fun y10 => some ((Sum.inr y10 : Nat ⊕ Int), s9)) = bnd (bnd (Po_copy 10 (42 + 3 * k) s) fun s5 => bnd (Gr_fit (gi s5 10 2) s5) fun s7 => Hi_clear s7) fun s9 => bnd (Po_count 10 (-1) s9) fun y10 => some ((Sum.inr y10 : Nat ⊕ Int), s9) := by
    cases Po_copy 10 (42 + 3 * k) s with
    | none => rfl
    | some s5 =>
      show (bnd (Gr_fit (gi s5 10 2) s5) fun s7 => bnd (Hi_clear s7) _) = bnd (bnd (Gr_fit (gi s5 10 2) s5) fun s7 => Hi_clear s7) _
      cases Gr_fit (gi s5 10 2) s5 with
      | none => rfl
      | some s7 => rfl
  rw [e2, e, bnd_some, count_free (b := b) hb k2.1, bnd_some]
  exact okP_some ⟨k1.cf, k2, Or.inl ⟨rfl, rfl, R_nat (by omega)⟩⟩
theorem ca_moveAt {X : Xs} (hX : XsOK X) {k : Nat} (hk : k < X.b.m) {s : Sg} (hC : CI X s) : Hx_moveAt (k : Int) s = some (X.b.mv k) := by
  have hm := hX.1.2.2.2.2.2.1
  have a12 : alen 12 = 200 := rfl
  have hx : R (k : Int) := R_nat (by omega)
  unfold Hx_moveAt Po_moved
  rw [ifLt_eq _ _ hx R0, if_neg (by omega), hC.1.2.2.2.2.1, ifLt_eq _ _ hx (R_nat (by omega)), if_pos (by omega)]
  show bnd (bnd (Hx_at 12 (k : Int) s) _) _ = _
  rw [Hx_at_n (by omega), bnd_some, bnd_some, show gi s 12 k = X.b.mv k from hC.1.2.2.2.2.2.2.2.2 k hk]
theorem ca_moveAt_2 {X : Xs} (hX : XsOK X) {k : Nat} (hk : ¬ k < X.b.m) (hx : R (k : Int)) {s : Sg} (hC : CI X s) : Hx_moveAt (k : Int) s = some (-1) := by
  have hm := hX.1.2.2.2.2.2.1
  unfold Hx_moveAt Po_moved Po_moved_b12
  rw [ifLt_eq _ _ hx R0, if_neg (by omega), hC.1.2.2.2.2.1, ifLt_eq _ _ hx (R_nat (by omega)), if_neg (by omega), bnd_some]

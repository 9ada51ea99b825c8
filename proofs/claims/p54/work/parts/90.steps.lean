/-! ===== the law's steps keep the class in order ===== -/
def Scr (s : Sg) : Prop := (0 ≤ gi s 1201 0 ∧ gi s 1201 0 ≤ 260) ∧ ∀ j, R (gi s 1200 j)
/-- at most so many moves are in the board's list, and in the lists of the boards before it -/
def Xm (X : Xs) (M : Nat) : Prop := X.b.m ≤ M ∧ ∀ i, i < X.h → (X.H i).m ≤ M
def Nxt (X : Xs) (s s' : Sg) : Prop := CF s s' ∧ ∃ X', XsOK X' ∧ X'.h ≤ 8 ∧ X'.b.n = X.b.n ∧ CI X' s' ∧ ∀ M, Xm X M → Xm X' (M + 3)
section NXT
variable {X X' : Xs} {s : Sg} {cI cX v : Int} {α : Type} {Q : α → Prop}
theorem psh_le {h : Nat} {H : Nat → Bd} {b : Bd} (h8 : h ≤ 8) : (psh h H b).1 ≤ 8 := by
  unfold psh
  by_cases q : h = 8
  · rw [if_pos q]; exact Nat.le_refl 8
  · rw [if_neg q]; show h + 1 ≤ 8; omega
theorem pu_h (h8 : X.h ≤ 8) (b : Bd) : (X.pu b).h ≤ 8 := psh_le h8
theorem Xm.mo {M N : Nat} (h : Xm X M) (hMN : M ≤ N) : Xm X N := ⟨Nat.le_trans h.1 hMN, fun i hi => Nat.le_trans (h.2 i hi) hMN⟩
theorem Xm.up {M N : Nat} (h : Xm X M) (hMN : M ≤ N) {b : Bd} (hb : b.m ≤ N) : Xm (X.pu b) N := by
  refine ⟨hb, fun i hi => ?_⟩
  have hi : i < (psh X.h X.H X.b).1 := hi
  show ((psh X.h X.H X.b).2 i).m ≤ N
  have h1 := h.1
  unfold psh at hi ⊢
  by_cases q : X.h = 8
  · rw [if_pos q] at hi ⊢
    have hi : i < 8 := hi
    show (if i < 7 then X.H (i + 1) else X.b).m ≤ N
    by_cases q2 : i < 7
    · rw [if_pos q2]
      exact Nat.le_trans (h.2 (i + 1) (by omega)) hMN
    · rw [if_neg q2]
      exact Nat.le_trans h1 hMN
  · rw [if_neg q] at hi ⊢
    have hi : i < X.h + 1 := hi
    show (if i = X.h then X.b else X.H i).m ≤ N
    by_cases q2 : i = X.h
    · rw [if_pos q2]
      exact Nat.le_trans h1 hMN
    · rw [if_neg q2]
      exact Nat.le_trans (h.2 i (by omega)) hMN
theorem Xm.p3 {b : Bd} (hb : b.m ≤ X.b.m + 3) : ∀ M, Xm X M → Xm (X.pu b) (M + 3) := fun M h => h.up (by omega) (by have := h.1; omega)
theorem Xm.s3 : ∀ M, Xm X M → Xm X (M + 3) := fun M h => h.mo (by omega)
theorem itb_m (b : Bd) : ∀ i, (itb b i).m = b.m + i
  | 0 => rfl
  | i + 1 => by
    show (itb b i).m + 1 = b.m + (i + 1)
    rw [itb_m b i]
    omega
theorem bndrC {A : Option ((Nat ⊕ Int) × Sg)} {f : Int → Sg → Option α} (h : okP A (CPost cI cX 0 v X' s)) (k : ∀ t, CF s t → CI X' t → R v → okP (f v t) Q) : okP (bndr A f) Q := by
  obtain ⟨⟨o1, t⟩, e, h1, h2, h3⟩ := h
  rcases h3 with ⟨-, h4, h5⟩ | ⟨-, h4, h5⟩ | ⟨-, h4, h5⟩
  · have h4 : o1 = .inr v := h4
    rw [e, h4, bndr_some]
    exact k t h1 h2 h5
  · exact absurd h4.symm h5
  · exact absurd h4.symm h5
theorem bndrQ {A : Option ((Nat ⊕ Int) × Sg)} {f : Int → Sg → Option α} (h : okP A (fun o => Ch LC s o.2 ∧ o.1 = .inr v)) (k : ∀ t, Ch LC s t → okP (f v t) Q) : okP (bndr A f) Q := by
  obtain ⟨⟨o1, t⟩, e, h1, h4⟩ := h
  have h4 : o1 = .inr v := h4
  rw [e, h4, bndr_some]
  exact k t h1
theorem nxC {A : Option ((Nat ⊕ Int) × Sg)} (h : okP A (CPost cI cX 0 v X' s)) (hX : XsOK X') (h8 : X'.h ≤ 8) (hn : X'.b.n = X.b.n) (hm : ∀ M, Xm X M → Xm X' (M + 3)) : okP (bndr A fun _ t => some t) (Nxt X s) :=
  bndrC h fun t h1 h2 _ => okP_some ⟨h1, X', hX, h8, hn, h2, hm⟩
theorem nxQ {A : Option ((Nat ⊕ Int) × Sg)} (hX : XsOK X) (h8 : X.h ≤ 8) (hC : CI X s) (h : okP A (fun o => Ch LC s o.2 ∧ o.1 = .inr v)) : okP (bndr A fun _ t => some t) (Nxt X s) :=
  bndrQ h fun t h1 => okP_some ⟨h1.cf, X, hX, h8, rfl, hC.ch h1, Xm.s3⟩
theorem nxN {A : Option (Int × Sg)} (h : okP A (fun o => CF s o.2 ∧ CI X' o.2 ∧ o.1 = v)) (hX : XsOK X') (h8 : X'.h ≤ 8) (hn : X'.b.n = X.b.n) (hm : ∀ M, Xm X M → Xm X' (M + 3)) : okP (bnd2 A fun _ t => some t) (Nxt X s) :=
  okP_bnd2 h fun y t _ ⟨h1, h2, _⟩ => okP_some ⟨h1, X', hX, h8, hn, h2, hm⟩
theorem nxNQ {A : Option (Int × Sg)} (hX : XsOK X) (h8 : X.h ≤ 8) (hC : CI X s) (h : okP A (fun o => Ch LC s o.2 ∧ o.1 = v)) : okP (bnd2 A fun _ t => some t) (Nxt X s) :=
  okP_bnd2 h fun y t _ ⟨h1, _⟩ => okP_some ⟨h1.cf, X, hX, h8, rfl, hC.ch h1, Xm.s3⟩
theorem n_move (hX : XsOK X) (h8 : X.h ≤ 8) (hC : CI X s) {c : Nat} (hc : c < X.b.n * X.b.n) : okP (bndr (Hx_move (c : Int) s) fun _ t => some t) (Nxt X s) := by
  have h81 := nn_le hX.n9
  have hx : R (c : Int) := R_nat (by omega)
  by_cases q : X.b.f c = -1
  · by_cases w : wnr X.b.n X.b.f X.b.g = -1
    · by_cases hm2 : X.b.m < 200
      · exact nxC (ca_move hX hx hc q w hm2 hC) (hX.pu (ply_ok hX.1 hm2 hc) rfl) (pu_h h8 _) rfl (Xm.p3 (show X.b.m + 1 ≤ X.b.m + 3 by omega))
      · exact nxC (ca_move_2 hX hx hc q w hm2 hC) hX h8 rfl Xm.s3
    · exact nxC (ca_move_3 hX hx hc q w hC) hX h8 rfl Xm.s3
  · exact nxQ hX h8 hC (ca_move_4 hX hx hc q hC)
theorem n_put (hX : XsOK X) (h8 : X.h ≤ 8) (hC : CI X s) {c : Nat} (hc : c < X.b.n * X.b.n) {w : Int} (hw : -1 ≤ w ∧ w ≤ 1) : okP (bndr (Hx_put (c : Int) w s) fun _ t => some t) (Nxt X s) := by
  have h81 := nn_le hX.n9
  exact nxC (ca_put hX (R_nat (by omega)) (by unfold R; omega) hc hw hC) (hX.pu (pst_ok hX.1 (by omega)) rfl) (pu_h h8 _) rfl (Xm.p3 (show X.b.m ≤ X.b.m + 3 by omega))
theorem n_swap (hX : XsOK X) (h8 : X.h ≤ 8) (hC : CI X s) : okP (bnd2 (Hx_swap s) fun _ t => some t) (Nxt X s) := by
  by_cases q : csw X.b
  · obtain ⟨q1, q2, q3, q4, q5⟩ := id q
    obtain ⟨c, ec, hc⟩ := hX.1.2.2.2.2.2.2 0 (by omega)
    have hb1 : BdOK (pst X.b c (-1)) := pst_ok hX.1 (Or.inl rfl)
    exact nxN (ca_swap hX q ec hc hC) (hX.pu (ply_ok hb1 (by show X.b.m < 200; omega) (mir_lt hc)) rfl) (pu_h h8 _) rfl (Xm.p3 (show X.b.m + 1 ≤ X.b.m + 3 by omega))
  · exact nxNQ hX h8 hC (ca_swap_2 hX q hC)
theorem n_giveUp (hX : XsOK X) (h8 : X.h ≤ 8) (hC : CI X s) : okP (bnd2 (Hx_giveUp s) fun _ t => some t) (Nxt X s) := by
  by_cases w : wnr X.b.n X.b.f X.b.g = -1
  · exact nxN (ca_giveUp hX w hC) (hX.pu (pgv_ok hX.1 (Or.inr hX.1.2.2.2.1)) rfl) (pu_h h8 _) rfl (Xm.p3 (show X.b.m ≤ X.b.m + 3 by omega))
  · exact nxNQ hX h8 hC (ca_giveUp_2 hX w hC)
theorem n_turn (hX : XsOK X) (h8 : X.h ≤ 8) (hC : CI X s) {x : Int} (h : x = 0 ∨ x = 1) : okP (bndr (Hx_setTurn x s) fun _ t => some t) (Nxt X s) :=
  nxC (ca_setTurn hX (R_01 h) h hC) (hX.pu (ptn_ok hX.1 h) rfl) (pu_h h8 _) rfl (Xm.p3 (show X.b.m ≤ X.b.m + 3 by omega))
theorem n_over (hX : XsOK X) (h8 : X.h ≤ 8) (hC : CI X s) : okP (bnd2 (Hx_turnOver s) fun _ t => some t) (Nxt X s) :=
  nxN (ca_turnOver hX hC) (hX.pu (tov_ok hX.1) rfl) (pu_h h8 _) rfl (Xm.p3 (show X.b.m ≤ X.b.m + 3 by omega))
theorem n_play (hX : XsOK X) (h8 : X.h ≤ 8) (hC : CI X s) {k : Nat} (h : 1 ≤ k ∧ k ≤ 3) : okP (bndr (Hx_playForced (k : Int) s) fun _ t => some t) (Nxt X s) := by
  have hk : k ≤ 100 := by omega
  have hn1 : (itb X.b (fcn X.b k)).n = X.b.n := itb_n hX.1 k
  exact nxC (ca_playForced hX (R_nat (by omega)) ⟨by omega, by omega⟩ hC) (hX.pu (itb_ok hX.1 _ (fcn_ok hX.1 k)).1 hn1) (pu_h h8 _) hn1 (Xm.p3 (by
    have := fcn_le X.b k
    rw [itb_m]
    omega))
theorem n_undo (hX : XsOK X) (h8 : X.h ≤ 8) (hC : CI X s) : okP (bnd2 (Hx_undo s) fun _ t => some t) (Nxt X s) := by
  by_cases h0 : X.h = 0
  · exact nxN (ca_undo hX h8 h0 hC) hX h8 rfl Xm.s3
  · have hb := hX.2.1 (X.h - 1) (by omega)
    exact nxN (ca_undo_2 hX h8 h0 hC) (hX.up hb.1 fun i hi' => by
      have := hX.2.1 i (by omega)
      exact ⟨this.1, this.2.trans hb.2.symm⟩) (show X.h - 1 ≤ 8 by omega) hb.2 fun M hm => ⟨Nat.le_trans (hm.2 (X.h - 1) (by omega)) (by omega), fun i hi => Nat.le_trans (hm.2 i (by
      have hi : i < X.h - 1 := hi
      omega)) (by omega)⟩
theorem cell_cf {s0 t : Sg} (h : CF s0 t) (hS : Scr s0) {x : Int} (hx : 0 ≤ x ∧ x ≤ 100000) : La_cell x t = some (clv s0 x) :=
  cell_of ⟨funext fun j => h 1200 j (by omega), funext fun j => h 1201 j (by omega)⟩ hS hx
theorem Scr.cf {t : Sg} (hS : Scr s) (h : CF s t) : Scr t := ⟨by rw [h 1201 0 (by omega)]; exact hS.1, fun j => by rw [h 1200 j (by omega)]; exact hS.2 j⟩
/-- one step of the law -/
theorem step_ok (hX : XsOK X) (h8 : X.h ≤ 8) (hC : CI X s) (hS : Scr s) {x : Int} (hx : 0 ≤ x ∧ x ≤ 1000) : okP (La_step x s) (Nxt X s) := by
  have h81 := nn_le hX.n9
  have hn1 := hX.1.1.1
  have r0 := clv_rng s x
  have r1 := clv_rng s (x + 1)
  have r2 := clv_rng s (x + 2)
  have hpos : 0 < X.b.n * X.b.n := Nat.mul_pos (by omega) (by omega)
  unfold La_step
  rw [cell_cf (CF.rf s) hS (by omega), bnd_some, cell_cf (CF.rf s) hS (by omega), bnd_some]
  refine bndrQ (cq_size0 hX hC) fun t ht => ?_
  have hCt := hC.ch ht
  refine bndrQ (cq_size0 hX hCt) fun u hu => ?_
  have hCu := hCt.ch hu
  have hcf : CF s u := ht.cf.tr hu.cf
  have hnn : ((X.b.n : Nat) : Int) * ((X.b.n : Nat) : Int) = ((X.b.n * X.b.n : Nat) : Int) := (Int.natCast_mul _ _).symm
  rw [hnn, lett_eq, cell_cf hcf hS (by omega), bnd_some]
  have hmod : ∀ y : Int, 0 ≤ y → y < 100000 → ∃ c : Nat, y % ((X.b.n * X.b.n : Nat) : Int) = (c : Int) ∧ c < X.b.n * X.b.n := fun y h1 h2 => by
    have g1 := Int.emod_nonneg y (show ((X.b.n * X.b.n : Nat) : Int) ≠ 0 by omega)
    have g2 := Int.emod_lt_of_pos y (show (0 : Int) < ((X.b.n * X.b.n : Nat) : Int) by omega)
    exact ⟨(y % ((X.b.n * X.b.n : Nat) : Int)).toNat, (Int.toNat_of_nonneg g1).symm, by omega⟩
  have up : ∀ {m : Option Sg}, okP m (Nxt X u) → okP m (Nxt X s) := fun h => okP_mono h fun v ⟨a1, a2⟩ => ⟨hcf.tr a1, a2⟩
  have gm : ∀ y : Int, 0 ≤ y → y < 100000 → okP (grd ((0 ≤ y ∧ R y) ∧ (0 < ((X.b.n * X.b.n : Nat) : Int) ∧ R ((X.b.n * X.b.n : Nat) : Int))) (bndr (Hx_move (y % ((X.b.n * X.b.n : Nat) : Int)) u) fun _ t => some t)) (Nxt X s) := fun y h1 h2 => by
    obtain ⟨c, e, hc⟩ := hmod y h1 h2
    refine okP_grd ⟨⟨h1, by unfold R; omega⟩, by omega, R_nat (by omega)⟩ ?_
    rw [e]
    exact up (n_move hX h8 hCu hc)
  refine okP_grd ⟨⟨r0.1, by unfold R; omega⟩, by omega, by unfold R; omega⟩ ?_
  have hR : R (clv s x % 12) := by unfold R; omega
  refine okP_ifEq hR R0 (fun _ => gm _ r1.1 r1.2) fun _ => ?_
  refine okP_ifEq hR R1 (fun _ => gm _ r1.1 r1.2) fun _ => ?_
  refine okP_ifEq hR (by unfold R; omega) (fun _ => gm _ r1.1 r1.2) fun _ => ?_
  refine okP_ifEq hR (by unfold R; omega) (fun _ => gm _ r1.1 r1.2) fun _ => ?_
  refine okP_ifEq hR (by unfold R; omega) (fun _ => gm _ r1.1 r1.2) fun _ => ?_
  refine okP_ifEq hR (by unfold R; omega) (fun _ => ?_) fun _ => ?_
  · obtain ⟨c, e, hc⟩ := hmod _ r1.1 r1.2
    refine okP_grd ⟨⟨r1.1, by unfold R; omega⟩, by omega, R_nat (by omega)⟩ (okP_grd ⟨⟨r2.1, by unfold R; omega⟩, by omega, by unfold R; omega⟩ ?_)
    rw [e]
    exact up (n_put hX h8 hCu hc (by omega))
  refine okP_ifEq hR (by unfold R; omega) (fun _ => okP_grd ⟨⟨r2.1, by unfold R; omega⟩, by omega, by unfold R; omega⟩ (up (n_turn hX h8 hCu (by omega)))) fun _ => ?_
  refine okP_ifEq hR (by unfold R; omega) (fun _ => up (n_swap hX h8 hCu)) fun _ => ?_
  refine okP_ifEq hR (by unfold R; omega) (fun _ => up (n_over hX h8 hCu)) fun _ => ?_
  refine okP_ifEq hR (by unfold R; omega) (fun _ => ?_) fun _ => ?_
  · refine okP_grd ⟨⟨r2.1, by unfold R; omega⟩, by omega, by unfold R; omega⟩ ?_
    rw [show 1 + clv s (x + 2) % 3 = (((1 + clv s (x + 2) % 3).toNat : Nat) : Int) by omega]
    exact up (n_play hX h8 hCu (by omega))
  refine okP_ifEq hR (by unfold R; omega) (fun _ => ?_) fun _ => up (n_undo hX h8 hCu)
  refine okP_grd ⟨⟨r2.1, by unfold R; omega⟩, by omega, by unfold R; omega⟩ (okP_ifEq (by unfold R; omega) R0 (fun _ => up (n_giveUp hX h8 hCu)) fun _ => gm _ r2.1 r2.2)
/-- all fourteen -/
theorem steps_ok : ∀ (r k : Nat) {X : Xs} {s : Sg}, k + r ≤ 100 → XsOK X → X.h ≤ 8 → CI X s → Scr s → okP (La_steps r k s) (fun s' => CF s s' ∧ ∃ X', XsOK X' ∧ X'.h ≤ 8 ∧ X'.b.n = X.b.n ∧ CI X' s' ∧ ∀ M, Xm X M → Xm X' (M + 3 * r))
  | 0, _, X, s, _, hX, h8, hC, _ => okP_some ⟨CF.rf s, X, hX, h8, rfl, hC, fun M h => h⟩
  | r + 1, k, X, s, hk, hX, h8, hC, hS => by
    show okP (bnd (La_step (22 + 3 * (k : Int)) s) fun s' => La_steps r (k + 1) s') _
    refine okP_bnd (step_ok hX h8 hC hS (by omega)) ?_
    rintro t - ⟨h1, X', h2, h3, h4, h5, h6⟩
    refine okP_mono (steps_ok r (k + 1) (by omega) h2 h3 h5 (hS.cf h1)) fun v ⟨a1, X2, a2, a3, a4, a5, a6⟩ => ⟨h1.tr a1, X2, a2, a3, a4.trans h4, a5, fun M hM => ?_⟩
    have h9 := a6 (M + 3) (h6 M hM)
    rw [show M + 3 + 3 * r = M + 3 * (r + 1) by omega] at h9
    exact h9
end NXT

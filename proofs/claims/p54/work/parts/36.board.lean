/-! ===== a board, in both programs ===== -/
def Bd : Type := Nat × (Nat → Int) × Int × Int × Int × Nat × (Nat → Int)
def Bd.n (b : Bd) : Nat := b.1
def Bd.f (b : Bd) : Nat → Int := b.2.1
def Bd.w (b : Bd) : Int := b.2.2.1
def Bd.t (b : Bd) : Int := b.2.2.2.1
def Bd.g (b : Bd) : Int := b.2.2.2.2.1
def Bd.m (b : Bd) : Nat := b.2.2.2.2.2.1
def Bd.mv (b : Bd) : Nat → Int := b.2.2.2.2.2.2
def Bd.mk (n : Nat) (f : Nat → Int) (w t g : Int) (m : Nat) (mv : Nat → Int) : Bd := (n, f, w, t, g, m, mv)
def BdOK (b : Bd) : Prop := (2 ≤ b.n ∧ b.n ≤ 9) ∧ FR b.n b.f ∧ (b.w = 0 ∨ b.w = 1) ∧ (b.t = 0 ∨ b.t = 1) ∧ (b.g = -1 ∨ b.g = 0 ∨ b.g = 1) ∧ b.m ≤ 200 ∧ ∀ i, i < b.m → ∃ c : Nat, b.mv i = (c : Int) ∧ c < b.n * b.n
def CP (s : Sg) (p : Nat) (b : Bd) : Prop := gi s p 2 = (b.n : Int) ∧ gi s p 3 = b.w ∧ gi s p 4 = (b.m : Int) ∧ gi s p 5 = b.t ∧ gi s p 6 = b.g ∧ CB s b.n (p + 1) b.f ∧ ∀ i, i < b.m → gi s (p + 2) i = b.mv i
def MP (s : Sg) (b : Bd) : Prop := MB s b.n b.f ∧ gi s 81 1 = b.w ∧ gi s 81 2 = b.t ∧ gi s 81 3 = b.g ∧ gi s 81 4 = (b.m : Int) ∧ ∀ i, i < b.m → gi s 81 (86 + i) = b.mv i
/-- the class at rest: the board at 10, the grid that fits it, the static rows -/
def CQ (s : Sg) (b : Bd) : Prop := GridOK s b.n ∧ Stat s ∧ CP s 10 b
theorem CP.ch {s s' : Sg} {p : Nat} {b : Bd} {L : List Nat} (h : CP s p b) (hc : Ch L s s') (h0 : p ∉ L := by decide) (h1 : p + 1 ∉ L := by decide) (h2 : p + 2 ∉ L := by decide) (h80 : p < 78 := by decide) : CP s' p b := by
  obtain ⟨a1, a2, a3, a4, a5, a6, a7⟩ := h
  exact ⟨by rw [hc.g p h0 (by omega)]; exact a1, by rw [hc.g p h0 (by omega)]; exact a2, by rw [hc.g p h0 (by omega)]; exact a3, by rw [hc.g p h0 (by omega)]; exact a4, by rw [hc.g p h0 (by omega)]; exact a5, a6.ch hc h1 (by omega), fun i hi' => by rw [hc.g (p + 2) h2 (by omega)]; exact a7 i hi'⟩
theorem MP.ch {s s' : Sg} {b : Bd} {L : List Nat} (h : MP s b) (hc : Ch L s s') (h1 : 81 ∉ L := by decide) : MP s' b := by
  obtain ⟨a1, a2, a3, a4, a5, a6⟩ := h
  exact ⟨a1.ch hc h1, by rw [hc.g 81 h1]; exact a2, by rw [hc.g 81 h1]; exact a3, by rw [hc.g 81 h1]; exact a4, by rw [hc.g 81 h1]; exact a5, fun i hi' => by rw [hc.g 81 h1]; exact a6 i hi'⟩
theorem CQ.ch {s s' : Sg} {b : Bd} {L : List Nat} (h : CQ s b) (hc : Ch L s s') (hL : ∀ x ∈ [1, 2, 3, 4, 10, 11, 12], x ∉ L := by decide) (hS : ∀ x ∈ L, x < 1000 := by decide) : CQ s' b :=
  ⟨h.1.ch hc (hL 1 (by decide)) (hL 2 (by decide)) (hL 3 (by decide)) (hL 4 (by decide)), h.2.1.ch hc hS, h.2.2.ch hc (hL 10 (by decide)) (hL 11 (by decide)) (hL 12 (by decide))⟩
theorem BdOK.tc {b : Bd} (h : BdOK b) : 1 - b.t = 0 ∨ 1 - b.t = 1 := by
  rcases h.2.2.2.1 with e | e <;> rw [e] <;> omega
theorem R_01 {x : Int} (h : x = 0 ∨ x = 1) : R x := by unfold R; omega
abbrev Cf : List Nat := [5, 6, 7, 8, 9, 56, 57, 58, 59, 60, 61, 62]
abbrev Mf : List Nat := [87, 8024, 8025, 8026, 8027, 88, 89, 90, 91, 92, 93]
/-- what answers the latest move -/
noncomputable def lam (b : Bd) : Int := if b.m = 0 then -1 else if b.f (b.mv (b.m - 1)).toNat = 1 - b.t then ocr (brs b.n (ups b.f (b.mv (b.m - 1)).toNat (-1)) b.t) (b.mv (b.m - 1)) else -1
noncomputable def fcd (b : Bd) : Int :=
  if wnr b.n b.f b.g = -1 then
    (if tho b.n b.f b.t 0 = -1 then
      (if thc b.n b.f (1 - b.t) = 0 then lam b else if thc b.n b.f (1 - b.t) = 1 then tho b.n b.f (1 - b.t) 0 else -1)
    else tho b.n b.f b.t 0)
  else -1
theorem lam_rg {b : Bd} (h : BdOK b) : lam b = -1 ∨ ∃ c : Nat, lam b = (c : Int) ∧ c < b.n * b.n := by
  unfold lam
  split
  · exact Or.inl rfl
  · split
    · rcases ocr_rg (n := b.n) (f := ups b.f (b.mv (b.m - 1)).toNat (-1)) (sd := b.t) (brs_w h.1).1 (c := b.mv (b.m - 1)) with e | ⟨y, e, hy, -⟩
      · exact Or.inl e
      · exact Or.inr ⟨y, e, hy⟩
    · exact Or.inl rfl
theorem fcd_rg {b : Bd} (h : BdOK b) : fcd b = -1 ∨ ∃ c : Nat, fcd b = (c : Int) ∧ c < b.n * b.n := by
  have ht : ∀ sd k, tho b.n b.f sd k = -1 ∨ ∃ c : Nat, tho b.n b.f sd k = (c : Int) ∧ c < b.n * b.n := by
    intro sd k
    rcases tho_rg b.n b.f sd k with e | ⟨c, e, hc, -⟩
    · exact Or.inl e
    · exact Or.inr ⟨c, e, hc⟩
  unfold fcd
  split
  · split
    · split
      · exact lam_rg h
      · split
        · exact ht _ _
        · exact Or.inl rfl
    · exact ht _ _
  · exact Or.inl rfl
theorem cellR {n : Nat} {x : Int} (hn : n ≤ 9) (h : x = -1 ∨ ∃ c : Nat, x = (c : Int) ∧ c < n * n) : R x := by
  have h81 := nn_le hn
  rcases h with e | ⟨c, e, hc⟩
  · rw [e]; exact R_n1
  · rw [e]; exact R_nat (by omega)
/-! the class -/
theorem answerToLatest_ok {s : Sg} {b : Bd} (hb : BdOK b) (hC : CQ s b) : okP (Hx_answerToLatestMove (1 - b.t) s) (fun o => Ch Cf s o.2 ∧ o.1 = lam b) := by
  obtain ⟨hn, hfr, hw, ht, hg, hm, hmv⟩ := hb
  have h81 := nn_le hn.2
  have a11 : alen 11 = 81 := rfl
  have a12 : alen 12 = 200 := rfl
  obtain ⟨hG, hS, p1, p2, p3, p4, p5, p6, p7⟩ := hC
  have h1t : 1 - b.t = 0 ∨ 1 - b.t = 1 := by omega
  unfold Hx_answerToLatestMove Po_moved Po_moved_b12
  rw [p3]
  by_cases hm0 : b.m = 0
  · rw [ifLt_eq _ _ (by unfold R; omega) R0, if_pos (by omega), bnd_some, ifEq_eq _ _ R_n1 R_n1, if_pos rfl]
    exact okP_some ⟨Ch.rf _ _, by unfold lam; rw [if_pos hm0]⟩
  obtain ⟨c, ec, hc⟩ := hmv (b.m - 1) (by omega)
  have em : ((b.m : Int) - 1) = ((b.m - 1 : Nat) : Int) := by omega
  rw [em, ifLt_eq _ _ (R_nat (by omega)) R0, if_neg (by omega), ifLt_eq _ _ (R_nat (by omega)) (R_nat (by omega)), if_pos (by omega)]
  show okP (bnd (bnd (Hx_at 12 ((b.m - 1 : Nat) : Int) s) _) _) _
  rw [Hx_at_n (by omega), bnd_some, bnd_some, show gi s 12 (b.m - 1) = (c : Int) from (p7 _ (by omega)).trans ec, ifEq_eq _ _ (R_nat (by omega)) R_n1, if_neg (by omega)]
  unfold Po_stone
  show okP (bnd (bnd (Hx_at 11 (c : Int) s) _) _) _
  rw [Hx_at_n (by omega), bnd_some, bnd_some, show gi s 11 c = b.f c from p6 c hc, ifEq_eq _ _ (hfr.r hc) (R_01 h1t)]
  have el : lam b = if b.f c = 1 - b.t then ocr (brs b.n (ups b.f c (-1)) b.t) (c : Int) else -1 := by
    unfold lam
    rw [if_neg hm0, ec]; rfl
  rw [el]
  by_cases e1 : b.f c = 1 - b.t
  · rw [if_pos e1, if_pos e1]
    have hpl : ∀ (v : Int) (u : Sg), Po_place 10 (c : Int) v u = some (si u 11 c v) := by
      intro v u
      unfold Po_place
      show bnd (Hx_set 11 (c : Int) v u) _ = _
      rw [Hx_set_n (by omega), bnd_some]
    rw [hpl, bnd_some]
    have hfr2 : FR b.n (ups b.f c (-1)) := hfr.ups (Or.inl rfl)
    have hcb : CB (si s 11 c (-1)) b.n 11 (ups b.f c (-1)) := CB.ups (show CB s b.n 11 b.f from p6) c (-1)
    have hCh0 : Ch [11] s (si s 11 c (-1)) := Ch.si (by decide)
    have hG2 : GridOK (si s 11 c (-1)) b.n := hG.ch hCh0 (by decide) (by decide) (by decide) (by decide)
    have hS2 : Stat (si s 11 c (-1)) := hS.ch hCh0 (by decide)
    rw [gi_si_o _ _ _ _ (show (10 : Nat) ≠ 11 by omega), p4]
    refine okP_bnd (Bl_find_ok hG2 hS2 ht (r1 := 11) ⟨rfl, by decide⟩ hcb hfr2) ?_
    rintro u - ⟨hCu, hBu⟩
    have hwB := brs_w (f := ups b.f c (-1)) (sd := b.t) hn
    rw [Bl_otherCarrier_eq hn.2 hBu hwB.1 hwB.2 (R_nat (by omega)), bnd_some, hpl, bnd_some]
    refine okP_some ⟨(ch_undo hCu ?_).mo (by decide), rfl⟩
    exact (p6 c hc).trans e1
  · rw [if_neg e1, if_neg e1]
    exact okP_some ⟨Ch.rf _ _, rfl⟩
theorem forcedCell_ok {s : Sg} {b : Bd} (hb : BdOK b) (hC : CQ s b) : okP (Hx_forcedCell s) (fun o => Ch Cf s o.2 ∧ o.1 = fcd b) := by
  have hb' := hb
  obtain ⟨hn, hfr, hw, ht, hg, hm, hmv⟩ := hb'
  have h81 := nn_le hn.2
  have h1t := hb.tc
  have hw3 := wnr_rg (n := b.n) (f := b.f) hg
  have hth : ∀ k, R (tho b.n b.f b.t k) := fun k => cellR hn.2 (by
    rcases tho_rg b.n b.f b.t k with e | ⟨c, e, hc, -⟩
    · exact Or.inl e
    · exact Or.inr ⟨c, e, hc⟩)
  unfold Hx_forcedCell
  refine okP_bnd2 (P := fun o => Ch [5, 6, 7, 8, 9] s o.2 ∧ o.1 = wnr b.n b.f b.g) ?_ ?_
  · unfold Hx_winner
    refine okP_bnd2 (Po_winner_ok hC.1 (p := 10) (by decide) hC.2.2.2.2.2.2.2.1 hfr hC.2.2.2.2.2.2.1 hg) ?_
    rintro y t - h
    exact okP_some h
  rintro y t - ⟨hCt, hy⟩
  have hCt : Ch [5, 6, 7, 8, 9] s t := hCt
  have hy : y = wnr b.n b.f b.g := hy
  have hQt := hC.ch hCt
  rw [hy, ifEq_eq _ _ (R_tri hw3) R_n1]
  unfold fcd
  by_cases e1 : wnr b.n b.f b.g = -1
  · rw [if_pos e1, if_pos e1, hQt.2.2.2.2.2.1]
    refine okP_bnd2 (findThreat_ok hQt.1 hQt.2.2.2.2.2.2.2.1 hfr ht R0) ?_
    rintro z u - ⟨hCu, hz⟩
    have hCu : Ch [5, 6, 7, 8, 9] t u := hCu
    have hz : z = tho b.n b.f b.t 0 := hz
    have hQu := hQt.ch hCu
    rw [hz, ifEq_eq _ _ (hth 0) R_n1]
    by_cases e2 : tho b.n b.f b.t 0 = -1
    · rw [if_pos e2, if_pos e2, hQu.2.2.2.2.2.1, Hx_otherSide_eq ht, bnd_some]
      refine okP_bnd2 (countThreats_ok hQu.1 hQu.2.2.2.2.2.2.2.1 hfr h1t) ?_
      rintro v x - ⟨hCx, hv⟩
      have hCx : Ch [5, 6, 7, 8, 9] u x := hCx
      have hv : v = (thc b.n b.f (1 - b.t) : Int) := hv
      have hQx := hQu.ch hCx
      have hle := thc_le b.n b.f (1 - b.t)
      have hCsx : Ch Cf s x := ((hCt.tr hCu).tr hCx).mo (by decide)
      rw [hv, ifLt_eq _ _ R0 (R_nat (by omega)), ifEq_eq _ _ (R_nat (by omega)) R1]
      by_cases e3 : thc b.n b.f (1 - b.t) = 0
      · rw [if_neg (by omega), if_pos e3]
        refine okP_bnd2 (answerToLatest_ok hb hQx) ?_
        rintro q r - ⟨h1, h2⟩
        exact okP_some ⟨hCsx.tr h1, h2⟩
      · rw [if_pos (by omega), if_neg e3]
        by_cases e4 : thc b.n b.f (1 - b.t) = 1
        · rw [if_pos (by omega), if_pos e4]
          refine okP_bnd2 (findThreat_ok hQx.1 hQx.2.2.2.2.2.2.2.1 hfr h1t R0) ?_
          rintro q r - ⟨h1, h2⟩
          exact okP_some ⟨hCsx.tr (h1.mo (by decide)), h2⟩
        · rw [if_neg (by omega), if_neg e4]
          exact okP_some ⟨hCsx, rfl⟩
    · rw [if_neg e2, if_neg e2]
      exact okP_some ⟨(hCt.tr hCu).mo (by decide), rfl⟩
  · rw [if_neg e1, if_neg e1]
    exact okP_some ⟨hCt.mo (by decide), rfl⟩
/-! the reference -/

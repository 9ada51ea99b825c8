/-! ===== the end of the game ===== -/
noncomputable def Fc (n : Nat) (f : Nat → Int) : Nat := cnt (fun c => f c = -1) (n * n)
noncomputable def vlu (n : Nat) : Nat → (Nat → Int) → Int → Int
  | 0, _, _ => -1
  | k + 1, f, p => if jnd n f = -1 then @ite _ (∃ c, c < n * n ∧ f c = -1 ∧ vlu n k (ups f c p) (1 - p) = p) (Classical.propDecidable _) p (1 - p) else jnd n f
noncomputable def cv (n : Nat) : Nat → (Nat → Int) → Int → Int
  | 0, f, _ => @ite _ (Jn n f 0) (Classical.propDecidable _) 0 1
  | k + 1, f, p => @ite _ (∃ c, c < n * n ∧ f c = -1 ∧ cv n k (ups f c p) (1 - p) = p) (Classical.propDecidable _) p (1 - p)
section GAME
variable {n : Nat} {f : Nat → Int} {p : Int}
theorem jnd_cases (n : Nat) (f : Nat → Int) : (jnd n f = 0 ∧ Jn n f 0) ∨ (jnd n f = 1 ∧ ¬ Jn n f 0 ∧ Jn n f 1) ∨ (jnd n f = -1 ∧ ¬ Jn n f 0 ∧ ¬ Jn n f 1) := by
  unfold jnd
  by_cases h0 : Jn n f 0
  · rw [bI_t h0, if_pos rfl]; exact Or.inl ⟨rfl, h0⟩
  · rw [bI_f h0, if_neg (by omega)]
    by_cases h1 : Jn n f 1
    · rw [bI_t h1, if_pos rfl]; exact Or.inr (Or.inl ⟨rfl, h0, h1⟩)
    · rw [bI_f h1, if_neg (by omega)]; exact Or.inr (Or.inr ⟨rfl, h0, h1⟩)
theorem Fc_ups {c : Nat} (hc : c < n * n) (fc : f c = -1) (hp : p ≠ -1) : Fc n f = Fc n (ups f c p) + 1 :=
  cnt_add (p := fun x => ups f c p x = -1) (q := fun x => f x = -1) (by show ¬ ups f c p c = -1; rw [ups_s]; exact hp) fc hc (fun i _ hi => by show ups f c p i = -1 ↔ f i = -1; rw [ups_o hi])
theorem Fc_pos (h : Fc n f ≠ 0) : ∃ c, c < n * n ∧ f c = -1 := by
  apply Classical.byContradiction
  intro hno
  exact h (cnt_zero fun i hi q => hno ⟨i, hi, q⟩)
theorem Fc_zero (hfr : FR n f) (h : Fc n f = 0) : Full n f := by
  intro c hc
  rcases hfr c hc with k | k | k
  · have := cnt_pos (p := fun x => f x = -1) hc k
    unfold Fc at h
    omega
  · exact Or.inl k
  · exact Or.inr k
theorem jnd_ups {c : Nat} (hn : 2 ≤ n) (hfr : FR n f) (hp : p = 0 ∨ p = 1) (fc : f c = -1) (h : jnd n f ≠ -1) : jnd n (ups f c p) = jnd n f := by
  have hfr2 : FR n (ups f c p) := hfr.ups (Or.inr hp)
  have mo : ∀ sd : Int, sd ≠ -1 → Jn n f sd → Jn n (ups f c p) sd := fun sd hs hj => Jn_mono hs (fun x _ hx => by
    rw [ups_o (fun e => by subst e; omega)]; exact hx) hj
  rcases jnd_cases n f with ⟨e, h0⟩ | ⟨e, h0, h1⟩ | ⟨e, -, -⟩
  · rw [e]
    rcases jnd_cases n (ups f c p) with ⟨e', -⟩ | ⟨-, k0, -⟩ | ⟨-, k0, -⟩
    · exact e'
    · exact absurd (mo 0 (by omega) h0) k0
    · exact absurd (mo 0 (by omega) h0) k0
  · rw [e]
    have k1 := mo 1 (by omega) h1
    rcases jnd_cases n (ups f c p) with ⟨-, k0⟩ | ⟨e', -, -⟩ | ⟨-, -, k⟩
    · exact absurd k1 (hex_both hn hfr2 k0)
    · exact e'
    · exact absurd k1 k
  · exact absurd e h
theorem cv_j (hn : 2 ≤ n) : ∀ (k : Nat) (f : Nat → Int) (p : Int), FR n f → (p = 0 ∨ p = 1) → Fc n f = k → jnd n f ≠ -1 → cv n k f p = jnd n f
  | 0, f, p, hfr, hp, hk, h => by
    unfold cv
    rcases jnd_cases n f with ⟨e, h0⟩ | ⟨e, h0, -⟩ | ⟨e, -, -⟩
    · rw [if_pos h0, e]
    · rw [if_neg h0, e]
    · exact absurd e h
  | k + 1, f, p, hfr, hp, hk, h => by
    have h1p : 1 - p = 0 ∨ 1 - p = 1 := by omega
    have hch : ∀ c, c < n * n → f c = -1 → cv n k (ups f c p) (1 - p) = jnd n f := by
      intro c hc fc
      have h1 := Fc_ups hc fc (p := p) (by omega)
      have h2 := jnd_ups hn hfr hp fc h
      rw [cv_j hn k (ups f c p) (1 - p) (hfr.ups (Or.inr hp)) h1p (by omega) (by rw [h2]; exact h), h2]
    obtain ⟨c, hc, fc⟩ := Fc_pos (n := n) (f := f) (by omega)
    have hj : jnd n f = 0 ∨ jnd n f = 1 := by
      rcases jnd_cases n f with ⟨e, -⟩ | ⟨e, -, -⟩ | ⟨e, -, -⟩
      · exact Or.inl e
      · exact Or.inr e
      · exact absurd e h
    unfold cv
    by_cases e : jnd n f = p
    · rw [if_pos ⟨c, hc, fc, (hch c hc fc).trans e⟩, e]
    · rw [if_neg (fun ⟨c', hc', fc', q⟩ => e ((hch c' hc' fc').symm.trans q))]
      omega
theorem vl_cv (hn : 2 ≤ n) : ∀ (K k : Nat) (f : Nat → Int) (p : Int), FR n f → (p = 0 ∨ p = 1) → Fc n f = k → k < K → vlu n K f p = cv n k f p
  | 0, k, f, p, _, _, _, h => absurd h (Nat.not_lt_zero k)
  | K + 1, k, f, p, hfr, hp, hk, h => by
    have h1p : 1 - p = 0 ∨ 1 - p = 1 := by omega
    unfold vlu
    by_cases hj : jnd n f = -1
    · rw [if_pos hj]
      match k, hk, h with
      | 0, hk, _ =>
        have hF := Fc_zero hfr hk
        rcases jnd_cases n f with ⟨e, -⟩ | ⟨e, -, -⟩ | ⟨-, h0, h1⟩
        · omega
        · omega
        · rcases hex_some hn hF with q | q
          · exact absurd q h0
          · exact absurd q h1
      | k + 1, hk, h =>
        have hch : ∀ c, c < n * n → f c = -1 → vlu n K (ups f c p) (1 - p) = cv n k (ups f c p) (1 - p) := by
          intro c hc fc
          have h1 := Fc_ups hc fc (p := p) (by omega)
          exact vl_cv hn K k (ups f c p) (1 - p) (hfr.ups (Or.inr hp)) h1p (by omega) (by omega)
        show _ = @ite _ (∃ c, c < n * n ∧ f c = -1 ∧ cv n k (ups f c p) (1 - p) = p) (Classical.propDecidable _) p (1 - p)
        by_cases e : ∃ c, c < n * n ∧ f c = -1 ∧ cv n k (ups f c p) (1 - p) = p
        · obtain ⟨c, hc, fc, q⟩ := e
          rw [if_pos ⟨c, hc, fc, (hch c hc fc).trans q⟩, if_pos ⟨c, hc, fc, q⟩]
        · rw [if_neg e, if_neg (fun ⟨c, hc, fc, q⟩ => e ⟨c, hc, fc, (hch c hc fc).symm.trans q⟩)]
    · rw [if_neg hj, cv_j hn k f p hfr hp hk hj]
theorem cv_rg (hp : p = 0 ∨ p = 1) : ∀ (k : Nat) (f : Nat → Int), cv n k f p = 0 ∨ cv n k f p = 1
  | 0, f => by
    unfold cv
    split
    · exact Or.inl rfl
    · exact Or.inr rfl
  | k + 1, f => by
    unfold cv
    split
    · exact hp
    · omega
theorem vl_rg (hp : p = 0 ∨ p = 1) (K : Nat) (f : Nat → Int) : vlu n K f p = -1 ∨ vlu n K f p = 0 ∨ vlu n K f p = 1 := by
  cases K with
  | zero => exact Or.inl rfl
  | succ K =>
    unfold vlu
    split
    · split
      · exact Or.inr hp
      · omega
    · exact jnd_rg n f
/-! the reference -/
theorem best_ok (hn : 2 ≤ n) : ∀ (K : Nat) (f : Nat → Int) (p : Int) (s : Sg), MB s n f → FR n f → (p = 0 ∨ p = 1) → Fc n f < K → okP (Mo_best K p s) (fun o => Ch [87] s o.2 ∧ o.1 = vlu n K f p)
  | 0, _, _, _, _, _, _, h => absurd h (Nat.not_lt_zero _)
  | K + 1, f, p, s, hM, hfr, hp, hF => by
    have h81 := nn_le hM.1.2.1
    have h1p : 1 - p = 0 ∨ 1 - p = 1 := by omega
    show okP (Mo_best_r (Mo_best K) p s) _
    unfold Mo_best_r
    refine okP_bnd2 (Mo_joined_ok hM hfr) ?_
    rintro y t - ⟨hC, hy⟩
    have hC : Ch [87] s t := hC
    have hy : y = jnd n f := hy
    have hMt : MB t n f := hM.ch hC
    rw [hy, ifEq_eq _ _ (R_tri (jnd_rg n f)) R_n1]
    unfold vlu
    by_cases hj : jnd n f = -1
    · rw [if_pos hj, if_pos hj]
      unfold Mo_best_l14
      refine okP_bnd (P := fun r => (∃ u, r = .inl u ∧ Ch [87] s u ∧ ∃ c, c < n * n ∧ f c = -1 ∧ vlu n K (ups f c p) (1 - p) = p) ∨ ∃ u, r = .inr u ∧ Ch [87] s u ∧ ∀ c, c < n * n → f c = -1 → vlu n K (ups f c p) (1 - p) ≠ p) (whl_for (fun (i : Nat) (u : Sg) => ((i : Int), u)) (n * n) (fun i u => Ch [87] s u ∧ ∀ c, c < i → f c = -1 → vlu n K (ups f c p) (1 - p) ≠ p) (i0 := 0) (t0 := t) (Nat.zero_le _) ⟨hC, fun c hc => absurd hc (Nat.not_lt_zero c)⟩ ?_ ?_) ?_
      · rintro i u hi' ⟨h1, h2⟩
        have hMu : MB u n f := hM.ch h1
        have e5 : (5 + (i : Int)).toNat = 5 + i := by omega
        show okP (Mo_best_t14 (Mo_best K) p (i : Int) u) _
        unfold Mo_best_t14 Mo_best_b69
        rw [Mo_cells_eq hMu.1, bnd_some, ifLt_eq _ _ (R_nat (by omega)) (R_nat (by omega)), if_pos (by omega), hMu.st hi', bnd_some, ifEq_eq _ _ (hfr.r hi') R_n1]
        by_cases q : f i = -1
        · rw [if_pos q, grd_t ⟨by omega, by omega⟩, lett_eq, e5]
          have hFc := Fc_ups hi' q (p := p) (by omega)
          refine okP_bnd2 (best_ok hn K (ups f i p) (1 - p) _ (hMu.ups i p) (hfr.ups (Or.inr hp)) h1p (by omega)) ?_
          rintro v w - ⟨hCw, hv⟩
          have hv : v = vlu n K (ups f i p) (1 - p) := hv
          have hCu : Ch [87] u (si w 81 (5 + i) (-1)) := ch_undo hCw ((hMu.2 i hi').trans q)
          rw [grd_t ⟨by omega, by omega⟩, lett_eq, hv, ifEq_eq _ _ (R_tri (vl_rg h1p K _)) (R_01 hp)]
          by_cases q2 : vlu n K (ups f i p) (1 - p) = p
          · rw [if_pos q2]
            exact okP_some (Or.inr ⟨_, rfl, Or.inl ⟨_, rfl, h1.tr hCu, i, hi', q, q2⟩⟩)
          · rw [if_neg q2]
            refine okP_some (Or.inl ⟨si w 81 (5 + i) (-1), rfl, h1.tr hCu, fun c hc fc => ?_⟩)
            by_cases e : c = i
            · subst e; exact q2
            · exact h2 c (by omega) fc
        · rw [if_neg q]
          refine okP_some (Or.inl ⟨u, rfl, h1, fun c hc fc => ?_⟩)
          by_cases e : c = i
          · subst e; exact absurd fc q
          · exact h2 c (by omega) fc
      · rintro u ⟨h1, h2⟩
        have hMu : MB u n f := hM.ch h1
        show okP (Mo_best_t14 (Mo_best K) p ((n * n : Nat) : Int) u) _
        unfold Mo_best_t14
        rw [Mo_cells_eq hMu.1, bnd_some, ifLt_eq _ _ (R_nat (by omega)) (R_nat (by omega)), if_neg (by omega)]
        exact okP_some ⟨_, rfl, Or.inr ⟨u, rfl, h1, h2⟩⟩
      · rintro r - (⟨u, rfl, h1, h2⟩ | ⟨u, rfl, h1, h2⟩)
        · rw [if_pos h2]
          exact okP_some ⟨h1, rfl⟩
        · rw [if_neg (fun ⟨c, hc, fc, q⟩ => h2 c hc fc q)]
          exact okP_some ⟨h1, rfl⟩
    · rw [if_neg hj, if_neg hj]
      exact okP_some ⟨hC, rfl⟩
end GAME
/-- a move that wins -/
def gud (n : Nat) (f : Nat → Int) (t : Int) (c : Nat) : Prop := f c = -1 ∧ cv n (Fc n f - 1) (ups f c t) (1 - t) = t
noncomputable def sol (b : Bd) : Int := if wnr b.n b.f b.g = -1 then (if 6 < Fc b.n b.f then -1 else cv b.n (Fc b.n b.f) b.f b.t) else wnr b.n b.f b.g
noncomputable def gdm (b : Bd) : Int := if wnr b.n b.f b.g = -1 then (if 6 < Fc b.n b.f then -1 else (cnt (gud b.n b.f b.t) (b.n * b.n) : Int)) else 0
noncomputable def bsm (b : Bd) : Int := if wnr b.n b.f b.g = -1 then (if 6 < Fc b.n b.f then -1 else nth (gud b.n b.f b.t) 0 (b.n * b.n)) else -1
section GAMEM
variable {s : Sg} {b : Bd}
abbrev Mg : List Nat := [8000, 87]
theorem isFew_eq (hb : BdOK b) (hM : MP s b) : Mo_isFew s = some (if 6 < Fc b.n b.f then 0 else 1) := by
  have h81 := nn_le hb.1.2
  have hle := cnt_le (fun c => b.f c = -1) (b.n * b.n)
  unfold Mo_isFew
  rw [Mo_stonesOf_eq hM.1 hb.2.1 R_n1, bnd_some, ifLt_eq _ _ R6 (R_nat (by omega))]
  show (if 6 < ((Fc b.n b.f : Nat) : Int) then _ else _) = _
  by_cases h : 6 < Fc b.n b.f
  · rw [if_pos (by omega), if_pos h]
  · rw [if_neg (by omega), if_neg h]
theorem Mo_isGood_ok {c : Nat} (hb : BdOK b) (hM : MP s b) (hF : Fc b.n b.f ≤ 6) (hc : c < b.n * b.n) : okP (Mo_isGood (c : Int) s) (fun o => Ch [87] s o.2 ∧ o.1 = bI (gud b.n b.f b.t c)) := by
  obtain ⟨hn, hfr, hw, ht, hg, hm, hmv⟩ := hb
  have h81 := nn_le hn.2
  have e5 : (5 + (c : Int)).toNat = 5 + c := by omega
  have h1t : 1 - b.t = 0 ∨ 1 - b.t = 1 := by omega
  unfold Mo_isGood Mo_isGood_b51
  rw [hM.1.st hc, bnd_some, ifEq_eq _ _ (hfr.r hc) R_n1]
  by_cases q : b.f c = -1
  · have hFc := Fc_ups hc q (p := b.t) (by omega)
    rw [if_pos q, grd_t ⟨by omega, by omega⟩, grd_t ⟨by omega, by omega⟩, lett_eq, e5, grd_t ⟨by omega, by omega⟩, hM.2.2.1, gi_si_k _ _ _ (show (2 : Nat) ≠ 5 + c by omega), hM.2.2.1]
    refine okP_bnd2 (best_ok hn.1 8 (ups b.f c b.t) (1 - b.t) _ (hM.1.ups c b.t) (hfr.ups (Or.inr ht)) h1t (by omega)) ?_
    rintro v w - ⟨hCw, hv⟩
    have hv : v = vlu b.n 8 (ups b.f c b.t) (1 - b.t) := hv
    have hCw : Ch [87] (si s 81 (5 + c) b.t) w := hCw
    have hvc := vl_cv hn.1 8 (Fc b.n b.f - 1) (ups b.f c b.t) (1 - b.t) (hfr.ups (Or.inr ht)) h1t (by omega) (by omega)
    have hCu : Ch [87] s (si w 81 (5 + c) (-1)) := ch_undo hCw ((hM.1.2 c hc).trans q)
    rw [grd_t ⟨by omega, by omega⟩, hCw.g 81, gi_si_k _ _ _ (show (2 : Nat) ≠ 5 + c by omega), hM.2.2.1, hv, hvc, ifEq_eq _ _ (R_01 (cv_rg h1t _ _)) (R_01 ht)]
    by_cases q2 : cv b.n (Fc b.n b.f - 1) (ups b.f c b.t) (1 - b.t) = b.t
    · rw [if_pos q2, grd_t ⟨by omega, by omega⟩, lett_eq, grd_t b01_1]
      exact okP_some ⟨hCu, (bI_t ⟨q, q2⟩).symm⟩
    · rw [if_neg q2, grd_t ⟨by omega, by omega⟩, lett_eq, grd_t b01_0]
      exact okP_some ⟨hCu, (bI_f (fun k => q2 k.2)).symm⟩
  · rw [if_neg q]
    exact okP_some ⟨Ch.rf _ _, (bI_f (fun k => q k.1)).symm⟩
theorem Mo_solved_ok (hb : BdOK b) (hM : MP s b) : okP (Mo_solved s) (fun o => Ch Mg s o.2 ∧ gi o.2 80 0 = 0 ∧ o.1 = sol b) := by
  obtain ⟨hn, hfr, hw, ht, hg, hm, hmv⟩ := hb
  have hb' : BdOK b := ⟨hn, hfr, hw, ht, hg, hm, hmv⟩
  have h0 : Ch [8000] s (si s 80 0 0) := Ch.s8 (by decide)
  have hM0 : MP (si s 80 0 0) b := hM.ch h0
  unfold Mo_solved
  rw [lett_eq]
  refine okP_bnd2 (Mo_winner_ok hM0.1 hfr hM0.2.2.2.1 hg) ?_
  rintro y t - ⟨hCt, hy⟩
  have hCt : Ch [87] (si s 80 0 0) t := hCt
  have hy : y = wnr b.n b.f b.g := hy
  have hPt := hM0.ch hCt
  have hz : gi t 80 0 = 0 := by rw [hCt.g8 0, gi_si_s]
  have hCst : Ch Mg s t := (h0.mo (by decide)).tr (hCt.mo (by decide))
  rw [hy, ifEq_eq _ _ (R_tri (wnr_rg hg)) R_n1]
  unfold sol
  by_cases e1 : wnr b.n b.f b.g = -1
  · rw [if_pos e1, if_pos e1, isFew_eq hb' hPt, bnd_some]
    by_cases e2 : 6 < Fc b.n b.f
    · rw [if_pos e2, if_pos e2, ifEq_eq _ _ R0 R0, if_pos rfl]
      exact okP_some ⟨hCst, hz, rfl⟩
    · rw [if_neg e2, if_neg e2, ifEq_eq _ _ R1 R0, if_neg (by omega), grd_t ⟨by omega, by omega⟩, hPt.2.2.1]
      refine okP_bnd2 (best_ok hn.1 8 b.f b.t t hPt.1 hfr ht (by omega)) ?_
      rintro v w - ⟨hCw, hv⟩
      have hCw : Ch [87] t w := hCw
      have hv : v = vlu b.n 8 b.f b.t := hv
      refine okP_some ⟨hCst.tr (hCw.mo (by decide)), by show gi w 80 0 = 0; rw [hCw.g8 0]; exact hz, ?_⟩
      show v = _
      rw [hv]
      exact vl_cv hn.1 8 (Fc b.n b.f) b.f b.t hfr ht rfl (by omega)
  · rw [if_neg e1, if_neg e1]
    exact okP_some ⟨hCst, hz, rfl⟩
theorem Mo_goodMoves_ok (hb : BdOK b) (hM : MP s b) : okP (Mo_goodMoves s) (fun o => Ch Mg s o.2 ∧ gi o.2 80 0 = 0 ∧ o.1 = gdm b) := by
  have hb' := hb
  obtain ⟨hn, hfr, hw, ht, hg, hm, hmv⟩ := hb'
  have h81 := nn_le hn.2
  have h0 : Ch [8000] s (si s 80 0 0) := Ch.s8 (by decide)
  have hM0 : MP (si s 80 0 0) b := hM.ch h0
  unfold Mo_goodMoves
  rw [lett_eq]
  refine okP_bnd2 (Mo_winner_ok hM0.1 hfr hM0.2.2.2.1 hg) ?_
  rintro y t - ⟨hCt, hy⟩
  have hCt : Ch [87] (si s 80 0 0) t := hCt
  have hy : y = wnr b.n b.f b.g := hy
  have hPt := hM0.ch hCt
  have hz : gi t 80 0 = 0 := by rw [hCt.g8 0, gi_si_s]
  have hCst : Ch Mg s t := (h0.mo (by decide)).tr (hCt.mo (by decide))
  rw [hy, ifEq_eq _ _ (R_tri (wnr_rg hg)) R_n1]
  unfold gdm
  by_cases e1 : wnr b.n b.f b.g = -1
  · rw [if_pos e1, if_pos e1, isFew_eq hb hPt, bnd_some]
    by_cases e2 : 6 < Fc b.n b.f
    · rw [if_pos e2, if_pos e2, ifEq_eq _ _ R0 R0, if_pos rfl]
      exact okP_some ⟨hCst, hz, rfl⟩
    · rw [if_neg e2, if_neg e2, ifEq_eq _ _ R1 R0, if_neg (by omega)]
      unfold Mo_goodMoves_l28
      refine okP_bnd (P := fun r => Ch [87] t r.2 ∧ r.1 = (cnt (gud b.n b.f b.t) (b.n * b.n) : Int)) (whl_for (fun (i : Nat) (u : Int × Sg) => (u.1, (i : Int), u.2)) (b.n * b.n) (fun i u => Ch [87] t u.2 ∧ u.1 = (cnt (gud b.n b.f b.t) i : Int)) (i0 := 0) (t0 := (0, t)) (Nat.zero_le _) ⟨Ch.rf _ _, rfl⟩ ?_ ?_) ?_
      · rintro i ⟨a, u⟩ hi' ⟨k1, k2⟩
        have k1 : Ch [87] t u := k1
        have k2 : a = (cnt (gud b.n b.f b.t) i : Int) := k2
        have hPu := hPt.ch k1
        show okP (Mo_goodMoves_t28 a (i : Int) u) _
        unfold Mo_goodMoves_t28 Mo_goodMoves_b50
        rw [Mo_cells_eq hPu.1.1, bnd_some, ifLt_eq _ _ (R_nat (by omega)) (R_nat (by omega)), if_pos (by omega)]
        refine okP_bnd2 (Mo_isGood_ok hb hPu (by omega) hi') ?_
        rintro v w - ⟨hCw, hv⟩
        have hCw : Ch [87] u w := hCw
        have hv : v = bI (gud b.n b.f b.t i) := hv
        rw [hv, ifEq_eq _ _ (R_bI _) R0]
        by_cases h : gud b.n b.f b.t i
        · rw [bI_t h, if_neg (by omega), lett_eq]
          exact okP_some (Or.inl ⟨(a + 1, w), rfl, k1.tr hCw, by rw [cnt_t h, k2]; rfl⟩)
        · rw [bI_f h, if_pos rfl, lett_eq]
          exact okP_some (Or.inl ⟨(a + 0, w), rfl, k1.tr hCw, by rw [cnt_f h, k2]; exact Int.add_zero _⟩)
      · rintro ⟨a, u⟩ ⟨k1, k2⟩
        have k1 : Ch [87] t u := k1
        have hPu := hPt.ch k1
        show okP (Mo_goodMoves_t28 a ((b.n * b.n : Nat) : Int) u) _
        unfold Mo_goodMoves_t28
        rw [Mo_cells_eq hPu.1.1, bnd_some, ifLt_eq _ _ (R_nat (by omega)) (R_nat (by omega)), if_neg (by omega)]
        exact okP_some ⟨(a, u), rfl, k1, k2⟩
      · rintro ⟨a, u⟩ - ⟨k1, k2⟩
        have k1 : Ch [87] t u := k1
        exact okP_some ⟨hCst.tr (k1.mo (by decide)), by show gi u 80 0 = 0; rw [k1.g8 0]; exact hz, k2⟩
  · rw [if_neg e1, if_neg e1]
    exact okP_some ⟨hCst, hz, rfl⟩
theorem Mo_bestMove_ok (hb : BdOK b) (hM : MP s b) : okP (Mo_bestMove s) (fun o => Ch Mg s o.2 ∧ gi o.2 80 0 = 0 ∧ o.1 = bsm b) := by
  have hb' := hb
  obtain ⟨hn, hfr, hw, ht, hg, hm, hmv⟩ := hb'
  have h81 := nn_le hn.2
  have h0 : Ch [8000] s (si s 80 0 0) := Ch.s8 (by decide)
  have hM0 : MP (si s 80 0 0) b := hM.ch h0
  unfold Mo_bestMove
  rw [lett_eq]
  refine okP_bnd2 (Mo_winner_ok hM0.1 hfr hM0.2.2.2.1 hg) ?_
  rintro y t - ⟨hCt, hy⟩
  have hCt : Ch [87] (si s 80 0 0) t := hCt
  have hy : y = wnr b.n b.f b.g := hy
  have hPt := hM0.ch hCt
  have hz : gi t 80 0 = 0 := by rw [hCt.g8 0, gi_si_s]
  have hCst : Ch Mg s t := (h0.mo (by decide)).tr (hCt.mo (by decide))
  rw [hy, ifEq_eq _ _ (R_tri (wnr_rg hg)) R_n1]
  unfold bsm
  by_cases e1 : wnr b.n b.f b.g = -1
  · rw [if_pos e1, if_pos e1, isFew_eq hb hPt, bnd_some]
    by_cases e2 : 6 < Fc b.n b.f
    · rw [if_pos e2, if_pos e2, ifEq_eq _ _ R0 R0, if_pos rfl]
      exact okP_some ⟨hCst, hz, rfl⟩
    · rw [if_neg e2, if_neg e2, ifEq_eq _ _ R1 R0, if_neg (by omega)]
      unfold Mo_bestMove_l24
      refine okP_bnd (P := fun r => (∃ (c : Nat) (u : Sg), r = .inl ((c : Int), u) ∧ Ch [87] t u ∧ c < b.n * b.n ∧ gud b.n b.f b.t c ∧ ∀ j, j < c → ¬ gud b.n b.f b.t j) ∨ ∃ u : Sg, r = .inr u ∧ Ch [87] t u ∧ ∀ j, j < b.n * b.n → ¬ gud b.n b.f b.t j) (whl_for (fun (i : Nat) (u : Sg) => ((i : Int), u)) (b.n * b.n) (fun i u => Ch [87] t u ∧ ∀ j, j < i → ¬ gud b.n b.f b.t j) (i0 := 0) (t0 := t) (Nat.zero_le _) ⟨Ch.rf _ _, fun j hj => absurd hj (Nat.not_lt_zero j)⟩ ?_ ?_) ?_
      · rintro i u hi' ⟨k1, k2⟩
        have hPu := hPt.ch k1
        show okP (Mo_bestMove_t24 (i : Int) u) _
        unfold Mo_bestMove_t24
        rw [Mo_cells_eq hPu.1.1, bnd_some, ifLt_eq _ _ (R_nat (by omega)) (R_nat (by omega)), if_pos (by omega)]
        refine okP_bnd2 (Mo_isGood_ok hb hPu (by omega) hi') ?_
        rintro v w - ⟨hCw, hv⟩
        have hCw : Ch [87] u w := hCw
        have hv : v = bI (gud b.n b.f b.t i) := hv
        rw [hv, ifEq_eq _ _ (R_bI _) R0]
        by_cases h : gud b.n b.f b.t i
        · rw [bI_t h, if_neg (by omega)]
          exact okP_some (Or.inr ⟨_, rfl, Or.inl ⟨i, w, rfl, k1.tr hCw, hi', h, k2⟩⟩)
        · rw [bI_f h, if_pos rfl]
          refine okP_some (Or.inl ⟨w, rfl, k1.tr hCw, fun j hj => ?_⟩)
          by_cases e : j = i
          · subst e; exact h
          · exact k2 j (by omega)
      · rintro u ⟨k1, k2⟩
        have hPu := hPt.ch k1
        show okP (Mo_bestMove_t24 ((b.n * b.n : Nat) : Int) u) _
        unfold Mo_bestMove_t24
        rw [Mo_cells_eq hPu.1.1, bnd_some, ifLt_eq _ _ (R_nat (by omega)) (R_nat (by omega)), if_neg (by omega)]
        exact okP_some ⟨_, rfl, Or.inr ⟨u, rfl, k1, k2⟩⟩
      · rintro r - (⟨c, u, rfl, k1, hc, hg1, hg2⟩ | ⟨u, rfl, k1, k2⟩)
        · refine okP_some ⟨hCst.tr (k1.mo (by decide)), by show gi u 80 0 = 0; rw [k1.g8 0]; exact hz, ?_⟩
          exact (nth_k hc hg1 (by rw [cnt_zero hg2]; rfl) (fun j hj q => hg2 j hj q.1)).symm
        · refine okP_some ⟨hCst.tr (k1.mo (by decide)), by show gi u 80 0 = 0; rw [k1.g8 0]; exact hz, ?_⟩
          exact (nth_no (fun j hj q => k2 j hj q.1)).symm
  · rw [if_neg e1, if_neg e1]
    exact okP_some ⟨hCst, hz, rfl⟩
end GAMEM

/-! ===== snapshots ===== -/
section SNP
variable {X : Xs} {s t : Sg}
def upS (S : Nat → Option Bd) (k : Nat) (b : Bd) : Nat → Option Bd := fun j => if j = k then some b else S j
theorem XsOK.sn (hX : XsOK X) (k : Nat) {b : Bd} (hb : BdOK b) : XsOK (X.wS (upS X.S k b)) := ⟨hX.1, hX.2.1, fun j b' e => by
  have e : upS X.S k b j = some b' := e
  unfold upS at e
  by_cases q : j = k
  · rw [if_pos q] at e
    cases e
    exact hb
  · rw [if_neg q] at e
    exact hX.2.2.1 j b' e, hX.2.2.2⟩
theorem CI.sn {k : Nat} (hC : CI X s) (hk : k = 0 ∨ k = 1) (hc : Ch [42 + 3 * k, 42 + 3 * k + 1, 42 + 3 * k + 2] s t) (hP : CP t (42 + 3 * k) X.b) : CI (X.wS (upS X.S k X.b)) t := by
  refine ⟨?_, ?_, fun j hj => ?_, ?_⟩
  · rcases hk with rfl | rfl
    · exact hC.1.ch hc (by decide) (by decide)
    · exact hC.1.ch hc (by decide) (by decide)
  · rcases hk with rfl | rfl
    · exact hC.2.1.ch hc (by decide) (by decide)
    · exact hC.2.1.ch hc (by decide) (by decide)
  · show (upS X.S k X.b j = none → gi t (42 + 3 * j) 2 = 0) ∧ ∀ b, upS X.S k X.b j = some b → CP t (42 + 3 * j) b
    unfold upS
    by_cases q : j = k
    · rw [if_pos q]
      refine ⟨fun e => (nomatch e), fun b e => ?_⟩
      cases e
      rw [q]
      exact hP
    · rw [if_neg q]
      have h := hC.2.2.1 j hj
      have n0 : 42 + 3 * j ∉ [42 + 3 * k, 42 + 3 * k + 1, 42 + 3 * k + 2] := by simp; omega
      have n1 : 42 + 3 * j + 1 ∉ [42 + 3 * k, 42 + 3 * k + 1, 42 + 3 * k + 2] := by simp; omega
      have n2 : 42 + 3 * j + 2 ∉ [42 + 3 * k, 42 + 3 * k + 1, 42 + 3 * k + 2] := by simp; omega
      exact ⟨fun e => by rw [hc.g _ n0 (by omega)]; exact h.1 e, fun b e => (h.2 b e).ch hc n0 n1 n2 (by omega)⟩
  · rcases hk with rfl | rfl
    · exact hC.2.2.2.ch hc (by decide)
    · exact hC.2.2.2.ch hc (by decide)
theorem Fc_R (hX : XsOK X) : R ((Fc X.b.n X.b.f : Nat) : Int) := R_cnt hX _
theorem saveM {k : Nat} (hX : XsOK X) (hM : MI X s) (hk : k = 0 ∨ k = 1) : okP (Mo_saveSnapshot_l26 (k : Int) 0 s) (fun o => Ch [83, 84] s o.2 ∧ MI (X.wS (upS X.S k X.b)) o.2 ∧ o.1 = ((Fc X.b.n X.b.f : Nat) : Int)) := by
  have R286 : R 286 := by unfold R; omega
  unfold Mo_saveSnapshot_l26
  refine okP_bnd (P := fun t => Ch [83] s t ∧ (∀ i, ¬ (286 * k ≤ i ∧ i < 286 * k + 286) → gi t 83 i = gi s 83 i) ∧ ∀ i, i < 286 → gi t 83 (286 * k + i) = gi s 81 i) (whl_for (fun (i : Nat) (t : Sg) => ((i : Int), t)) 286 (fun i t => Ch [83] s t ∧ (∀ i, ¬ (286 * k ≤ i ∧ i < 286 * k + 286) → gi t 83 i = gi s 83 i) ∧ ∀ j, j < i → gi t 83 (286 * k + j) = gi s 81 j) (i0 := 0) (t0 := s) (Nat.zero_le _) ⟨Ch.rf _ _, fun _ _ => rfl, fun j hj => absurd hj (Nat.not_lt_zero j)⟩ ?_ ?_) ?_
  · rintro i t hi' ⟨h1, h2, h3⟩
    have eT : ((i : Nat) : Int).toNat = i := rfl
    have eK : (286 * ((k : Nat) : Int) + ((i : Nat) : Int)).toNat = 286 * k + i := by omega
    show okP (Mo_saveSnapshot_t26 (k : Int) (i : Int) t) _
    unfold Mo_saveSnapshot_t26
    rw [ifLt_eq _ _ (R_nat (by omega)) R286, if_pos (by omega), grd_t ⟨by omega, by omega⟩, grd_t ⟨by omega, by omega⟩, eT, eK, h1.g 81, lett_eq]
    refine okP_some (Or.inl ⟨si t 83 (286 * k + i) (gi s 81 i), rfl, h1.tr (Ch.si (by decide)), fun j hj => ?_, fun j hj => ?_⟩)
    · rw [gi_si_k _ _ _ (by omega)]
      exact h2 j hj
    · by_cases z : j = i
      · subst z
        exact gi_si_s _ _ _ _
      · rw [gi_si_k _ _ _ (by omega)]
        exact h3 j (by omega)
  · rintro t ⟨h1, h2, h3⟩
    show okP (Mo_saveSnapshot_t26 (k : Int) ((286 : Nat) : Int) t) _
    unfold Mo_saveSnapshot_t26
    rw [ifLt_eq _ _ (R_nat (by omega)) R286, if_neg (by omega)]
    exact okP_some ⟨t, rfl, h1, h2, h3⟩
  · rintro t - ⟨h1, h2, h3⟩
    have eT : ((k : Nat) : Int).toNat = k := rfl
    have c1 : Ch [84] t (si t 84 k 1) := Ch.si (by decide)
    have hMt : MB (si t 84 k 1) X.b.n X.b.f := (hM.1.1.ch h1 (by decide)).ch c1 (by decide)
    have hc : Ch [83, 84] s (si t 84 k 1) := (h1.mo (by decide)).tr (c1.mo (by decide))
    rw [grd_t ⟨by omega, by omega⟩, lett_eq, eT, Mo_stonesOf_eq hMt hX.fr R_n1, bnd_some]
    refine okP_some ⟨hc, ⟨hM.1.ch hc, hM.2.1.ch (fun i hi' => (hX.2.1 i hi').1) hc (by decide) (by decide), fun j hj => ?_, hM.2.2.2.ch hc (by decide)⟩, rfl⟩
    show (upS X.S k X.b j = none → gi (si t 84 k 1) 84 j = 0) ∧ ∀ b, upS X.S k X.b j = some b → gi (si t 84 k 1) 84 j = 1 ∧ rec' (fun i => gi (si t 84 k 1) 83 (286 * j + i)) b
    unfold upS
    by_cases q : j = k
    · rw [if_pos q]
      refine ⟨fun e => (nomatch e), fun b e => ?_⟩
      cases e
      subst q
      refine ⟨gi_si_s _ _ _ _, rec_congr hX.1 (fun i hi' => ?_) (MP_rec.mp hM.1)⟩
      show gi (si t 84 j 1) 83 (286 * j + i) = gi s 81 i
      rw [gi_si_o _ _ _ _ (by omega)]
      exact h3 i hi'
    · have h := hM.2.2.1 j hj
      rw [if_neg q, gi_si_k _ _ _ q, h1.g 84]
      refine ⟨h.1, fun b e => ⟨(h.2 b e).1, rec_congr (hX.2.2.1 j b e) (fun i hi' => ?_) (h.2 b e).2⟩⟩
      show gi (si t 84 k 1) 83 (286 * j + i) = gi s 83 (286 * j + i)
      rw [gi_si_o _ _ _ _ (by omega)]
      refine h2 _ ?_
      rcases hk with rfl | rfl
      · have : j = 1 := by omega
        subst this; omega
      · have : j = 0 := by omega
        subst this; omega
theorem op_saveSnapshot (hX : XsOK X) {x : Int} (hx : R x) : OpE X 1 0 (Hx_saveSnapshot x) (Mo_saveSnapshot x) := by
  by_cases h : 0 ≤ x ∧ x ≤ 1
  · obtain ⟨k, rfl⟩ := Int.eq_ofNat_of_zero_le h.1
    have hk : k = 0 ∨ k = 1 := by omega
    refine ⟨0, ((Fc X.b.n X.b.f : Nat) : Int), X.wS (upS X.S k X.b), R0, hX.sn k hX.1, fun s hC => ?_, fun s hM => ?_⟩
    · have key : okP (Hx_saveSnapshot_b21 (42 + 3 * k) s) (CPost 1 0 0 ((Fc X.b.n X.b.f : Nat) : Int) (X.wS (upS X.S k X.b)) s) := by
        unfold Hx_saveSnapshot_b21
        refine okP_bnd (Po_copy_ok (p := 42 + 3 * k) (q := 10) hX.1 hC.1.2.2 (by omega) (by omega)) ?_
        rintro t - ⟨h1, h2⟩
        have hCt := hC.sn hk h1 h2
        rw [count_free (b := X.b) hX.1 hCt.1, bnd_some]
        refine okP_some ⟨?_, hCt, Or.inl ⟨rfl, rfl, Fc_R hX⟩⟩
        rcases hk with rfl | rfl
        · exact h1.cf
        · exact h1.cf
      unfold Hx_saveSnapshot
      rw [rqR_t hx R0 R1 h, bndx_some, ifEq_eq _ _ hx R0]
      rcases hk with rfl | rfl
      · rw [if_pos (by omega)]
        exact key
      · rw [if_neg (by omega)]
        exact key
    · unfold Mo_saveSnapshot Mo_saveSnapshot_b16
      rw [grd_t hx, in_t hx R0 R1 h, bnd_some, ifEq_f R1 R0 (by omega), wrong_0, bnd2_some, ifEq_t R0 R0 rfl]
      refine okP_mono (saveM hX (hM.e0 hX 0) hk) fun o ⟨h1, h2, h3⟩ => ⟨(mf0 s 0).tr h1.mf, h2, ?_, fun _ => h3⟩
      rw [h1.g8 0]
      exact gi_si_s _ _ _ _
  · exact op_bad hX (fun s hC => by unfold Hx_saveSnapshot; rw [rqR_f hx R0 R1 h, bndx_thrown]) (fun s hM => ⟨_, by unfold Mo_saveSnapshot Mo_saveSnapshot_b16; rw [grd_t hx, in_f hx R0 R1 h, bnd_some, ifEq_t R0 R0 rfl, wrong_1, bnd2_some, ifEq_f R1 R0 (by omega)]⟩)
theorem clearC {h : Nat} {H : Nat → Bd} (hH : HC s h H) : Hi_clear s = some (si s 16 2 0) ∧ HC (si s 16 2 0) 0 H := by
  obtain ⟨-, -, a, h3, h4, -⟩ := hH
  refine ⟨rfl, gi_si_s _ _ _ _, by omega, a, by rw [gi_si_k _ _ _ (by omega)]; exact h3, h4, fun i hi' => absurd hi' (Nat.not_lt_zero i)⟩
/-- another board is taken from the place p -/
theorem takeC {p : Nat} {b : Bd} (hX : XsOK X) (hC : CI X s) (hb : BdOK b) (hp : p = 42 ∨ p = 45 ∨ p = 53) (hP : CP s p b) (hg : gi s 1 3 = (b.n : Int) → GridOK s b.n) (hR : R (gi s 1 3)) : okP (bnd (Po_copy 10 p s) fun s5 => bnd (Gr_fit (gi s5 10 2) s5) fun s7 => Hi_clear s7) (fun t => Ch [1, 2, 3, 4, 10, 11, 12, 16] s t ∧ CI (X.wb b 0 X.H) t) := by
  refine okP_bnd (Po_copy_ok (p := 10) (q := p) hb hP (by omega) (by omega)) ?_
  rintro t - ⟨h1, h2⟩
  have h1 : Ch [10, 11, 12] s t := h1
  have hSt := hC.1.2.1.ch h1 (by decide)
  rw [h2.1]
  refine okP_bnd (fit_ok hb.1 hSt (fun e => (hg ((h1.g 1).symm.trans e)).c h1) (by rw [h1.g 1]; exact hR)) ?_
  rintro u - ⟨k1, k2⟩
  have hH := (hC.2.1.ch h1 (by decide) (by decide)).ch k1 (by decide) (by decide)
  obtain ⟨e, hH2⟩ := clearC hH
  have l1 : Ch [16] u (si u 16 2 0) := Ch.si (by decide)
  have hc : Ch [1, 2, 3, 4, 10, 11, 12, 16] s (si u 16 2 0) := ((h1.mo (by decide)).tr (k1.mo (by decide))).tr (l1.mo (by decide))
  rw [e]
  exact okP_some ⟨hc, hC.up hc ⟨k2.c l1, (hSt.ch k1 (by decide)).ch l1 (by decide), (h2.ch k1).ch l1⟩ hH2⟩
theorem XsOK.tk (hX : XsOK X) {b : Bd} (hb : BdOK b) : XsOK (X.wb b 0 X.H) := hX.up hb fun i hi' => absurd hi' (Nat.not_lt_zero i)
theorem restM {k : Nat} {b : Bd} (hX : XsOK X) (hM : MI X s) (hk : k = 0 ∨ k = 1) (hs : X.S k = some b) : okP (Mo_restoreSnapshot_l37 (k : Int) 0 s) (fun o => Ch [81, 8006] s o.2 ∧ MI (X.wb b 0 X.H) o.2 ∧ o.1 = ((Fc b.n b.f : Nat) : Int)) := by
  have R286 : R 286 := by unfold R; omega
  have hb := hX.2.2.1 k b hs
  have hr := (hM.2.2.1 k (by omega)).2 b hs
  unfold Mo_restoreSnapshot_l37
  refine okP_bnd (P := fun t => Ch [81] s t ∧ ∀ i, i < 286 → gi t 81 i = gi s 83 (286 * k + i)) (whl_for (fun (i : Nat) (t : Sg) => ((i : Int), t)) 286 (fun i t => Ch [81] s t ∧ ∀ j, j < i → gi t 81 j = gi s 83 (286 * k + j)) (i0 := 0) (t0 := s) (Nat.zero_le _) ⟨Ch.rf _ _, fun j hj => absurd hj (Nat.not_lt_zero j)⟩ ?_ ?_) ?_
  · rintro i t hi' ⟨h1, h3⟩
    have eT : ((i : Nat) : Int).toNat = i := rfl
    have eK : (286 * ((k : Nat) : Int) + ((i : Nat) : Int)).toNat = 286 * k + i := by omega
    show okP (Mo_restoreSnapshot_t37 (k : Int) (i : Int) t) _
    unfold Mo_restoreSnapshot_t37
    rw [ifLt_eq _ _ (R_nat (by omega)) R286, if_pos (by omega), grd_t ⟨by omega, by omega⟩, grd_t ⟨by omega, by omega⟩, eT, eK, h1.g 83, lett_eq]
    refine okP_some (Or.inl ⟨si t 81 i (gi s 83 (286 * k + i)), rfl, h1.tr (Ch.si (by decide)), fun j hj => ?_⟩)
    by_cases z : j = i
    · subst z
      exact gi_si_s _ _ _ _
    · rw [gi_si_k _ _ _ (by omega)]
      exact h3 j (by omega)
  · rintro t ⟨h1, h3⟩
    show okP (Mo_restoreSnapshot_t37 (k : Int) ((286 : Nat) : Int) t) _
    unfold Mo_restoreSnapshot_t37
    rw [ifLt_eq _ _ (R_nat (by omega)) R286, if_neg (by omega)]
    exact okP_some ⟨t, rfl, h1, h3⟩
  · rintro t - ⟨h1, h3⟩
    have c1 : Ch [8006] t (si t 80 6 0) := Ch.s8 (by decide)
    have hMt : MP (si t 80 6 0) b := (MP_rec.mpr (rec_congr hb (fun i hi' => h3 i hi') hr.2) : MP t b).ch c1
    have hc : Ch [81, 8006] s (si t 80 6 0) := (h1.mo (by decide)).tr (c1.mo (by decide))
    rw [lett_eq, Mo_stonesOf_eq hMt.1 hb.2.1 R_n1, bnd_some]
    exact okP_some ⟨hc, hM.up hX hc hMt ⟨gi_si_s _ _ _ _, by omega, fun i hi' => absurd hi' (Nat.not_lt_zero i)⟩, rfl⟩
theorem op_restoreSnapshot (hX : XsOK X) {x : Int} (hx : R x) : OpE X 1 0 (Hx_restoreSnapshot x) (Mo_restoreSnapshot x) := by
  by_cases h : 0 ≤ x ∧ x ≤ 1
  · obtain ⟨k, rfl⟩ := Int.eq_ofNat_of_zero_le h.1
    have hk : k = 0 ∨ k = 1 := by omega
    have eT : ((k : Nat) : Int).toNat = k := rfl
    have hsel : ∀ s, CI X s → Hx_restoreSnapshot (k : Int) s = Hx_restoreSnapshot_b21 (42 + 3 * k) s := fun s hC => by
      unfold Hx_restoreSnapshot
      rw [rqR_t hx R0 R1 h, bndx_some, ifEq_eq _ _ hx R0]
      rcases hk with rfl | rfl
      · rw [if_pos (by omega)]
      · rw [if_neg (by omega)]
    cases hs : X.S k with
    | none =>
      refine op_q hX (-1) R_n1 (fun s hC => ?_) fun s hM => ?_
      · have e := (hC.2.2.1 k (by omega)).1 hs
        rw [hsel s hC]
        unfold Hx_restoreSnapshot_b21 Po_isBegun
        rw [e, ifEq_t R0 R0 rfl, bnd_some, ifEq_t R0 R0 rfl]
        exact okP_some ⟨Ch.rf _ _, rfl⟩
      · have e := ((hM.e0 hX 0).2.2.1 k (by omega)).1 hs
        unfold Mo_restoreSnapshot Mo_restoreSnapshot_b16
        rw [grd_t hx, in_t hx R0 R1 h, bnd_some, ifEq_f R1 R0 (by omega), wrong_0, bnd2_some, ifEq_t R0 R0 rfl, grd_t ⟨by omega, by omega⟩, eT, e, ifEq_t R0 R0 rfl]
        exact qM0 hX hM (L := []) (okP_some ⟨Ch.rf _ _, rfl⟩)
    | some b =>
      have hb := hX.2.2.1 k b hs
      have h81 := nn_le hb.1.2
      have hcl := cnt_le (fun c => b.f c = -1) (b.n * b.n)
      have hcl : Fc b.n b.f ≤ b.n * b.n := hcl
      refine ⟨0, ((Fc b.n b.f : Nat) : Int), X.wb b 0 X.H, R0, hX.tk hb, fun s hC => ?_, fun s hM => ?_⟩
      · have hP := (hC.2.2.1 k (by omega)).2 b hs
        have hn := hb.1.1
        have hn9 := hb.1.2
        have hg3 : gi s 1 3 = (X.b.n : Int) := hC.G.2.2.1
        rw [hsel s hC]
        unfold Hx_restoreSnapshot_b21 Po_isBegun
        rw [hP.1, ifEq_f (R_nat (by omega)) R0 (by omega), bnd_some, ifEq_f R1 R0 (by omega)]
        have key := takeC (b := b) hX hC hb (p := 42 + 3 * k) (by omega) hP (fun e => by
          have : X.b.n = b.n := by omega
          rw [← this]
          exact hC.G) (by rw [hg3]; exact R_nat (by have := hX.n9; omega))
        obtain ⟨t, e, k1, k2⟩ := key
        have e2 : (bnd (Po_copy 10 (42 + 3 * k) s) fun s5 => bnd (Gr_fit (gi s5 10 2) s5) fun s7 => bnd (Hi_clear s7) fun s9 => bnd (Po_count 10 (-1) s9) fun y10 => some ((Sum.inr y10 : Nat ⊕ Int), s9)) = bnd (bnd (Po_copy 10 (42 + 3 * k) s) fun s5 => bnd (Gr_fit (gi s5 10 2) s5) fun s7 => Hi_clear s7) fun s9 => bnd (Po_count 10 (-1) s9) fun y10 => some ((Sum.inr y10 : Nat ⊕ Int), s9) := by
          cases Po_copy 10 (42 + 3 * k) s with
          | none => rfl
          | some s5 =>
            show (bnd (Gr_fit (gi s5 10 2) s5) fun s7 => bnd (Hi_clear s7) _) = bnd (bnd (Gr_fit (gi s5 10 2) s5) fun s7 => Hi_clear s7) _
            cases Gr_fit (gi s5 10 2) s5 with
            | none => rfl
            | some s7 => rfl
        rw [e2, e, bnd_some, count_free (b := b) hb k2.1, bnd_some]
        exact okP_some ⟨k1.cf, k2, Or.inl ⟨rfl, rfl, R_nat (by omega)⟩⟩
      · have e := ((hM.e0 hX 0).2.2.1 k (by omega)).2 b hs
        unfold Mo_restoreSnapshot Mo_restoreSnapshot_b16
        rw [grd_t hx, in_t hx R0 R1 h, bnd_some, ifEq_f R1 R0 (by omega), wrong_0, bnd2_some, ifEq_t R0 R0 rfl, grd_t ⟨by omega, by omega⟩, eT, e.1, ifEq_f R1 R0 (by omega)]
        refine okP_mono (restM hX (hM.e0 hX 0) hk hs) fun o ⟨h1, h2, h3⟩ => ⟨(mf0 s 0).tr h1.mf, h2, ?_, fun _ => h3⟩
        rw [h1.g8 0]
        exact gi_si_s _ _ _ _
  · exact op_bad hX (fun s hC => by unfold Hx_restoreSnapshot; rw [rqR_f hx R0 R1 h, bndx_thrown]) (fun s hM => ⟨_, by unfold Mo_restoreSnapshot Mo_restoreSnapshot_b16; rw [grd_t hx, in_f hx R0 R1 h, bnd_some, ifEq_t R0 R0 rfl, wrong_1, bnd2_some, ifEq_f R1 R0 (by omega)]⟩)
end SNP

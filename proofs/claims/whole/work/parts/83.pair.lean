/-! ===== both read one cell alike ===== -/
section PAI
variable {L : Nat} {B : Nat → Int} {s : Sg} {b : Bd}
theorem Cs.ch {t : Sg} {p : Nat} {M : List Nat} (h : Cs s L B b p) (hc : Ch M s t) (h1 : ∀ x ∈ [1, 2, 3, 4, 48, 49, 52, 53, 54, 55], x ∉ M := by decide) : Cs t L B b p := by
  obtain ⟨a1, a2, a3, a4, a5, a6⟩ := h
  exact ⟨a1.ch hc (h1 48 (by decide)) (h1 49 (by decide)), a2, a3.ch hc (h1 52 (by decide)), (hc.g 52 (h1 52 (by decide))).trans a4, a5.c hc (fun x hx => h1 x (by revert x; decide)), a6.ch hc (h1 53 (by decide)) (h1 54 (by decide)) (h1 55 (by decide))⟩
theorem readC_over {p : Nat} {mv side : Int} {Q : Sg → Prop} (hb : BdOK b) (hC : Cs s L B b p) (hmv : mv = 1) (hw : wnr b.n b.f b.g ≠ -1) (k : ∀ s', Ch [5, 6, 7, 8, 9] s s' → Cs s' L B b p → okP (Re_readCell_b29 mv side ((sk L B p : Nat) : Int) 1 s') Q) : okP (Re_readCell mv side s) Q := by
  unfold Re_readCell
  rw [hC.2.2.1.1, lett_eq, hmv, ifEq_f R1 R0 (by omega)]
  obtain ⟨q1, q2, q3, q4, q5, q6, q7⟩ := hC.2.2.2.2.2
  refine okP_bnd2 (Po_winner_ok hC.2.2.2.2.1 (p := 53) (by decide) q6 hb.2.1 q5 hb.2.2.2.2.1) ?_
  rintro y t - ⟨h1, h2⟩
  have h1 : Ch [5, 6, 7, 8, 9] s t := h1
  have h2 : y = wnr b.n b.f b.g := h2
  rw [h2, ifEq_f (R_tri (wnr_rg hb.2.2.2.2.1)) R_n1 hw]
  rw [hmv] at k
  exact k t h1 (hC.ch h1)
theorem readC_free {p : Nat} {mv side : Int} {Q : Sg → Prop} (hb : BdOK b) (hC : Cs s L B b p) (hmv : mv = 0 ∨ (mv = 1 ∧ wnr b.n b.f b.g = -1)) (k : ∀ s', Ch [5, 6, 7, 8, 9] s s' → Cs s' L B b p → okP (Re_readCell_b29 mv side ((sk L B p : Nat) : Int) 0 s') Q) : okP (Re_readCell mv side s) Q := by
  unfold Re_readCell Re_readCell_b28
  rw [hC.2.2.1.1, lett_eq]
  rcases hmv with hmv | ⟨hmv, hw⟩
  · rw [hmv, ifEq_t R0 R0 rfl]
    rw [hmv] at k
    exact k s (Ch.rf _ _) hC
  · rw [hmv, ifEq_f R1 R0 (by omega)]
    obtain ⟨q1, q2, q3, q4, q5, q6, q7⟩ := hC.2.2.2.2.2
    refine okP_bnd2 (Po_winner_ok hC.2.2.2.2.1 (p := 53) (by decide) q6 hb.2.1 q5 hb.2.2.2.2.1) ?_
    rintro y t - ⟨h1, h2⟩
    have h1 : Ch [5, 6, 7, 8, 9] s t := h1
    have h2 : y = wnr b.n b.f b.g := h2
    rw [h2, ifEq_t (R_tri (wnr_rg hb.2.2.2.2.1)) R_n1 hw]
    rw [hmv] at k
    exact k t h1 (hC.ch h1)
/-! the reference -/
theorem Ms.ch {t : Sg} {p : Nat} {M : List Nat} (h : Ms s L B b p) (hc : Ch M s t) (h1 : ∀ x ∈ [81, 86, 8008, 8009], x ∉ M := by decide) : Ms t L B b p := by
  obtain ⟨a1, a2, a3, a4⟩ := h
  exact ⟨a1.ch hc (h1 8008 (by decide)) (h1 86 (by decide)), a2, (hc.g8 9 (h1 8009 (by decide))).trans a3, a4.ch hc (h1 81 (by decide))⟩
theorem mfl {t : Sg} (hc : Ch Mks s t) (e : Int) (pl : Nat) : MFl s (0, si (si t 80 12 e) 80 13 (pl : Int)) e pl := ⟨((hc.mo (by decide)).tr (Ch.s8 (by decide))).tr (Ch.s8 (by decide)), rfl, by
  show gi (si (si t 80 12 e) 80 13 (pl : Int)) 80 12 = e
  rw [gi_si_k _ _ _ (by omega)]; exact gi_si_s _ _ _ _, gi_si_s _ _ _ _⟩
theorem mcA {p : Nat} {mv : Int} (hM : Ms s L B b p) (h : ¬ (ltr L B (sk L B p) ∧ rE L B 97 122 (sk L B p) = sk L B p + 1)) : okP (Mo_readCell mv s) (fun r => MFl s r 1 (sk L B p)) := by
  have h4 := hM.1.2.1
  have hq : sk L B p ≤ L := sk_le hM.2.1
  unfold Mo_readCell Mo_readCell_b20
  refine okP_bnd2 (letterM hM.1 hM.2.1 hM.2.2.1) ?_
  rintro y t - ⟨k1, k2, k3, k4⟩
  have k1 : Ch [8009, 8010] s t := k1
  have k3 : gi t 80 10 = ((sk L B p : Nat) : Int) := k3
  have k4 : y = bI (ltr L B (sk L B p)) := k4
  have fin : okP (bnd2 (Mo_fails 1 (gi t 80 10) t) fun y3 s4 => grd (b01 y3) <| some (y3, s4)) (fun r => MFl s r 1 (sk L B p)) := by
    rw [fails_eq, bnd2_some, grd_t (show b01 0 from Or.inl rfl), k3]
    exact okP_some (mfl (k1.mo (by decide)) 1 _)
  rw [k4]
  by_cases z : ltr L B (sk L B p)
  · have hne : rE L B 97 122 (sk L B p) ≠ sk L B p + 1 := fun w => h ⟨z, w⟩
    have e4 : rE L B 97 122 (sk L B p) ≤ L := rE_le hq
    rw [bI_t z, ifEq_f R1 R0 (by omega), wordEndM (hM.1.ch k1) hq k3, bnd_some, k3, ifEq_f (by unfold R; omega) R1 (by omega)]
    rw [k3] at fin
    exact fin
  · rw [bI_f z, ifEq_t R0 R0 rfl]
    exact fin
/-- up to the column -/
theorem mcB {p : Nat} {mv : Int} {Q : Int × Sg → Prop} (hM : Ms s L B b p) (hl : ltr L B (sk L B p)) (he : rE L B 97 122 (sk L B p) = sk L B p + 1) (k : ∀ t, Ch [8009, 8010] s t → gi t 80 9 = ((sk L B p : Nat) : Int) → okP (ifLt (B (sk L B p) - 97) (b.n : Int) (ifEq mv 0 (Mo_readCell_b81 ((sk L B p : Nat) : Int) (B (sk L B p) - 97) t) (bnd2 (Mo_winner t) fun y20 s21 => ifEq y20 (-1) (Mo_readCell_b81 ((sk L B p : Nat) : Int) (B (sk L B p) - 97) s21) (bnd2 (Mo_fails 4 ((sk L B p : Nat) : Int) s21) fun y22 s23 => grd (b01 y22) <| some (y22, s23)))) (bnd2 (Mo_fails 2 ((sk L B p : Nat) : Int) t) fun y25 s26 => grd (b01 y25) <| some (y25, s26))) Q) : okP (Mo_readCell mv s) Q := by
  have h4 := hM.1.2.1
  have hq : sk L B p ≤ L := sk_le hM.2.1
  unfold Mo_readCell
  refine okP_bnd2 (letterM hM.1 hM.2.1 hM.2.2.1) ?_
  rintro y t - ⟨k1, k2, k3, k4⟩
  have k1 : Ch [8009, 8010] s t := k1
  have k2 : gi t 80 9 = ((sk L B p : Nat) : Int) := k2
  have k3 : gi t 80 10 = ((sk L B p : Nat) : Int) := k3
  have k4 : y = bI (ltr L B (sk L B p)) := k4
  have hIt := hM.1.ch k1
  have hql := hl.1
  have eT : ((sk L B p : Nat) : Int).toNat = sk L B p := rfl
  have esx : sx (B (sk L B p)) = B (sk L B p) := by
    have := hl.2
    unfold sx
    split <;> omega
  have e81 : gi t 81 0 = (b.n : Int) := (hM.2.2.2.ch k1).1.1.2.2
  rw [k4, bI_t hl, ifEq_f R1 R0 (by omega), wordEndM hIt hq k3, bnd_some, k3, he, ifEq_t (by unfold R; omega) R1 (by omega), lett_eq, grd_t ⟨by omega, by omega⟩, eT, hIt.2.2.1 _ hql, esx, lett_eq, grd_t ⟨by omega, by omega⟩, e81]
  exact k t k1 k2
/-- the row, and the cell -/
theorem mcR {t : Sg} {q : Nat} {col : Int} (hM : InM t L B) (hP : MP t b) (hb : BdOK b) (hq : q < L) (h9 : gi t 80 9 = (q : Int)) (hcol : 0 ≤ col ∧ col < (b.n : Int)) :
    (¬ dgt L B (sk L B (q + 1)) → okP (Mo_readCell_b81 (q : Int) col t) (fun r => MFl t r 1 (sk L B (q + 1)))) ∧
    (dgt L B (sk L B (q + 1)) → ¬ (1 ≤ num L B (sk L B (q + 1)) ∧ num L B (sk L B (q + 1)) ≤ (b.n : Int)) → okP (Mo_readCell_b81 (q : Int) col t) (fun r => MFl t r 2 (sk L B (q + 1)))) ∧
    (dgt L B (sk L B (q + 1)) → (1 ≤ num L B (sk L B (q + 1)) ∧ num L B (sk L B (q + 1)) ≤ (b.n : Int)) → okP (Mo_readCell_b81 (q : Int) col t) (fun r => (b.f (b.n * (num L B (sk L B (q + 1)) - 1).toNat + col.toNat) = -1 → Ch Mks t r.2 ∧ r.1 = 1 ∧ gi r.2 80 16 = ((b.n * (num L B (sk L B (q + 1)) - 1).toNat + col.toNat : Nat) : Int) ∧ Ms r.2 L B b (rE L B 48 57 (sk L B (q + 1)))) ∧ (b.f (b.n * (num L B (sk L B (q + 1)) - 1).toNat + col.toNat) ≠ -1 → MFl t r 3 q))) := by
  have h4 := hM.2.1
  have hn9 := hb.1.2
  have h81 := nn_le hn9
  have c0 : Ch [8009] t (si t 80 9 ((q : Int) + 1)) := Ch.s8 (by decide)
  have h9' : gi (si t 80 9 ((q : Int) + 1)) 80 9 = ((q + 1 : Nat) : Int) := gi_si_s _ _ _ _
  have e81 : gi (si t 80 9 ((q : Int) + 1)) 81 0 = (b.n : Int) := (hP.ch c0).1.1.2.2
  have hI0 := hM.ch (t := si t 80 9 ((q : Int) + 1)) c0
  obtain ⟨⟨y, u⟩, e, m1, m2, m3⟩ := readsM (lo := 1) (hi' := (b.n : Int)) hI0 (show q + 1 ≤ L by omega) h9' (by omega) (by omega)
  have m1 : ¬ dgt L B (sk L B (q + 1)) → Ch [8009, 8010, 8012, 8013] (si t 80 9 ((q : Int) + 1)) u ∧ y = 0 ∧ gi u 80 12 = 1 ∧ gi u 80 13 = ((sk L B (q + 1) : Nat) : Int) := m1
  have m2 : dgt L B (sk L B (q + 1)) → ¬ (1 ≤ num L B (sk L B (q + 1)) ∧ num L B (sk L B (q + 1)) ≤ (b.n : Int)) → Ch [8009, 8010, 8012, 8013] (si t 80 9 ((q : Int) + 1)) u ∧ y = 0 ∧ gi u 80 12 = 2 ∧ gi u 80 13 = ((sk L B (q + 1) : Nat) : Int) := m2
  have m3 : dgt L B (sk L B (q + 1)) → (1 ≤ num L B (sk L B (q + 1)) ∧ num L B (sk L B (q + 1)) ≤ (b.n : Int)) → Ch [8009, 8010, 8011] (si t 80 9 ((q : Int) + 1)) u ∧ y = 1 ∧ gi u 80 9 = ((rE L B 48 57 (sk L B (q + 1)) : Nat) : Int) ∧ gi u 80 11 = num L B (sk L B (q + 1)) := m3
  refine ⟨fun z => ?_, fun z w => ?_, fun z w => ?_⟩
  · obtain ⟨n1, n2, n3, n4⟩ := m1 z
    unfold Mo_readCell_b81
    rw [h9, lett_eq, grd_t ⟨by omega, by omega⟩, e81, e, bnd2_some, n2, ifEq_t R0 R0 rfl]
    exact okP_some ⟨(c0.mo (by decide)).tr (n1.mo (by decide)), rfl, n3, n4⟩
  · obtain ⟨n1, n2, n3, n4⟩ := m2 z w
    unfold Mo_readCell_b81
    rw [h9, lett_eq, grd_t ⟨by omega, by omega⟩, e81, e, bnd2_some, n2, ifEq_t R0 R0 rfl]
    exact okP_some ⟨(c0.mo (by decide)).tr (n1.mo (by decide)), rfl, n3, n4⟩
  · obtain ⟨n1, n2, n3, n4⟩ := m3 z w
    obtain ⟨rr, er⟩ := Int.eq_ofNat_of_zero_le (show 0 ≤ num L B (sk L B (q + 1)) - 1 by omega)
    obtain ⟨cl, rfl⟩ := Int.eq_ofNat_of_zero_le hcol.1
    have eRT : (num L B (sk L B (q + 1)) - 1).toNat = rr := by omega
    have eCT : ((cl : Nat) : Int).toNat = cl := rfl
    have hc := cell_lt (n := b.n) (r := rr) (q := cl) (by omega) (by omega)
    rw [eRT, eCT]
    have c1 : Ch [8009, 8010, 8011] t u := (c0.mo (by decide)).tr n1
    have hPu := hP.ch c1
    have ecell : (b.n : Int) * (rr : Int) + (cl : Int) = ((b.n * rr + cl : Nat) : Int) := by simp
    have c2 : Ch [8016] u (si u 80 16 ((b.n * rr + cl : Nat) : Int)) := Ch.s8 (by decide)
    have e16 : gi (si u 80 16 ((b.n * rr + cl : Nat) : Int)) 80 16 = ((b.n * rr + cl : Nat) : Int) := gi_si_s _ _ _ _
    have e5 : (5 + ((b.n * rr + cl : Nat) : Int)).toNat = 5 + (b.n * rr + cl) := by omega
    have est : gi (si u 80 16 ((b.n * rr + cl : Nat) : Int)) 81 (5 + (b.n * rr + cl)) = b.f (b.n * rr + cl) := (hPu.ch c2).1.2 _ hc
    have eu81 : gi u 81 0 = (b.n : Int) := hPu.1.1.2.2
    have hIu : InM (si u 80 16 ((b.n * rr + cl : Nat) : Int)) L B := (hM.ch c1).ch c2
    unfold Mo_readCell_b81 Mo_readCell_b150
    rw [h9, lett_eq, grd_t ⟨by omega, by omega⟩, e81, e, bnd2_some, n2, ifEq_f R1 R0 (by omega), grd_t ⟨by omega, by omega⟩, n4, eu81, er]
    show okP (lett (si u 80 16 ((b.n : Int) * (rr : Int) + (cl : Int))) _) _
    rw [ecell, lett_eq, e16, grd_t ⟨by omega, by omega⟩, e5, est, ifEq_eq _ _ (hb.2.1.r hc) R_n1]
    have c3 : Ch Mks t (si u 80 16 ((b.n * rr + cl : Nat) : Int)) := (c1.mo (by decide)).tr (c2.mo (by decide))
    by_cases x : b.f (b.n * rr + cl) = -1
    · rw [if_pos x]
      refine okP_some ⟨fun _ => ⟨c3, rfl, e16, hIu, rE_le (sk_le (by omega)), ?_, hPu.ch c2⟩, fun w => absurd x w⟩
      show gi (si u 80 16 _) 80 9 = _
      rw [gi_si_k _ _ _ (by omega)]
      exact n3
    · rw [if_neg x, fails_eq, bnd2_some, ifEq_t R0 R0 rfl]
      exact okP_some ⟨fun w => absurd w x, fun _ => mfl c3 3 q⟩
theorem MFl.tr {t : Sg} {r : Int × Sg} {e : Int} {pl : Nat} (h1 : Ch Mks s t) (h2 : MFl t r e pl) : MFl s r e pl := ⟨(h1.mo (by decide)).tr h2.1, h2.2⟩
theorem cell_pair {p : Nat} {mv side : Int} (hB : ∀ i, i < L → 1 ≤ B i ∧ B i ≤ 255) (hL : L ≤ 400) (hb : BdOK b) (hmF : b.m + Fc b.n b.f ≤ b.n * b.n) (hmv : (mv = 0 ∧ (side = 0 ∨ side = 1)) ∨ mv = 1) (hp : p ≤ L) :
    (∃ e pl, (1 ≤ e ∧ e ≤ 4) ∧ pl ≤ L ∧ (∀ s, Cs s L B b p → okP (Re_readCell mv side s) (fun t => CFl s t e pl)) ∧ ∀ s, Ms s L B b p → okP (Mo_readCell mv s) (fun r => MFl s r e pl)) ∨
    ∃ c p', c < b.n * b.n ∧ b.f c = -1 ∧ sk L B p < p' ∧ p' ≤ L ∧ (∀ s, Cs s L B b p → okP (Re_readCell mv side s) (fun t => CRf s t ∧ Cs t L B (nbd mv side b c) p')) ∧ ∀ s, Ms s L B b p → okP (Mo_readCell mv s) (fun r => Ch Mks s r.2 ∧ r.1 = 1 ∧ gi r.2 80 16 = (c : Int) ∧ Ms r.2 L B b p') := by
  have hq : sk L B p ≤ L := sk_le hp
  have hn9 := hb.1.2
  have h81 := nn_le hn9
  have hmv2 : mv = 0 ∨ mv = 1 := by omega
  have hmR : R mv := R_01 hmv2
  by_cases a : ltr L B (sk L B p) ∧ rE L B 97 122 (sk L B p) = sk L B p + 1
  · obtain ⟨hl, he⟩ := a
    have hql := hl.1
    have hbR : R (B (sk L B p) - 97) := by
      have := hB _ hql
      unfold R; omega
    by_cases hc : B (sk L B p) - 97 < (b.n : Int)
    · by_cases ov : mv = 1 ∧ wnr b.n b.f b.g ≠ -1
      · refine Or.inl ⟨4, sk L B p, by omega, hq, fun s hC => ?_, fun s hM => ?_⟩
        · refine readC_over hb hC ov.1 ov.2 fun s' h1 h2 => ?_
          exact okP_mono (b29C h2.1 h2.2.2.1 hn9 h2.2.2.2.2.2 hl he hc) fun t ht => ht.tr h1.cr
        · refine mcB hM hl he fun t k1 k2 => ?_
          rw [ifLt_eq _ _ hbR (R_nat (by omega)), if_pos hc, ifEq_f hmR R0 (by omega)]
          have hPt := hM.2.2.2.ch k1
          refine okP_bnd2 (Mo_winner_ok hPt.1 hb.2.1 hPt.2.2.2.1 hb.2.2.2.2.1) ?_
          rintro y u - ⟨m1, m2⟩
          have m1 : Ch [87] t u := m1
          have m2 : y = wnr b.n b.f b.g := m2
          rw [m2, ifEq_f (R_tri (wnr_rg hb.2.2.2.2.1)) R_n1 ov.2, fails_eq, bnd2_some, grd_t (show b01 0 from Or.inl rfl)]
          exact okP_some (mfl ((k1.mo (by decide)).tr (m1.mo (by decide))) 4 _)
      · have hfree : mv = 0 ∨ (mv = 1 ∧ wnr b.n b.f b.g = -1) := by
          rcases hmv2 with h | h
          · exact Or.inl h
          · exact Or.inr ⟨h, Classical.byContradiction fun w => ov ⟨h, w⟩⟩
        have hcol : 0 ≤ B (sk L B p) - 97 ∧ B (sk L B p) - 97 < (b.n : Int) := ⟨by have := hl.2; omega, hc⟩
        have hr : sk L B (sk L B p + 1) ≤ L := sk_le (by omega)
        -- the reference comes to the row
        have mrow : ∀ {Q : Int × Sg → Prop} (s : Sg), Ms s L B b p → (∀ t, Ch Mks s t → InM t L B → MP t b → gi t 80 9 = ((sk L B p : Nat) : Int) → okP (Mo_readCell_b81 ((sk L B p : Nat) : Int) (B (sk L B p) - 97) t) Q) → okP (Mo_readCell mv s) Q := by
          intro Q s hM k
          refine mcB hM hl he fun t k1 k2 => ?_
          have hPt := hM.2.2.2.ch k1
          rw [ifLt_eq _ _ hbR (R_nat (by omega)), if_pos hc]
          rcases hfree with h | ⟨h, hw⟩
          · rw [ifEq_t hmR R0 h]
            exact k t (k1.mo (by decide)) (hM.1.ch k1) hPt k2
          · rw [ifEq_f hmR R0 (by omega)]
            refine okP_bnd2 (Mo_winner_ok hPt.1 hb.2.1 hPt.2.2.2.1 hb.2.2.2.2.1) ?_
            rintro y u - ⟨m1, m2⟩
            have m1 : Ch [87] t u := m1
            have m2 : y = wnr b.n b.f b.g := m2
            rw [m2, ifEq_t (R_tri (wnr_rg hb.2.2.2.2.1)) R_n1 hw]
            exact k u ((k1.mo (by decide)).tr (m1.mo (by decide))) ((hM.1.ch k1).ch m1) (hPt.ch m1) ((m1.g8 9).trans k2)
        have crow : ∀ {Q : Sg → Prop} (s : Sg), Cs s L B b p → (∀ s' t, CRf s s' → Cs s' L B b p → AF s' t → Tok t L B (sk L B (sk L B p + 1)) → okP (bnd2 (Re_readRow t) fun y12 s13 => Re_readCell_b54 mv side ((sk L B p : Nat) : Int) (B (sk L B p) - 97) y12 s13) Q) → okP (Re_readCell mv side s) Q := by
          intro Q s hC k
          refine readC_free hb hC hfree fun s' h1 h2 => ?_
          exact b29D h2.1 h2.2.2.1 hn9 h2.2.2.2.2.2 h2.2.2.2.1 hl he hc fun t m1 m2 => k s' t h1.cr h2 m1 m2
        by_cases d : dgt L B (sk L B (sk L B p + 1))
        · by_cases rg : 1 ≤ num L B (sk L B (sk L B p + 1)) ∧ num L B (sk L B (sk L B p + 1)) ≤ (b.n : Int)
          · obtain ⟨rr, er⟩ := Int.eq_ofNat_of_zero_le (show 0 ≤ num L B (sk L B (sk L B p + 1)) - 1 by omega)
            obtain ⟨cl, ecl⟩ := Int.eq_ofNat_of_zero_le hcol.1
            have hcc := cell_lt (n := b.n) (r := rr) (q := cl) (by omega) (by omega)
            have eRT : (num L B (sk L B (sk L B p + 1)) - 1).toNat = rr := by omega
            have eCT : (B (sk L B p) - 97).toNat = cl := by omega
            have a54 : alen 54 = 81 := rfl
            -- the class at the cell
            have ccell : ∀ {Q : Sg → Prop} (s : Sg), Cs s L B b p → (∀ u, CRf s u → Cs u L B b (rE L B 48 57 (sk L B (sk L B p + 1))) → okP (ifEq (b.f (b.n * rr + cl)) (-1) (ifEq mv 0 (bnd (Po_place 53 ((b.n * rr + cl : Nat) : Int) side u) fun s7 => some s7) (bnd (Po_play 53 ((b.n * rr + cl : Nat) : Int) u) fun s9 => some s9)) (bnd (Re_fail 3 ((sk L B p : Nat) : Int) u) fun s11 => some s11)) Q) → okP (Re_readCell mv side s) Q := by
              intro Q s hC k
              refine crow s hC fun s' t h1 h2 h3 h4 => ?_
              obtain ⟨i1, i2, i3, i4, i5, i6⟩ := h2
              have it := i1.ch h3.1
              have pt : CP t 53 b := i6.ch h3.1
              refine okP_bnd2 (rrC it h4 hr hn9 pt d rg) ?_
              rintro y u - ⟨m1, m2, m3⟩
              have m1 : AF t u := m1
              have m2 : Tok u L B (sk L B (rE L B 48 57 (sk L B (sk L B p + 1)))) := m2
              have m3 : y = num L B (sk L B (sk L B p + 1)) - 1 := m3
              have e8 : gi u 52 8 = 0 := ((m1.2 8 (by omega)).trans (h3.2 8 (by omega))).trans i4
              have gu : GridOK u b.n := (i5.c h3.1).c m1.1
              have pu : CP u 53 b := pt.ch m1.1
              have hCu : Cs u L B b (rE L B 48 57 (sk L B (sk L B p + 1))) := ⟨it.ch m1.1, rE_le hr, m2, e8, gu, pu⟩
              have est : Po_stone 53 ((b.n * rr + cl : Nat) : Int) u = some (b.f (b.n * rr + cl)) := by
                unfold Po_stone
                show bnd (Hx_at 54 ((b.n * rr + cl : Nat) : Int) u) _ = _
                rw [Hx_at_n (by omega), bnd_some, show gi u 54 (b.n * rr + cl) = b.f (b.n * rr + cl) from pu.2.2.2.2.2.1 _ hcc]
              unfold Re_readCell_b54
              rw [e8, ifEq_t R0 R0 rfl, m3, er, ecl]
              show okP (bnd (Gr_cellAt (rr : Int) (cl : Int) u) _) _
              rw [Gr_cellAt_eq gu.2.2.1 hn9 (R_nat (by omega)) (R_nat (by omega)), bnd_some, cellv_nat (by omega) (by omega), est, bnd_some]
              exact k u ((h1.tr h3.cr).tr m1.cr) hCu
            by_cases fr : b.f (b.n * rr + cl) = -1
            · have hF := Fc_ups (n := b.n) (f := b.f) (p := b.t) hcc fr (by have := hb.2.2.2.1; omega)
              refine Or.inr ⟨b.n * rr + cl, rE L B 48 57 (sk L B (sk L B p + 1)), hcc, fr, ?_, rE_le hr, fun s hC => ?_, fun s hM => ?_⟩
              · have h1 := sk_ge (L := L) (B := B) (sk L B p + 1)
                have h2 := rE_ge (L := L) (B := B) 48 57 (sk L B (sk L B p + 1))
                omega
              · refine ccell s hC fun u h1 h2 => ?_
                rw [ifEq_t (hb.2.1.r hcc) R_n1 fr]
                obtain ⟨i1, i2, i3, i4, i5, i6⟩ := h2
                unfold nbd
                rcases hmv2 with h | h
                · have epl : Po_place 53 ((b.n * rr + cl : Nat) : Int) side u = some (si u 54 (b.n * rr + cl) side) := by
                    unfold Po_place
                    show bnd (Hx_set 54 ((b.n * rr + cl : Nat) : Int) side u) _ = _
                    rw [Hx_set_n (by omega), bnd_some]
                  have c1 : Ch [54] u (si u 54 (b.n * rr + cl) side) := Ch.si (by decide)
                  rw [ifEq_t hmR R0 h, epl, bnd_some, if_neg (by omega)]
                  exact okP_some ⟨h1.tr c1.cr, i1.ch c1, i2, i3.ch c1, (c1.g 52).trans i4, i5.c c1, CP_pst53 i6 _ _⟩
                · rw [ifEq_f hmR R0 (by omega), if_pos h]
                  refine okP_bnd (Po_play_ok (Or.inr rfl) hb (by omega) hcc i6) ?_
                  rintro v - ⟨l1, l2⟩
                  have l1 : Ch [53, 54, 55] u v := l1
                  exact okP_some ⟨h1.tr l1.cr, i1.ch l1, i2, i3.ch l1, (l1.g 52).trans i4, i5.c l1, l2⟩
              · refine mrow s hM fun t k1 k2 k3 k4 => ?_
                have k := (mcR k2 k3 hb hql k4 hcol).2.2 d rg
                rw [eRT, eCT] at k
                refine okP_mono k fun r ⟨n1, _⟩ => ?_
                obtain ⟨n1, n2, n3, n4⟩ := n1 fr
                exact ⟨k1.tr n1, n2, n3, n4⟩
            · refine Or.inl ⟨3, sk L B p, by omega, hq, fun s hC => ?_, fun s hM => ?_⟩
              · refine ccell s hC fun u h1 h2 => ?_
                rw [ifEq_f (hb.2.1.r hcc) R_n1 fr]
                show okP (some (si (si u 52 8 3) 52 9 ((sk L B p : Nat) : Int))) _
                exact okP_some ((fl_cr 3 _).tr h1)
              · refine mrow s hM fun t k1 k2 k3 k4 => ?_
                have k := (mcR k2 k3 hb hql k4 hcol).2.2 d rg
                rw [eRT, eCT] at k
                exact okP_mono k fun r ⟨_, n1⟩ => (n1 fr).tr k1
          · refine Or.inl ⟨2, sk L B (sk L B p + 1), by omega, hr, fun s hC => ?_, fun s hM => ?_⟩
            · refine crow s hC fun s' t h1 h2 h3 h4 => ?_
              have f := fl_cr (s := t) 2 (sk L B (sk L B p + 1))
              rw [rrB h4 hn9 (h2.2.2.2.2.2.ch h3.1) d rg, bnd2_some]
              unfold Re_readCell_b54
              rw [f.2.1, ifEq_f (by unfold R; omega) R0 (by omega)]
              exact okP_some (f.tr (h1.tr h3.cr))
            · refine mrow s hM fun t k1 k2 k3 k4 => ?_
              exact okP_mono ((mcR k2 k3 hb hql k4 hcol).2.1 d rg) fun r n1 => n1.tr k1
        · refine Or.inl ⟨1, sk L B (sk L B p + 1), by omega, hr, fun s hC => ?_, fun s hM => ?_⟩
          · refine crow s hC fun s' t h1 h2 h3 h4 => ?_
            have f := fl_cr (s := t) 1 (sk L B (sk L B p + 1))
            rw [rrA h4 d, bnd2_some]
            unfold Re_readCell_b54
            rw [f.2.1, ifEq_f R1 R0 (by omega)]
            exact okP_some (f.tr (h1.tr h3.cr))
          · refine mrow s hM fun t k1 k2 k3 k4 => ?_
            exact okP_mono ((mcR k2 k3 hb hql k4 hcol).1 d) fun r n1 => n1.tr k1
    · refine Or.inl ⟨2, sk L B p, by omega, hq, fun s hC => ?_, fun s hM => ?_⟩
      · have go : ∀ over s', Ch [5, 6, 7, 8, 9] s s' → Cs s' L B b p → okP (Re_readCell_b29 mv side ((sk L B p : Nat) : Int) over s') (fun t => CFl s t 2 (sk L B p)) := fun over s' h1 h2 => okP_mono (b29B h2.1 h2.2.2.1 hn9 h2.2.2.2.2.2 hl he hc) fun t ht => ht.tr h1.cr
        by_cases ov : mv = 1 ∧ wnr b.n b.f b.g ≠ -1
        · exact readC_over hb hC ov.1 ov.2 (go 1)
        · refine readC_free hb hC ?_ (go 0)
          rcases hmv2 with h | h
          · exact Or.inl h
          · exact Or.inr ⟨h, Classical.byContradiction fun w => ov ⟨h, w⟩⟩
      · refine mcB hM hl he fun t k1 k2 => ?_
        rw [ifLt_eq _ _ hbR (R_nat (by omega)), if_neg hc, fails_eq, bnd2_some, grd_t (show b01 0 from Or.inl rfl)]
        exact okP_some (mfl (k1.mo (by decide)) 2 _)
  · refine Or.inl ⟨1, sk L B p, by omega, hq, fun s hC => ?_, fun s hM => mcA hM a⟩
    have go : ∀ over s', Ch [5, 6, 7, 8, 9] s s' → Cs s' L B b p → okP (Re_readCell_b29 mv side ((sk L B p : Nat) : Int) over s') (fun t => CFl s t 1 (sk L B p)) := fun over s' h1 h2 => okP_mono (b29A h2.2.2.1 hq hL a) fun t ht => ht.tr h1.cr
    by_cases ov : mv = 1 ∧ wnr b.n b.f b.g ≠ -1
    · exact readC_over hb hC ov.1 ov.2 (go 1)
    · refine readC_free hb hC ?_ (go 0)
      rcases hmv2 with h | h
      · exact Or.inl h
      · exact Or.inr ⟨h, Classical.byContradiction fun w => ov ⟨h, w⟩⟩
end PAI

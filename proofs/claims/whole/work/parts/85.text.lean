/-! ===== both read a statement, and the text, alike ===== -/
section TXT
variable {L : Nat} {B : Nat → Int} {s : Sg} {b : Bd}
theorem wd_ne {w w' q : Nat} (hw : w < 6) (hw' : w' < 6) (hne : w ≠ w') (h : wd L B w q) : ¬ wd L B w' q := by
  have k : ∀ w, w < 6 → ∀ w', w' < 6 → w ≠ w' → wlen w ≠ wlen w' ∨ ∃ i, i < wlen w ∧ wch w i ≠ wch w' i := by decide +kernel
  intro h'
  have e : wlen w = wlen w' := by
    have h1 := h.2.1
    have h2 := h'.2.1
    omega
  rcases k w hw w' hw' hne with z | ⟨i, hi', z⟩
  · exact z e
  · exact z ((h.2.2 i hi').symm.trans (h'.2.2 i (by omega)))
/-- which side's word it is -/
noncomputable def sdw (L : Nat) (B : Nat → Int) (q : Nat) : Int := @ite _ (wd L B 4 q) (Classical.propDecidable _) 0 (@ite _ (wd L B 5 q) (Classical.propDecidable _) 1 (-1))
theorem sideWord_eq {q : Nat} (hI : InC s L B) (hT : Tok s L B q) (hq : q ≤ L) : Re_sideWord s = some (sdw L B q) := by
  unfold Re_sideWord sdw
  rw [isWord_eq (by omega) hI hT hq, bnd_some]
  by_cases z : wd L B 4 q
  · rw [bI_t z, ifEq_f R1 R0 (by omega), if_pos z]
  · rw [bI_f z, ifEq_t R0 R0 rfl, if_neg z, isWord_eq (by omega) hI hT hq, bnd_some]
    by_cases y : wd L B 5 q
    · rw [bI_t y, ifEq_f R1 R0 (by omega), if_pos y]
    · rw [bI_f y, ifEq_t R0 R0 rfl, if_neg y]
theorem CP_ptn53 (h : CP s 53 b) (t : Int) : CP (si s 53 5 t) 53 (ptn b t) := by
  obtain ⟨p1, p2, p3, p4, p5, p6, p7⟩ := h
  have o : ∀ k, k ≠ 5 → gi (si s 53 5 t) 53 k = gi s 53 k := fun k hk => gi_si_k _ _ _ hk
  exact ⟨(o 2 (by omega)).trans p1, (o 3 (by omega)).trans p2, (o 4 (by omega)).trans p3, gi_si_s _ _ _ _, (o 6 (by omega)).trans p5, fun c hc => (gi_si_o s (o := 53) (b := 54) 5 c t (by omega)).trans (p6 c hc), fun i hi' => (gi_si_o s (o := 53) (b := 55) 5 i t (by omega)).trans (p7 i hi')⟩
/-- a word is behind us -/
theorem next_ok {w p : Nat} (hC : Cs s L B b p) (hw : wd L B w (sk L B p)) : okP (Re_advance s) (fun t => CRf s t ∧ Cs t L B b (rE L B 97 122 (sk L B p))) := by
  obtain ⟨i1, i2, i3, i4, i5, i6⟩ := hC
  refine okP_mono (advance_ok i1 (rE_le (sk_le i2)) (i3.2.1 hw.1).2) fun t ⟨h1, h2⟩ => ⟨h1.cr, i1.ch h1.1, rE_le (sk_le i2), h2, (h1.2 8 (by omega)).trans i4, i5.c h1.1, i6.ch h1.1⟩
def SOut (L : Nat) (B : Nat → Int) (b : Bd) (p : Nat) (fC : Sg → Option Sg) (fM : Sg → Option (Int × Sg)) : Prop :=
  (∃ e pl, (1 ≤ e ∧ e ≤ 4) ∧ pl ≤ L ∧ (∀ s, Cs s L B b p → okP (fC s) (fun t => CFl s t e pl)) ∧ ∀ s, Ms s L B b p → okP (fM s) (fun r => MFl s r e pl)) ∨
  ∃ b' p', BdOK b' ∧ b'.n = b.n ∧ b'.m + Fc b'.n b'.f ≤ b'.n * b'.n ∧ p ≤ p' ∧ p' ≤ L ∧ (∀ s, Cs s L B b p → okP (fC s) (fun t => CRf s t ∧ Cs t L B b' p')) ∧ ∀ s, Ms s L B b p → okP (fM s) (fun r => Ch Mks s r.2 ∧ r.1 = 1 ∧ Ms r.2 L B b' p')
theorem turn_pair (hb : BdOK b) (hmF : b.m + Fc b.n b.f ≤ b.n * b.n) {p : Nat} (hp : p ≤ L) : SOut L B b p Re_readTurn Mo_readTurn := by
  have hq : sk L B p ≤ L := sk_le hp
  have key : ∀ (v : Int) (w : Nat), (w = 4 ∧ v = 0) ∨ (w = 5 ∧ v = 1) → wd L B w (sk L B p) → SOut L B b p Re_readTurn Mo_readTurn := by
    intro v w hv hw
    have hvr : v = 0 ∨ v = 1 := by omega
    have hw6 : w < 6 := by omega
    have esd : sdw L B (sk L B p) = v := by
      unfold sdw
      rcases hv with ⟨rfl, rfl⟩ | ⟨rfl, rfl⟩
      · rw [if_pos hw]
      · rw [if_neg (wd_ne (by omega) (by omega) (by omega) hw), if_pos hw]
    have e1 := rE_ge (L := L) (B := B) 97 122 (sk L B p)
    have e2 := sk_ge (L := L) (B := B) p
    refine Or.inr ⟨ptn b v, rE L B 97 122 (sk L B p), ptn_ok hb hvr, rfl, hmF, by omega, rE_le hq, fun s hC => ?_, fun s hM => ?_⟩
    · obtain ⟨i1, i2, i3, i4, i5, i6⟩ := id hC
      have c1 : Ch [53] s (si s 53 5 v) := Ch.si (by decide)
      have hC1 : Cs (si s 53 5 v) L B (ptn b v) p := ⟨i1.ch c1, i2, i3.ch c1, (c1.g 52).trans i4, i5.c c1, CP_ptn53 i6 v⟩
      unfold Re_readTurn
      rw [sideWord_eq i1 i3 hq, bnd_some, esd, ifEq_f (R_01 hvr) R_n1 (by omega), lett_eq]
      refine okP_bnd (next_ok hC1 hw) ?_
      rintro t - ⟨h1, h2⟩
      exact okP_some ⟨c1.cr.tr h1, h2⟩
    · obtain ⟨i1, i2, i3, i4⟩ := id hM
      have fin : ∀ t, Ch [8009, 8010] s t → gi t 80 9 = ((rE L B 97 122 (sk L B p) : Nat) : Int) → okP (some ((1 : Int), si t 81 2 v)) (fun r => Ch Mks s r.2 ∧ r.1 = 1 ∧ Ms r.2 L B (ptn b v) (rE L B 97 122 (sk L B p))) := fun t h1 h2 => by
        have c1 : Ch [81] t (si t 81 2 v) := Ch.si (by decide)
        exact okP_some ⟨(h1.mo (by decide)).tr (c1.mo (by decide)), rfl, (i1.ch h1).ch c1, rE_le hq, (c1.g8 9).trans h2, MP_ptn (i4.ch h1) v⟩
      unfold Mo_readTurn
      refine okP_bnd2 (takesM (w := 4) (by omega) i1 i2 i3) ?_
      rintro y t - ⟨k1, k2, k3, k4, k5⟩
      have k1 : Ch [8009, 8010] s t := k1
      have k3 : y = bI (wd L B 4 (sk L B p)) := k3
      have k4 : wd L B 4 (sk L B p) → gi t 80 9 = ((rE L B 97 122 (sk L B p) : Nat) : Int) := k4
      have k5 : ¬ wd L B 4 (sk L B p) → gi t 80 9 = ((sk L B p : Nat) : Int) := k5
      rw [k3]
      rcases hv with ⟨rfl, rfl⟩ | ⟨rfl, rfl⟩
      · rw [bI_t hw, ifEq_f R1 R0 (by omega), grd_t ⟨by omega, by omega⟩, lett_eq]
        exact fin t k1 (k4 hw)
      · have hn4 := wd_ne (w' := 4) (by omega) (by omega) (by omega) hw
        rw [bI_f hn4, ifEq_t R0 R0 rfl]
        refine okP_bnd2 (takesM (w := 5) (by omega) (i1.ch k1) hq (k5 hn4)) ?_
        rintro y' u - ⟨m1, m2, m3, m4, m5⟩
        have m1 : Ch [8009, 8010] t u := m1
        have m3 : y' = bI (wd L B 5 (sk L B (sk L B p))) := m3
        have m4 : wd L B 5 (sk L B (sk L B p)) → gi u 80 9 = ((rE L B 97 122 (sk L B (sk L B p)) : Nat) : Int) := m4
        rw [sk_sk] at m3 m4
        rw [m3, bI_t hw, ifEq_f R1 R0 (by omega), grd_t ⟨by omega, by omega⟩, lett_eq]
        exact fin u (k1.tr m1) (m4 hw)
  by_cases z4 : wd L B 4 (sk L B p)
  · exact key 0 4 (Or.inl ⟨rfl, rfl⟩) z4
  · by_cases z5 : wd L B 5 (sk L B p)
    · exact key 1 5 (Or.inr ⟨rfl, rfl⟩) z5
    · have esd : sdw L B (sk L B p) = -1 := by
        unfold sdw
        rw [if_neg z4, if_neg z5]
      refine Or.inl ⟨1, sk L B p, by omega, hq, fun s hC => ?_, fun s hM => ?_⟩
      · obtain ⟨i1, i2, i3, i4, i5, i6⟩ := hC
        unfold Re_readTurn
        rw [sideWord_eq i1 i3 hq, bnd_some, esd, ifEq_t R_n1 R_n1 rfl, i3.1]
        exact okP_some (fl_cr 1 _)
      · obtain ⟨i1, i2, i3, i4⟩ := hM
        unfold Mo_readTurn
        refine okP_bnd2 (takesM (w := 4) (by omega) i1 i2 i3) ?_
        rintro y t - ⟨k1, k2, k3, k4, k5⟩
        have k1 : Ch [8009, 8010] s t := k1
        have k3 : y = bI (wd L B 4 (sk L B p)) := k3
        have k5 : ¬ wd L B 4 (sk L B p) → gi t 80 9 = ((sk L B p : Nat) : Int) := k5
        rw [k3, bI_f z4, ifEq_t R0 R0 rfl]
        refine okP_bnd2 (takesM (w := 5) (by omega) (i1.ch k1) hq (k5 z4)) ?_
        rintro y' u - ⟨m1, m2, m3, m4, m5⟩
        have m1 : Ch [8009, 8010] t u := m1
        have m2 : gi u 80 10 = ((sk L B (sk L B p) : Nat) : Int) := m2
        have m3 : y' = bI (wd L B 5 (sk L B (sk L B p))) := m3
        rw [sk_sk] at m2 m3
        rw [m3, bI_f z5, ifEq_t R0 R0 rfl, fails_eq, bnd2_some, grd_t (show b01 0 from Or.inl rfl), m2]
        exact okP_some (mfl ((k1.tr m1).mo (by decide)) 1 _)
theorem SOut.pre {p p1 : Nat} {fC gC : Sg → Option Sg} {fM gM : Sg → Option (Int × Sg)} (hpp : p ≤ p1) (h : SOut L B b p1 fC fM) (kC : ∀ {Q : Sg → Prop} s, Cs s L B b p → (∀ s', CRf s s' → Cs s' L B b p1 → okP (fC s') Q) → okP (gC s) Q) (kM : ∀ {Q : Int × Sg → Prop} s, Ms s L B b p → (∀ s', Ch Mks s s' → Ms s' L B b p1 → okP (fM s') (fun r => b01 r.1 ∧ Q r)) → okP (gM s) Q) : SOut L B b p gC gM := by
  rcases h with ⟨e, pl, he, hpl, hC, hM⟩ | ⟨b', p', h1, h2, h3, h4, h5, hC, hM⟩
  · exact Or.inl ⟨e, pl, he, hpl, fun s hs => kC s hs fun s' m1 m2 => okP_mono (hC s' m2) fun t ht => ht.tr m1, fun s hs => kM s hs fun s' m1 m2 => okP_mono (hM s' m2) fun r hr => ⟨Or.inl hr.2.1, hr.tr m1⟩⟩
  · exact Or.inr ⟨b', p', h1, h2, h3, Nat.le_trans hpp h4, h5, fun s hs => kC s hs fun s' m1 m2 => okP_mono (hC s' m2) fun t ht => ⟨m1.tr ht.1, ht.2⟩, fun s hs => kM s hs fun s' m1 m2 => okP_mono (hM s' m2) fun r ⟨r1, r2, r3⟩ => ⟨Or.inr r2, m1.tr r1, r2, r3⟩⟩
/-- a result is handed on -/
theorem hand {m : Option (Int × Sg)} {Q : Int × Sg → Prop} (h : okP m (fun r => b01 r.1 ∧ Q r)) : okP (bnd2 m fun y s => grd (b01 y) <| some (y, s)) Q := by
  refine okP_bnd2 h ?_
  rintro y t - ⟨k1, k2⟩
  rw [grd_t k1]
  exact okP_some k2
/-- the loops over cells, as the statements call them -/
theorem cells_out (hB : ∀ i, i < L → 1 ≤ B i ∧ B i ≤ 255) (hL : L ≤ 400) {mv side : Int} (hmv : Hmv mv side) (hb : BdOK b) (hmF : b.m + Fc b.n b.f ≤ b.n * b.n) {p : Nat} (hp : p ≤ L) : SOut L B b p (fun s => Re_readStatement_l58 mv side 0 s) (fun s => if mv = 1 then Mo_readMoves s else Mo_readStones side s) := by
  have h81 := nn_le hb.1.2
  have eM : ∀ s, (if mv = 1 then Mo_readMoves s else Mo_readStones side s) = bnd (whl (mlp mv side) s) (fun r => match r with | .inl ρ => some ((0 : Int), ρ) | .inr ρ => some (1, ρ)) := by
    intro s
    by_cases h : mv = 1
    · have e : mlp mv side = fun σ : Sg => Mo_readMoves_t0 σ := funext fun σ => by unfold mlp; rw [if_pos h]
      rw [if_pos h, e]
      rfl
    · have e : mlp mv side = fun σ : Sg => Mo_readStones_t0 side σ := funext fun σ => by unfold mlp; rw [if_neg h]
      rw [if_neg h, e]
      rfl
  rcases cells_pair hB hL hmv (Fc b.n b.f) b p (Nat.le_refl _) hb hmF hp with ⟨e, pl, he, hpl, kC, kM⟩ | ⟨b', p', h1, h2, h3, h4, h5, kC, kM⟩
  · refine Or.inl ⟨e, pl, he, hpl, fun s hC => ?_, fun s hM => ?_⟩
    · show okP (Re_readStatement_l58 mv side 0 s) _
      unfold Re_readStatement_l58
      refine okP_bnd (kC s 0 hC (by omega) (by omega) (Or.inl rfl)) ?_
      rintro t - ht
      exact okP_some ht
    · show okP (if mv = 1 then Mo_readMoves s else Mo_readStones side s) _
      rw [eM]
      refine okP_bnd (kM s hM) ?_
      rintro r - ⟨t, rfl, ht⟩
      exact okP_some ht
  · refine Or.inr ⟨b', p', h1, h2, h3, h4, h5, fun s hC => ?_, fun s hM => ?_⟩
    · show okP (Re_readStatement_l58 mv side 0 s) _
      unfold Re_readStatement_l58
      refine okP_bnd (kC s 0 hC (by omega) (by omega) (Or.inl rfl)) ?_
      rintro t - ht
      exact okP_some ht
    · show okP (if mv = 1 then Mo_readMoves s else Mo_readStones side s) _
      rw [eM]
      refine okP_bnd (kM s hM) ?_
      rintro r - ⟨t, rfl, t1, t2⟩
      exact okP_some ⟨t1, rfl, t2⟩
/-- the reference looks for the words of a statement, one behind the other -/
theorem word_no {w p : Nat} {α : Type} {Q : α → Prop} {m : Int → Sg → Option α} (hw : w < 6) (hM : Ms s L B b p) (hp : sk L B p = p) (hn : ¬ wd L B w p) (k : ∀ t, Ch [8009, 8010] s t → Ms t L B b p → gi t 80 10 = (p : Int) → okP (m 0 t) Q) : okP (bnd2 (Mo_takes (w + 10) s) m) Q := by
  obtain ⟨i1, i2, i3, i4⟩ := hM
  refine okP_bnd2 (takesM hw i1 i2 i3) ?_
  rintro y t - ⟨k1, k2, k3, k4, k5⟩
  have k1 : Ch [8009, 8010] s t := k1
  have k2 : gi t 80 10 = ((sk L B p : Nat) : Int) := k2
  have k3 : y = bI (wd L B w (sk L B p)) := k3
  have k5 : ¬ wd L B w (sk L B p) → gi t 80 9 = ((sk L B p : Nat) : Int) := k5
  rw [hp] at k2 k3 k5
  rw [k3, bI_f hn]
  exact k t k1 ⟨i1.ch k1, i2, k5 hn, i4.ch k1⟩ k2
theorem word_yes {w p : Nat} {α : Type} {Q : α → Prop} {m : Int → Sg → Option α} (hw : w < 6) (hM : Ms s L B b p) (hy : wd L B w (sk L B p)) (k : ∀ t, Ch [8009, 8010] s t → Ms t L B b (rE L B 97 122 (sk L B p)) → okP (m 1 t) Q) : okP (bnd2 (Mo_takes (w + 10) s) m) Q := by
  obtain ⟨i1, i2, i3, i4⟩ := hM
  refine okP_bnd2 (takesM hw i1 i2 i3) ?_
  rintro y t - ⟨k1, k2, k3, k4, k5⟩
  have k1 : Ch [8009, 8010] s t := k1
  have k3 : y = bI (wd L B w (sk L B p)) := k3
  have k4 : wd L B w (sk L B p) → gi t 80 9 = ((rE L B 97 122 (sk L B p) : Nat) : Int) := k4
  rw [k3, bI_t hy]
  exact k t k1 ⟨i1.ch k1, rE_le (sk_le i2), k4 hy, i4.ch k1⟩
/-- the first no of the reference's questions: from any place to the token's -/
theorem first_no {w p : Nat} {α : Type} {Q : α → Prop} {m : Int → Sg → Option α} (hw : w < 6) (hM : Ms s L B b p) (hn : ¬ wd L B w (sk L B p)) (k : ∀ t, Ch [8009, 8010] s t → Ms t L B b (sk L B p) → gi t 80 10 = ((sk L B p : Nat) : Int) → okP (m 0 t) Q) : okP (bnd2 (Mo_takes (w + 10) s) m) Q := by
  obtain ⟨i1, i2, i3, i4⟩ := hM
  refine okP_bnd2 (takesM hw i1 i2 i3) ?_
  rintro y t - ⟨k1, k2, k3, k4, k5⟩
  have k1 : Ch [8009, 8010] s t := k1
  have k2 : gi t 80 10 = ((sk L B p : Nat) : Int) := k2
  have k3 : y = bI (wd L B w (sk L B p)) := k3
  have k5 : ¬ wd L B w (sk L B p) → gi t 80 9 = ((sk L B p : Nat) : Int) := k5
  rw [k3, bI_f hn]
  exact k t k1 ⟨i1.ch k1, sk_le i2, k5 hn, i4.ch k1⟩ k2
end TXT

/-! ===== both read a statement, and the text, alike ===== -/
section TXT
variable {L : Nat} {B : Nat → Int} {s : Sg} {b : Bd}
theorem wd_ne {w w' q : Nat} (hw : w < 6) (hw' : w' < 6) (hne : w ≠ w') (h : wd L B w q) : ¬ wd L B w' q := by
  have k : ∀ w, w < 6 → ∀ w', w' < 6 → w ≠ w' → wlen w ≠ wlen w' ∨ ∃ i, i < wlen w ∧ wch w i ≠ wch w' i := by decide +kernel
  intro h'
  have e : wlen w = wlen w' := by
    have h1 := h.2.1
    have h2 := h'.2.1
    omega
  rcases k w hw w' hw' hne with z | ⟨i, hi', z⟩
  · exact z e
  · exact z ((h.2.2 i hi').symm.trans (h'.2.2 i (by omega)))
/-- which side's word it is -/
noncomputable def sdw (L : Nat) (B : Nat → Int) (q : Nat) : Int := @ite _ (wd L B 4 q) (Classical.propDecidable _) 0 (@ite _ (wd L B 5 q) (Classical.propDecidable _) 1 (-1))
theorem sideWord_eq {q : Nat} (hI : InC s L B) (hT : Tok s L B q) (hq : q ≤ L) : Re_sideWord s = some (sdw L B q) := by
  unfold Re_sideWord sdw
  rw [isWord_eq (by omega) hI hT hq, bnd_some]
  by_cases z : wd L B 4 q
  · rw [bI_t z, ifEq_f R1 R0 (by omega), if_pos z]
  · rw [bI_f z, ifEq_t R0 R0 rfl, if_neg z, isWord_eq (by omega) hI hT hq, bnd_some]
    by_cases y : wd L B 5 q
    · rw [bI_t y, ifEq_f R1 R0 (by omega), if_pos y]
    · rw [bI_f y, ifEq_t R0 R0 rfl, if_neg y]
theorem CP_ptn53 (h : CP s 53 b) (t : Int) : CP (si s 53 5 t) 53 (ptn b t) := by
  obtain ⟨p1, p2, p3, p4, p5, p6, p7⟩ := h
  have o : ∀ k, k ≠ 5 → gi (si s 53 5 t) 53 k = gi s 53 k := fun k hk => gi_si_k _ _ _ hk
  exact ⟨(o 2 (by omega)).trans p1, (o 3 (by omega)).trans p2, (o 4 (by omega)).trans p3, gi_si_s _ _ _ _, (o 6 (by omega)).trans p5, fun c hc => (gi_si_o s (o := 53) (b := 54) 5 c t (by omega)).trans (p6 c hc), fun i hi' => (gi_si_o s (o := 53) (b := 55) 5 i t (by omega)).trans (p7 i hi')⟩
/-- a word is behind us -/
theorem next_ok {w p : Nat} (hC : Cs s L B b p) (hw : wd L B w (sk L B p)) : okP (Re_advance s) (fun t => CRf s t ∧ Cs t L B b (rE L B 97 122 (sk L B p))) := by
  obtain ⟨i1, i2, i3, i4, i5, i6⟩ := hC
  refine okP_mono (advance_ok i1 (rE_le (sk_le i2)) (i3.2.1 hw.1).2) fun t ⟨h1, h2⟩ => ⟨h1.cr, i1.ch h1.1, rE_le (sk_le i2), h2, (h1.2 8 (by omega)).trans i4, i5.c h1.1, i6.ch h1.1⟩
def SOut (L : Nat) (B : Nat → Int) (b : Bd) (p : Nat) (fC : Sg → Option Sg) (fM : Sg → Option (Int × Sg)) : Prop :=
  (∃ e pl, (1 ≤ e ∧ e ≤ 4) ∧ pl ≤ L ∧ (∀ s, Cs s L B b p → okP (fC s) (fun t => CFl s t e pl)) ∧ ∀ s, Ms s L B b p → okP (fM s) (fun r => MFl s r e pl)) ∨
  ∃ b' p', BdOK b' ∧ b'.n = b.n ∧ b'.m + Fc b'.n b'.f ≤ b'.n * b'.n ∧ p ≤ p' ∧ p' ≤ L ∧ (∀ s, Cs s L B b p → okP (fC s) (fun t => CRf s t ∧ Cs t L B b' p')) ∧ ∀ s, Ms s L B b p → okP (fM s) (fun r => Ch Mks s r.2 ∧ r.1 = 1 ∧ Ms r.2 L B b' p')
theorem SOut.pre {p p1 : Nat} {fC gC : Sg → Option Sg} {fM gM : Sg → Option (Int × Sg)} (hpp : p ≤ p1) (h : SOut L B b p1 fC fM) (kC : ∀ {Q : Sg → Prop} s, Cs s L B b p → (∀ s', CRf s s' → Cs s' L B b p1 → okP (fC s') Q) → okP (gC s) Q) (kM : ∀ {Q : Int × Sg → Prop} s, Ms s L B b p → (∀ s', Ch Mks s s' → Ms s' L B b p1 → okP (fM s') (fun r => b01 r.1 ∧ Q r)) → okP (gM s) Q) : SOut L B b p gC gM := by
  rcases h with ⟨e, pl, he, hpl, hC, hM⟩ | ⟨b', p', h1, h2, h3, h4, h5, hC, hM⟩
  · exact Or.inl ⟨e, pl, he, hpl, fun s hs => kC s hs fun s' m1 m2 => okP_mono (hC s' m2) fun t ht => ht.tr m1, fun s hs => kM s hs fun s' m1 m2 => okP_mono (hM s' m2) fun r hr => ⟨Or.inl hr.2.1, hr.tr m1⟩⟩
  · exact Or.inr ⟨b', p', h1, h2, h3, Nat.le_trans hpp h4, h5, fun s hs => kC s hs fun s' m1 m2 => okP_mono (hC s' m2) fun t ht => ⟨m1.tr ht.1, ht.2⟩, fun s hs => kM s hs fun s' m1 m2 => okP_mono (hM s' m2) fun r ⟨r1, r2, r3⟩ => ⟨Or.inr r2, m1.tr r1, r2, r3⟩⟩
/-- a result is handed on -/
theorem hand {m : Option (Int × Sg)} {Q : Int × Sg → Prop} (h : okP m (fun r => b01 r.1 ∧ Q r)) : okP (bnd2 m fun y s => grd (b01 y) <| some (y, s)) Q := by
  refine okP_bnd2 h ?_
  rintro y t - ⟨k1, k2⟩
  rw [grd_t k1]
  exact okP_some k2
end TXT


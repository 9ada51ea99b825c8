/-! ===== both read one statement alike ===== -/
noncomputable def mlp (mv side : Int) (σ : Sg) : Option (Sg ⊕ (Sg ⊕ Sg)) := if mv = 1 then Mo_readMoves_t0 σ else Mo_readStones_t0 side σ
section STM
variable {L : Nat} {B : Nat → Int} {s : Sg} {b : Bd}
def Hmv (mv side : Int) : Prop := (mv = 0 ∧ (side = 0 ∨ side = 1)) ∨ mv = 1
theorem nbd_ok {mv side : Int} {c : Nat} (hb : BdOK b) (hmF : b.m + Fc b.n b.f ≤ b.n * b.n) (hmv : Hmv mv side) (hc : c < b.n * b.n) (fr : b.f c = -1) : BdOK (nbd mv side b c) ∧ (nbd mv side b c).n = b.n ∧ (nbd mv side b c).m + Fc (nbd mv side b c).n (nbd mv side b c).f ≤ (nbd mv side b c).n * (nbd mv side b c).n ∧ Fc (nbd mv side b c).n (nbd mv side b c).f + 1 = Fc b.n b.f := by
  have h81 := nn_le hb.1.2
  have ht := hb.2.2.2.1
  unfold nbd
  rcases hmv with ⟨h, hs⟩ | h
  · have hF := Fc_ups (n := b.n) (f := b.f) (p := side) hc fr (by omega)
    rw [if_neg (by omega)]
    refine ⟨pst_ok hb (Or.inr hs), rfl, ?_, hF.symm⟩
    show b.m + Fc b.n (ups b.f c side) ≤ b.n * b.n
    omega
  · have hF := Fc_ups (n := b.n) (f := b.f) (p := b.t) hc fr (by omega)
    rw [if_pos h]
    refine ⟨ply_ok hb (by omega) hc, rfl, ?_, hF.symm⟩
    show b.m + 1 + Fc b.n (ups b.f c b.t) ≤ b.n * b.n
    omega
theorem Cs.sk {p : Nat} (h : Cs s L B b p) : Cs s L B b (sk L B p) := ⟨h.1, sk_le h.2.1, by rw [sk_sk]; exact h.2.2.1, h.2.2.2⟩
theorem MP_play {t : Sg} {c : Nat} (hb : BdOK b) (hm : b.m < 200) (hc : c < b.n * b.n) (h : MP s b) : okP (Mo_moves (c : Int) s) (fun t => Ch [81] s t ∧ MP t (ply b c)) := Mo_moves_ok hb hm hc h
theorem mlp_ok {mv side : Int} {c p' : Nat} (hb : BdOK b) (hmF : b.m + Fc b.n b.f ≤ b.n * b.n) (hmv : Hmv mv side) (hc : c < b.n * b.n) (fr : b.f c = -1) (hr : okP (Mo_readCell mv s) (fun r => Ch Mks s r.2 ∧ r.1 = 1 ∧ gi r.2 80 16 = (c : Int) ∧ Ms r.2 L B b p')) :
    okP (mlp mv side s) (fun o => (ltr L B (sk L B p') → ∃ t, o = .inl t ∧ Ch Mks s t ∧ Ms t L B (nbd mv side b c) (sk L B p')) ∧ (¬ ltr L B (sk L B p') → ∃ t, o = .inr (.inr t) ∧ Ch Mks s t ∧ Ms t L B (nbd mv side b c) (sk L B p'))) := by
  have h81 := nn_le hb.1.2
  have hF := Fc_ups (n := b.n) (f := b.f) (p := b.t) hc fr (by have := hb.2.2.2.1; omega)
  have fin : ∀ t, Ch Mks s t → Ms t L B (nbd mv side b c) p' → okP (bnd2 (Mo_isLetterNext t) fun y5 s6 => ifEq y5 0 (some (.inr (.inr s6))) (some (.inl s6)) : Option (Sg ⊕ (Sg ⊕ Sg))) (fun o => (ltr L B (sk L B p') → ∃ t, o = .inl t ∧ Ch Mks s t ∧ Ms t L B (nbd mv side b c) (sk L B p')) ∧ (¬ ltr L B (sk L B p') → ∃ t, o = .inr (.inr t) ∧ Ch Mks s t ∧ Ms t L B (nbd mv side b c) (sk L B p'))) := by
    intro t h1 h2
    obtain ⟨i1, i2, i3, i4⟩ := h2
    refine okP_bnd2 (letterM i1 i2 i3) ?_
    rintro y u - ⟨k1, k2, -, k4⟩
    have k1 : Ch [8009, 8010] t u := k1
    have k2 : gi u 80 9 = ((sk L B p' : Nat) : Int) := k2
    have k4 : y = bI (ltr L B (sk L B p')) := k4
    have hMu : Ms u L B (nbd mv side b c) (sk L B p') := ⟨i1.ch k1, sk_le i2, k2, i4.ch k1⟩
    rw [k4]
    by_cases z : ltr L B (sk L B p')
    · rw [bI_t z, ifEq_f R1 R0 (by omega)]
      exact okP_some ⟨fun _ => ⟨u, rfl, h1.tr (k1.mo (by decide)), hMu⟩, fun w => absurd z w⟩
    · rw [bI_f z, ifEq_t R0 R0 rfl]
      exact okP_some ⟨fun w => absurd w z, fun _ => ⟨u, rfl, h1.tr (k1.mo (by decide)), hMu⟩⟩
  unfold mlp
  rcases hmv with ⟨h, hs⟩ | h
  · have eb : nbd mv side b c = pst b c side := if_neg (by omega)
    rw [eb] at fin ⊢
    rw [if_neg (by omega)]
    unfold Mo_readStones_t0
    rw [h] at hr
    refine okP_bnd2 hr ?_
    rintro y t - ⟨k1, k2, k3, k4⟩
    have k1 : Ch Mks s t := k1
    have k2 : y = 1 := k2
    have k3 : gi t 80 16 = (c : Int) := k3
    obtain ⟨i1, i2, i3, i4⟩ := (k4 : Ms t L B b p')
    have e5 : (5 + ((c : Nat) : Int)).toNat = 5 + c := by omega
    have c1 : Ch [81] t (si t 81 (5 + c) side) := Ch.si (by decide)
    rw [k2, ifEq_f R1 R0 (by omega), k3, grd_t ⟨by omega, by omega⟩, e5, lett_eq]
    exact fin _ (k1.tr (c1.mo (by decide))) ⟨i1.ch c1, i2, (c1.g8 9).trans i3, MP_pst hb i4 hc side⟩
  · have eb : nbd mv side b c = ply b c := if_pos h
    rw [eb] at fin ⊢
    rw [if_pos h]
    unfold Mo_readMoves_t0
    rw [h] at hr
    refine okP_bnd2 hr ?_
    rintro y t - ⟨k1, k2, k3, k4⟩
    have k1 : Ch Mks s t := k1
    have k2 : y = 1 := k2
    have k3 : gi t 80 16 = (c : Int) := k3
    obtain ⟨i1, i2, i3, i4⟩ := (k4 : Ms t L B b p')
    rw [k2, ifEq_f R1 R0 (by omega), k3]
    refine okP_bnd (Mo_moves_ok hb (by omega) hc i4) ?_
    rintro u - ⟨l1, l2⟩
    have l1 : Ch [81] t u := l1
    exact fin _ (k1.tr (l1.mo (by decide))) ⟨i1.ch l1, i2, (l1.g8 9).trans i3, l2⟩
theorem mlp_fl {mv side : Int} {e : Int} {pl : Nat} (hmv : Hmv mv side) (hr : okP (Mo_readCell mv s) (fun r => MFl s r e pl)) : okP (mlp mv side s) (fun o => ∃ t, o = .inr (.inl t) ∧ MFl s (0, t) e pl) := by
  unfold mlp
  rcases hmv with ⟨h, hs⟩ | h
  · rw [if_neg (by omega)]
    unfold Mo_readStones_t0
    rw [h] at hr
    refine okP_bnd2 hr ?_
    rintro y t - ⟨k1, k2, k3⟩
    have k2 : y = 0 := k2
    rw [k2, ifEq_t R0 R0 rfl]
    exact okP_some ⟨t, rfl, k1, rfl, k3⟩
  · rw [if_pos h]
    unfold Mo_readMoves_t0
    rw [h] at hr
    refine okP_bnd2 hr ?_
    rintro y t - ⟨k1, k2, k3⟩
    have k2 : y = 0 := k2
    rw [k2, ifEq_t R0 R0 rfl]
    exact okP_some ⟨t, rfl, k1, rfl, k3⟩
/-- the class's loop over cells -/
noncomputable abbrev f58 (mv side : Int) : Int × Sg → Option ((Int × Sg) ⊕ Sg) := fun σ => Re_readStatement_t58 mv side σ.1 σ.2
theorem f58_end {mv side x : Int} (hx : R x) (he : R (gi s 52 8)) (h : gi s 52 8 ≠ 0 ∨ (gi s 52 8 = 0 ∧ x ≠ 0 ∧ R (gi s 52 4) ∧ gi s 52 4 ≠ 1)) : f58 mv side (x, s) = some (.inr s) := by
  have R81' : R 81 := by unfold R; omega
  show Re_readStatement_t58 mv side x s = _
  unfold Re_readStatement_t58
  rw [ifLt_eq _ _ R81' hx]
  by_cases z : 81 < x
  · rw [if_pos z]
  · rw [if_neg z]
    rcases h with h | ⟨h, h0, hr, h4⟩
    · rw [ifEq_f he R0 h]
    · rw [ifEq_t he R0 h, ifEq_f hx R0 h0, ifEq_f hr R1 h4]
theorem f58_go {mv side x : Int} (hx : R x) (h81 : x ≤ 81) (h8 : gi s 52 8 = 0) (h : x = 0 ∨ gi s 52 4 = 1) : f58 mv side (x, s) = bnd (Re_readCell mv side s) fun s7 => some (.inl (x + 1, s7)) := by
  have R81' : R 81 := by unfold R; omega
  show Re_readStatement_t58 mv side x s = _
  unfold Re_readStatement_t58 Re_readStatement_b85
  rw [ifLt_eq _ _ R81' hx, if_neg (by omega), h8, ifEq_t R0 R0 rfl, ifEq_eq _ _ hx R0]
  by_cases z : x = 0
  · rw [if_pos z]
  · rw [if_neg z, ifEq_t (by rw [h.resolve_left z]; exact R1) R1 (h.resolve_left z)]
theorem cells_pair (hB : ∀ i, i < L → 1 ≤ B i ∧ B i ≤ 255) (hL : L ≤ 400) {mv side : Int} (hmv : Hmv mv side) : ∀ (k : Nat) (b : Bd) (p : Nat), Fc b.n b.f ≤ k → BdOK b → b.m + Fc b.n b.f ≤ b.n * b.n → p ≤ L →
    (∃ e pl, (1 ≤ e ∧ e ≤ 4) ∧ pl ≤ L ∧ (∀ s x, Cs s L B b p → 0 ≤ x → x + (Fc b.n b.f : Int) ≤ 81 → (x = 0 ∨ ltr L B (sk L B p)) → okP (whl (f58 mv side) (x, s)) (fun t => CFl s t e pl)) ∧ ∀ s, Ms s L B b p → okP (whl (mlp mv side) s) (fun r => ∃ t, r = .inl t ∧ MFl s (0, t) e pl)) ∨
    ∃ b' p', BdOK b' ∧ b'.n = b.n ∧ b'.m + Fc b'.n b'.f ≤ b'.n * b'.n ∧ p ≤ p' ∧ p' ≤ L ∧ (∀ s x, Cs s L B b p → 0 ≤ x → x + (Fc b.n b.f : Int) ≤ 81 → (x = 0 ∨ ltr L B (sk L B p)) → okP (whl (f58 mv side) (x, s)) (fun t => CRf s t ∧ Cs t L B b' p')) ∧ ∀ s, Ms s L B b p → okP (whl (mlp mv side) s) (fun r => ∃ t, r = .inr t ∧ Ch Mks s t ∧ Ms t L B b' p') := by
  intro k
  induction k with
  | zero =>
    intro b p hk hb hmF hp
    rcases cell_pair hB hL hb hmF hmv hp with ⟨e, pl, he, hpl, kC, kM⟩ | ⟨c, p', hc, fr, -⟩
    · refine Or.inl ⟨e, pl, he, hpl, fun s x hC hx0 hx hl => ?_, fun s hM => ?_⟩
      · have k4 : x = 0 ∨ gi s 52 4 = 1 := hl.imp id fun z => (hC.2.2.1.2.1 z).1
        refine whl_rd ?_
        rw [f58_go (by unfold R; omega) (by omega) hC.2.2.2.1 k4]
        refine okP_bnd (kC s hC) ?_
        rintro t - ht
        refine okP_some (Or.inl ⟨_, rfl, whl_inr (f58_end (by unfold R; omega) (by rw [ht.2.1]; unfold R; omega) (Or.inl (by rw [ht.2.1]; omega))) ht⟩)
      · refine whl_rd (okP_mono (mlp_fl hmv (kM s hM)) ?_)
        rintro o ⟨t, rfl, ht⟩
        exact Or.inr ⟨_, rfl, t, rfl, ht⟩
    · have := Fc_ups (n := b.n) (f := b.f) (p := 0) hc fr (by omega)
      omega
  | succ k ih =>
    intro b p hk hb hmF hp
    rcases cell_pair hB hL hb hmF hmv hp with ⟨e, pl, he, hpl, kC, kM⟩ | ⟨c, p', hc, fr, hpp, hpL, kC, kM⟩
    · refine Or.inl ⟨e, pl, he, hpl, fun s x hC hx0 hx hl => ?_, fun s hM => ?_⟩
      · have k4 : x = 0 ∨ gi s 52 4 = 1 := hl.imp id fun z => (hC.2.2.1.2.1 z).1
        refine whl_rd ?_
        rw [f58_go (by unfold R; omega) (by omega) hC.2.2.2.1 k4]
        refine okP_bnd (kC s hC) ?_
        rintro t - ht
        refine okP_some (Or.inl ⟨_, rfl, whl_inr (f58_end (by unfold R; omega) (by rw [ht.2.1]; unfold R; omega) (Or.inl (by rw [ht.2.1]; omega))) ht⟩)
      · refine whl_rd (okP_mono (mlp_fl hmv (kM s hM)) ?_)
        rintro o ⟨t, rfl, ht⟩
        exact Or.inr ⟨_, rfl, t, rfl, ht⟩
    · obtain ⟨nb1, nb2, nb3, nb4⟩ := nbd_ok hb hmF hmv hc fr
      have hge : p ≤ sk L B p' := by
        have h1 := sk_ge (L := L) (B := B) p
        have h2 := sk_ge (L := L) (B := B) p'
        omega
      by_cases z : ltr L B (sk L B p')
      · have z2 : ltr L B (sk L B (sk L B p')) := by rw [sk_sk]; exact z
        rcases ih (nbd mv side b c) (sk L B p') (by omega) nb1 nb3 (sk_le hpL) with ⟨e, pl, he, hpl, iC, iM⟩ | ⟨b', p'', h1, h2, h3, h4, h5, iC, iM⟩
        · refine Or.inl ⟨e, pl, he, hpl, fun s x hC hx0 hx hl => ?_, fun s hM => ?_⟩
          · have k4 : x = 0 ∨ gi s 52 4 = 1 := hl.imp id fun z => (hC.2.2.1.2.1 z).1
            refine whl_rd ?_
            rw [f58_go (by unfold R; omega) (by omega) hC.2.2.2.1 k4]
            refine okP_bnd (kC s hC) ?_
            rintro t - ⟨t1, t2⟩
            exact okP_some (Or.inl ⟨_, rfl, okP_mono (iC t (x + 1) t2.sk (by omega) (by omega) (Or.inr z2)) fun u hu => hu.tr t1⟩)
          · refine whl_rd (okP_mono (mlp_ok hb hmF hmv hc fr (kM s hM)) ?_)
            rintro o ⟨ho, -⟩
            obtain ⟨t, rfl, t1, t2⟩ := ho z
            exact Or.inl ⟨t, rfl, okP_mono (iM t t2) fun r ⟨u, e1, e2⟩ => ⟨u, e1, e2.tr t1⟩⟩
        · refine Or.inr ⟨b', p'', h1, h2.trans nb2, h3, Nat.le_trans hge h4, h5, fun s x hC hx0 hx hl => ?_, fun s hM => ?_⟩
          · have k4 : x = 0 ∨ gi s 52 4 = 1 := hl.imp id fun z => (hC.2.2.1.2.1 z).1
            refine whl_rd ?_
            rw [f58_go (by unfold R; omega) (by omega) hC.2.2.2.1 k4]
            refine okP_bnd (kC s hC) ?_
            rintro t - ⟨t1, t2⟩
            exact okP_some (Or.inl ⟨_, rfl, okP_mono (iC t (x + 1) t2.sk (by omega) (by omega) (Or.inr z2)) fun u ⟨u1, u2⟩ => ⟨t1.tr u1, u2⟩⟩)
          · refine whl_rd (okP_mono (mlp_ok hb hmF hmv hc fr (kM s hM)) ?_)
            rintro o ⟨ho, -⟩
            obtain ⟨t, rfl, t1, t2⟩ := ho z
            exact Or.inl ⟨t, rfl, okP_mono (iM t t2) fun r ⟨u, e1, e2, e3⟩ => ⟨u, e1, t1.tr e2, e3⟩⟩
      · refine Or.inr ⟨nbd mv side b c, sk L B p', nb1, nb2, nb3, hge, sk_le hpL, fun s x hC hx0 hx hl => ?_, fun s hM => ?_⟩
        · have k4 : x = 0 ∨ gi s 52 4 = 1 := hl.imp id fun z => (hC.2.2.1.2.1 z).1
          refine whl_rd ?_
          rw [f58_go (by unfold R; omega) (by omega) hC.2.2.2.1 k4]
          refine okP_bnd (kC s hC) ?_
          rintro t - ⟨t1, t2⟩
          have hk1 := t2.2.2.1.k1 z
          refine okP_some (Or.inl ⟨_, rfl, whl_inr (f58_end (by unfold R; omega) (by rw [t2.2.2.2.1]; exact R0) (Or.inr ⟨t2.2.2.2.1, by omega, hk1⟩)) ⟨t1, t2.sk⟩⟩)
        · refine whl_rd (okP_mono (mlp_ok hb hmF hmv hc fr (kM s hM)) ?_)
          rintro o ⟨-, ho⟩
          obtain ⟨t, rfl, t1, t2⟩ := ho z
          exact Or.inr ⟨_, rfl, t, rfl, t1, t2⟩
end STM

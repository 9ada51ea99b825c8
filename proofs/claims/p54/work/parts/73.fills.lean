/-! ===== boards filled by chance; other questions ===== -/
section FLL
variable {X : Xs} {s t : Sg}
theorem CI.up {L : List Nat} {b : Bd} {h : Nat} {H : Nat → Bd} (k : CI X s) (hc : Ch L s t) (hQ : CQ t b) (hH : HC t h H) (hL : ∀ x ∈ PC2, x ∉ L := by decide) : CI (X.wb b h H) t :=
  ⟨hQ, hH, k.2.2.1.ch hc (fun x hx => hL x (by revert x; decide)), (k.2.2.2.ch hc (fun x hx => hL x (by revert x; decide)) : CTx t X)⟩
theorem MI.up {L : List Nat} {b : Bd} {h : Nat} {H : Nat → Bd} (hX : XsOK X) (k : MI X s) (hc : Ch L s t) (hQ : MP t b) (hH : HM t h H) (hL : ∀ x ∈ PM2, x ∉ L := by decide) : MI (X.wb b h H) t :=
  ⟨hQ, hH, k.2.2.1.ch hX.2.2.1 hc (hL 83 (by decide)) (hL 84 (by decide)), (k.2.2.2.ch hc (fun x hx => hL x (by revert x; decide)) : MTx t X)⟩
theorem CI.keep {L : List Nat} (k : CI X s) (hc : Ch L s t) (hQ : CQ t X.b) (hL : ∀ x ∈ PC2, x ∉ L := by decide) (h16 : 16 ∉ L := by decide) (hs : ∀ j, j < 8 → 18 + 3 * j ∉ L ∧ 18 + 3 * j + 1 ∉ L ∧ 18 + 3 * j + 2 ∉ L := by decide) : CI X t :=
  k.up hc hQ (k.2.1.ch hc h16 hs) hL
theorem MI.keep {L : List Nat} (hX : XsOK X) (k : MI X s) (hc : Ch L s t) (hQ : MP t X.b) (hL : ∀ x ∈ PM2, x ∉ L := by decide) (h1 : 8006 ∉ L := by decide) (h2 : 85 ∉ L := by decide) : MI X t :=
  k.up hX hc hQ (k.2.1.ch (fun i hi' => (hX.2.1 i hi').1) hc h1 h2) hL
theorem MI.same (hX : XsOK X) (k : MI X s) (hc : Cl Mi s t) (e : Same s t) : MI X t := by
  have hP : MP t X.b := k.1.same hX.1 e
  have h1 : Ch Mi s (t.1, s.2) := ⟨hc.1, rfl⟩
  have h2 : MI X (t.1, s.2) := k.keep hX h1 hP
  exact h2
theorem qMS {m : Option (Int × Sg)} {v : Int} (hX : XsOK X) (hM : MI X s) (h : okP m (fun o => Cl Mi (si s 80 0 0) o.2 ∧ Same (si s 80 0 0) o.2 ∧ o.1 = v)) : okP m (MPost 0 v X s) :=
  okP_mono h fun o ⟨h1, h2, h3⟩ => ⟨(mf0 s 0).tr h1.mf, (hM.e0 hX 0).same hX h1 h2, by rw [h1.g8 0]; exact gi_si_s _ _ _ _, fun _ => h3⟩
theorem R_big : R 2147483647 := by unfold R; omega
/-! questions without a check -/
theorem on_q (hX : XsOK X) {A B : Sg → Option (Int × Sg)} (v : Int) (hv : R v) (hA : ∀ s, CI X s → okP (A s) (fun o => Ch LC s o.2 ∧ o.1 = v)) (hB : ∀ s, MI X s → okP (B s) (MPost 0 v X s)) : OpN X A B :=
  ⟨v, X, hv, hX, fun s hC => okP_mono (hA s hC) fun o ⟨h1, h2⟩ => ⟨h1.cf, hC.ch h1, h2⟩, hB⟩
theorem sol_R {b : Bd} (hb : BdOK b) : R (sol b) ∧ R (gdm b) ∧ R (bsm b) := by
  have h81 := nn_le hb.1.2
  have hw := R_tri (wnr_rg (n := b.n) (f := b.f) hb.2.2.2.2.1)
  refine ⟨?_, ?_, ?_⟩
  · unfold sol
    split
    · split
      · exact R_n1
      · exact R_01 (cv_rg (hp := hb.2.2.2.1) _ _)
    · exact hw
  · unfold gdm
    split
    · split
      · exact R_n1
      · have := cnt_le (gud b.n b.f b.t) (b.n * b.n)
        exact R_nat (by omega)
    · exact R0
  · unfold bsm
    split
    · split
      · exact R_n1
      · unfold nth
        split
        · exact R_nat (by omega)
        · exact R_n1
    · exact R_n1
theorem fcn_R (b : Bd) {k : Nat} (hk : k ≤ 100) : R (fcn b k : Int) := by
  have := fcn_le b k
  exact R_nat (by omega)
theorem fwn_R {b : Bd} (hb : BdOK b) : R (fwn b) := R_tri (wnr_rg ((itb_ok hb _ (fcn_ok hb 81)).1.2.2.2.2.1))
end FLL


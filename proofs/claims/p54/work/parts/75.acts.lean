/-! ===== the actions ===== -/
section ACT
variable {X : Xs} {s : Sg}
abbrev Xs.pu (X : Xs) (b : Bd) : Xs := X.wb b (psh X.h X.H X.b).1 (psh X.h X.H X.b).2
theorem psh_okk {h : Nat} {H : Nat → Bd} {b : Bd} (hb : BdOK b) (hH : ∀ i, i < h → BdOK (H i) ∧ (H i).n = b.n) : ∀ i, i < (psh h H b).1 → BdOK ((psh h H b).2 i) ∧ ((psh h H b).2 i).n = b.n := by
  unfold psh
  intro i hi'
  by_cases q : h = 8
  · rw [if_pos q] at hi' ⊢
    show BdOK (if i < 7 then H (i + 1) else b) ∧ (if i < 7 then H (i + 1) else b).n = b.n
    by_cases z : i < 7
    · rw [if_pos z]; exact hH _ (by omega)
    · rw [if_neg z]; exact ⟨hb, rfl⟩
  · rw [if_neg q] at hi' ⊢
    have hi9 : i < h + 1 := hi'
    show BdOK (if i = h then b else H i) ∧ (if i = h then b else H i).n = b.n
    by_cases z : i = h
    · rw [if_pos z]; exact ⟨hb, rfl⟩
    · rw [if_neg z]; exact hH _ (by omega)
theorem XsOK.up (hX : XsOK X) {b : Bd} {h : Nat} {H : Nat → Bd} (hb : BdOK b) (hH : ∀ i, i < h → BdOK (H i) ∧ (H i).n = b.n) : XsOK (X.wb b h H) := ⟨hb, hH, hX.2.2⟩
theorem XsOK.pu (hX : XsOK X) {b : Bd} (hb : BdOK b) (hn : b.n = X.b.n) : XsOK (X.pu b) := hX.up hb fun i hi' => by
  rw [hn]
  exact psh_okk hX.1 hX.2.1 i hi'
theorem rememberC (hX : XsOK X) (hC : CI X s) : okP (Hi_remember 10 s) (fun t => Ch Ch' s t ∧ CI (X.pu X.b) t) :=
  okP_mono (remember_ok hX.1 hC.1.2.2 hC.2.1) fun t ⟨h1, h2⟩ => ⟨h1, hC.up h1 (hC.1.ch h1) h2⟩
/-- only the board is another -/
theorem CI.bd {t : Sg} {b : Bd} (k : CI X s) (hc : Ch [10, 11, 12] s t) (hn : b.n = X.b.n) (hP : CP t 10 b) : CI (X.wb b X.h X.H) t :=
  k.up hc ⟨by rw [hn]; exact k.1.1.c hc, k.1.2.1.ch hc (by decide), hP⟩ (k.2.1.ch hc (by decide) (by decide))
theorem MI.bd {t : Sg} {b : Bd} (hX : XsOK X) (k : MI X s) {L : List Nat} (hc : Ch L s t) (hP : MP t b) (hL : ∀ x ∈ PM2, x ∉ L := by decide) (h1 : 8006 ∉ L := by decide) (h2 : 85 ∉ L := by decide) : MI (X.wb b X.h X.H) t :=
  k.up hX hc hP (k.2.1.ch (fun i hi' => (hX.2.1 i hi').1) hc h1 h2) hL
theorem winC (hX : XsOK X) (hC : CI X s) {α : Type} {Q : α → Prop} {m : Int → Sg → Option α} (k : ∀ t, Ch [5, 6, 7, 8, 9] s t → CI X t → okP (m (wnr X.b.n X.b.f X.b.g) t) Q) : okP (bnd2 (Hx_winner s) m) Q :=
  class_start hX.1 hC.1 fun t ht => k t ht (hC.ch ht)
theorem wnr_R (hX : XsOK X) : R (wnr X.b.n X.b.f X.b.g) := R_tri (wnr_rg hX.1.2.2.2.2.1)
end ACT


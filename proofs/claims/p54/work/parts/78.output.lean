/-! ===== the output ===== -/
section OUT
variable {X : Xs} {s t : Sg}
def rwb (v : Int) : Int := if v = 0 then 114 else if v = 1 then 98 else 46
theorem rwb_rg (v : Int) : 0 ≤ rwb v ∧ rwb v ≤ 255 := by
  unfold rwb
  split
  · omega
  · split <;> omega
theorem XsOK.wo (hX : XsOK X) {ol : Nat} {ob : Nat → Int} (h : ol ≤ 9) (hb : ∀ i, i < ol → 0 ≤ ob i ∧ ob i ≤ 255) : XsOK (X.wo ol ob) :=
  ⟨hX.1, hX.2.1, hX.2.2.1, hX.2.2.2.1, hX.2.2.2.2.1, h, hb, hX.2.2.2.2.2.2.2⟩
theorem CI.out {ol : Nat} {ob : Nat → Int} (hC : CI X s) (hc : Ch [50, 51] s t) (h1 : gi t 50 1 = (ol : Int)) (h2 : ∀ i, i < ol → gi t 51 i = ob i) : CI (X.wo ol ob) t := by
  obtain ⟨⟨a1, a2⟩, -, a5, a6, a7⟩ := hC.2.2.2
  exact ⟨hC.1.ch hc, hC.2.1.ch hc (by decide) (by decide), hC.2.2.1.ch hc (by decide), ⟨(hc.g 48).trans a1, fun i hi' => (hc.g 49).trans (a2 i hi')⟩, ⟨h1, h2⟩, (hc.g 52).trans a5, a6, fun e => (hc.g 52).trans (a7 e)⟩
theorem MI.out {ol : Nat} {ob : Nat → Int} (hX : XsOK X) (hM : MI X s) (hc : Ch [8035, 99] s t) (h1 : gi t 80 35 = (ol : Int)) (h2 : ∀ i, i < ol → gi t 99 i = ob i) : MI (X.wo ol ob) t := by
  obtain ⟨⟨a1, a2⟩, -, a5, a6⟩ := hM.2.2.2
  exact ⟨hM.1.ch hc, hM.2.1.ch (fun i hi' => (hX.2.1 i hi').1) hc (by decide) (by decide), hM.2.2.1.ch hX.2.2.1 hc (by decide) (by decide), ⟨(hc.g8 8).trans a1, fun i hi' => (hc.g 86).trans (a2 i hi')⟩, ⟨h1, h2⟩, (hc.g8 12).trans a5, (hc.g8 15).trans a6⟩
theorem add50 {k : Nat} {v : Int} (h : gi s 50 1 = (k : Int)) (hk : k < 9) : By_add 50 v s = some (si (si s 51 k v) 50 1 ((k + 1 : Nat) : Int)) := by
  have a51 : alen (50 + 1) = 9 := rfl
  have eT : ((k : Nat) : Int).toNat = k := rfl
  unfold By_add
  rw [h, a51, ifLt_eq _ _ (R_nat (by omega)) R0, if_neg (by omega), ifLt_eq _ _ (R_nat (by omega)) (R_nat (by omega)), if_pos (by omega), grd_t ⟨by omega, by omega⟩, eT, lett_eq, gi_si_o _ _ _ _ (by omega), h, lett_eq]
  rfl
/-- one byte more -/
def OutC (s : Sg) (k : Nat) (ob : Nat → Int) : Prop := gi s 50 1 = (k : Int) ∧ ∀ i, i < k → gi s 51 i = ob i
def OutM (s : Sg) (k : Nat) (ob : Nat → Int) : Prop := gi s 80 35 = (k : Int) ∧ ∀ i, i < k → gi s 99 i = ob i
theorem OutC.add {k : Nat} {ob : Nat → Int} {v : Int} (h : OutC s k ob) (hk : k < 9) (hv : v = ob k) : ∃ t, By_add 50 v s = some t ∧ Ch [50, 51] s t ∧ OutC t (k + 1) ob := by
  refine ⟨_, add50 h.1 hk, (Ch.si (by decide)).tr (Ch.si (by decide)), gi_si_s _ _ _ _, fun i hi' => ?_⟩
  rw [gi_si_o _ _ _ _ (by omega), gi_si_r]
  split
  · rename_i e; rw [hv, e]
  · exact h.2 i (by omega)
theorem clear50 : By_clear 50 s = some (si s 50 1 0) := rfl
end OUT


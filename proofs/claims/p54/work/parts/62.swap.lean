/-! ===== may sides be swapped ===== -/
def csw (b : Bd) : Prop := b.w ≠ 0 ∧ b.m = 1 ∧ b.n * b.n = Fc b.n b.f + 1 ∧ b.f (b.mv 0).toNat = 1 - b.t ∧ wnr b.n b.f b.g = -1
section SWP
variable {s : Sg} {b : Bd}
theorem Hx_canSwap_ok (hb : BdOK b) (hC : CQ s b) : okP (Hx_canSwap s) (fun o => Ch [5, 6, 7, 8, 9] s o.2 ∧ o.1 = bI (csw b)) := by
  have hb' := hb
  obtain ⟨hn, hfr, hw, ht, hg, hm, hmv⟩ := hb'
  have h81 := nn_le hn.2
  have a11 : alen 11 = 81 := rfl
  have a12 : alen 12 = 200 := rfl
  have hle := cnt_le (fun c => b.f c = -1) (b.n * b.n)
  have hle : Fc b.n b.f ≤ b.n * b.n := hle
  have hq := hC
  obtain ⟨hG, hS, p1, p2, p3, p4, p5, p6, p7⟩ := hq
  have no : ¬ csw b → okP (some ((0 : Int), s)) (fun o => Ch [5, 6, 7, 8, 9] s o.2 ∧ o.1 = bI (csw b)) := fun h => okP_some ⟨Ch.rf _ _, (bI_f h).symm⟩
  have main : ∀ t0 : Int, (t0 = 1 ∧ b.n * b.n = Fc b.n b.f + 1) ∨ (t0 = 0 ∧ ¬ b.n * b.n = Fc b.n b.f + 1) → okP (Hx_canSwap_b25 t0 s) (fun o => Ch [5, 6, 7, 8, 9] s o.2 ∧ o.1 = bI (csw b)) := by
    intro t0 ht0
    unfold Hx_canSwap_b25
    rw [p2, ifEq_eq _ _ (R_01 hw) R0]
    by_cases q1 : b.w = 0
    · rw [if_pos q1]; exact no (fun h => h.1 q1)
    · rw [if_neg q1, p3, ifEq_eq _ _ (R_nat (by omega)) R1]
      by_cases q2 : b.m = 1
      · rw [if_pos (by omega), ifEq_eq _ _ (by unfold R; omega) R0]
        rcases ht0 with ⟨e0, k⟩ | ⟨e0, k⟩
        · rw [if_neg (by omega)]
          obtain ⟨c, ec, hc⟩ := hmv 0 (by omega)
          have e7 : gi s 12 0 = (c : Int) := (p7 0 (by omega)).trans ec
          have hmvd : Po_moved 10 0 s = some (c : Int) := by
            unfold Po_moved
            rw [ifLt_eq _ _ R0 R0, if_neg (by omega), p3, ifLt_eq _ _ R0 (R_nat (by omega)), if_pos (by omega)]
            show bnd (Hx_at 12 ((0 : Nat) : Int) s) _ = _
            rw [Hx_at_n (by omega), bnd_some, e7]
          have hst : Po_stone 10 (c : Int) s = some (b.f c) := by
            unfold Po_stone
            show bnd (Hx_at 11 (c : Int) s) _ = _
            rw [Hx_at_n (by omega), bnd_some, show gi s 11 c = b.f c from p6 c hc]
          rw [hmvd, bnd_some, hst, bnd_some, p4, Hx_otherSide_eq ht, bnd_some, ifEq_eq _ _ (hfr.r hc) (R_01 hb.tc)]
          have ect : (b.mv 0).toNat = c := by omega
          by_cases q3 : b.f c = 1 - b.t
          · rw [if_pos q3]
            refine class_start hb hC ?_
            intro t hCt
            rw [ifEq_eq _ _ (R_tri (wnr_rg hg)) R_n1]
            by_cases q4 : wnr b.n b.f b.g = -1
            · rw [if_pos q4]
              exact okP_some ⟨hCt, (bI_t ⟨q1, q2, k, by rw [ect]; exact q3, q4⟩).symm⟩
            · rw [if_neg q4]
              exact okP_some ⟨hCt, (bI_f (fun h => q4 h.2.2.2.2)).symm⟩
          · rw [if_neg q3]
            exact no (fun h => q3 (by rw [← ect]; exact h.2.2.2.1))
        · rw [if_pos e0]; exact no (fun h => k h.2.2.1)
      · rw [if_neg (by omega)]; exact no (fun h => q2 h.2.1)
  unfold Hx_canSwap
  rw [count_free hb hC, bnd_some, hG.2.2.2.1, ifEq_eq _ _ (by unfold R; omega) R1]
  by_cases q : b.n * b.n = Fc b.n b.f + 1
  · rw [if_pos (by omega)]; exact main 1 (Or.inl ⟨rfl, q⟩)
  · rw [if_neg (by omega)]; exact main 0 (Or.inr ⟨rfl, q⟩)
end SWP


/-! ===== the class: the search ===== -/
section GAMED
variable {n : Nat} {f : Nat → Int} {s : Sg}
def blk' (p : Int) (blk j : Nat) : Nat := if p = 0 then blk ||| 2 ^ j else blk
theorem EB.ch0 {s' : Sg} (h : EB s n f) (e : s' = s) : EB s' n f := e ▸ h
/-- taking a free cell, in bits and on the board -/
theorem bdm_ups {rem blk c : Nat} {p : Int} (hp : p = 0 ∨ p = 1) (fc : f c = -1) (hr : rem.testBit (ix f c) = true) (hb : blk.testBit (ix f c) = false) : ups (bdm f rem blk) c p = bdm f (rem ^^^ 2 ^ ix f c) (blk' p blk (ix f c)) := by
  funext x
  by_cases e : x = c
  · subst e
    rw [ups_s]
    unfold bdm blk'
    rw [if_pos fc, Nat.testBit_xor, hr, Nat.testBit_two_pow]
    rcases hp with rfl | rfl
    · rw [if_pos rfl, Nat.testBit_or, hb, Nat.testBit_two_pow]
      simp
    · rw [if_neg (show ¬ (1 : Int) = 0 by omega), hb]
      simp
  · rw [ups_o e]
    unfold bdm blk'
    by_cases q : f x = -1
    · have hne : ¬ ix f c = ix f x := fun k => e (ix_inj q fc k.symm)
      rw [if_pos q, if_pos q, Nat.testBit_xor, Nat.testBit_two_pow]
      rcases hp with rfl | rfl
      · rw [if_pos rfl, Nat.testBit_or, Nat.testBit_two_pow]
        simp [hne]
      · rw [if_neg (show ¬ (1 : Int) = 0 by omega)]
        simp [hne]
    · rw [if_neg q, if_neg q]
theorem bdm_free {rem blk c : Nat} (hfr : FR n f) (hc : c < n * n) : bdm f rem blk c = -1 ↔ f c = -1 ∧ rem.testBit (ix f c) = true := by
  unfold bdm
  by_cases q : f c = -1
  · rw [if_pos q]
    by_cases q2 : rem.testBit (ix f c) = true
    · rw [if_pos q2]; exact ⟨fun _ => ⟨q, q2⟩, fun _ => rfl⟩
    · rw [if_neg q2]
      constructor
      · intro h
        split at h <;> omega
      · intro h; exact absurd h.2 q2
  · rw [if_neg q]
    exact ⟨fun h => absurd h q, fun h => h.1⟩
theorem ior_lt64 {a b : Nat} (ha : a < 64) (hb : b < 64) : a ||| b < 64 := Nat.or_lt_two_pow (n := 6) ha hb
theorem En_best_ok : ∀ (K rem blk : Nat) (p : Int) (d : Nat) (s : Sg), GridOK s n → FR n f → Fc n f ≤ 6 → EB s n f → (p = 0 ∨ p = 1) → rem < 2 ^ Fc n f → blk < 64 → (∀ i, rem.testBit i = true → blk.testBit i = false) → d + Fc n (bdm f rem blk) ≤ 6 → Fc n (bdm f rem blk) < K → okP (En_best K (rem : Int) (blk : Int) p (d : Int) s) (fun o => Ch Ce s o.2 ∧ EB o.2 n f ∧ o.1 = cv n (Fc n (bdm f rem blk)) (bdm f rem blk) p)
  | 0, _, _, _, _, _, _, _, _, _, _, _, _, _, _, h => absurd h (Nat.not_lt_zero _)
  | K + 1, rem, blk, p, d, s, hG, hfr, hF, hE, hp, hrem, hblk, hdis, hd, hK => by
    have h1p : 1 - p = 0 ∨ 1 - p = 1 := by omega
    have hfb := hfr.bd rem blk
    have hrem64 : rem < 64 := Nat.lt_of_lt_of_le hrem (Nat.pow_le_pow_right (by omega) hF : 2 ^ Fc n f ≤ 2 ^ 6)
    show okP (En_best_r (En_best K) (rem : Int) (blk : Int) p (d : Int) s) _
    unfold En_best_r En_best_b11
    rw [ifEq_eq _ _ (R_nat (by omega)) R0, ifLt_eq _ _ (R_nat (by omega)) R6]
    by_cases h0 : rem = 0
    · subst h0
      have hz : Fc n (bdm f 0 blk) = 0 := cnt_zero fun i hi' q => by
        have := ((bdm_free hfr hi').mp q).2
        simp at this
      rw [if_pos (by omega), hz]
      refine okP_bnd2 (En_owner_ok hG hfr hF hE hblk) ?_
      rintro v t - ⟨k1, k2, k3⟩
      exact okP_some ⟨k1, k2, k3⟩
    · rw [if_neg (by omega)]
      -- one cell at least is free
      have hk : Fc n (bdm f rem blk) ≠ 0 := by
        intro hz
        have hfull := Fc_zero hfb hz
        refine h0 (Nat.eq_of_testBit_eq fun i => ?_)
        rw [Nat.zero_testBit]
        cases hb : rem.testBit i with
        | false => rfl
        | true =>
          exfalso
          have hi2 : i < Fc n f := by
            apply Classical.byContradiction
            intro hge
            have h1 : 2 ^ Fc n f ≤ 2 ^ i := Nat.pow_le_pow_right (by omega) (by omega)
            have h2 := bit_le hb
            omega
          obtain ⟨c, hc, fc, hic⟩ := ix_ex hi2
          have h3 := (bdm_free (rem := rem) (blk := blk) hfr hc).mpr ⟨fc, by rw [hic]; exact hb⟩
          rcases hfull c hc with q | q <;> omega
      rw [if_pos (by omega)]
      unfold En_best_l20
      refine okP_bnd (P := fun r => (∃ u, r = .inl u ∧ Ch Ce s u ∧ EB u n f ∧ ∃ c, c < n * n ∧ bdm f rem blk c = -1 ∧ cv n (Fc n (bdm f rem blk) - 1) (ups (bdm f rem blk) c p) (1 - p) = p) ∨ ∃ u, r = .inr u ∧ Ch Ce s u ∧ EB u n f ∧ ∀ c, c < n * n → bdm f rem blk c = -1 → cv n (Fc n (bdm f rem blk) - 1) (ups (bdm f rem blk) c p) (1 - p) ≠ p) (whl_for (fun (j : Nat) (u : Sg) => ((j : Int), u)) (Fc n f) (fun j u => Ch Ce s u ∧ EB u n f ∧ ∀ c, c < n * n → bdm f rem blk c = -1 → ix f c < j → cv n (Fc n (bdm f rem blk) - 1) (ups (bdm f rem blk) c p) (1 - p) ≠ p) (i0 := 0) (t0 := s) (Nat.zero_le _) ⟨Ch.rf _ _, hE, fun c _ _ h => absurd h (Nat.not_lt_zero _)⟩ ?_ ?_) ?_
      · rintro j u hj ⟨k1, k2, k3⟩
        have hpj : 2 ^ j ≤ 32 := (Nat.pow_le_pow_right (by omega) (by omega) : 2 ^ j ≤ 2 ^ 5)
        have hpos : 0 < 2 ^ j := Nat.two_pow_pos j
        have hGu := hG.ch k1 (by decide) (by decide) (by decide) (by decide)
        show okP (En_best_t20 (En_best K) (rem : Int) (blk : Int) p (d : Int) ((j : Nat) : Int) u) _
        unfold En_best_t20 En_best_b80
        rw [k2.1, ifLt_eq _ _ (R_nat (by omega)) (R_nat (by omega)), if_pos (by omega), ishl_1 j (by omega), lett_eq, iand_nat (by omega), ifEq_eq _ _ (R_nat (by have := Nat.and_le_left (n := rem) (m := 2 ^ j); omega)) R0]
        have hj2 := hj
        by_cases hbit : rem.testBit j = true
        · obtain ⟨c, hc, fc, hic⟩ := ix_ex hj2
          have hfree := (bdm_free (rem := rem) (blk := blk) hfr hc).mpr ⟨fc, by rw [hic]; exact hbit⟩
          have hbj := hdis j hbit
          have hups : ups (bdm f rem blk) c p = bdm f (rem ^^^ 2 ^ j) (blk' p blk j) := by
            have := bdm_ups (f := f) (rem := rem) (blk := blk) (c := c) hp fc (by rw [hic]; exact hbit) (by rw [hic]; exact hbj)
            rw [hic] at this
            exact this
          have hFc := Fc_ups (n := n) hc hfree (p := p) (by omega)
          rw [hups] at hFc
          have hxlt : rem ^^^ 2 ^ j < 2 ^ Fc n f := Nat.xor_lt_two_pow hrem (Nat.pow_lt_pow_right (by omega) hj2)
          have hblt : blk' p blk j < 64 := by
            unfold blk'
            split
            · exact ior_lt64 hblk (by omega)
            · exact hblk
          have hdis2 : ∀ i, (rem ^^^ 2 ^ j).testBit i = true → (blk' p blk j).testBit i = false := by
            intro i hi2
            rw [Nat.testBit_xor, Nat.testBit_two_pow] at hi2
            by_cases e : j = i
            · subst e
              rw [hbit] at hi2
              simp at hi2
            · have hr2 : rem.testBit i = true := by simpa [e] using hi2
              have := hdis i hr2
              unfold blk'
              split
              · rw [Nat.testBit_or, this, Nat.testBit_two_pow]; simp [e]
              · exact this
          have hrec := En_best_ok K (rem ^^^ 2 ^ j) (blk' p blk j) (1 - p) (d + 1) u hGu hfr hF k2 h1p hxlt hblt hdis2 (by omega) (by omega)
          have hk1 : Fc n (bdm f (rem ^^^ 2 ^ j) (blk' p blk j)) = Fc n (bdm f rem blk) - 1 := by omega
          rw [hk1, ← hups] at hrec
          have hxr : ixorI (rem : Int) ((2 ^ j : Nat) : Int) = ((rem ^^^ 2 ^ j : Nat) : Int) := ixor_nat (by omega) (by omega)
          have hbr : (if p = 0 then iorI (blk : Int) ((2 ^ j : Nat) : Int) else (blk : Int)) = ((blk' p blk j : Nat) : Int) := by
            unfold blk'
            split
            · exact ior_nat (by omega) (by omega)
            · rfl
          have hgo : okP (En_best_b54 (En_best K) (rem : Int) (blk : Int) p (d : Int) ((j : Nat) : Int) ((2 ^ j : Nat) : Int) ((blk' p blk j : Nat) : Int) u) (fun o => (∃ t', o = .inl (((j + 1 : Nat) : Int), t') ∧ Ch Ce s t' ∧ EB t' n f ∧ ∀ c, c < n * n → bdm f rem blk c = -1 → ix f c < j + 1 → cv n (Fc n (bdm f rem blk) - 1) (ups (bdm f rem blk) c p) (1 - p) ≠ p) ∨ ∃ r, o = .inr r ∧ ((∃ u, r = .inl u ∧ Ch Ce s u ∧ EB u n f ∧ ∃ c, c < n * n ∧ bdm f rem blk c = -1 ∧ cv n (Fc n (bdm f rem blk) - 1) (ups (bdm f rem blk) c p) (1 - p) = p) ∨ ∃ u, r = .inr u ∧ Ch Ce s u ∧ EB u n f ∧ ∀ c, c < n * n → bdm f rem blk c = -1 → cv n (Fc n (bdm f rem blk) - 1) (ups (bdm f rem blk) c p) (1 - p) ≠ p)) := by
            unfold En_best_b54 En_best_b80
            rw [Hx_otherSide_eq hp, bnd_some, hxr]
            refine okP_bnd2 hrec ?_
            rintro v w - ⟨l1, l2, l3⟩
            have l1 : Ch Ce u w := l1
            have l2 : EB w n f := l2
            have l3 : v = cv n (Fc n (bdm f rem blk) - 1) (ups (bdm f rem blk) c p) (1 - p) := l3
            rw [l3, ifEq_eq _ _ (R_01 (cv_rg h1p _ _)) (R_01 hp)]
            by_cases q : cv n (Fc n (bdm f rem blk) - 1) (ups (bdm f rem blk) c p) (1 - p) = p
            · rw [if_pos q]
              exact okP_some (Or.inr ⟨_, rfl, Or.inl ⟨w, rfl, k1.tr l1, l2, c, hc, hfree, q⟩⟩)
            · rw [if_neg q]
              refine okP_some (Or.inl ⟨w, rfl, k1.tr l1, l2, fun c' hc' hf' hix => ?_⟩)
              by_cases e : ix f c' = j
              · have hc2 : c' = c := ix_inj ((bdm_free hfr hc').mp hf').1 fc (e.trans hic.symm)
                rw [hc2]; exact q
              · exact k3 c' hc' hf' (by omega)
          rw [if_neg (fun k => by
            have := and_bit.mp (show rem &&& 2 ^ j = 0 by omega)
            rw [this] at hbit; cases hbit), ifEq_eq _ _ (R_01 hp) R0]
          by_cases q : p = 0
          · rw [if_pos q] at hbr ⊢
            rw [hbr]; exact hgo
          · rw [if_neg q] at hbr ⊢
            rw [hbr]; exact hgo
        · have hb' : rem.testBit j = false := by
            cases h : rem.testBit j
            · rfl
            · exact absurd h hbit
          rw [if_pos (by rw [and_bit.mpr hb']; rfl)]
          refine okP_some (Or.inl ⟨u, rfl, k1, k2, fun c hc hfree hix => ?_⟩)
          have hb := (bdm_free hfr hc).mp hfree
          by_cases e : ix f c = j
          · rw [e] at hb; exact absurd hb.2 hbit
          · exact k3 c hc hfree (by omega)
      · rintro u ⟨k1, k2, k3⟩
        show okP (En_best_t20 (En_best K) (rem : Int) (blk : Int) p (d : Int) ((Fc n f : Nat) : Int) u) _
        unfold En_best_t20
        rw [k2.1, ifLt_eq _ _ (R_nat (by omega)) (R_nat (by omega)), if_neg (by omega)]
        exact okP_some ⟨_, rfl, Or.inr ⟨u, rfl, k1, k2, fun c hc hfree => k3 c hc hfree (ix_m hc ((bdm_free hfr hc).mp hfree).1)⟩⟩
      · have hcv : cv n (Fc n (bdm f rem blk)) (bdm f rem blk) p = @ite _ (∃ c, c < n * n ∧ bdm f rem blk c = -1 ∧ cv n (Fc n (bdm f rem blk) - 1) (ups (bdm f rem blk) c p) (1 - p) = p) (Classical.propDecidable _) p (1 - p) := by
          have e : Fc n (bdm f rem blk) = (Fc n (bdm f rem blk) - 1) + 1 := by omega
          rw [e]
          rfl
        rw [hcv]
        rintro r - (⟨u, rfl, k1, k2, k3⟩ | ⟨u, rfl, k1, k2, k3⟩)
        · rw [if_pos k3]
          exact okP_some ⟨k1, k2, rfl⟩
        · rw [if_neg (fun ⟨c, hc, hf, q⟩ => k3 c hc hf q)]
          show okP (bnd (Hx_otherSide p u) _) _
          rw [Hx_otherSide_eq hp, bnd_some]
          exact okP_some ⟨k1, k2, rfl⟩
end GAMED


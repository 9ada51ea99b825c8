/-! ===== the class: a round, all rounds ===== -/
section SPR
variable {s : Sg} {n : Nat} {f : Nat → Int} {sd e : Int} {r0 A : Nat}
theorem ior01 {a b : Int} (ha : a = 0 ∨ a = 1) (hb : b = 0 ∨ b = 1) : (iorI a b = 0 ∨ iorI a b = 1) ∧ (iorI a b = 0 → a = 0 ∧ b = 0) := by
  rcases ha with rfl | rfl <;> rcases hb with rfl | rfl
  · exact ⟨Or.inl (by decide), fun _ => ⟨rfl, rfl⟩⟩
  · exact ⟨Or.inr (by decide), fun h => absurd h (by decide)⟩
  · exact ⟨Or.inr (by decide), fun h => absurd h (by decide)⟩
  · exact ⟨Or.inr (by decide), fun h => absurd h (by decide)⟩
def Fine (A : Nat) : Prop := alen A = 81 ∧ 1 ≠ A ∧ 2 ≠ A ∧ 3 ≠ A ∧ 4 ≠ A
theorem GridOK.o {s' : Sg} (h : GridOK s n) (hA : Fine A) (hc : Ch [A] s s') : GridOK s' n :=
  h.ch hc (fun q => hA.2.1 (List.mem_singleton.mp q)) (fun q => hA.2.2.1 (List.mem_singleton.mp q)) (fun q => hA.2.2.2.1 (List.mem_singleton.mp q)) (fun q => hA.2.2.2.2 (List.mem_singleton.mp q))
theorem round_ok {M : Nat} (hG : GridOK s n) (hsd : sd = 0 ∨ sd = 1) (hA : Fine A) (hr : alen (r0 + 1) = 81) (hrA : r0 + 1 ≠ A) (hcost : ∀ x, x < n * n → gi s (r0 + 1) x = cvI f sd x) (hM : M ≤ 400000) (hD : DB s A n f sd e M) :
    okP (whl (fun σ : Int × Int × Sg => Pa_spread_t91 r0 A σ.1 0 σ.2.1 σ.2.2) (0, 0, s)) (fun o => (o.1 = 0 ∨ o.1 = 1) ∧ Ch [A] s o.2 ∧ DB o.2 A n f sd e (M + 81) ∧ (∀ x, x < n * n → gi s A x ≠ -1 → gi o.2 A x ≠ -1 ∧ gi o.2 A x ≤ gi s A x) ∧ (o.1 = 0 → ∀ x, x < n * n → gi o.2 A x = gi s A x) ∧ ∀ c, c < n * n → Ub f sd c → ∀ y, y < n * n → Adj n y c → gi s A y ≠ -1 → gi o.2 A c ≠ -1 ∧ gi o.2 A c ≤ gi s A y + (cst f sd c : Int)) := by
  have h81 := nn_le hG.2.1
  have hA80 := ne80 hA.1
  refine whl_for (fun (i : Nat) (t : Int × Sg) => (t.1, (i : Int), t.2)) (n * n) (fun i t => (t.1 = 0 ∨ t.1 = 1) ∧ Ch [A] s t.2 ∧ DB t.2 A n f sd e (M + i) ∧ (∀ x, x < n * n → gi s A x ≠ -1 → gi t.2 A x ≠ -1 ∧ gi t.2 A x ≤ gi s A x) ∧ (t.1 = 0 → ∀ x, x < n * n → gi t.2 A x = gi s A x) ∧ ∀ c, c < i → Ub f sd c → ∀ y, y < n * n → Adj n y c → gi s A y ≠ -1 → gi t.2 A c ≠ -1 ∧ gi t.2 A c ≤ gi s A y + (cst f sd c : Int)) (i0 := 0) (t0 := (0, s)) (Nat.zero_le _) ⟨Or.inl rfl, Ch.rf _ _, hD, fun x _ q => ⟨q, Int.le_refl _⟩, fun _ _ _ => rfl, fun c hc => absurd hc (Nat.not_lt_zero c)⟩ ?_ ?_
  · rintro i ⟨a, t⟩ hi' ⟨h1, h2, h3, h4, h5, h6⟩
    have h1 : a = 0 ∨ a = 1 := h1
    have h2 : Ch [A] s t := h2
    have h3 : DB t A n f sd e (M + i) := h3
    have h4 : ∀ x, x < n * n → gi s A x ≠ -1 → gi t A x ≠ -1 ∧ gi t A x ≤ gi s A x := h4
    have h5 : a = 0 → ∀ x, x < n * n → gi t A x = gi s A x := h5
    have h6 : ∀ c, c < i → Ub f sd c → ∀ y, y < n * n → Adj n y c → gi s A y ≠ -1 → gi t A c ≠ -1 ∧ gi t A c ≤ gi s A y + (cst f sd c : Int) := h6
    have hGt := hG.o hA h2
    have hct : ∀ x, x < n * n → gi t (r0 + 1) x = cvI f sd x := fun x hx => by rw [h2.g (r0 + 1) (fun q => hrA (List.mem_singleton.mp q)) (ne80 hr)]; exact hcost x hx
    show okP (Pa_spread_t91 r0 A a 0 (i : Int) t) _
    unfold Pa_spread_t91
    rw [hGt.2.2.2.1, ifLt_eq _ _ (R_nat (by omega)) (R_nat (by omega)), if_pos (by omega)]
    refine okP_bnd2 (lower_ok hGt hsd hA.1 hr hct (by omega) h3 hi') ?_
    rintro v u - ⟨b1, b2, b3, b4, b5, b6, b7⟩
    have b1 : v = 0 ∨ v = 1 := b1
    have b2 : Ch [A] t u := b2
    have b3 : ∀ x, x ≠ i → gi u A x = gi t A x := b3
    have b4 : DB u A n f sd e (M + i + 1) := b4
    have b5 : gi t A i ≠ -1 → gi u A i ≠ -1 ∧ gi u A i ≤ gi t A i := b5
    have b6 : v = 0 → gi u A i = gi t A i := b6
    have b7 : Ub f sd i → ∀ y, y < n * n → Adj n y i → gi t A y ≠ -1 → gi u A i ≠ -1 ∧ gi u A i ≤ gi t A y + (cst f sd i : Int) := b7
    have hor := ior01 h1 b1
    rw [lett_eq]
    have hmono : ∀ x, x < n * n → gi t A x ≠ -1 → gi u A x ≠ -1 ∧ gi u A x ≤ gi t A x := by
      intro x hx q
      by_cases e9 : x = i
      · subst e9; exact b5 q
      · rw [b3 x e9]; exact ⟨q, Int.le_refl _⟩
    refine okP_some (Or.inl ⟨(iorI a v, u), rfl, hor.1, h2.tr b2, b4, fun x hx q => ?_, fun q x hx => ?_, fun c hc hu y hy hAd q => ?_⟩)
    · show gi u A x ≠ -1 ∧ gi u A x ≤ gi s A x
      have k1 := h4 x hx q
      have k2 := hmono x hx k1.1
      exact ⟨k2.1, by omega⟩
    · show gi u A x = gi s A x
      have k := hor.2 q
      rw [← h5 k.1 x hx]
      by_cases e9 : x = i
      · subst e9; exact b6 k.2
      · exact b3 x e9
    · show gi u A c ≠ -1 ∧ gi u A c ≤ gi s A y + (cst f sd c : Int)
      by_cases e9 : c = i
      · subst e9
        have k1 := h4 y hy q
        have k2 := b7 hu y hy hAd k1.1
        exact ⟨k2.1, by omega⟩
      · rw [b3 c e9]
        exact h6 c (by omega) hu y hy hAd q
  · rintro ⟨a, t⟩ ⟨h1, h2, h3, h4, h5, h6⟩
    have h2 : Ch [A] s t := h2
    have hGt := hG.o hA h2
    show okP (Pa_spread_t91 r0 A a 0 ((n * n : Nat) : Int) t) _
    unfold Pa_spread_t91
    rw [hGt.2.2.2.1, ifLt_eq _ _ (R_nat (by omega)) (R_nat (by omega)), if_neg (by omega)]
    refine okP_some ⟨(a, t), rfl, h1, h2, fun x hx => ?_, h4, h5, h6⟩
    rcases h3 x hx with q | ⟨v, q, hv, hw⟩
    · exact Or.inl q
    · exact Or.inr ⟨v, q, by omega, hw⟩
def SB (s : Sg) (A n : Nat) (f : Nat → Int) (sd e : Int) : Prop := ∀ x, x < n * n → Ub f sd x → edg n sd x = e → gi s A x ≠ -1 ∧ gi s A x ≤ (cst f sd x : Int)
def AllX (s : Sg) (A n : Nat) (f : Nat → Int) (sd e : Int) : Prop := ∀ x, x < n * n → gi s A x = dst n f sd e x
theorem rounds_ok (hG : GridOK s n) (hsd : sd = 0 ∨ sd = 1) (hA : Fine A) (hr : alen (r0 + 1) = 81) (hrA : r0 + 1 ≠ A) (hcost : ∀ x, x < n * n → gi s (r0 + 1) x = cvI f sd x) (hD : DB s A n f sd e 1) (hS : SB s A n f sd e) :
    okP (Pa_spread_l73 r0 A 1 0 s) (fun t => Ch [A] s t ∧ AllX t A n f sd e) := by
  have h81 := nn_le hG.2.1
  unfold Pa_spread_l73
  refine okP_bnd (P := fun t => Ch [A] s t ∧ AllX t A n f sd e) (whl_for (fun (k : Nat) (t : Int × Sg) => (t.1, (k : Int), t.2)) 81 (fun k t => (t.1 = 0 ∨ t.1 = 1) ∧ Ch [A] s t.2 ∧ DB t.2 A n f sd e (1 + 81 * k) ∧ SB t.2 A n f sd e ∧ (t.1 = 0 → AllX t.2 A n f sd e) ∧ (AllX t.2 A n f sd e ∨ k ≤ cnt (fun x => gi t.2 A x = dst n f sd e x ∧ dst n f sd e x ≠ -1) (n * n))) (i0 := 0) (t0 := (1, s)) (Nat.zero_le _) ⟨Or.inr rfl, Ch.rf _ _, hD, hS, fun q => absurd (show (1 : Int) = 0 from q) (by omega), Or.inr (Nat.zero_le _)⟩ ?_ ?_) ?_
  · rintro k ⟨a, t⟩ hk ⟨h1, h2, h3, h4, h5, h6⟩
    have h1 : a = 0 ∨ a = 1 := h1
    have h2 : Ch [A] s t := h2
    have h3 : DB t A n f sd e (1 + 81 * k) := h3
    have h4 : SB t A n f sd e := h4
    have h5 : a = 0 → AllX t A n f sd e := h5
    have h6 : AllX t A n f sd e ∨ k ≤ cnt (fun x => gi t A x = dst n f sd e x ∧ dst n f sd e x ≠ -1) (n * n) := h6
    have hGt := hG.o hA h2
    have hct : ∀ x, x < n * n → gi t (r0 + 1) x = cvI f sd x := fun x hx => by rw [h2.g (r0 + 1) (fun q => hrA (List.mem_singleton.mp q)) (ne80 hr)]; exact hcost x hx
    show okP (Pa_spread_t73 r0 A a (k : Int) t) _
    unfold Pa_spread_t73
    rw [ifLt_eq _ _ (R_nat (by omega)) R81, if_pos (by omega), ifEq_eq _ _ (R_01 h1) R0]
    by_cases ha : a = 0
    · rw [if_pos ha]
      exact okP_some (Or.inr ⟨t, rfl, h2, h5 ha⟩)
    · rw [if_neg ha]
      unfold Pa_spread_l91
      refine okP_bnd (round_ok hGt hsd hA hr hrA hct (by omega) h3) ?_
      rintro ⟨v, u⟩ - ⟨b1, b2, b3, b4, b5, b6⟩
      have b1 : v = 0 ∨ v = 1 := b1
      have b2 : Ch [A] t u := b2
      have b3 : DB u A n f sd e (1 + 81 * k + 81) := b3
      have b4 : ∀ x, x < n * n → gi t A x ≠ -1 → gi u A x ≠ -1 ∧ gi u A x ≤ gi t A x := b4
      have b5 : v = 0 → ∀ x, x < n * n → gi u A x = gi t A x := b5
      have b6 : ∀ c, c < n * n → Ub f sd c → ∀ y, y < n * n → Adj n y c → gi t A y ≠ -1 → gi u A c ≠ -1 ∧ gi u A c ≤ gi t A y + (cst f sd c : Int) := b6
      -- what stands right stays
      have hkeep : ∀ x, x < n * n → gi t A x = dst n f sd e x ∧ dst n f sd e x ≠ -1 → gi u A x = dst n f sd e x ∧ dst n f sd e x ≠ -1 := by
        rintro x hx ⟨q1, q2⟩
        refine ⟨?_, q2⟩
        have k1 := b4 x hx (by rw [q1]; exact q2)
        rcases b3 x hx with q | ⟨w, q, -, hw⟩
        · exact absurd q k1.1
        · obtain ⟨w', c1, -, c3, -⟩ := dst_w hw
          omega
      have hnew : (∀ x, x < n * n → gi t A x ≠ dst n f sd e x → True) := fun _ _ _ => trivial
      have hex : ¬ AllX t A n f sd e → ∃ c, c < n * n ∧ gi t A c ≠ dst n f sd e c ∧ gi u A c = dst n f sd e c ∧ dst n f sd e c ≠ -1 := by
        intro hno
        obtain ⟨y, c, hy, hc, hAd, hu, c1, c2, c3, c4⟩ := dst_next (d := fun x => gi t A x) h4 (fun x hx => by
          rcases h3 x hx with q | ⟨w, q, -, hw⟩
          · exact Or.inl q
          · exact Or.inr ⟨w, q, hw⟩) hno
        have c1 : gi t A y = dst n f sd e y := c1
        have c3 : gi t A c ≠ dst n f sd e c := c3
        have k1 := b6 c hc hu y hy hAd (by rw [c1]; exact c2)
        refine ⟨c, hc, c3, ?_, ?_⟩
        · rcases b3 c hc with q | ⟨w, q, -, hw⟩
          · exact absurd q k1.1
          · obtain ⟨w', d1, -, d3, -⟩ := dst_w hw
            omega
        · rcases dst_cases n f sd e y with ⟨q, -⟩ | ⟨w, q, -, -⟩
          · exact absurd q c2
          · omega
      refine okP_some (Or.inl ⟨(v, u), rfl, b1, h2.tr b2, fun x hx => ?_, fun x hx hu he => ?_, fun q => ?_, ?_⟩)
      · rcases b3 x hx with q | ⟨w, q, hv, hw⟩
        · exact Or.inl q
        · exact Or.inr ⟨w, q, by omega, hw⟩
      · obtain ⟨k1, k2⟩ := h4 x hx hu he
        have k3 := b4 x hx k1
        exact ⟨k3.1, by have := k3.2; show gi u A x ≤ _; omega⟩
      · have hX : AllX t A n f sd e := by
          apply Classical.byContradiction
          intro hno
          obtain ⟨c, hc, d1, d2, -⟩ := hex hno
          exact d1 ((b5 q c hc).symm.trans d2)
        intro x hx
        exact (b5 q x hx).trans (hX x hx)
      · show AllX u A n f sd e ∨ k + 1 ≤ cnt (fun x => gi u A x = dst n f sd e x ∧ dst n f sd e x ≠ -1) (n * n)
        by_cases hX : AllX t A n f sd e
        · left
          intro x hx
          rcases dst_cases n f sd e x with ⟨q, hn⟩ | ⟨w, q, hw, -⟩
          · rcases b3 x hx with q2 | ⟨w, q2, -, hw⟩
            · rw [q2, q]
            · exact absurd hw (hn w)
          · exact (hkeep x hx ⟨hX x hx, by omega⟩).1
        · right
          obtain ⟨c, hc, d1, d2, d3⟩ := hex hX
          have k1 := cnt_lt (p := fun x => gi t A x = dst n f sd e x ∧ dst n f sd e x ≠ -1) (q := fun x => gi u A x = dst n f sd e x ∧ dst n f sd e x ≠ -1) (N := n * n) hkeep hc (fun q => d1 q.1) ⟨d2, d3⟩
          rcases h6 with h6 | h6
          · exact absurd h6 hX
          · omega
  · rintro ⟨a, t⟩ ⟨h1, h2, h3, h4, h5, h6⟩
    have h2 : Ch [A] s t := h2
    have h6 : AllX t A n f sd e ∨ 81 ≤ cnt (fun x => gi t A x = dst n f sd e x ∧ dst n f sd e x ≠ -1) (n * n) := h6
    show okP (Pa_spread_t73 r0 A a ((81 : Nat) : Int) t) _
    unfold Pa_spread_t73
    rw [ifLt_eq _ _ (R_nat (by omega)) R81, if_neg (by omega)]
    refine okP_some ⟨t, rfl, h2, ?_⟩
    rcases h6 with h6 | h6
    · exact h6
    · exact fun x hx => (cnt_full (p := fun x => gi t A x = dst n f sd e x ∧ dst n f sd e x ≠ -1) (N := n * n) (by omega) x hx).1
  · rintro t - h
    exact okP_some h
end SPR


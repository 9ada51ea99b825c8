/-! ===== the class: solved, good moves, the best move ===== -/
section GAMEE
variable {n : Nat} {f : Nat → Int} {s : Sg} {p : Int}
theorem En_all_eq (hE : EB s n f) (hF : Fc n f ≤ 6) : En_all s = some ((2 ^ Fc n f - 1 : Nat) : Int) := by
  have hp := Nat.two_pow_pos (Fc n f)
  unfold En_all
  rw [hE.1, ishl_1 _ (by omega)]
  congr 1
  omega
theorem bdm_all {c : Nat} (hc : c < n * n) : bdm f (2 ^ Fc n f - 1) 0 c = f c := by
  unfold bdm
  by_cases q : f c = -1
  · rw [if_pos q, Nat.testBit_two_pow_sub_one, if_pos (decide_eq_true (ix_m hc q)), q]
  · rw [if_neg q]
theorem Fc_all : Fc n (bdm f (2 ^ Fc n f - 1) 0) = Fc n f := Fc_congr fun _ hc => bdm_all hc
theorem En_winner_ok (hG : GridOK s n) (hfr : FR n f) (hF : Fc n f ≤ 6) (hE : EB s n f) (hp : p = 0 ∨ p = 1) : okP (En_winner p s) (fun o => Ch Ce s o.2 ∧ EB o.2 n f ∧ o.1 = cv n (Fc n f) f p) := by
  have hpos := Nat.two_pow_pos (Fc n f)
  unfold En_winner
  rw [En_all_eq hE hF, bnd_some]
  have h := En_best_ok (n := n) (f := f) 8 (2 ^ Fc n f - 1) 0 p 0 s hG hfr hF hE hp (by omega) (by omega) (fun i _ => Nat.zero_testBit i) (by rw [Fc_all]; omega) (by rw [Fc_all]; omega)
  rw [Fc_all, cv_congr _ _ _ _ (fun c hc => bdm_all hc)] at h
  refine okP_bnd2 h ?_
  rintro v t - k
  exact okP_some k
theorem En_isGood_ok {c : Nat} (hG : GridOK s n) (hfr : FR n f) (hF : Fc n f ≤ 6) (hE : EB s n f) (hp : p = 0 ∨ p = 1) (hc : c < n * n) (fc : f c = -1) : okP (En_isGood ((ix f c : Nat) : Int) p s) (fun o => Ch Ce s o.2 ∧ EB o.2 n f ∧ o.1 = bI (gud n f p c)) := by
  have hpos := Nat.two_pow_pos (Fc n f)
  have h1p : 1 - p = 0 ∨ 1 - p = 1 := by omega
  have hix := ix_m hc fc
  have hpj : 2 ^ ix f c ≤ 32 := (Nat.pow_le_pow_right (by omega) (by omega) : 2 ^ ix f c ≤ 2 ^ 5)
  have hpm : 2 ^ Fc n f ≤ 64 := (Nat.pow_le_pow_right (by omega) hF : 2 ^ Fc n f ≤ 2 ^ 6)
  have hbit : (2 ^ Fc n f - 1).testBit (ix f c) = true := by rw [Nat.testBit_two_pow_sub_one]; exact decide_eq_true hix
  have hups := bdm_ups (f := f) (rem := 2 ^ Fc n f - 1) (blk := 0) (c := c) hp fc hbit (Nat.zero_testBit _)
  have hcell : ∀ x, x < n * n → ups (bdm f (2 ^ Fc n f - 1) 0) c p x = ups f c p x := by
    intro x hx
    unfold ups
    split
    · rfl
    · exact bdm_all hx
  have hFc := Fc_ups (n := n) hc fc (p := p) (by omega)
  have hF2 : Fc n (bdm f ((2 ^ Fc n f - 1) ^^^ 2 ^ ix f c) (blk' p 0 (ix f c))) = Fc n f - 1 := by
    rw [← hups, Fc_congr hcell]; omega
  have hxlt : (2 ^ Fc n f - 1) ^^^ 2 ^ ix f c < 2 ^ Fc n f := Nat.xor_lt_two_pow (by omega) (Nat.pow_lt_pow_right (by omega) hix)
  have hblt : blk' p 0 (ix f c) < 64 := by
    unfold blk'
    split
    · exact ior_lt64 (by omega) (by omega)
    · omega
  have hdis : ∀ i, ((2 ^ Fc n f - 1) ^^^ 2 ^ ix f c).testBit i = true → (blk' p 0 (ix f c)).testBit i = false := by
    intro i hi2
    rw [Nat.testBit_xor, Nat.testBit_two_pow] at hi2
    have hne : ¬ ix f c = i := by
      intro e
      subst e
      rw [hbit] at hi2
      simp at hi2
    unfold blk'
    split
    · rw [Nat.testBit_or, Nat.testBit_two_pow, Nat.zero_testBit]; simp [hne]
    · exact Nat.zero_testBit i
  have h := En_best_ok (n := n) (f := f) 8 ((2 ^ Fc n f - 1) ^^^ 2 ^ ix f c) (blk' p 0 (ix f c)) (1 - p) 1 s hG hfr hF hE h1p hxlt hblt hdis (by rw [hF2]; omega) (by rw [hF2]; omega)
  rw [hF2, ← hups, cv_congr _ _ _ _ hcell] at h
  have hxr : ixorI ((2 ^ Fc n f - 1 : Nat) : Int) ((2 ^ ix f c : Nat) : Int) = (((2 ^ Fc n f - 1) ^^^ 2 ^ ix f c : Nat) : Int) := ixor_nat (by omega) (by omega)
  have fin : okP (En_isGood_b20 p (((2 ^ Fc n f - 1) ^^^ 2 ^ ix f c : Nat) : Int) ((blk' p 0 (ix f c) : Nat) : Int) s) (fun o => Ch Ce s o.2 ∧ EB o.2 n f ∧ o.1 = bI (gud n f p c)) := by
    unfold En_isGood_b20
    rw [Hx_otherSide_eq hp, bnd_some]
    refine okP_bnd2 h ?_
    rintro v t - ⟨k1, k2, k3⟩
    have k3 : v = cv n (Fc n f - 1) (ups f c p) (1 - p) := k3
    rw [k3, ifEq_eq _ _ (R_01 (cv_rg h1p _ _)) (R_01 hp)]
    by_cases q : cv n (Fc n f - 1) (ups f c p) (1 - p) = p
    · rw [if_pos q]; exact okP_some ⟨k1, k2, (bI_t ⟨fc, q⟩).symm⟩
    · rw [if_neg q]; exact okP_some ⟨k1, k2, (bI_f (fun z => q z.2)).symm⟩
  unfold En_isGood
  rw [lett_eq, En_all_eq hE hF, bnd_some, ishl_1 _ (by omega), hxr, ifEq_eq _ _ (R_01 hp) R0]
  by_cases q : p = 0
  · rw [if_pos q]
    have e : blk' p 0 (ix f c) = 2 ^ ix f c := by unfold blk'; rw [if_pos q, Nat.zero_or]
    rw [e] at fin
    exact fin
  · rw [if_neg q]
    have e : blk' p 0 (ix f c) = 0 := by unfold blk'; rw [if_neg q]
    rw [e] at fin
    exact fin
theorem En_countGood_ok (hG : GridOK s n) (hfr : FR n f) (hF : Fc n f ≤ 6) (hE : EB s n f) (hp : p = 0 ∨ p = 1) : okP (En_countGood p s) (fun o => Ch Ce s o.2 ∧ o.1 = (cnt (gud n f p) (n * n) : Int)) := by
  unfold En_countGood En_countGood_l4
  refine okP_bnd (P := fun r => Ch Ce s r.2 ∧ r.1 = (cnt (gud n f p) (n * n) : Int)) (whl_for (fun (i : Nat) (u : Int × Sg) => (u.1, (i : Int), u.2)) (Fc n f) (fun i u => Ch Ce s u.2 ∧ EB u.2 n f ∧ u.1 = (cnt (fun c => gud n f p c ∧ ix f c < i) (n * n) : Int)) (i0 := 0) (t0 := (0, s)) (Nat.zero_le _) ⟨Ch.rf _ _, hE, ?_⟩ ?_ ?_) ?_
  · show (0 : Int) = _
    rw [cnt_zero (fun i _ q => absurd q.2 (Nat.not_lt_zero _))]; rfl
  · rintro i ⟨a, u⟩ hi' ⟨k1, k2, k3⟩
    have k1 : Ch Ce s u := k1
    have k2 : EB u n f := k2
    have k3 : a = (cnt (fun c => gud n f p c ∧ ix f c < i) (n * n) : Int) := k3
    have hGu := hG.ch k1 (by decide) (by decide) (by decide) (by decide)
    obtain ⟨c, hc, fc, hic⟩ := ix_ex hi'
    show okP (En_countGood_t4 p a (i : Int) u) _
    unfold En_countGood_t4 En_countGood_b24
    rw [k2.1, ifLt_eq _ _ (R_nat (by omega)) (R_nat (by omega)), if_pos (by omega), ← hic]
    refine okP_bnd2 (En_isGood_ok hGu hfr hF k2 hp hc fc) ?_
    rintro v w - ⟨l1, l2, l3⟩
    have l1 : Ch Ce u w := l1
    have l3 : v = bI (gud n f p c) := l3
    rw [l3, ifEq_eq _ _ (R_bI _) R0]
    by_cases h : gud n f p c
    · rw [bI_t h, if_neg (by omega)]
      refine okP_some (Or.inl ⟨(a + 1, w), rfl, k1.tr l1, l2, ?_⟩)
      show a + 1 = _
      rw [k3, cnt_add (p := fun x => gud n f p x ∧ ix f x < i) (q := fun x => gud n f p x ∧ ix f x < ix f c + 1) (j := c) (fun q => by have := q.2; omega) ⟨h, by omega⟩ hc (fun x hx hne => ⟨fun q => ⟨q.1, by have := q.2; omega⟩, fun q => ⟨q.1, by
        have hxi : ix f x ≠ ix f c := fun z => hne (ix_inj q.1.1 fc z)
        have := q.2
        omega⟩⟩)]
      omega
    · rw [bI_f h, if_pos rfl]
      refine okP_some (Or.inl ⟨(a, w), rfl, k1.tr l1, l2, ?_⟩)
      show a = _
      rw [k3]
      congr 1
      refine cnt_congr fun x hx => ⟨fun q => ⟨q.1, by have := q.2; omega⟩, fun q => ⟨q.1, ?_⟩⟩
      have hxi : ix f x ≠ ix f c := fun z => h ((ix_inj q.1.1 fc z) ▸ q.1)
      have := q.2
      omega
  · rintro ⟨a, u⟩ ⟨k1, k2, k3⟩
    have k2 : EB u n f := k2
    have k3 : a = (cnt (fun c => gud n f p c ∧ ix f c < Fc n f) (n * n) : Int) := k3
    show okP (En_countGood_t4 p a ((Fc n f : Nat) : Int) u) _
    unfold En_countGood_t4
    rw [k2.1, ifLt_eq _ _ (R_nat (by omega)) (R_nat (by omega)), if_neg (by omega)]
    refine okP_some ⟨(a, u), rfl, k1, ?_⟩
    show a = _
    rw [k3]
    congr 1
    exact cnt_congr fun x hx => ⟨fun q => q.1, fun q => ⟨q, ix_m hx q.1⟩⟩
  · rintro ⟨a, u⟩ - h
    exact okP_some h
theorem En_lowestGood_ok (hG : GridOK s n) (hfr : FR n f) (hF : Fc n f ≤ 6) (hE : EB s n f) (hp : p = 0 ∨ p = 1) : okP (En_lowestGood p s) (fun o => Ch Ce s o.2 ∧ o.1 = nth (gud n f p) 0 (n * n)) := by
  have a76 : alen 76 = 6 := rfl
  unfold En_lowestGood En_lowestGood_l2
  refine okP_bnd (P := fun r => (∃ (i : Nat) (u : Sg), r = .inl ((i : Int), u) ∧ Ch Ce s u ∧ EB u n f ∧ i < Fc n f ∧ ∃ c, c < n * n ∧ f c = -1 ∧ ix f c = i ∧ gud n f p c ∧ ∀ x, x < n * n → ix f x < i → ¬ gud n f p x) ∨ ∃ u : Sg, r = .inr u ∧ Ch Ce s u ∧ ∀ x, x < n * n → ¬ gud n f p x) (whl_for (fun (i : Nat) (u : Sg) => ((i : Int), u)) (Fc n f) (fun i u => Ch Ce s u ∧ EB u n f ∧ ∀ x, x < n * n → ix f x < i → ¬ gud n f p x) (i0 := 0) (t0 := s) (Nat.zero_le _) ⟨Ch.rf _ _, hE, fun x _ h => absurd h (Nat.not_lt_zero _)⟩ ?_ ?_) ?_
  · rintro i u hi' ⟨k1, k2, k3⟩
    have hGu := hG.ch k1 (by decide) (by decide) (by decide) (by decide)
    obtain ⟨c, hc, fc, hic⟩ := ix_ex hi'
    show okP (En_lowestGood_t2 p (i : Int) u) _
    unfold En_lowestGood_t2
    rw [k2.1, ifLt_eq _ _ (R_nat (by omega)) (R_nat (by omega)), if_pos (by omega)]
    have hg := En_isGood_ok hGu hfr hF k2 hp hc fc
    rw [hic] at hg
    refine okP_bnd2 hg ?_
    rintro v w - ⟨l1, l2, l3⟩
    have l1 : Ch Ce u w := l1
    have l3 : v = bI (gud n f p c) := l3
    rw [l3, ifEq_eq _ _ (R_bI _) R0]
    by_cases h : gud n f p c
    · rw [bI_t h, if_neg (by omega)]
      exact okP_some (Or.inr ⟨_, rfl, Or.inl ⟨i, w, rfl, k1.tr l1, l2, hi', c, hc, fc, hic, h, k3⟩⟩)
    · rw [bI_f h, if_pos rfl]
      refine okP_some (Or.inl ⟨w, rfl, k1.tr l1, l2, fun x hx hlt q => ?_⟩)
      by_cases e : ix f x = i
      · exact h ((ix_inj q.1 fc (e.trans hic.symm)) ▸ q)
      · exact k3 x hx (by omega) q
  · rintro u ⟨k1, k2, k3⟩
    show okP (En_lowestGood_t2 p ((Fc n f : Nat) : Int) u) _
    unfold En_lowestGood_t2
    rw [k2.1, ifLt_eq _ _ (R_nat (by omega)) (R_nat (by omega)), if_neg (by omega)]
    exact okP_some ⟨_, rfl, Or.inr ⟨u, rfl, k1, fun x hx q => k3 x hx (ix_m hx q.1) q⟩⟩
  · rintro r - (⟨i, u, rfl, k1, k2, hi', c, hc, fc, hic, h, k3⟩ | ⟨u, rfl, k1, k3⟩)
    · show okP (bnd (Hx_at 76 (i : Int) u) _) _
      rw [Hx_at_n (by omega), bnd_some, ← hic, k2.2.1 c hc fc]
      refine okP_some ⟨k1, (nth_k hc h ?_ fun j hj q => ?_).symm⟩
      · rw [cnt_zero (fun j hj q => ?_)]
        · rfl
        · exact k3 j (by omega) (by rw [← hic]; exact ix_lt hj q.1) q
      · exact k3 j (by omega) (by rw [← hic]; exact ix_lt hj q.1.1) q.1
    · exact okP_some ⟨k1, (nth_no (fun j hj q => k3 j hj q.1)).symm⟩
end GAMEE
section GAMEQ
variable {s : Sg} {b : Bd}
theorem class_start (hb : BdOK b) (hC : CQ s b) {α : Type} {Q : α → Prop} {m : Int → Sg → Option α} (k : ∀ t, Ch [5, 6, 7, 8, 9] s t → okP (m (wnr b.n b.f b.g) t) Q) : okP (bnd2 (Hx_winner s) m) Q := by
  unfold Hx_winner
  have h := Po_winner_ok hC.1 (p := 10) (by decide) hC.2.2.2.2.2.2.2.1 hb.2.1 hC.2.2.2.2.2.2.1 hb.2.2.2.2.1
  have h2 : okP (bnd2 (Po_winner 10 s) fun y1 s2 => some (y1, s2)) (fun o => Ch [5, 6, 7, 8, 9] s o.2 ∧ o.1 = wnr b.n b.f b.g) := by
    refine okP_bnd2 h ?_
    rintro y t - q
    exact okP_some q
  refine okP_bnd2 h2 ?_
  rintro y t - ⟨h3, h4⟩
  have h4 : y = wnr b.n b.f b.g := h4
  rw [h4]
  exact k t h3
theorem count_free (hb : BdOK b) (hC : CQ s b) : Po_count 10 (-1) s = some ((Fc b.n b.f : Nat) : Int) := Po_count_eq hb.1.2 hC.2.2.1 rfl hC.2.2.2.2.2.2.2.1 hb.2.1 R_n1
theorem Hx_solved_ok (hb : BdOK b) (hC : CQ s b) : okP (Hx_solved s) (fun o => Ch Ce s o.2 ∧ o.1 = sol b) := by
  have h81 := nn_le hb.1.2
  have hle := cnt_le (fun c => b.f c = -1) (b.n * b.n)
  have hle : Fc b.n b.f ≤ b.n * b.n := hle
  unfold Hx_solved
  refine class_start hb hC ?_
  intro t hCt
  have hQt := hC.ch hCt
  unfold sol
  rw [ifEq_eq _ _ (R_tri (wnr_rg hb.2.2.2.2.1)) R_n1]
  by_cases e1 : wnr b.n b.f b.g = -1
  · rw [if_pos e1, if_pos e1, count_free hb hQt, bnd_some, ifLt_eq _ _ R6 (R_nat (by omega))]
    by_cases e2 : 6 < Fc b.n b.f
    · rw [if_pos (by omega), if_pos e2]
      exact okP_some ⟨hCt.mo (by decide), e1⟩
    · rw [if_neg (by omega), if_neg e2]
      refine okP_bnd (En_begin_ok hQt.1 hQt.2.2.2.2.2.2.2.1 hb.2.1 (by omega)) ?_
      rintro u - ⟨k1, k2⟩
      have hQu := hQt.ch k1
      rw [hQu.2.2.2.2.2.1]
      refine okP_bnd2 (En_winner_ok hQu.1 hb.2.1 (by omega) k2 hb.2.2.2.1) ?_
      rintro v w - ⟨l1, -, l3⟩
      exact okP_some ⟨((hCt.mo (by decide)).tr (k1.mo (by decide))).tr l1, l3⟩
  · rw [if_neg e1, if_neg e1]
    exact okP_some ⟨hCt.mo (by decide), rfl⟩
theorem Hx_goodMoves_ok (hb : BdOK b) (hC : CQ s b) : okP (Hx_goodMoves s) (fun o => Ch Ce s o.2 ∧ o.1 = gdm b) := by
  have h81 := nn_le hb.1.2
  have hle := cnt_le (fun c => b.f c = -1) (b.n * b.n)
  have hle : Fc b.n b.f ≤ b.n * b.n := hle
  unfold Hx_goodMoves
  refine class_start hb hC ?_
  intro t hCt
  have hQt := hC.ch hCt
  unfold gdm
  rw [ifEq_eq _ _ (R_tri (wnr_rg hb.2.2.2.2.1)) R_n1]
  by_cases e1 : wnr b.n b.f b.g = -1
  · rw [if_pos e1, if_pos e1, count_free hb hQt, bnd_some, ifLt_eq _ _ R6 (R_nat (by omega))]
    by_cases e2 : 6 < Fc b.n b.f
    · rw [if_pos (by omega), if_pos e2]
      exact okP_some ⟨hCt.mo (by decide), rfl⟩
    · rw [if_neg (by omega), if_neg e2]
      refine okP_bnd (En_begin_ok hQt.1 hQt.2.2.2.2.2.2.2.1 hb.2.1 (by omega)) ?_
      rintro u - ⟨k1, k2⟩
      have hQu := hQt.ch k1
      rw [hQu.2.2.2.2.2.1]
      refine okP_bnd2 (En_countGood_ok hQu.1 hb.2.1 (by omega) k2 hb.2.2.2.1) ?_
      rintro v w - ⟨l1, l3⟩
      exact okP_some ⟨((hCt.mo (by decide)).tr (k1.mo (by decide))).tr l1, l3⟩
  · rw [if_neg e1, if_neg e1]
    exact okP_some ⟨hCt.mo (by decide), rfl⟩
theorem Hx_bestMove_ok (hb : BdOK b) (hC : CQ s b) : okP (Hx_bestMove s) (fun o => Ch Ce s o.2 ∧ o.1 = bsm b) := by
  have h81 := nn_le hb.1.2
  have hle := cnt_le (fun c => b.f c = -1) (b.n * b.n)
  have hle : Fc b.n b.f ≤ b.n * b.n := hle
  unfold Hx_bestMove
  refine class_start hb hC ?_
  intro t hCt
  have hQt := hC.ch hCt
  unfold bsm
  rw [ifEq_eq _ _ (R_tri (wnr_rg hb.2.2.2.2.1)) R_n1]
  by_cases e1 : wnr b.n b.f b.g = -1
  · rw [if_pos e1, if_pos e1, count_free hb hQt, bnd_some, ifLt_eq _ _ R6 (R_nat (by omega))]
    by_cases e2 : 6 < Fc b.n b.f
    · rw [if_pos (by omega), if_pos e2]
      exact okP_some ⟨hCt.mo (by decide), rfl⟩
    · rw [if_neg (by omega), if_neg e2]
      refine okP_bnd (En_begin_ok hQt.1 hQt.2.2.2.2.2.2.2.1 hb.2.1 (by omega)) ?_
      rintro u - ⟨k1, k2⟩
      have hQu := hQt.ch k1
      rw [hQu.2.2.2.2.2.1]
      refine okP_bnd2 (En_lowestGood_ok hQu.1 hb.2.1 (by omega) k2 hb.2.2.2.1) ?_
      rintro v w - ⟨l1, l3⟩
      exact okP_some ⟨((hCt.mo (by decide)).tr (k1.mo (by decide))).tr l1, l3⟩
  · rw [if_neg e1, if_neg e1]
    exact okP_some ⟨hCt.mo (by decide), rfl⟩
end GAMEQ


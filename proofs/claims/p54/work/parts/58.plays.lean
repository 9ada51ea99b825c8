/-! ===== moves are made ===== -/
def ply (b : Bd) (c : Nat) : Bd := Bd.mk b.n (ups b.f c b.t) b.w (1 - b.t) b.g (b.m + 1) (fun i => if i = b.m then (c : Int) else b.mv i)
section PLY
variable {s : Sg} {b : Bd}
theorem ply_ok {c : Nat} (hb : BdOK b) (hm : b.m < 200) (hc : c < b.n * b.n) : BdOK (ply b c) := by
  obtain ⟨hn, hfr, hw, ht, hg, hm2, hmv⟩ := hb
  refine ⟨hn, hfr.ups (Or.inr ht), hw, (by show 1 - b.t = 0 ∨ 1 - b.t = 1; omega), hg, (by show b.m + 1 ≤ 200; omega), fun i hi' => ?_⟩
  show ∃ d : Nat, (if i = b.m then (c : Int) else b.mv i) = (d : Int) ∧ d < b.n * b.n
  have hi2 : i < b.m + 1 := hi'
  by_cases e : i = b.m
  · rw [if_pos e]; exact ⟨c, rfl, hc⟩
  · rw [if_neg e]; exact hmv i (by omega)
theorem Po_play_ok {p c : Nat} (hp : p = 10 ∨ p = 53) (hb : BdOK b) (hm : b.m < 200) (hc : c < b.n * b.n) (h : CP s p b) : okP (Po_play p (c : Int) s) (fun t => Ch [p, p + 1, p + 2] s t ∧ CP t p (ply b c)) := by
  have h81 := nn_le hb.1.2
  have a1 : alen (p + 1) = 81 := by rcases hp with rfl | rfl <;> rfl
  have a2 : alen (p + 2) = 200 := by rcases hp with rfl | rfl <;> rfl
  have h80 : p < 78 := by omega
  obtain ⟨p1, p2, p3, p4, p5, p6, p7⟩ := h
  unfold Po_play
  rw [p4, Hx_set_n (by omega), bnd_some, gi_si_o _ _ _ _ (show p ≠ p + 1 by omega), p3, Hx_set_n (by omega), bnd_some, gi_si_o _ _ _ _ (show p ≠ p + 2 by omega), gi_si_o _ _ _ _ (show p ≠ p + 1 by omega), p3, lett_eq, gi_si_k _ _ _ (show (5 : Nat) ≠ 4 by omega), gi_si_o _ _ _ _ (show p ≠ p + 2 by omega), gi_si_o _ _ _ _ (show p ≠ p + 1 by omega), p4, Hx_otherSide_eq hb.2.2.2.1, bnd_some, lett_eq]
  have c1 : Ch [p, p + 1, p + 2] s (si s (p + 1) c b.t) := Ch.si (by simp) (by omega)
  have c2 : Ch [p, p + 1, p + 2] (si s (p + 1) c b.t) (si (si s (p + 1) c b.t) (p + 2) b.m (c : Int)) := Ch.si (by simp) (by omega)
  have c3 := fun (u : Sg) (k : Nat) (v : Int) => (Ch.si (by simp) (by omega) : Ch [p, p + 1, p + 2] u (si u p k v))
  refine okP_some ⟨((c1.tr c2).tr (c3 _ 4 _)).tr (c3 _ 5 _), ?_, ?_, ?_, ?_, ?_, fun x hx => ?_, fun i hi' => ?_⟩
  · rw [gi_si_k _ _ _ (by omega), gi_si_k _ _ _ (by omega), gi_si_o _ _ _ _ (by omega), gi_si_o _ _ _ _ (by omega)]; exact p1
  · rw [gi_si_k _ _ _ (by omega), gi_si_k _ _ _ (by omega), gi_si_o _ _ _ _ (by omega), gi_si_o _ _ _ _ (by omega)]; exact p2
  · rw [gi_si_k _ _ _ (by omega), gi_si_s]; rfl
  · rw [gi_si_s]; rfl
  · rw [gi_si_k _ _ _ (by omega), gi_si_k _ _ _ (by omega), gi_si_o _ _ _ _ (by omega), gi_si_o _ _ _ _ (by omega)]; exact p5
  · rw [gi_si_o _ _ _ _ (by omega), gi_si_o _ _ _ _ (by omega), gi_si_o _ _ _ _ (by omega)]
    show _ = ups b.f c b.t x
    by_cases e : x = c
    · subst e; rw [gi_si_s, ups_s]
    · rw [gi_si_k _ _ _ e, ups_o e]; exact p6 x hx
  · have hi2 : i < b.m + 1 := hi'
    rw [gi_si_o _ _ _ _ (by omega), gi_si_o _ _ _ _ (by omega)]
    show _ = if i = b.m then (c : Int) else b.mv i
    by_cases e : i = b.m
    · subst e; rw [gi_si_s, if_pos rfl]
    · rw [gi_si_k _ _ _ e, if_neg e, gi_si_o _ _ _ _ (by omega)]; exact p7 i (by omega)
end PLY
/-- the forced moves, one behind the other -/
noncomputable def itb (b : Bd) : Nat → Bd
  | 0 => b
  | i + 1 => ply (itb b i) (fcd (itb b i)).toNat
def stp' (b : Bd) : Prop := fcd b = -1 ∨ 200 ≤ b.m
noncomputable def fcn (b : Bd) (k : Nat) : Nat := fst1 (fun i => stp' (itb b i)) k
section MKF
variable {s : Sg} {b : Bd}
abbrev Cp : List Nat := [5, 6, 7, 8, 9, 56, 57, 58, 59, 60, 61, 62, 10, 11, 12]
abbrev Mp : List Nat := [81, 87, 8024, 8025, 8026, 8027, 88, 89, 90, 91, 92, 93]
theorem itb_ok (hb : BdOK b) : ∀ i, (∀ j, j < i → ¬ stp' (itb b j)) → BdOK (itb b i) ∧ (itb b i).n = b.n
  | 0, _ => ⟨hb, rfl⟩
  | i + 1, h => by
    obtain ⟨h1, h2⟩ := itb_ok hb i (fun j hj => h j (by omega))
    have hs := h i (by omega)
    rcases fcd_rg h1 with q | ⟨c, q, hc⟩
    · exact absurd (Or.inl q) hs
    · have e : (fcd (itb b i)).toNat = c := by omega
      have hm : (itb b i).m < 200 := Nat.lt_of_not_le fun z => hs (Or.inr z)
      show BdOK (ply (itb b i) (fcd (itb b i)).toNat) ∧ (ply (itb b i) (fcd (itb b i)).toNat).n = b.n
      rw [e]
      exact ⟨ply_ok h1 hm hc, h2⟩
theorem makeForced_ok {k : Nat} (hb : BdOK b) (hC : CQ s b) (hk : k ≤ 100) : okP (Hx_makeForced (k : Int) s) (fun o => Ch Cp s o.2 ∧ CQ o.2 (itb b (fcn b k)) ∧ BdOK (itb b (fcn b k)) ∧ o.1 = (fcn b k : Int)) := by
  unfold Hx_makeForced Hx_makeForced_l2
  refine okP_bnd (P := fun r => ∃ u : Sg, (r = .inl ((fcn b k : Int), u) ∨ r = .inr ((fcn b k : Int), u)) ∧ Ch Cp s u ∧ CQ u (itb b (fcn b k)) ∧ BdOK (itb b (fcn b k))) (whl_for (fun (i : Nat) (u : Sg) => ((i : Int), u)) k (fun i u => Ch Cp s u ∧ CQ u (itb b i) ∧ BdOK (itb b i) ∧ ∀ j, j < i → ¬ stp' (itb b j)) (i0 := 0) (t0 := s) (Nat.zero_le _) ⟨Ch.rf _ _, hC, hb, fun j hj => absurd hj (Nat.not_lt_zero j)⟩ ?_ ?_) ?_
  · rintro i u hi' ⟨h1, h2, h3, h4⟩
    have hfin : stp' (itb b i) → fcn b k = i := fun q => fst1_k (p := fun i => stp' (itb b i)) hi' q h4
    have hm : (itb b i).m ≤ 200 := h3.2.2.2.2.2.1
    show okP (Hx_makeForced_t2 (k : Int) (i : Int) u) _
    unfold Hx_makeForced_t2
    rw [ifLt_eq _ _ (R_nat (by omega)) (R_nat (by omega)), if_pos (by omega), h2.2.2.2.2.1, ifLt_eq _ _ (R_nat (by omega)) (by unfold R; omega)]
    by_cases q : (itb b i).m < 200
    · rw [if_pos (by omega)]
      refine okP_bnd2 (forcedCell_ok h3 h2) ?_
      rintro y v - ⟨k1, k2⟩
      have k1 : Ch Cf u v := k1
      have k2 : y = fcd (itb b i) := k2
      have hQ := h2.ch k1
      have hr := fcd_rg h3
      rw [k2, ifEq_eq _ _ (cellR h3.1.2 hr) R_n1]
      by_cases q2 : fcd (itb b i) = -1
      · rw [if_pos q2]
        have e := hfin (Or.inl q2)
        refine okP_some (Or.inr ⟨_, rfl, v, Or.inl (by rw [e]), h1.tr (k1.mo (by decide)), ?_, ?_⟩)
        · rw [e]; exact hQ
        · rw [e]; exact h3
      · rw [if_neg q2]
        obtain ⟨c, ec, hc⟩ := hr.resolve_left q2
        have e2 : itb b (i + 1) = ply (itb b i) c := by
          show ply (itb b i) (fcd (itb b i)).toNat = _
          rw [show (fcd (itb b i)).toNat = c by omega]
        rw [ec]
        refine okP_bnd (Po_play_ok (Or.inl rfl) h3 q hc hQ.2.2) ?_
        rintro w - ⟨l1, l2⟩
        have l1 : Ch [10, 11, 12] v w := l1
        have hG : GridOK w (itb b i).n := hQ.1.ch l1 (by decide) (by decide) (by decide) (by decide)
        have hS : Stat w := hQ.2.1.ch l1 (by decide)
        refine okP_some (Or.inl ⟨w, rfl, (h1.tr (k1.mo (by decide))).tr (l1.mo (by decide)), ?_, ?_, fun j hj => ?_⟩)
        · rw [e2]; exact ⟨hG, hS, l2⟩
        · rw [e2]; exact ply_ok h3 q hc
        · by_cases e : j = i
          · subst e
            rintro (z | z)
            · exact q2 z
            · omega
          · exact h4 j (by omega)
    · rw [if_neg (by omega)]
      have e := hfin (Or.inr (by omega))
      refine okP_some (Or.inr ⟨_, rfl, u, Or.inr (by rw [e]), h1, ?_, ?_⟩)
      · rw [e]; exact h2
      · rw [e]; exact h3
  · rintro u ⟨h1, h2, h3, h4⟩
    have e : fcn b k = k := fst1_no (p := fun i => stp' (itb b i)) h4
    show okP (Hx_makeForced_t2 (k : Int) (k : Int) u) _
    unfold Hx_makeForced_t2
    rw [ifLt_eq _ _ (R_nat (by omega)) (R_nat (by omega)), if_neg (by omega)]
    refine okP_some ⟨_, rfl, u, Or.inr (by rw [e]), h1, ?_, ?_⟩
    · rw [e]; exact h2
    · rw [e]; exact h3
  · rintro r - ⟨u, (rfl | rfl), h1, h2, h3⟩
    · exact okP_some ⟨h1, h2, h3, rfl⟩
    · exact okP_some ⟨h1, h2, h3, rfl⟩
end MKF


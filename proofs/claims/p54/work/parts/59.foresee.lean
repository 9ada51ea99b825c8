/-! ===== copies of a board; what is foreseen ===== -/
section CPY
variable {s : Sg} {b : Bd}
theorem Po_copy_ok {p q : Nat} (hb : BdOK b) (h : CP s q b) (hpq : p + 2 < q ∨ q + 2 < p) (hp : p < 78) : okP (Po_copy p q s) (fun t => Ch [p, p + 1, p + 2] s t ∧ CP t p b) := by
  have h81 := nn_le hb.1.2
  obtain ⟨p1, p2, p3, p4, p5, p6, p7⟩ := h
  have hm : b.m ≤ 200 := hb.2.2.2.2.2.1
  unfold Po_copy
  rw [lett_eq, gi_si_o _ _ _ _ (show q ≠ p by omega), p2, grd_t (show b01 b.w from hb.2.2.1), lett_eq, lett_eq, lett_eq, lett_eq, lett_eq, lett_eq]
  have cc := fun (u : Sg) (k : Nat) (v : Int) => (Ch.si (by simp) (by omega) : Ch [p, p + 1, p + 2] u (si u p k v))
  have cp1 : ∀ u : Sg, Ch [p, p + 1, p + 2] u (cpy u (q + 1) (p + 1) 81) := fun u => ⟨fun o k ho => by
    rw [gi_cpy, if_neg]
    rintro ⟨rfl, -⟩
    rw [ky_o (by omega)] at ho
    exact ho (by simp), rfl⟩
  have cp2 : ∀ u : Sg, Ch [p, p + 1, p + 2] u (cpy u (q + 2) (p + 2) 200) := fun u => ⟨fun o k ho => by
    rw [gi_cpy, if_neg]
    rintro ⟨rfl, -⟩
    rw [ky_o (by omega)] at ho
    exact ho (by simp), rfl⟩
  have ne1 : p ≠ p + 1 := by omega
  have ne2 : p ≠ p + 2 := by omega
  have hcell : ∀ (u : Sg) (k : Nat), gi (cpy (cpy u (q + 1) (p + 1) 81) (q + 2) (p + 2) 200) p k = gi u p k := fun u k => by
    rw [gi_cpy, if_neg (fun z => ne2 z.1), gi_cpy, if_neg (fun z => ne1 z.1)]
  have hq : ∀ (u : Sg) (k : Nat) (v : Int) (o j : Nat), o ≠ p → gi (si u p k v) o j = gi u o j := fun u k v o j ho => gi_si_o _ _ _ _ ho
  refine okP_some ⟨((((((cc _ _ _).tr (cc _ _ _)).tr (cc _ _ _)).tr (cc _ _ _)).tr (cc _ _ _)).tr (cp1 _)).tr (cp2 _), ?_, ?_, ?_, ?_, ?_, fun x hx => ?_, fun i hi' => ?_⟩
  · rw [hcell, gi_si_k _ _ _ (by omega), gi_si_k _ _ _ (by omega), gi_si_k _ _ _ (by omega), gi_si_k _ _ _ (by omega), gi_si_s]; exact p1
  · rw [hcell, gi_si_k _ _ _ (by omega), gi_si_k _ _ _ (by omega), gi_si_k _ _ _ (by omega), gi_si_s]
  · rw [hcell, gi_si_k _ _ _ (by omega), gi_si_k _ _ _ (by omega), gi_si_s, hq _ _ _ _ _ (by omega), hq _ _ _ _ _ (by omega)]; exact p3
  · rw [hcell, gi_si_k _ _ _ (by omega), gi_si_s, hq _ _ _ _ _ (by omega), hq _ _ _ _ _ (by omega), hq _ _ _ _ _ (by omega)]; exact p4
  · rw [hcell, gi_si_s, hq _ _ _ _ _ (by omega), hq _ _ _ _ _ (by omega), hq _ _ _ _ _ (by omega), hq _ _ _ _ _ (by omega)]; exact p5
  · rw [gi_cpy, if_neg (fun z => by omega), gi_cpy, if_pos ⟨rfl, by omega⟩, hq _ _ _ _ _ (by omega), hq _ _ _ _ _ (by omega), hq _ _ _ _ _ (by omega), hq _ _ _ _ _ (by omega), hq _ _ _ _ _ (by omega)]
    exact p6 x hx
  · rw [gi_cpy, if_pos ⟨rfl, by omega⟩, gi_cpy, if_neg (fun z => by omega), hq _ _ _ _ _ (by omega), hq _ _ _ _ _ (by omega), hq _ _ _ _ _ (by omega), hq _ _ _ _ _ (by omega), hq _ _ _ _ _ (by omega)]
    exact p7 i hi'
abbrev Cw : List Nat := [5, 6, 7, 8, 9, 56, 57, 58, 59, 60, 61, 62, 10, 11, 12, 13, 14, 15]
theorem foresee {α : Type} {Q : α → Prop} {m : Int → Sg → Option α} (hb : BdOK b) (hC : CQ s b) (k : ∀ t, Ch Cw s t → CQ t (itb b (fcn b 81)) → BdOK (itb b (fcn b 81)) → CP t 13 b → okP (m (fcn b 81 : Int) t) Q) : okP (bnd (Po_copy 13 10 s) fun s2 => bnd2 (Hx_makeForced 81 s2) m) Q := by
  refine okP_bnd (Po_copy_ok (p := 13) (q := 10) hb hC.2.2 (by omega) (by omega)) ?_
  rintro t - ⟨h1, h2⟩
  have h1 : Ch [13, 14, 15] s t := h1
  have hQ := hC.ch h1
  refine okP_bnd2 (makeForced_ok (k := 81) hb hQ (by omega)) ?_
  rintro y u - ⟨k1, k2, k3, k4⟩
  have k1 : Ch Cp t u := k1
  have k4 : y = (fcn b 81 : Int) := k4
  rw [k4]
  exact k u ((h1.mo (by decide)).tr (k1.mo (by decide))) k2 k3 (h2.ch k1)
theorem back_ok {t : Sg} {b' : Bd} (hb : BdOK b) (hn : b'.n = b.n) (hC : CQ t b') (h13 : CP t 13 b) : okP (Po_copy 10 13 t) (fun u => Ch [10, 11, 12] t u ∧ CQ u b) := by
  refine okP_mono (Po_copy_ok (p := 10) (q := 13) hb h13 (by omega) (by omega)) ?_
  rintro u ⟨h1, h2⟩
  have h1 : Ch [10, 11, 12] t u := h1
  have hG := hC.1
  rw [hn] at hG
  exact ⟨h1, hG.ch h1 (by decide) (by decide) (by decide) (by decide), hC.2.1.ch h1 (by decide), h2⟩
theorem fcn_ok (hb : BdOK b) (k : Nat) : ∀ j, j < fcn b k → ¬ stp' (itb b j) := by
  unfold fcn
  by_cases h : ∃ i, i < k ∧ stp' (itb b i)
  · obtain ⟨i, hi', hs⟩ := h
    obtain ⟨m, hm, hq, hn⟩ := least_ex (p := fun i => stp' (itb b i)) hs
    rw [fst1_k (p := fun i => stp' (itb b i)) (by omega) hq hn]
    exact hn
  · rw [fst1_no (p := fun i => stp' (itb b i)) (fun j hj q => h ⟨j, hj, q⟩)]
    exact fun j hj q => h ⟨j, hj, q⟩
theorem itb_n (hb : BdOK b) (k : Nat) : (itb b (fcn b k)).n = b.n := (itb_ok hb _ (fcn_ok hb k)).2
theorem fcn_le (b : Bd) (k : Nat) : fcn b k ≤ k := by
  unfold fcn
  by_cases h : ∃ i, i < k ∧ stp' (itb b i)
  · obtain ⟨i, hi', hs⟩ := h
    obtain ⟨m, hm, hq, hn⟩ := least_ex (p := fun i => stp' (itb b i)) hs
    rw [fst1_k (p := fun i => stp' (itb b i)) (by omega) hq hn]
    omega
  · rw [fst1_no (p := fun i => stp' (itb b i)) (fun j hj q => h ⟨j, hj, q⟩)]
    exact Nat.le_refl k
/-- who wins if the forced moves are played -/
noncomputable def fwn (b : Bd) : Int := wnr (itb b (fcn b 81)).n (itb b (fcn b 81)).f (itb b (fcn b 81)).g
theorem Hx_forcedWinner_ok (hb : BdOK b) (hC : CQ s b) : okP (Hx_forcedWinner s) (fun o => Ch Cw s o.2 ∧ CQ o.2 b ∧ o.1 = fwn b) := by
  unfold Hx_forcedWinner
  refine foresee hb hC ?_
  intro t h1 h2 h3 h4
  refine class_start h3 h2 ?_
  intro u hu
  refine okP_bnd (back_ok hb (itb_n hb 81) (h2.ch hu) (h4.ch hu)) ?_
  rintro v - ⟨k1, k2⟩
  exact okP_some ⟨(h1.tr (hu.mo (by decide))).tr (k1.mo (by decide)), k2, rfl⟩
theorem Hx_forcedRow_ok (hb : BdOK b) (hC : CQ s b) : okP (Hx_forcedRow s) (fun o => Ch Cw s o.2 ∧ CQ o.2 b ∧ o.1 = (fcn b 81 : Int)) := by
  unfold Hx_forcedRow
  refine foresee hb hC ?_
  intro t h1 h2 h3 h4
  refine okP_bnd (back_ok hb (itb_n hb 81) h2 h4) ?_
  rintro v - ⟨k1, k2⟩
  exact okP_some ⟨h1.tr (k1.mo (by decide)), k2, rfl⟩
/-! the reference -/
abbrev Mw : List Nat := [8000, 81, 82, 87, 8024, 8025, 8026, 8027, 88, 89, 90, 91, 92, 93]
theorem MP.same {t : Sg} (h : MP s b) (hb : BdOK b) (e : Same s t) : MP t b := by
  obtain ⟨p1, p2, p3, p4, p5, p6⟩ := h
  have hm : b.m ≤ 200 := hb.2.2.2.2.2.1
  exact ⟨p1.same e, by rw [e 1 (by omega)]; exact p2, by rw [e 2 (by omega)]; exact p3, by rw [e 3 (by omega)]; exact p4, by rw [e 4 (by omega)]; exact p5, fun i hi' => by rw [e (86 + i) (by omega)]; exact p6 i hi'⟩
end CPY


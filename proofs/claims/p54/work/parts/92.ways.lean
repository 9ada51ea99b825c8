/-! ===== distances and ways agree ===== -/
section WYS
variable {n : Nat} {f g : Nat → Int} {sd e : Int}
theorem lsw_le : ∀ (i c : Nat), c < i → pco n f sd c ≠ -1 → lsw n f sd i ≠ -1 ∧ lsw n f sd i ≤ pco n f sd c
  | 0, c, hc, _ => absurd hc (Nat.not_lt_zero c)
  | i + 1, c, hc, hp => by
    have ih := lsw_le i
    unfold lsw
    rcases pco_rg n f sd i with e | ⟨e, -, -⟩
    · rw [if_pos e]
      have hci : c ≠ i := fun q => hp (by rw [q]; exact e)
      exact ih c (by omega) hp
    · rw [if_neg (by omega)]
      by_cases q : lsw n f sd i = -1 ∨ pco n f sd i < lsw n f sd i
      · rw [if_pos q]
        refine ⟨by omega, ?_⟩
        by_cases hci : c = i
        · rw [hci]; exact Int.le_refl _
        · obtain ⟨h1, h2⟩ := ih c (by omega) hp
          omega
      · rw [if_neg q]
        refine ⟨by omega, ?_⟩
        by_cases hci : c = i
        · rw [hci]; omega
        · exact (ih c (by omega) hp).2
theorem pco_opp (hfr : FR n f) (hs : sd = 0 ∨ sd = 1) {c : Nat} (h : f c = 1 - sd) : pco n f sd c = -1 := by
  rcases pco_rg n f sd c with e | ⟨-, -, q⟩
  · exact e
  · unfold Ub at q
    omega
theorem wk_rch (hg : ∀ c, c < n * n → g c = sd → Ub f sd c) {x y w : Nat} (hx : x < n * n) (hgx : g x = sd) (hw : Wk n f sd e x w) (h : Rch (Eb n g) x y) : (y < n * n ∧ g y = sd) ∧ ∃ w, Wk n f sd e y w := by
  refine h (fun y => (y < n * n ∧ g y = sd) ∧ ∃ w, Wk n f sd e y w) ⟨⟨hx, hgx⟩, w, hw⟩ ?_
  rintro u v ⟨⟨h1, h2⟩, w1, h3⟩ ⟨e1, e2, e3, e4, e5⟩
  have hgv : g v = sd := e3.symm.trans h2
  exact ⟨⟨e2, hgv⟩, _, h3.st e2 e5 (hg v e2 hgv)⟩
theorem way_one (hg : ∀ c, c < n * n → g c = sd → Ub f sd c) (h : Jn n g sd) : lsw n f sd (n * n) ≠ -1 := by
  obtain ⟨x, y, hx, hgx, he1, hr, he2⟩ := h
  obtain ⟨⟨hy, hgy⟩, w1, hw1⟩ := wk_rch hg hx hgx (Wk.b hx (hg x hx hgx) he1) hr
  have hw2 : Wk n f sd 2 y (cst f sd y) := Wk.b hy (hg y hy hgy) he2
  obtain ⟨v1, d1, k1, -, -⟩ := dst_w hw1
  obtain ⟨v2, d2, k2, -, -⟩ := dst_w hw2
  have hi1 := k1.i.2.2
  have hp : pco n f sd y ≠ -1 := by
    unfold pco
    rw [d1, d2, if_neg (by omega)]
    omega
  exact (lsw_le (n * n) y hy hp).1
theorem way_some (hn : 2 ≤ n) (hfr : FR n f) : lsw n f 0 (n * n) ≠ -1 ∨ lsw n f 1 (n * n) ≠ -1 := by
  have hF : Full n (fun c => if f c = 1 then 1 else 0) := by
    intro c _
    show (if f c = 1 then (1 : Int) else 0) = 0 ∨ (if f c = 1 then (1 : Int) else 0) = 1
    split
    · exact Or.inr rfl
    · exact Or.inl rfl
  rcases hex_some hn hF with h | h
  · refine Or.inl (way_one (fun c hc h9 => ?_) h)
    have h9 : (if f c = 1 then (1 : Int) else 0) = 0 := h9
    have := hfr c hc
    unfold Ub
    by_cases q : f c = 1
    · rw [if_pos q] at h9; omega
    · omega
  · refine Or.inr (way_one (fun c hc h9 => ?_) h)
    have h9 : (if f c = 1 then (1 : Int) else 0) = 1 := h9
    by_cases q : f c = 1
    · exact Or.inl q
    · rw [if_neg q] at h9; omega
end WYS
section WYQ
variable {X : Xs} {s : Sg}
noncomputable def usP (X : Xs) (sd : Int) (c : Nat) : Prop := lsw X.b.n X.b.f sd (X.b.n * X.b.n) ≠ -1 ∧ X.b.f c = -1 ∧ pco X.b.n X.b.f sd c = lsw X.b.n X.b.f sd (X.b.n * X.b.n)
theorem ways97 (hX : XsOK X) {sd : Int} (h : sd = 0 ∨ sd = 1) {c : Nat} (hc : c < X.b.n * X.b.n) {t : Sg} (hC : CI X t) (x2 t0 t1 : Int) {σ : Int} (hσ : t0 + t1 = σ) : okP (La_ways_b97 sd x2 (c : Int) t0 t1 t) (fun o => ∃ u, o = .inl (σ, (c : Int) + 1, u) ∧ Ch LC t u) := by
  have h81 := nn_le hX.n9
  have hfr := hX.fr c hc
  unfold La_ways_b97
  rw [lett_eq, hσ]
  refine bndrQ (cq_potential (k := 9) hX (R_01 h) (R_nat (by omega)) (by unfold R; omega) h ⟨by omega, by omega⟩ hc hC) fun u hu => ?_
  refine bndrQ (cq_cell hX (R_nat (by omega)) hc (hC.ch hu)) fun w hw => ?_
  have hl := sws_rg X.b.n X.b.f sd 9 c
  have hb : okP (La_ways_b145 sd x2 σ (c : Int) w) (fun o => ∃ u, o = .inl (σ, (c : Int) + 1, u) ∧ Ch LC t u) := okP_some ⟨w, rfl, hu.tr hw⟩
  refine okP_ifEq (hX.fr.r hc) (by unfold R; omega) (fun q => ?_) fun q => ?_
  · have hw0 : wtI X.b.f sd c = 0 := by
      unfold wtI
      rw [if_neg (by omega), if_neg (by omega)]
    rw [if_pos hw0]
    exact okP_ifEq R_n1 R_n1 (fun _ => hb) fun q => absurd rfl q
  · have hw0 : ¬ wtI X.b.f sd c = 0 := by
      unfold wtI
      split
      · omega
      · rw [if_pos (by omega)]; omega
    rw [if_neg hw0]
    refine okP_ifLt (by unfold R; omega) R0 (fun q => absurd q (by omega)) fun _ => ?_
    exact okP_ifLt (by unfold R; omega) (by unfold R; omega) (fun q => absurd q (by omega)) fun _ => hb
theorem ways71 (hX : XsOK X) {sd : Int} (h : sd = 0 ∨ sd = 1) {c : Nat} (hc : c < X.b.n * X.b.n) {t : Sg} (hC : CI X t) : okP (La_ways_b71 sd (lsw X.b.n X.b.f sd (X.b.n * X.b.n)) ((cnt (usP X sd) c : Nat) : Int) (c : Int) (pco X.b.n X.b.f sd c) t) (fun o => ∃ u, o = .inl (((cnt (usP X sd) (c + 1) : Nat) : Int), (c : Int) + 1, u) ∧ Ch LC t u) := by
  have h81 := nn_le hX.n9
  unfold La_ways_b71
  refine bndrQ (cq_cell hX (R_nat (by omega)) hc hC) fun u hu => ?_
  have no : ¬ usP X sd c → okP (La_ways_b96 sd (lsw X.b.n X.b.f sd (X.b.n * X.b.n)) (c : Int) ((cnt (usP X sd) c : Nat) : Int) u) (fun o => ∃ u, o = .inl (((cnt (usP X sd) (c + 1) : Nat) : Int), (c : Int) + 1, u) ∧ Ch LC t u) := fun q => by
    unfold La_ways_b96
    exact okP_mono (ways97 hX h hc (hC.ch hu) _ _ _ (by rw [cnt_f q]; omega)) fun o ⟨v, h1, h2⟩ => ⟨v, h1, hu.tr h2⟩
  have hlR := lsw_R hX.n9 X.b.f sd
  rcases lsw_rg X.b.n X.b.f sd (X.b.n * X.b.n) with el | ⟨el, -⟩
  · have hn : ¬ usP X sd c := fun q => q.1 el
    refine okP_ifEq (hX.fr.r hc) R_n1 (fun _ => ?_) fun _ => no hn
    exact okP_ifLt hlR R0 (fun _ => no hn) fun q => absurd q (by omega)
  · refine okP_ifEq (hX.fr.r hc) R_n1 (fun q => ?_) fun q => no fun z => q z.2.1
    refine okP_ifLt hlR R0 (fun q => absurd q (by omega)) fun _ => ?_
    refine okP_ifEq (pco_R hX.n9 _ _ _) hlR (fun q2 => ?_) fun q2 => no fun z => q2 z.2.2
    have hy : usP X sd c := ⟨by omega, q, q2⟩
    exact okP_mono (ways97 hX h hc (hC.ch hu) _ _ _ (by rw [cnt_t hy]; omega)) fun o ⟨v, h1, h2⟩ => ⟨v, h1, hu.tr h2⟩
theorem ways_ok (hX : XsOK X) (hC : CI X s) {sd : Int} (h : sd = 0 ∨ sd = 1) : okP (La_ways sd s) (fun o => Ch LC s o.2 ∧ o.1 = 1) := by
  have hn9 := hX.n9
  have h81 := nn_le hn9
  have hlR := lsw_R hn9 X.b.f sd
  unfold La_ways
  refine bndrQ (cq_distance hX (R_01 h) h hC) fun t0 ht0 => ?_
  unfold La_ways_l11
  refine okP_bnd (P := fun r => ∃ u, r = .inr (((cnt (usP X sd) (X.b.n * X.b.n) : Nat) : Int), u) ∧ Ch LC s u) (whl_for (fun (i : Nat) (t : Sg) => (((cnt (usP X sd) i : Nat) : Int), (i : Int), t)) (X.b.n * X.b.n) (fun _ t => Ch LC s t) (i0 := 0) (t0 := t0) (Nat.zero_le _) ht0 ?_ ?_) ?_
  · intro i t hi ht
    show okP (La_ways_t11 sd (lsw X.b.n X.b.f sd (X.b.n * X.b.n)) ((cnt (usP X sd) i : Nat) : Int) (i : Int) t) _
    unfold La_ways_t11
    refine bndrQ (cq_size0 hX (hC.ch ht)) fun u hu => bndrQ (cq_size0 hX (hC.ch (ht.tr hu))) fun w hw => ?_
    have hcw := (ht.tr hu).tr hw
    rw [show ((X.b.n : Nat) : Int) * ((X.b.n : Nat) : Int) = ((X.b.n * X.b.n : Nat) : Int) from (Int.natCast_mul _ _).symm, ifLt_eq _ _ (R_nat (by omega)) (R_nat (by omega)), if_pos (by omega)]
    refine bndrQ (cq_through hX (R_01 h) (R_nat (by omega)) h hi (hC.ch hcw)) fun v hv => ?_
    have hcv := hcw.tr hv
    have hpR := pco_R hn9 X.b.f sd i
    have key : okP (La_ways_b51 sd (lsw X.b.n X.b.f sd (X.b.n * X.b.n)) ((cnt (usP X sd) i : Nat) : Int) (i : Int) (pco X.b.n X.b.f sd i) v) (fun o => (∃ t', o = .inl (((cnt (usP X sd) (i + 1) : Nat) : Int), ((i + 1 : Nat) : Int), t') ∧ Ch LC s t') ∨ ∃ r, o = .inr r ∧ ∃ u, r = .inr (((cnt (usP X sd) (X.b.n * X.b.n) : Nat) : Int), u) ∧ Ch LC s u) := by
      unfold La_ways_b51
      refine bndrQ (cq_cell hX (R_nat (by omega)) hi (hC.ch hcv)) fun z hz => ?_
      have hcz := hcv.tr hz
      have fin : okP (La_ways_b71 sd (lsw X.b.n X.b.f sd (X.b.n * X.b.n)) ((cnt (usP X sd) i : Nat) : Int) (i : Int) (pco X.b.n X.b.f sd i) z) (fun o => (∃ t', o = .inl (((cnt (usP X sd) (i + 1) : Nat) : Int), ((i + 1 : Nat) : Int), t') ∧ Ch LC s t') ∨ ∃ r, o = .inr r ∧ ∃ u, r = .inr (((cnt (usP X sd) (X.b.n * X.b.n) : Nat) : Int), u) ∧ Ch LC s u) :=
        okP_mono (ways71 hX h hi (hC.ch hcz)) fun o ⟨u, h1, h2⟩ => Or.inl ⟨u, by rw [h1, show ((i + 1 : Nat) : Int) = (i : Int) + 1 by omega], hcz.tr h2⟩
      refine okP_ifEq (hX.fr.r hi) (by unfold R; omega) (fun q => ?_) fun _ => fin
      exact okP_ifEq hpR R_n1 (fun _ => fin) fun q2 => absurd (pco_opp hX.fr h q) q2
    rcases pco_rg X.b.n X.b.f sd i with ep | ⟨ep, -, -⟩
    · exact okP_ifLt hpR R0 (fun _ => key) fun q => absurd q (by omega)
    · have hle := lsw_le (n := X.b.n) (f := X.b.f) (sd := sd) (X.b.n * X.b.n) i hi (by omega)
      have hl0 : 0 ≤ lsw X.b.n X.b.f sd (X.b.n * X.b.n) := by
        rcases lsw_rg X.b.n X.b.f sd (X.b.n * X.b.n) with el | ⟨el, -⟩
        · exact absurd el hle.1
        · exact el
      refine okP_ifLt hpR R0 (fun q => absurd q (by omega)) fun _ => ?_
      refine okP_ifLt hlR R0 (fun q => absurd q (by omega)) fun _ => ?_
      exact okP_ifLt hpR hlR (fun q => absurd q (by omega)) fun _ => key
  · intro t ht
    show okP (La_ways_t11 sd (lsw X.b.n X.b.f sd (X.b.n * X.b.n)) ((cnt (usP X sd) (X.b.n * X.b.n) : Nat) : Int) ((X.b.n * X.b.n : Nat) : Int) t) _
    unfold La_ways_t11
    refine bndrQ (cq_size0 hX (hC.ch ht)) fun u hu => bndrQ (cq_size0 hX (hC.ch (ht.tr hu))) fun w hw => ?_
    rw [show ((X.b.n : Nat) : Int) * ((X.b.n : Nat) : Int) = ((X.b.n * X.b.n : Nat) : Int) from (Int.natCast_mul _ _).symm, ifLt_eq _ _ (R_nat (by omega)) (R_nat (by omega)), if_neg (by omega)]
    exact okP_some ⟨_, rfl, w, rfl, (ht.tr hu).tr hw⟩
  rintro r - ⟨u, rfl, hu⟩
  have hCu := hC.ch hu
  show okP (bndr (Hx_useful sd u) fun y21 s22 => ifEq y21 ((cnt (usP X sd) (X.b.n * X.b.n) : Nat) : Int) (ifLt (lsw X.b.n X.b.f sd (X.b.n * X.b.n)) 0 (bndr (Hx_distance (1 - sd) s22) fun y23 s24 => ifLt y23 0 none (La_ways_b174 s24)) (La_ways_b174 s22)) none) _
  refine bndrQ (cq_useful hX (R_01 h) h hCu) fun v hv => ?_
  have hcv := hu.tr hv
  refine okP_ifEq (R_cnt hX _) (R_cnt hX _) (fun _ => ?_) fun q => absurd rfl q
  refine okP_ifLt hlR R0 (fun q => ?_) fun _ => okP_some ⟨hcv, rfl⟩
  have h' : 1 - sd = 0 ∨ 1 - sd = 1 := by omega
  refine bndrQ (cq_distance hX (R_01 h') h' (hC.ch hcv)) fun w hw => ?_
  have hl' : 0 ≤ lsw X.b.n X.b.f (1 - sd) (X.b.n * X.b.n) := by
    have hs := way_some hX.1.1.1 hX.fr
    rcases lsw_rg X.b.n X.b.f (1 - sd) (X.b.n * X.b.n) with el | ⟨el, -⟩
    · rcases h with rfl | rfl
      · rcases hs with hs | hs
        · rcases lsw_rg X.b.n X.b.f 0 (X.b.n * X.b.n) with e2 | ⟨e2, -⟩
          · exact absurd e2 hs
          · omega
        · exact absurd el hs
      · rcases hs with hs | hs
        · exact absurd el hs
        · rcases lsw_rg X.b.n X.b.f 1 (X.b.n * X.b.n) with e2 | ⟨e2, -⟩
          · exact absurd e2 hs
          · omega
    · exact el
  refine okP_ifLt (lsw_R hn9 _ _) R0 (fun q => absurd q (by omega)) fun _ => okP_some ⟨hcv.tr hw, rfl⟩
end WYQ

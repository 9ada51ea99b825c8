/-! ===== threats join ===== -/
theorem tho_at {n : Nat} {f : Nat → Int} {sd : Int} (hj : ¬ Jn n f sd) {k : Nat} (hk : k < thc n f sd) : ∃ c : Nat, tho n f sd (k : Int) = (c : Int) ∧ c < n * n ∧ Th n f sd c ∧ cnt (Th n f sd) c = k := by
  unfold thc at hk
  rw [if_neg hj] at hk
  obtain ⟨c, h1, h2, h3⟩ := cnt_hit (p := Th n f sd) (k := k) hk
  refine ⟨c, ?_, h1, h2, h3⟩
  unfold tho
  rw [if_neg hj]
  refine nth_k h1 h2 (by omega) fun j hj2 ⟨k1, k2⟩ => ?_
  have e1 := cnt_t k1
  have e2 := cnt_upto (p := Th n f sd) (N := c) (M := j + 1) (by omega)
  omega
section THS
variable {X : Xs} {s : Sg}
/-- within the loop: the board is X's, and the first snapshot too -/
def ThI (X : Xs) (s t : Sg) : Prop := CF s t ∧ ∃ Y, XsOK Y ∧ Y.h ≤ 8 ∧ Y.b = X.b ∧ Y.S 0 = some X.b ∧ CI Y t
theorem ThI.q {t : Sg} (h : ThI X s t) {u : Sg} (hu : Ch LC t u) : ThI X s u := by
  obtain ⟨h1, Y, y1, y2, y3, y4, y5⟩ := h
  exact ⟨h1.tr hu.cf, Y, y1, y2, y3, y4, y5.ch hu⟩
theorem th103 (hX : XsOK X) {sd : Int} (h : sd = 0 ∨ sd = 1) {c : Nat} (hc : c < X.b.n * X.b.n) (hT : Th X.b.n X.b.f sd c) {t : Sg} (hI : ThI X s t) {x2 x3 t1 : Int} (ht1 : t1 < (c : Int)) (hR : R t1) : okP (La_threats_b103 sd x2 x3 (c : Int) (c : Int) t1 t) (fun o => ∃ u, o = .inl (x3 + 1, u) ∧ ThI X s u) := by
  have h81 := nn_le hX.n9
  obtain ⟨hcf, Y, y1, y2, y3, y4, y5⟩ := hI
  have hcY : c < Y.b.n * Y.b.n := by rw [y3]; exact hc
  have hfY : Y.b.f c = -1 := by rw [y3]; exact hT.1
  have hb1 : BdOK (pst Y.b c sd) := pst_ok y1.1 (by omega)
  have hX2 : XsOK (Y.pu (pst Y.b c sd)) := y1.pu hb1 rfl
  have hjn : Jn Y.b.n (ups Y.b.f c sd) sd := by rw [y3]; exact hT.2
  unfold La_threats_b103
  refine okP_ifLt hR (R_nat (by omega)) (fun _ => ?_) fun q => absurd ht1 q
  refine bndrC (ca_put y1 (R_nat (by omega)) (R_01 h) hcY (by omega) y5) fun u u1 u2 _ => ?_
  refine okP_ifEq (y1.fr.r hcY) R_n1 (fun _ => ?_) fun q => absurd hfY q
  refine bndrQ (cq_distance hX2 (R_01 h) h u2) fun v hv => ?_
  have hl : lsw (Y.pu (pst Y.b c sd)).b.n (Y.pu (pst Y.b c sd)).b.f sd ((Y.pu (pst Y.b c sd)).b.n * (Y.pu (pst Y.b c sd)).b.n) = 0 := jn_lsw (n := Y.b.n) (f := ups Y.b.f c sd) hjn
  refine okP_ifEq (by rw [hl]; exact R0) R0 (fun _ => ?_) fun q => absurd hl q
  have hS : (Y.pu (pst Y.b c sd)).S 0 = some X.b := y4
  refine bndrC (ca_restoreSnapshot hX2 (k := 0) (Or.inl rfl) hS (u2.ch hv)) fun w w1 w2 _ => ?_
  exact okP_some ⟨w, rfl, ((hcf.tr u1).tr hv.cf).tr w1, _, hX2.tk hX.1, Nat.zero_le 8, rfl, hS, w2⟩
theorem threats_ok (hX : XsOK X) (h8 : X.h ≤ 8) (hC : CI X s) {sd : Int} (h : sd = 0 ∨ sd = 1) : okP (La_threats sd s) (fun o => CF s o.2 ∧ (∃ Y, XsOK Y ∧ Y.h ≤ 8 ∧ Y.b = X.b ∧ CI Y o.2) ∧ o.1 = 1) := by
  have h81 := nn_le hX.n9
  have hsd : sd ≠ -1 := by omega
  have hle := thc_le X.b.n X.b.f sd
  have htR : R ((thc X.b.n X.b.f sd : Nat) : Int) := R_nat (by omega)
  have hlR := lsw_R hX.n9 X.b.f sd
  unfold La_threats
  refine bndrQ (cq_threats hX (R_01 h) h hC) fun t ht => ?_
  refine bndrQ (cq_threat hX (R_01 h) htR h (hC.ch ht)) fun u hu => ?_
  have hcu := ht.tr hu
  have e1 : tho X.b.n X.b.f sd ((thc X.b.n X.b.f sd : Nat) : Int) = -1 := tho_iff.mpr (Nat.le_refl _)
  rw [e1]
  refine okP_ifEq R_n1 R_n1 (fun _ => ?_) fun q => absurd rfl q
  refine bndrQ (cq_distance hX (R_01 h) h (hC.ch hcu)) fun v hv => ?_
  have hcv := hcu.tr hv
  by_cases hj : Jn X.b.n X.b.f sd
  · have e2 := jn_lsw hj
    have e3 : thc X.b.n X.b.f sd = 0 := by unfold thc; rw [if_pos hj]
    refine okP_ifEq hlR R0 (fun _ => ?_) fun q => absurd e2 q
    refine okP_ifEq htR R0 (fun _ => ?_) fun q => absurd (by rw [e3]; rfl) q
    exact okP_some ⟨hcv.cf, ⟨X, hX, h8, rfl, hC.ch hcv⟩, rfl⟩
  · refine okP_ifEq hlR R0 (fun q => absurd (lsw_jn hsd q) hj) fun _ => ?_
    refine bndrQ (cq_distance hX (R_01 h) h (hC.ch hcv)) fun w hw => ?_
    have hcw := hcv.tr hw
    have key : okP (bndr (Hx_saveSnapshot 0 w) fun y9 s10 => La_threats_l72 sd ((thc X.b.n X.b.f sd : Nat) : Int) 0 s10) (fun o => CF s o.2 ∧ (∃ Y, XsOK Y ∧ Y.h ≤ 8 ∧ Y.b = X.b ∧ CI Y o.2) ∧ o.1 = 1) := by
      have hsv := ca_saveSnapshot hX (k := 0) R0 (by decide) (hC.ch hcw)
      refine bndrC hsv fun z z1 z2 _ => ?_
      have hI0 : ThI X s z := ⟨hcw.cf.tr z1, X.wS (upS X.S 0 X.b), hX.sn 0 hX.1, h8, rfl, (if_pos rfl : (if (0 : Nat) = 0 then some X.b else X.S 0) = some X.b), z2⟩
      unfold La_threats_l72
      refine okP_bnd (P := fun r => ThI X s r) (whl_for (fun (i : Nat) (t : Sg) => ((i : Int), t)) (thc X.b.n X.b.f sd) (fun _ t => ThI X s t) (i0 := 0) (t0 := z) (Nat.zero_le _) hI0 ?_ ?_) ?_
      · intro i t hi hI
        show okP (La_threats_t72 sd ((thc X.b.n X.b.f sd : Nat) : Int) (i : Int) t) _
        unfold La_threats_t72
        rw [ifLt_eq _ _ (R_nat (by omega)) htR, if_pos (by omega)]
        obtain ⟨-, Y, y1, y2, y3, y4, y5⟩ := id hI
        obtain ⟨c, c1, c2, c3, c4⟩ := tho_at hj hi
        have q1 := cq_threat y1 (k := (i : Int)) (R_01 h) (R_nat (by omega)) h y5
        rw [y3, c1] at q1
        refine bndrQ q1 fun a ha => ?_
        have hIa := hI.q ha
        have fin : ∀ {b : Sg} {t1 : Int}, ThI X s b → t1 < (c : Int) → R t1 → okP (La_threats_b103 sd ((thc X.b.n X.b.f sd : Nat) : Int) (i : Int) (c : Int) (c : Int) t1 b) (fun o => (∃ t', o = .inl (((i + 1 : Nat) : Int), t') ∧ ThI X s t') ∨ ∃ r, o = .inr r ∧ ThI X s r) := fun hIb ht1 hR1 =>
          okP_mono (th103 hX h c2 c3 hIb ht1 hR1) fun o ⟨u, k1, k2⟩ => Or.inl ⟨u, by rw [k1, show ((i + 1 : Nat) : Int) = (i : Int) + 1 by omega], k2⟩
        refine okP_ifEq (R_nat (by omega)) R0 (fun _ => fin hIa (by omega) R_n1) fun qi => ?_
        obtain ⟨c', d1, d2, d3, d4⟩ := tho_at hj (k := i - 1) (by omega)
        have hcc : c' < c := by
          apply Classical.byContradiction
          intro hn
          have := cnt_upto (p := Th X.b.n X.b.f sd) (N := c') (M := c) (by omega)
          omega
        have q2 := cq_threat y1 (k := ((i - 1 : Nat) : Int)) (R_01 h) (R_nat (by omega)) h (y5.ch ha)
        rw [y3, d1, show ((i - 1 : Nat) : Int) = (i : Int) - 1 by omega] at q2
        refine bndrQ q2 fun b hb => ?_
        exact fin (hIa.q hb) (by omega) (R_nat (by omega))
      · intro t hI
        show okP (La_threats_t72 sd ((thc X.b.n X.b.f sd : Nat) : Int) ((thc X.b.n X.b.f sd : Nat) : Int) t) _
        unfold La_threats_t72
        rw [ifLt_eq _ _ htR htR, if_neg (by omega)]
        exact okP_some ⟨t, rfl, hI⟩
      · rintro r - ⟨k1, Y, y1, y2, y3, -, y5⟩
        exact okP_some ⟨k1, ⟨Y, y1, y2, y3, y5⟩, rfl⟩
    have h1 := lsw_one (n := X.b.n) (f := X.b.f) hsd hj
    refine okP_ifEq hlR R1 (fun q => ?_) fun q => ?_
    · unfold La_threats_b50
      refine okP_ifLt R0 htR (fun _ => ?_) fun q2 => absurd (h1.mp q) (by omega)
      unfold La_threats_b59
      exact okP_ifEq R1 R1 (fun _ => key) fun z => absurd rfl z
    · unfold La_threats_b50
      refine okP_ifLt R0 htR (fun q2 => absurd (h1.mpr (by omega)) q) fun _ => ?_
      unfold La_threats_b59
      exact okP_ifEq R0 R0 (fun _ => key) fun z => absurd rfl z
end THS

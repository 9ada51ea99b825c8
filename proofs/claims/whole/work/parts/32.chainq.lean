/-! ===== the reference's answers on chains ===== -/
section CHQ
variable {s : Sg} {n : Nat} {f : Nat → Int} {sd : Int} {E : Nat → Nat → Prop}
theorem Mo_chains_l19_eq (hM : MB s n f) (hfr : FR n f) (hg : Gm s 94 n E) (hsd : sd = 0 ∨ sd = 1) : Mo_chains_l19 sd 0 0 s = some (((cnt (fun c => f c = sd ∧ lab E c = c) (n * n) : Nat) : Int), s) := by
  have h81 := nn_le hM.1.2.1
  have hsR : R sd := by unfold R; omega
  unfold Mo_chains_l19
  have key : whl (fun σ : Int × Int => Mo_chains_t19 sd σ.1 σ.2 s) (0, 0) = some ((cnt (fun c => f c = sd ∧ lab E c = c) (n * n) : Nat) : Int) := by
    refine whl_up (n * n) (fun i => (((cnt (fun c => f c = sd ∧ lab E c = c) i : Nat) : Int), (i : Int))) _ (fun i hi => ?_) ?_
    · show Mo_chains_t19 sd _ (i : Int) s = _
      unfold Mo_chains_t19 Mo_chains_b51 Mo_chains_b52
      rw [Mo_cells_eq hM.1, bnd_some, ifLt_eq _ _ (R_nat (by omega)) (R_nat (by omega)), if_pos (by omega), hM.st hi, bnd_some, ifEq_eq _ _ (hfr.r hi) hsR]
      by_cases e1 : f i = sd
      · rw [if_pos e1, grd_t (by omega)]
        show ifEq (gi s 94 i) _ _ _ = _
        rw [ifEq_eq _ _ (hg.r hi hM.1.2.1) (R_nat (by omega)), hg i hi]
        by_cases e2 : lab E i = i
        · rw [if_pos (by rw [e2]), cnt_t (p := fun c => f c = sd ∧ lab E c = c) ⟨e1, e2⟩]; rfl
        · rw [if_neg (by omega), cnt_f (p := fun c => f c = sd ∧ lab E c = c) (fun q => e2 q.2), lett_eq, Int.add_zero]; rfl
      · rw [if_neg e1, cnt_f (p := fun c => f c = sd ∧ lab E c = c) (fun q => e1 q.1), lett_eq, Int.add_zero]; rfl
    · show Mo_chains_t19 sd _ ((n * n : Nat) : Int) s = _
      unfold Mo_chains_t19
      rw [Mo_cells_eq hM.1, bnd_some, ifLt_eq _ _ (R_nat (by omega)) (R_nat (by omega)), if_neg (by omega)]
  rw [key]; rfl
theorem Mo_chainStones_eq {k : Nat} (hM : MB s n f) (hfr : FR n f) (hE : Ein n f E) (hg : Gm s 94 n E) (hsd : sd = 0 ∨ sd = 1) (hk : k < n * n) (fk : f k = sd) : Mo_chainStones sd ((lab E k : Nat) : Int) s = some ((cnt (fun x => Rch E k x) (n * n) : Nat) : Int) := by
  have h81 := nn_le hM.1.2.1
  have hsR : R sd := by unfold R; omega
  have hl := lab_le E k
  have e0 : cnt (fun x => Rch E k x) (n * n) = cnt (fun c => f c = sd ∧ lab E c = lab E k) (n * n) := cnt_congr fun c hc => by
    constructor
    · intro h
      exact ⟨(hE.r hk h).2.trans fk, (lab_eq hE.1 h).symm⟩
    · rintro ⟨-, h⟩
      exact (lab_iff hE.1).mp h.symm
  rw [e0]
  unfold Mo_chainStones Mo_chainStones_l5
  have key : whl (fun σ : Int × Int => Mo_chainStones_t5 sd ((lab E k : Nat) : Int) σ.1 σ.2 s) (0, 0) = some ((cnt (fun c => f c = sd ∧ lab E c = lab E k) (n * n) : Nat) : Int) := by
    refine whl_up (n * n) (fun i => (((cnt (fun c => f c = sd ∧ lab E c = lab E k) i : Nat) : Int), (i : Int))) _ (fun i hi => ?_) ?_
    · show Mo_chainStones_t5 sd _ _ (i : Int) s = _
      unfold Mo_chainStones_t5 Mo_chainStones_b40 Mo_chainStones_b41
      rw [Mo_cells_eq hM.1, bnd_some, ifLt_eq _ _ (R_nat (by omega)) (R_nat (by omega)), if_pos (by omega), hM.st hi, bnd_some, ifEq_eq _ _ (hfr.r hi) hsR]
      by_cases e1 : f i = sd
      · rw [if_pos e1, grd_t (by omega)]
        show ifEq (gi s 94 i) _ _ _ = _
        rw [ifEq_eq _ _ (hg.r hi hM.1.2.1) (R_nat (by omega)), hg i hi]
        by_cases e2 : lab E i = lab E k
        · rw [if_pos (by rw [e2]), cnt_t (p := fun c => f c = sd ∧ lab E c = lab E k) ⟨e1, e2⟩]; rfl
        · rw [if_neg (by omega), cnt_f (p := fun c => f c = sd ∧ lab E c = lab E k) (fun q => e2 q.2), lett_eq, Int.add_zero]; rfl
      · rw [if_neg e1, cnt_f (p := fun c => f c = sd ∧ lab E c = lab E k) (fun q => e1 q.1), lett_eq, Int.add_zero]; rfl
    · show Mo_chainStones_t5 sd _ _ ((n * n : Nat) : Int) s = _
      unfold Mo_chainStones_t5
      rw [Mo_cells_eq hM.1, bnd_some, ifLt_eq _ _ (R_nat (by omega)) (R_nat (by omega)), if_neg (by omega)]
  rw [key]; rfl
theorem Mo_chainBridges_eq {st : BL} {top : Nat} (hM : MB s n f) (hg : Gm s 94 n E) (hB : MoB s st) (hw : BW n f sd st) (hm : st.1 ≤ 405) (ht : top < n * n) : Mo_chainBridges (top : Int) s = some ((cnt (fun i => eCt st i = 1 ∧ lab E (eLow st i) = top) st.1 : Nat) : Int) := by
  have h81 := nn_le hM.1.2.1
  unfold Mo_chainBridges Mo_chainBridges_l4
  have key : whl (fun σ : Int × Int => Mo_chainBridges_t4 (top : Int) σ.1 σ.2 s) (0, 0) = some ((cnt (fun i => eCt st i = 1 ∧ lab E (eLow st i) = top) st.1 : Nat) : Int) := by
    refine whl_up st.1 (fun i => (((cnt (fun i => eCt st i = 1 ∧ lab E (eLow st i) = top) i : Nat) : Int), (i : Int))) _ (fun i hi => ?_) ?_
    · have hl := hw.low hi
      show Mo_chainBridges_t4 (top : Int) ((cnt (fun i => eCt st i = 1 ∧ lab E (eLow st i) = top) i : Nat) : Int) (i : Int) s = _
      unfold Mo_chainBridges_t4 Mo_chainBridges_b41 Mo_chainBridges_b42
      rw [hB.1, ifLt_eq _ _ (R_nat (by omega)) (R_nat (by omega)), if_pos (by omega), grd_t (by omega), grd_t (by omega)]
      show ifEq (gi s 92 i) 0 _ (grd (0 ≤ gi s 88 i ∧ gi s 88 i < 81) (ifEq (gi s 94 (gi s 88 i).toNat) _ _ _)) = _
      rw [(hB.2.1 i hi).2.2.2.2, (hB.2.1 i hi).1, hl.1, grd_t (by omega)]
      show ifEq (eCt st i) 0 _ (ifEq (gi s 94 (eLow st i)) _ _ _) = _
      rw [ifEq_eq _ _ (hw.ctR hi) R0, ifEq_eq _ _ (hg.r hl.2.1 hM.1.2.1) (R_nat (by omega)), hg _ hl.2.1]
      rcases hw.ct hi with e | e
      · rw [if_pos e, cnt_f (p := fun i => eCt st i = 1 ∧ lab E (eLow st i) = top) (fun q => by have := q.1; omega), lett_eq, Int.add_zero]; rfl
      · rw [if_neg (by omega)]
        by_cases e2 : lab E (eLow st i) = top
        · rw [if_pos (by omega), cnt_t (p := fun i => eCt st i = 1 ∧ lab E (eLow st i) = top) ⟨e, e2⟩]; rfl
        · rw [if_neg (by omega), cnt_f (p := fun i => eCt st i = 1 ∧ lab E (eLow st i) = top) (fun q => e2 q.2), lett_eq, Int.add_zero]; rfl
    · show Mo_chainBridges_t4 (top : Int) _ (st.1 : Int) s = _
      unfold Mo_chainBridges_t4
      rw [hB.1, ifLt_eq _ _ (R_nat (by omega)) (R_nat (by omega)), if_neg (by omega)]
  rw [key]; rfl
theorem Mo_chainEdges_eq {k : Nat} (hM : MB s n f) (hfr : FR n f) (hg : Gm s 94 n (Ech n f sd)) (hB : MoB s (brs n f sd)) (hsd : sd = 0 ∨ sd = 1) (hk : k < n * n) (fk : f k = sd) (hlk : lab (Ech n f sd) k = k) : Mo_chainEdges sd (k : Int) s = some (evC n f sd k) := by
  have h81 := nn_le hM.1.2.1
  have hsR : R sd := by unfold R; omega
  have hw := brs_w (f := f) (sd := sd) ⟨hM.1.1, hM.1.2.1⟩
  have hE := Ein_Ech (f := f) (sd := sd) ⟨hM.1.1, hM.1.2.1⟩
  unfold Mo_chainEdges Mo_chainEdges_l5
  let A : Int → Nat → Prop := fun v c => f c = sd ∧ lab (Ech n f sd) c = k ∧ edg n sd c = v
  have key : whl (fun σ : Int × Int => Mo_chainEdges_t5 sd (k : Int) σ.1 σ.2 s) (0, 0) = some (ev (∃ c, c < n * n ∧ A 1 c) (∃ c, c < n * n ∧ A 2 c)) := by
    refine whl_up' (n * n) (fun i => (ev (∃ c, c < i ∧ A 1 c) (∃ c, c < i ∧ A 2 c), (i : Int))) _ ?_ (fun i hi => ?_) ?_
    · show (ev (∃ c, c < 0 ∧ A 1 c) (∃ c, c < 0 ∧ A 2 c), ((0 : Nat) : Int)) = (0, 0)
      rw [ev_0 (A 1) (A 2)]; rfl
    · show Mo_chainEdges_t5 sd (k : Int) (ev (∃ c, c < i ∧ A 1 c) (∃ c, c < i ∧ A 2 c)) (i : Int) s = some (Sum.inl (ev (∃ c, c < i + 1 ∧ A 1 c) (∃ c, c < i + 1 ∧ A 2 c), ((i + 1 : Nat) : Int)))
      unfold Mo_chainEdges_t5 Mo_chainEdges_b45
      rw [Mo_cells_eq hM.1, bnd_some, ifLt_eq _ _ (R_nat (by omega)) (R_nat (by omega)), if_pos (by omega), hM.st hi, bnd_some, ifEq_eq _ _ (hfr.r hi) hsR]
      by_cases e1 : f i = sd
      · rw [if_pos e1, grd_t (by omega)]
        show ifEq (gi s 94 i) _ _ _ = _
        rw [ifEq_eq _ _ (hg.r hi hM.1.2.1) (R_nat (by omega)), hg i hi]
        by_cases e2 : lab (Ech n f sd) i = k
        · have hEv : edg n sd i = ev (A 1 i) (A 2 i) := (edg_ev n sd i).trans (ev_congr ⟨fun h => ⟨e1, e2, h⟩, fun h => h.2.2⟩ ⟨fun h => ⟨e1, e2, h⟩, fun h => h.2.2⟩)
          rw [if_pos (by omega), Mo_edges_eq hM.1 hi hsd, bnd_some, lett_eq, ev_s (A 1) (A 2) i, ← hEv]
          rfl
        · rw [if_neg (by omega), ev_s0 (p := A 1) (q := A 2) (fun h => e2 h.2.1) (fun h => e2 h.2.1)]
          rfl
      · rw [if_neg e1, ev_s0 (p := A 1) (q := A 2) (fun h => e1 h.1) (fun h => e1 h.1)]
        rfl
    · show Mo_chainEdges_t5 sd (k : Int) _ ((n * n : Nat) : Int) s = _
      unfold Mo_chainEdges_t5
      rw [Mo_cells_eq hM.1, bnd_some, ifLt_eq _ _ (R_nat (by omega)) (R_nat (by omega)), if_neg (by omega)]
  rw [key, bnd_some]
  unfold Mo_chainEdges_l54
  let B : Int → Nat → Prop := fun w i => eCt (brs n f sd) i = 1 ∧ eOth (brs n f sd) i = w ∧ lab (Ech n f sd) (eLow (brs n f sd) i) = k
  have hor : ∀ (P Q : Prop) (p q : Nat → Prop) (i : Nat), ev (P ∨ ∃ c, c < i + 1 ∧ p c) (Q ∨ ∃ c, c < i + 1 ∧ q c) = iorI (ev (P ∨ ∃ c, c < i ∧ p c) (Q ∨ ∃ c, c < i ∧ q c)) (ev (p i) (q i)) := by
    intro P Q p q i
    rw [ev_or]
    exact ev_congr (by rw [exs_s, or_assoc]) (by rw [exs_s, or_assoc])
  have hno : ∀ (P Q : Prop) (p q : Nat → Prop) (i : Nat), ¬ p i → ¬ q i → ev (P ∨ ∃ c, c < i + 1 ∧ p c) (Q ∨ ∃ c, c < i + 1 ∧ q c) = ev (P ∨ ∃ c, c < i ∧ p c) (Q ∨ ∃ c, c < i ∧ q c) := by
    intro P Q p q i h1 h2
    refine ev_congr ?_ ?_
    · rw [exs_s]
      exact ⟨fun h => h.elim Or.inl fun h => h.elim Or.inr fun h => absurd h h1, fun h => h.imp id Or.inl⟩
    · rw [exs_s]
      exact ⟨fun h => h.elim Or.inl fun h => h.elim Or.inr fun h => absurd h h2, fun h => h.imp id Or.inl⟩
  have key2 : whl (fun σ : Int × Int => Mo_chainEdges_t54 (k : Int) σ.1 σ.2 s) (ev (∃ c, c < n * n ∧ A 1 c) (∃ c, c < n * n ∧ A 2 c), 0) = some (ev ((∃ c, c < n * n ∧ A 1 c) ∨ ∃ i, i < (brs n f sd).1 ∧ B (-10) i) ((∃ c, c < n * n ∧ A 2 c) ∨ ∃ i, i < (brs n f sd).1 ∧ B (-11) i)) := by
    have hm := hw.2
    refine whl_up' (brs n f sd).1 (fun i => (ev ((∃ c, c < n * n ∧ A 1 c) ∨ ∃ j, j < i ∧ B (-10) j) ((∃ c, c < n * n ∧ A 2 c) ∨ ∃ j, j < i ∧ B (-11) j), (i : Int))) _ ?_ (fun i hi => ?_) ?_
    · show (ev ((∃ c, c < n * n ∧ A 1 c) ∨ ∃ j, j < 0 ∧ B (-10) j) ((∃ c, c < n * n ∧ A 2 c) ∨ ∃ j, j < 0 ∧ B (-11) j), ((0 : Nat) : Int)) = _
      rw [ev_congr (p' := ∃ c, c < n * n ∧ A 1 c) (q' := ∃ c, c < n * n ∧ A 2 c) ⟨fun h => h.elim id fun ⟨j, hj, _⟩ => absurd hj (Nat.not_lt_zero j), Or.inl⟩ ⟨fun h => h.elim id fun ⟨j, hj, _⟩ => absurd hj (Nat.not_lt_zero j), Or.inl⟩]
      rfl
    · have hl := hw.1.low hi
      show Mo_chainEdges_t54 (k : Int) (ev ((∃ c, c < n * n ∧ A 1 c) ∨ ∃ j, j < i ∧ B (-10) j) ((∃ c, c < n * n ∧ A 2 c) ∨ ∃ j, j < i ∧ B (-11) j)) (i : Int) s = some (Sum.inl (ev ((∃ c, c < n * n ∧ A 1 c) ∨ ∃ j, j < i + 1 ∧ B (-10) j) ((∃ c, c < n * n ∧ A 2 c) ∨ ∃ j, j < i + 1 ∧ B (-11) j), ((i + 1 : Nat) : Int)))
      unfold Mo_chainEdges_t54 Mo_chainEdges_b114
      rw [hB.1, ifLt_eq _ _ (R_nat (by omega)) (R_nat (by omega)), if_pos (by omega), grd_t (show 0 ≤ (i : Int) ∧ (i : Int) < 405 from ⟨by omega, by omega⟩), grd_t (show 0 ≤ (i : Int) ∧ (i : Int) < 405 from ⟨by omega, by omega⟩), grd_t (show 0 ≤ (i : Int) ∧ (i : Int) < 405 from ⟨by omega, by omega⟩), grd_t (show 0 ≤ (i : Int) ∧ (i : Int) < 405 from ⟨by omega, by omega⟩)]
      show ifEq (gi s 92 i) 0 _ (ifLt (gi s 89 i) 0 (grd (0 ≤ gi s 88 i ∧ gi s 88 i < 81) (ifEq (gi s 94 (gi s 88 i).toNat) _ (lett (iorI _ (ishlI 1 (-10 - gi s 89 i))) _) _)) _) = _
      rw [(hB.2.1 i hi).2.2.2.2, (hB.2.1 i hi).1, (hB.2.1 i hi).2.1, hl.1, grd_t (by omega)]
      show ifEq (eCt (brs n f sd) i) 0 _ (ifLt (eOth (brs n f sd) i) 0 (ifEq (gi s 94 (eLow (brs n f sd) i)) _ (lett (iorI _ (ishlI 1 (-10 - eOth (brs n f sd) i))) _) _) _) = _
      rw [ifEq_eq _ _ (hw.1.ctR hi) R0, ifLt_eq _ _ (hw.1.othR hM.1.2.1 hi) R0, ifEq_eq _ _ (hg.r hl.2.1 hM.1.2.1) (R_nat (by omega)), hg _ hl.2.1]
      rcases hw.1.ct hi with e | e
      · rw [if_pos e, hno _ _ _ _ i (fun q => by have := q.1; omega) (fun q => by have := q.1; omega)]; rfl
      · rw [if_neg (by omega)]
        by_cases e2 : lab (Ech n f sd) (eLow (brs n f sd) i) = k
        · rcases hw.1.oth hi with ⟨o, eo, ho, fo, -⟩ | eo | eo
          · rw [if_neg (by omega), hno _ _ _ _ i (fun q => by have := q.2.1; omega) (fun q => by have := q.2.1; omega)]; rfl
          · have hb : ishlI 1 (-10 - eOth (brs n f sd) i) = ev (B (-10) i) (B (-11) i) := by
              rw [ev_congr (p' := True) (q' := False) ⟨fun _ => trivial, fun _ => ⟨e, eo, e2⟩⟩ ⟨fun q => by have := q.2.1; omega, fun q => q.elim⟩, eo]
              unfold ev
              rw [if_pos trivial, if_neg (fun q => q)]
              decide
            rw [if_pos (by omega), if_pos (by omega), lett_eq, hor, ← hb]; rfl
          · have hb : ishlI 1 (-10 - eOth (brs n f sd) i) = ev (B (-10) i) (B (-11) i) := by
              rw [ev_congr (p' := False) (q' := True) ⟨fun q => by have := q.2.1; omega, fun q => q.elim⟩ ⟨fun _ => trivial, fun _ => ⟨e, eo, e2⟩⟩, eo]
              unfold ev
              rw [if_neg (fun q => q), if_pos trivial]
              decide
            rw [if_pos (by omega), if_pos (by omega), lett_eq, hor, ← hb]; rfl
        · rw [hno _ _ _ _ i (fun q => e2 q.2.2) (fun q => e2 q.2.2)]
          split
          · rw [if_neg (by omega)]; rfl
          · rfl
    · show Mo_chainEdges_t54 (k : Int) _ ((brs n f sd).1 : Int) s = _
      unfold Mo_chainEdges_t54
      rw [hB.1, ifLt_eq _ _ (R_nat (by omega)) (R_nat (by omega)), if_neg (by omega)]
  show bnd (whl (fun σ : Int × Int => Mo_chainEdges_t54 (k : Int) σ.1 σ.2 s) (ev (∃ c, c < n * n ∧ A 1 c) (∃ c, c < n * n ∧ A 2 c), 0)) _ = _
  rw [key2, bnd_some]
  have fin : ∀ v w : Int, ((∃ c, c < n * n ∧ A v c) ∨ ∃ i, i < (brs n f sd).1 ∧ B w i) ↔ ∃ x, Rch (Ech n f sd) k x ∧ Pch n f sd v w x := by
    intro v w
    constructor
    · rintro (⟨c, hc, h1, h2, h3⟩ | ⟨i, hi, h1, h2, h3⟩)
      · exact ⟨c, (lab_iff hE.1).mp (hlk.trans h2.symm), Or.inl h3⟩
      · exact ⟨eLow (brs n f sd) i, (lab_iff hE.1).mp (hlk.trans h3.symm), Or.inr ⟨i, hi, h1, rfl, h2⟩⟩
    · rintro ⟨x, h1, h2 | ⟨i, hi, h2, h3, h4⟩⟩
      · exact Or.inl ⟨x, (hE.r hk h1).1, (hE.r hk h1).2.trans fk, by rw [← lab_eq hE.1 h1]; exact hlk, h2⟩
      · exact Or.inr ⟨i, hi, h2, h4, by rw [h3, ← lab_eq hE.1 h1]; exact hlk⟩
  rw [ev_congr (fin 1 (-10)) (fin 2 (-11))]
  rfl
theorem Mo_isSafe_l17_eq (hM : MB s n f) (hfr : FR n f) (hg : Gm s 94 n (Ech n f sd)) (hB : MoB s (brs n f sd)) (hsd : sd = 0 ∨ sd = 1) : Mo_isSafe_l17 sd 0 s = some (bI (∃ k, k < n * n ∧ f k = sd ∧ lab (Ech n f sd) k = k ∧ evC n f sd k = 3), s) := by
  have h81 := nn_le hM.1.2.1
  have hsR : R sd := by unfold R; omega
  have hRC : ∀ k, R (evC n f sd k) := fun k => R_ev _ _
  unfold Mo_isSafe_l17
  have s1 : ∀ i : Nat, i < n * n → (f i = sd ∧ lab (Ech n f sd) i = i ∧ evC n f sd i = 3) → Mo_isSafe_t17 sd (i : Int) s = some (.inr (.inl ())) := by
    intro i hi hp
    unfold Mo_isSafe_t17
    rw [Mo_cells_eq hM.1, bnd_some, ifLt_eq _ _ (R_nat (by omega)) (R_nat (by omega)), if_pos (by omega), hM.st hi, bnd_some, ifEq_eq _ _ (hfr.r hi) hsR, if_pos hp.1, grd_t (by omega)]
    show ifEq (gi s 94 i) _ _ _ = _
    rw [ifEq_eq _ _ (hg.r hi hM.1.2.1) (R_nat (by omega)), hg i hi, if_pos (by rw [hp.2.1]), Mo_chainEdges_eq hM hfr hg hB hsd hi hp.1 hp.2.1, bnd_some, ifEq_eq _ _ (hRC i) R3, if_pos hp.2.2]
  have s2 : ∀ i : Nat, i < n * n → ¬ (f i = sd ∧ lab (Ech n f sd) i = i ∧ evC n f sd i = 3) → Mo_isSafe_t17 sd (i : Int) s = some (.inl ((i + 1 : Nat) : Int)) := by
    intro i hi hp
    unfold Mo_isSafe_t17 Mo_isSafe_b56
    rw [Mo_cells_eq hM.1, bnd_some, ifLt_eq _ _ (R_nat (by omega)) (R_nat (by omega)), if_pos (by omega), hM.st hi, bnd_some, ifEq_eq _ _ (hfr.r hi) hsR]
    by_cases e1 : f i = sd
    · rw [if_pos e1, grd_t (by omega)]
      show ifEq (gi s 94 i) _ _ _ = _
      rw [ifEq_eq _ _ (hg.r hi hM.1.2.1) (R_nat (by omega)), hg i hi]
      by_cases e2 : lab (Ech n f sd) i = i
      · rw [if_pos (by rw [e2]), Mo_chainEdges_eq hM hfr hg hB hsd hi e1 e2, bnd_some, ifEq_eq _ _ (hRC i) R3, if_neg (fun q => hp ⟨e1, e2, q⟩)]; rfl
      · rw [if_neg (by omega)]; rfl
    · rw [if_neg e1]; rfl
  have s3 : Mo_isSafe_t17 sd ((n * n : Nat) : Int) s = some (.inr (.inr ())) := by
    unfold Mo_isSafe_t17
    rw [Mo_cells_eq hM.1, bnd_some, ifLt_eq _ _ (R_nat (by omega)) (R_nat (by omega)), if_neg (by omega)]
  rcases whl_find (f := fun σ : Int => Mo_isSafe_t17 sd σ s) (fun i => (i : Int)) (n * n) (fun i => f i = sd ∧ lab (Ech n f sd) i = i ∧ evC n f sd i = 3) (fun _ => .inl ()) (.inr ()) s1 s2 s3 with ⟨k, hk, hp, -, e⟩ | ⟨hno, e⟩
  · have e' : whl (fun σ : Int => Mo_isSafe_t17 sd σ s) 0 = some (.inl ()) := e
    rw [e', bI_t ⟨k, hk, hp⟩]; rfl
  · have e' : whl (fun σ : Int => Mo_isSafe_t17 sd σ s) 0 = some (.inr ()) := e
    rw [e', bI_f (fun ⟨k, hk, hp⟩ => hno k hk hp)]; rfl
end CHQ

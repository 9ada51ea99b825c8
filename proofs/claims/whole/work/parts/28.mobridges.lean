/-! ===== the reference's list of bridges ===== -/
def MoB (s : Sg) (st : BL) : Prop := gi s 80 24 = (st.1 : Int) ∧ (∀ i, i < st.1 → gi s 88 i = (st.2.1 i).1 ∧ gi s 89 i = (st.2.1 i).2.1 ∧ gi s 90 i = (st.2.1 i).2.2.1 ∧ gi s 91 i = (st.2.1 i).2.2.2.1 ∧ gi s 92 i = (st.2.1 i).2.2.2.2) ∧ ∀ c, c < 81 → gi s 93 c = st.2.2 c
abbrev MBs : List Nat := [8024, 8025, 8026, 8027, 88, 89, 90, 91, 92, 93]
theorem MoB.ch {s s' : Sg} {st : BL} {L : List Nat} (h : MoB s st) (hc : Ch L s s') (h0 : 8024 ∉ L := by decide) (h1 : ∀ x ∈ [88, 89, 90, 91, 92, 93], x ∉ L := by decide) : MoB s' st := by
  obtain ⟨a, b, c⟩ := h
  refine ⟨by rw [hc.g8 24 h0]; exact a, fun i hi => ?_, fun x hx => ?_⟩
  · rw [hc.g 88 (h1 _ (by decide)), hc.g 89 (h1 _ (by decide)), hc.g 90 (h1 _ (by decide)), hc.g 91 (h1 _ (by decide)), hc.g 92 (h1 _ (by decide))]
    exact b i hi
  · rw [hc.g 93 (h1 _ (by decide))]; exact c x hx
theorem Mo_areNeighbours_eq {s : Sg} {n x y : Nat} (hM : MoN s n) (hx : x < n * n) (hy : y < n * n) : Mo_areNeighbours (x : Int) (y : Int) s = some (bI (Adj n x y)) := by
  have h81 := nn_le hM.2.1
  have hR : ∀ k, R (rnd n x k) := fun k => by
    rcases rnd_rg n x k with e | ⟨z, e, hz⟩
    · rw [e]; exact R_n1
    · rw [e]; exact R_nat (by omega)
  unfold Mo_areNeighbours Mo_areNeighbours_l2
  have stp : ∀ j : Nat, j < 6 → Mo_areNeighbours_t2 (x : Int) (y : Int) (j : Int) s = if rnd n x j = (y : Int) then some (.inr (.inl ())) else some (.inl ((j : Int) + 1)) := by
    intro j hj
    unfold Mo_areNeighbours_t2
    rw [ifLt_eq _ _ (R_nat (by omega)) R6, if_pos (by omega), Mo_round_eq hM hx hj, bnd_some, ifEq_eq _ _ (hR j) (R_nat (by omega))]
  have s3 : Mo_areNeighbours_t2 (x : Int) (y : Int) ((6 : Nat) : Int) s = some (.inr (.inr ())) := by
    show Mo_areNeighbours_t2 (x : Int) (y : Int) ((6 : Nat) : Int) s = _
    unfold Mo_areNeighbours_t2
    rw [ifLt_eq _ _ (R_nat (by omega)) R6, if_neg (by omega)]
  rcases whl_find (f := fun σ : Int => Mo_areNeighbours_t2 (x : Int) (y : Int) σ s) (fun i => (i : Int)) 6 (fun j => rnd n x j = (y : Int)) (fun _ => .inl ()) (.inr ()) (fun i hi hp => (stp i hi).trans (if_pos hp)) (fun i hi hp => (stp i hi).trans (if_neg hp)) s3 with ⟨j, hj, hp, -, e⟩ | ⟨hno, e⟩
  · have e' : whl (fun σ : Int => Mo_areNeighbours_t2 (x : Int) (y : Int) σ s) 0 = some (.inl ()) := e
    rw [e', bI_t ⟨j, hj, hp⟩]; rfl
  · have e' : whl (fun σ : Int => Mo_areNeighbours_t2 (x : Int) (y : Int) σ s) 0 = some (.inr ()) := e
    rw [e', bI_f (fun ⟨j, hj, hp⟩ => hno j hj hp)]; rfl
/-- what is shared so far: how many, the first, the last -/
def Sh (s : Sg) (p : Nat → Prop) (i : Nat) : Prop := gi s 80 25 = (cnt p i : Int) ∧ ((cnt p i = 0 ∧ ∀ x, x < i → ¬ p x) ∨ (cnt p i = 1 ∧ ∃ a : Nat, gi s 80 26 = (a : Int) ∧ a < i ∧ ∀ x, x < i → (p x ↔ x = a)) ∨ (cnt p i = 2 ∧ ∃ a b : Nat, gi s 80 26 = (a : Int) ∧ gi s 80 27 = (b : Int) ∧ a < b ∧ b < i ∧ ∀ x, x < i → (p x ↔ x = a ∨ x = b)) ∨ 2 < cnt p i)
theorem Mo_shares_ok {s : Sg} {p : Nat → Prop} {i : Nat} (h : Sh s p i) (hp : p i) (hi : i < 100) : okP (Mo_shares (i : Int) s) (fun t => Ch [8025, 8026, 8027] s t ∧ Sh t p (i + 1)) := by
  obtain ⟨h1, h2⟩ := h
  have hle := cnt_le p i
  have hn : ∀ x, x < i + 1 → x < i ∨ x = i := fun x hx => by omega
  unfold Mo_shares Mo_shares_b20
  rw [h1, ifEq_eq _ _ (R_nat (by omega)) R0]
  by_cases e : cnt p i = 0
  · rw [if_pos (by omega), lett_eq, lett_eq]
    refine okP_some ⟨(Ch.s8 (by decide)).tr (Ch.s8 (by decide)), ?_, ?_⟩
    · rw [gi_si_s, gi_si_k _ _ _ (by omega), h1, cnt_t hp]; rfl
    · rw [cnt_t hp]
      refine Or.inr (Or.inl ⟨by omega, i, by rw [gi_si_k _ _ _ (by omega), gi_si_s], by omega, fun x hx => ?_⟩)
      rcases h2 with ⟨-, q⟩ | ⟨q, -⟩ | ⟨q, -⟩ | q
      · constructor
        · intro hpx
          rcases hn x hx with h | h
          · exact absurd hpx (q x h)
          · exact h
        · rintro rfl; exact hp
      · omega
      · omega
      · omega
  · rw [if_neg (by omega), lett_eq, lett_eq]
    refine okP_some ⟨(Ch.s8 (by decide)).tr (Ch.s8 (by decide)), ?_, ?_⟩
    · rw [gi_si_s, gi_si_k _ _ _ (by omega), h1, cnt_t hp]; rfl
    · rw [cnt_t hp]
      rcases h2 with ⟨q, -⟩ | ⟨q, a, q1, q2, q3⟩ | ⟨q, -⟩ | q
      · omega
      · refine Or.inr (Or.inr (Or.inl ⟨by omega, a, i, by rw [gi_si_k _ _ _ (by omega), gi_si_k _ _ _ (by omega)]; exact q1, by rw [gi_si_k _ _ _ (by omega), gi_si_s], q2, by omega, fun x hx => ?_⟩))
        constructor
        · intro hpx
          rcases hn x hx with h | h
          · exact Or.inl ((q3 x h).mp hpx)
          · exact Or.inr h
        · rintro (rfl | rfl)
          · exact (q3 x q2).mpr rfl
          · exact hp
      · exact Or.inr (Or.inr (Or.inr (by omega)))
      · exact Or.inr (Or.inr (Or.inr (by omega)))
theorem Sh.no {s : Sg} {p : Nat → Prop} {i : Nat} (h : Sh s p i) (hp : ¬ p i) : Sh s p (i + 1) := by
  obtain ⟨h1, h2⟩ := h
  have hn : ∀ x, x < i + 1 → p x → x < i := fun x hx hpx => by
    by_cases e : x = i
    · subst e; exact absurd hpx hp
    · omega
  unfold Sh
  rw [cnt_f hp]
  refine ⟨h1, ?_⟩
  rcases h2 with ⟨q, q1⟩ | ⟨q, a, q1, q2, q3⟩ | ⟨q, a, b, q1, q2, q3, q4, q5⟩ | q
  · exact Or.inl ⟨q, fun x hx hpx => q1 x (hn x hx hpx) hpx⟩
  · refine Or.inr (Or.inl ⟨q, a, q1, by omega, fun x hx => ⟨fun hpx => (q3 x (hn x hx hpx)).mp hpx, ?_⟩⟩)
    rintro rfl
    exact (q3 x q2).mpr rfl
  · refine Or.inr (Or.inr (Or.inl ⟨q, a, b, q1, q2, q3, by omega, fun x hx => ⟨fun hpx => (q5 x (hn x hx hpx)).mp hpx, ?_⟩⟩))
    rintro (rfl | rfl)
    · exact (q5 x (by omega)).mpr (Or.inl rfl)
    · exact (q5 x q4).mpr (Or.inr rfl)
  · exact Or.inr (Or.inr (Or.inr q))
theorem Sh.zero {s : Sg} {p : Nat → Prop} (h : gi s 80 25 = 0) : Sh s p 0 := ⟨h, Or.inl ⟨rfl, fun x hx => absurd hx (Nat.not_lt_zero x)⟩⟩
/-- two cells form a bridge -/
def BrC (n : Nat) (f : Nat → Int) (x y : Nat) : Prop := x ≠ y ∧ f x ≠ -1 ∧ f x = f y ∧ ¬ Adj n x y ∧ ∃ a b, a < b ∧ b < n * n ∧ f a = -1 ∧ f b = -1 ∧ ∀ z, z < n * n → (Adj n x z ∧ Adj n y z ↔ z = a ∨ z = b)
theorem Mo_joinsCells_ok {s : Sg} {n x y : Nat} {f : Nat → Int} (hM : MB s n f) (hfr : FR n f) (hx : x < n * n) (hy : y < n * n) :
    okP (Mo_joinsCells (x : Int) (y : Int) s) (fun o => Ch [8025, 8026, 8027] s o.2 ∧ o.1 = bI (BrC n f x y) ∧ (BrC n f x y → ∃ a b : Nat, gi o.2 80 26 = (a : Int) ∧ gi o.2 80 27 = (b : Int) ∧ a < b ∧ b < n * n ∧ ∀ z, z < n * n → (Adj n x z ∧ Adj n y z ↔ z = a ∨ z = b))) := by
  have h81 := nn_le hM.1.2.1
  have no : ¬ BrC n f x y → okP (some (0, s) : Option (Int × Sg)) (fun o => Ch [8025, 8026, 8027] s o.2 ∧ o.1 = bI (BrC n f x y) ∧ (BrC n f x y → ∃ a b : Nat, gi o.2 80 26 = (a : Int) ∧ gi o.2 80 27 = (b : Int) ∧ a < b ∧ b < n * n ∧ ∀ z, z < n * n → (Adj n x z ∧ Adj n y z ↔ z = a ∨ z = b))) := fun h => okP_some ⟨Ch.rf _ _, (bI_f h).symm, fun q => absurd q h⟩
  unfold Mo_joinsCells
  rw [ifEq_eq _ _ (R_nat (by omega)) (R_nat (by omega))]
  by_cases e1 : x = y
  · rw [if_pos (by omega)]
    exact no fun q => q.1 e1
  · rw [if_neg (by omega), hM.st hx, bnd_some, ifEq_eq _ _ (hfr.r hx) R_n1]
    by_cases e2 : f x = -1
    · rw [if_pos e2]
      exact no fun q => q.2.1 e2
    · rw [if_neg e2, bnd_some, hM.st hy, bnd_some, ifEq_eq _ _ (hfr.r hx) (hfr.r hy)]
      by_cases e3 : f x = f y
      · rw [if_pos e3, Mo_areNeighbours_eq hM.1 hx hy, bnd_some, ifEq_eq _ _ (R_bI _) R0]
        by_cases e4 : Adj n x y
        · rw [bI_t e4, if_neg (by omega)]
          exact no fun q => q.2.2.2.1 e4
        · rw [bI_f e4, if_pos rfl, lett_eq]
          unfold Mo_joinsCells_l45
          refine okP_bnd (P := fun t => Ch [8025, 8026, 8027] s t ∧ Sh t (fun z => Adj n x z ∧ Adj n y z) (n * n)) (whl_for (fun (i : Nat) (t : Sg) => ((i : Int), t)) (n * n) (fun i t => Ch [8025, 8026, 8027] s t ∧ Sh t (fun z => Adj n x z ∧ Adj n y z) i) (t0 := si s 80 25 0) (Nat.zero_le _) ⟨Ch.s8 (by decide), Sh.zero (gi_si_s _ _ _ _)⟩ ?_ ?_) ?_
          · rintro i t hi ⟨c1, c2⟩
            have hMt : MB t n f := hM.ch c1
            show okP (Mo_joinsCells_t45 (x : Int) (y : Int) (i : Int) t) _
            unfold Mo_joinsCells_t45 Mo_joinsCells_b76
            rw [Mo_cells_eq hMt.1, bnd_some, ifLt_eq _ _ (R_nat (by omega)) (R_nat (by omega)), if_pos (by omega), Mo_areNeighbours_eq hMt.1 hx hi, bnd_some, ifEq_eq _ _ (R_bI _) R0]
            by_cases a1 : Adj n x i
            · rw [bI_t a1, if_neg (by omega), Mo_areNeighbours_eq hMt.1 hy hi, bnd_some, ifEq_eq _ _ (R_bI _) R0]
              by_cases a2 : Adj n y i
              · rw [bI_t a2, if_neg (by omega)]
                refine okP_bnd (Mo_shares_ok c2 ⟨a1, a2⟩ (by omega)) ?_
                rintro u - ⟨d1, d2⟩
                exact okP_some (Or.inl ⟨u, rfl, c1.tr d1, d2⟩)
              · rw [bI_f a2, if_pos rfl]
                exact okP_some (Or.inl ⟨t, rfl, c1, c2.no fun q => a2 q.2⟩)
            · rw [bI_f a1, if_pos rfl]
              exact okP_some (Or.inl ⟨t, rfl, c1, c2.no fun q => a1 q.1⟩)
          · rintro t ⟨c1, c2⟩
            have hMt : MB t n f := hM.ch c1
            show okP (Mo_joinsCells_t45 (x : Int) (y : Int) ((n * n : Nat) : Int) t) _
            unfold Mo_joinsCells_t45
            rw [Mo_cells_eq hMt.1, bnd_some, ifLt_eq _ _ (R_nat (by omega)) (R_nat (by omega)), if_neg (by omega)]
            exact okP_some ⟨t, rfl, c1, c2⟩
          · rintro t - ⟨c1, c2, c3⟩
            have hMt : MB t n f := hM.ch c1
            have hle := cnt_le (fun z => Adj n x z ∧ Adj n y z) (n * n)
            unfold Mo_areCarriers
            rw [c2, ifEq_eq _ _ (R_nat (by omega)) R2]
            have two : BrC n f x y → cnt (fun z => Adj n x z ∧ Adj n y z) (n * n) = 2 := fun ⟨_, _, _, _, a, b, h1, h2, _, _, h3⟩ => cnt_two h1 h2 h3
            rcases c3 with ⟨q, -⟩ | ⟨q, -⟩ | ⟨q, a, b, q1, q2, q3, q4, q5⟩ | q
            · have hno : ¬ BrC n f x y := fun h => by have := two h; omega
              rw [if_neg (by omega), bnd_some, grd_t b01_0]
              exact okP_some ⟨c1, (bI_f hno).symm, fun h => absurd h hno⟩
            · have hno : ¬ BrC n f x y := fun h => by have := two h; omega
              rw [if_neg (by omega), bnd_some, grd_t b01_0]
              exact okP_some ⟨c1, (bI_f hno).symm, fun h => absurd h hno⟩
            · have hab : ∀ a' b', a' < b' → b' < n * n → (∀ z, z < n * n → (Adj n x z ∧ Adj n y z ↔ z = a' ∨ z = b')) → a' = a ∧ b' = b := by
                intro a' b' w1 w2 w3
                have ea := (q5 a' (by omega)).mp ((w3 a' (by omega)).mpr (Or.inl rfl))
                have eb := (q5 b' w2).mp ((w3 b' w2).mpr (Or.inr rfl))
                omega
              rw [if_pos (by omega), q1, q2, hMt.st (by omega), bnd_some, ifEq_eq _ _ (hfr.r (show a < n * n by omega)) R_n1]
              by_cases f1 : f a = -1
              · rw [if_pos f1, hMt.st q4, bnd_some, ifEq_eq _ _ (hfr.r q4) R_n1]
                by_cases f2 : f b = -1
                · have hyes : BrC n f x y := ⟨e1, e2, e3, e4, a, b, q3, q4, f1, f2, q5⟩
                  rw [if_pos f2, bnd_some, grd_t b01_1]
                  exact okP_some ⟨c1, (bI_t hyes).symm, fun _ => ⟨a, b, q1, q2, q3, q4, q5⟩⟩
                · have hno : ¬ BrC n f x y := fun ⟨_, _, _, _, a', b', w1, w2, w3, w4, w5⟩ => by
                    obtain ⟨-, rfl⟩ := hab a' b' w1 w2 w5
                    exact f2 w4
                  rw [if_neg f2, bnd_some, grd_t b01_0]
                  exact okP_some ⟨c1, (bI_f hno).symm, fun h => absurd h hno⟩
              · have hno : ¬ BrC n f x y := fun ⟨_, _, _, _, a', b', w1, w2, w3, w4, w5⟩ => by
                  obtain ⟨rfl, -⟩ := hab a' b' w1 w2 w5
                  exact f1 w3
                rw [if_neg f1, bnd_some, grd_t b01_0]
                exact okP_some ⟨c1, (bI_f hno).symm, fun h => absurd h hno⟩
            · have hno : ¬ BrC n f x y := fun h => by have := two h; omega
              rw [if_neg (by omega), bnd_some, grd_t b01_0]
              exact okP_some ⟨c1, (bI_f hno).symm, fun h => absurd h hno⟩
      · rw [if_neg e3]
        exact no fun q => e3 q.2.2.1
/-- the far cells are those that form a bridge -/
theorem BrC_far {n k i : Nat} {f : Nat → Int} (hk : k < n * n) (hi : i < n * n) (hki : k < i) (hf : f k ≠ -1) : BrC n f k i ↔ ∃ j, j < 3 ∧ far n k j = (i : Int) ∧ cellC n f k j := by
  constructor
  · rintro ⟨-, -, e3, e4, a, b, h1, h2, h3, h4, h5⟩
    have ha := (h5 a (by omega)).mpr (Or.inl rfl)
    have hb := (h5 b h2).mpr (Or.inr rfl)
    obtain ⟨j, hj, e⟩ := far_of hk hi hki e4 (by omega) h2 (by omega) ha.1 ha.2 hb.1 hb.2
    obtain ⟨-, -, -, l, g, l1, l2, l3, l4, l5⟩ := far_ok hk hj e
    have el := (h5 l (by omega)).mp ((l5 l (by omega)).mpr (Or.inl rfl))
    have eg := (h5 g l4).mp ((l5 g l4).mpr (Or.inr rfl))
    obtain ⟨rfl, rfl⟩ : l = a ∧ g = b := by omega
    exact ⟨j, hj, e, by rw [e]; omega, by rw [e]; exact e3.symm, by rw [l1]; exact h3, by rw [l2]; exact h4⟩
  · rintro ⟨j, hj, e, -, c2, c3, c4⟩
    obtain ⟨-, -, hA, l, g, l1, l2, l3, l4, l5⟩ := far_ok hk hj e
    rw [e] at c2
    rw [l1] at c3
    rw [l2] at c4
    exact ⟨by omega, hf, c2.symm, hA, l, g, l3, l4, c3, c4, l5⟩
theorem Mo_joinsEdge_ok {s : Sg} {n k e : Nat} {f : Nat → Int} {sd : Int} (hM : MB s n f) (hfr : FR n f) (hk : k < n * n) (he : e < 2) (fk : f k = sd) (hsd : sd = 0 ∨ sd = 1) :
    okP (Mo_joinsEdge (k : Int) (e : Int) s) (fun o => Ch [8025, 8026, 8027] s o.2 ∧ o.1 = bI (edgC n f sd k e) ∧ (edgC n f sd k e → gi o.2 80 26 = (ebr n sd e k).1 ∧ gi o.2 80 27 = (ebr n sd e k).2)) := by
  have h81 := nn_le hM.1.2.1
  have hn := hM.1.1
  unfold Mo_joinsEdge
  rw [hM.st hk, bnd_some, fk, ifEq_eq _ _ (by unfold R; omega) R_n1, if_neg (by omega), Mo_edges_eq hM.1 hk hsd, bnd_some, ifEq_eq _ _ (R_iand _ _) R1]
  by_cases h0 : edg n sd k = (e : Int) + 1
  · have hno : ¬ edgC n f sd k e := fun q => q.1 h0
    rw [if_pos ((ebit2 (edg_rg n sd k) he).mpr h0)]
    exact okP_some ⟨Ch.rf _ _, (bI_f hno).symm, fun q => absurd q hno⟩
  · rw [if_neg (fun q => h0 ((ebit2 (edg_rg n sd k) he).mp q)), lett_eq]
    have htwo := ebr_two (sd := sd) hn hk he h0
    have hle2 := edge_two (sd := sd) hn hk he h0
    unfold Mo_joinsEdge_l35
    -- how many, the first, the last: as the pair that goes along
    let P : Nat → Prop := fun j => rnd n k j ≠ -1 ∧ edg n sd (rnd n k j).toNat = (e : Int) + 1
    refine okP_bnd (P := fun t => Ch [8025, 8026, 8027] s t ∧ gi t 80 25 = (cnt P 6 : Int) ∧ (1 ≤ cnt P 6 → gi t 80 26 = (ebr n sd e k).1) ∧ (2 ≤ cnt P 6 → gi t 80 27 = (ebr n sd e k).2)) (whl_for (fun (j : Nat) (t : Sg) => ((j : Int), t)) 6 (fun j t => Ch [8025, 8026, 8027] s t ∧ gi t 80 25 = (cnt P j : Int) ∧ (1 ≤ cnt P j → gi t 80 26 = (fo (eF n sd e) (rnd n k) (-1, -1) j).1) ∧ (2 ≤ cnt P j → gi t 80 27 = (fo (eF n sd e) (rnd n k) (-1, -1) j).2)) (t0 := si s 80 25 0) (Nat.zero_le 6) ⟨Ch.s8 (by decide), gi_si_s _ _ _ _, fun h => absurd h (Nat.not_succ_le_zero 0), fun h => absurd h (Nat.not_succ_le_zero 1)⟩ ?_ ?_) ?_
    · rintro j t hj ⟨c1, c2, c3, c4⟩
      have hMt : MB t n f := hM.ch c1
      have hinv := ebr_inv (n := n) (c := k) (e := e) (sd := sd) hk j (by omega)
      show okP (Mo_joinsEdge_t35 (k : Int) (e : Int) sd (j : Int) t) _
      unfold Mo_joinsEdge_t35 Mo_joinsEdge_b78
      rw [ifLt_eq _ _ (R_nat (by omega)) R6, if_pos (by omega), Mo_round_eq hMt.1 hk hj, bnd_some]
      have keep : ¬ P j → okP (some (.inl ((j : Int) + 1, t)) : Option ((Int × Sg) ⊕ Sg)) (fun o => (∃ t', o = .inl (((j + 1 : Nat) : Int), t') ∧ Ch [8025, 8026, 8027] s t' ∧ gi t' 80 25 = (cnt P (j + 1) : Int) ∧ (1 ≤ cnt P (j + 1) → gi t' 80 26 = (fo (eF n sd e) (rnd n k) (-1, -1) (j + 1)).1) ∧ (2 ≤ cnt P (j + 1) → gi t' 80 27 = (fo (eF n sd e) (rnd n k) (-1, -1) (j + 1)).2)) ∨ ∃ r, o = .inr r ∧ Ch [8025, 8026, 8027] s r ∧ gi r 80 25 = (cnt P 6 : Int) ∧ (1 ≤ cnt P 6 → gi r 80 26 = (ebr n sd e k).1) ∧ (2 ≤ cnt P 6 → gi r 80 27 = (ebr n sd e k).2)) := by
        intro hno
        have hs : fo (eF n sd e) (rnd n k) (-1, -1) (j + 1) = fo (eF n sd e) (rnd n k) (-1, -1) j := if_neg hno
        refine okP_some (Or.inl ⟨t, rfl, c1, ?_, ?_, ?_⟩)
        · rw [cnt_f hno]; exact c2
        · rw [cnt_f hno, hs]; exact c3
        · rw [cnt_f hno, hs]; exact c4
      rcases rnd_rg n k j with w | ⟨y, w, hy⟩
      · rw [w, ifEq_eq _ _ R_n1 R_n1, if_pos rfl]
        exact keep fun q => q.1 w
      · rw [w, ifEq_eq _ _ (R_nat (by omega)) R_n1, if_neg (by omega), Mo_edges_eq hMt.1 hy hsd, bnd_some, ifEq_eq _ _ (R_iand _ _) R1]
        by_cases h1 : edg n sd y = (e : Int) + 1
        · have hP : P j := ⟨by rw [w]; omega, by rw [w]; exact h1⟩
          have hs : ∀ q, fo (eF n sd e) (rnd n k) (-1, -1) j = q → fo (eF n sd e) (rnd n k) (-1, -1) (j + 1) = (if q.1 = -1 then (y : Int) else q.1, (y : Int)) := by
            intro q hq
            show eF n sd e (fo (eF n sd e) (rnd n k) (-1, -1) j) (rnd n k j) = _
            rw [hq, w]
            exact if_pos ⟨by omega, h1⟩
          have hup := cnt_upto (p := P) (N := 6) (M := j + 1) (by omega)
          have hle2' : cnt P 6 ≤ 2 := hle2
          have hct : cnt P (j + 1) = cnt P j + 1 := cnt_t hP
          rw [if_pos ((ebit2 (edg_rg n sd y) he).mpr h1)]
          unfold Mo_shares Mo_shares_b20
          rw [c2, ifEq_eq _ _ (R_nat (by omega)) R0]
          by_cases hz : cnt P j = 0
          · rw [if_pos (by omega), lett_eq, lett_eq, bnd_some]
            rcases hinv with ⟨-, q⟩ | ⟨q, -⟩ | ⟨q, -⟩
            · refine okP_some (Or.inl ⟨_, rfl, c1.tr ((Ch.s8 (by decide)).tr (Ch.s8 (by decide))), ?_, fun _ => ?_, fun h => by omega⟩)
              · rw [gi_si_s, gi_si_k _ _ _ (by omega), c2, hct]; rfl
              · rw [gi_si_k _ _ _ (by omega), gi_si_s, hs _ q]; rfl
            · have q : cnt P j = 1 := q
              omega
            · have q : 2 ≤ cnt P j := q
              omega
          · rw [if_neg (by omega), lett_eq, lett_eq, bnd_some]
            rcases hinv with ⟨q, -⟩ | ⟨q, z, hz2, -, q2⟩ | ⟨q, -⟩
            · have q : cnt P j = 0 := q
              omega
            · refine okP_some (Or.inl ⟨_, rfl, c1.tr ((Ch.s8 (by decide)).tr (Ch.s8 (by decide))), ?_, fun _ => ?_, fun _ => ?_⟩)
              · rw [gi_si_s, gi_si_k _ _ _ (by omega), c2, hct]; rfl
              · have hc3 := c3 (by omega)
                rw [q2] at hc3
                rw [gi_si_k _ _ _ (by omega), gi_si_k _ _ _ (by omega), hs _ q2, hc3]
                show (z : Int) = if (z : Int) = -1 then (y : Int) else (z : Int)
                rw [if_neg (by omega)]
              · rw [gi_si_k _ _ _ (by omega), gi_si_s, hs _ q2]
            · have q : 2 ≤ cnt P j := q
              omega
        · rw [if_neg (fun q => h1 ((ebit2 (edg_rg n sd y) he).mp q))]
          exact keep fun q => h1 (by have := q.2; rw [w] at this; exact this)
    · rintro t ⟨c1, c2, c3, c4⟩
      show okP (Mo_joinsEdge_t35 (k : Int) (e : Int) sd ((6 : Nat) : Int) t) _
      unfold Mo_joinsEdge_t35
      rw [ifLt_eq _ _ (R_nat (by omega)) R6, if_neg (by omega)]
      exact okP_some ⟨t, rfl, c1, c2, c3, c4⟩
    · rintro t - ⟨c1, c2, c3, c4⟩
      have hMt : MB t n f := hM.ch c1
      have hle := cnt_le P 6
      unfold Mo_areCarriers
      rw [c2, ifEq_eq _ _ (R_nat (by omega)) R2]
      by_cases h2 : cnt P 6 = 2
      · have hne := htwo.1.mpr h2
        obtain ⟨l, g, h3, h4, e1, e2⟩ := htwo.2 hne
        rw [if_pos (by omega), c3 (by omega), c4 (by omega), e1, e2, hMt.st (by omega), bnd_some, ifEq_eq _ _ (hfr.r (show l < n * n by omega)) R_n1]
        by_cases f1 : f l = -1
        · rw [if_pos f1, hMt.st h4, bnd_some, ifEq_eq _ _ (hfr.r h4) R_n1]
          by_cases f2 : f g = -1
          · have hyes : edgC n f sd k e := ⟨h0, hne, by rw [e1]; exact f1, by rw [e2]; exact f2⟩
            rw [if_pos f2, bnd_some, grd_t b01_1]
            exact okP_some ⟨c1, (bI_t hyes).symm, fun _ => ⟨by rw [c3 (by omega), e1], by rw [c4 (by omega), e2]⟩⟩
          · have hno : ¬ edgC n f sd k e := fun q => f2 (by have := q.2.2.2; rw [e2] at this; exact this)
            rw [if_neg f2, bnd_some, grd_t b01_0]
            exact okP_some ⟨c1, (bI_f hno).symm, fun q => absurd q hno⟩
        · have hno : ¬ edgC n f sd k e := fun q => f1 (by have := q.2.2.1; rw [e1] at this; exact this)
          rw [if_neg f1, bnd_some, grd_t b01_0]
          exact okP_some ⟨c1, (bI_f hno).symm, fun q => absurd q hno⟩
      · have hno : ¬ edgC n f sd k e := fun q => h2 (htwo.1.mp q.2.1)
        rw [if_neg (by omega), bnd_some, grd_t b01_0]
        exact okP_some ⟨c1, (bI_f hno).symm, fun q => absurd q hno⟩
theorem Mo_laysBridge_ok {s : Sg} {st : BL} {k o : Int} {l g : Nat} (hB : MoB s st) (h26 : gi s 80 26 = (l : Int)) (h27 : gi s 80 27 = (g : Int)) (hlg : l < g) (hg : g < 81) (hm : st.1 < 405) (hT : ∀ x, st.2.2 x = 0 ∨ st.2.2 x = 1) :
    okP (Mo_laysBridge k o s) (fun t => Ch MBs s t ∧ MoB t (addB k o (l : Int) (g : Int) st)) := by
  obtain ⟨h1, h2, h3⟩ := hB
  have hTR : ∀ x, R (st.2.2 x) := fun x => by rcases hT x with h | h <;> rw [h] <;> unfold R <;> omega
  have b0 : 0 ≤ (st.1 : Int) ∧ (st.1 : Int) < 405 := by omega
  have rl : R (l : Int) := R_nat (by omega)
  have rg : R (g : Int) := R_nat (by omega)
  have bl : 0 ≤ (l : Int) ∧ (l : Int) < 81 := by omega
  have bg : 0 ≤ (g : Int) ∧ (g : Int) < 81 := by omega
  have mn : min (l : Int) (g : Int) = (l : Int) := by omega
  have mx : max (l : Int) (g : Int) = (g : Int) := by omega
  unfold Mo_laysBridge
  -- the four rows
  rw [h1, grd_t b0, lett_eq]
  have a24 : ∀ (t : Sg) (b j : Nat) (v : Int), b ≠ 80 → ∀ k', gi (si t b j v) 80 k' = gi t 80 k' := fun t b j v hb k' => gi_si_o t _ _ _ (fun q => hb q.symm)
  rw [a24 _ _ _ _ (by omega), h1, grd_t b0, lett_eq, a24 _ _ _ _ (by omega), a24 _ _ _ _ (by omega), a24 _ _ _ _ (by omega), a24 _ _ _ _ (by omega), a24 _ _ _ _ (by omega), a24 _ _ _ _ (by omega), h1, h26, h27, grd_t ⟨rl, rg⟩, grd_t b0, lett_eq, mn]
  generalize hu1 : si (si (si s 88 (st.1 : Int).toNat k) 89 (st.1 : Int).toNat o) 90 (st.1 : Int).toNat (l : Int) = u1
  have v1 : ∀ k', gi u1 80 k' = gi s 80 k' := fun k' => by rw [← hu1, a24 _ _ _ _ (by omega), a24 _ _ _ _ (by omega), a24 _ _ _ _ (by omega)]
  rw [v1, v1, v1, h1, h26, h27, grd_t ⟨rl, rg⟩, grd_t b0, lett_eq, mx]
  generalize hu2 : si u1 91 (st.1 : Int).toNat (g : Int) = u2
  have v2 : ∀ k', gi u2 80 k' = gi s 80 k' := fun k' => by rw [← hu2, a24 _ _ _ _ (by omega), v1]
  have w93 : ∀ x, gi u2 93 x = gi s 93 x := fun x => by rw [← hu2, ← hu1, gi_si_o _ _ _ _ (by omega), gi_si_o _ _ _ _ (by omega), gi_si_o _ _ _ _ (by omega), gi_si_o _ _ _ _ (by omega)]
  have hC2 : Ch MBs s u2 := by
    rw [← hu2, ← hu1]
    exact (Ch.si (by decide)).tr ((Ch.si (by decide)).tr ((Ch.si (by decide)).tr (Ch.si (by decide))))
  rw [v2, v2, h26, h27, grd_t bl]
  show okP (ifEq (gi u2 93 l) 0 _ _) _
  rw [w93, h3 l (by omega), ifEq_eq _ _ (hTR l) R0]
  -- behind: whether it counts
  have fin : ∀ c : Int, ((c = 1 ∧ (st.2.2 l = 0 ∧ st.2.2 g = 0)) ∨ (c = 0 ∧ ¬ (st.2.2 l = 0 ∧ st.2.2 g = 0))) → okP (Mo_laysBridge_b89 c u2) (fun t => Ch MBs s t ∧ MoB t (addB k o (l : Int) (g : Int) st)) := by
    intro c hc
    have hb : b01 c := hc.elim (fun h => Or.inr h.1) (fun h => Or.inl h.1)
    have hcR : R c := by rcases hb with e | e <;> rw [e] <;> unfold R <;> omega
    have hcv : (if st.2.2 (l : Int).toNat = 0 ∧ st.2.2 (g : Int).toNat = 0 then (1 : Int) else 0) = c := by
      show (if st.2.2 l = 0 ∧ st.2.2 g = 0 then (1 : Int) else 0) = c
      rcases hc with ⟨e, q⟩ | ⟨e, q⟩
      · rw [if_pos q, e]
      · rw [if_neg q, e]
    unfold Mo_laysBridge_b89
    rw [grd_t hb, v2, h1, grd_t b0, lett_eq]
    generalize hu3 : si u2 92 (st.1 : Int).toNat c = u3
    have v3 : ∀ k', gi u3 80 k' = gi s 80 k' := fun k' => by rw [← hu3, a24 _ _ _ _ (by omega), v2]
    have x93 : ∀ x, gi u3 93 x = gi s 93 x := fun x => by rw [← hu3, gi_si_o _ _ _ _ (by omega), w93]
    have hC3 : Ch MBs s u3 := by rw [← hu3]; exact hC2.tr (Ch.si (by decide))
    have rows : ∀ i, gi u3 88 i = (if i = st.1 then k else gi s 88 i) ∧ gi u3 89 i = (if i = st.1 then o else gi s 89 i) ∧ gi u3 90 i = (if i = st.1 then (l : Int) else gi s 90 i) ∧ gi u3 91 i = (if i = st.1 then (g : Int) else gi s 91 i) ∧ gi u3 92 i = (if i = st.1 then c else gi s 92 i) := by
      intro i
      rw [← hu3, ← hu2, ← hu1]
      refine ⟨?_, ?_, ?_, ?_, ?_⟩
      · rw [gi_si_o _ _ _ _ (by omega), gi_si_o _ _ _ _ (by omega), gi_si_o _ _ _ _ (by omega), gi_si_o _ _ _ _ (by omega), gi_si_r]; rfl
      · rw [gi_si_o _ _ _ _ (by omega), gi_si_o _ _ _ _ (by omega), gi_si_o _ _ _ _ (by omega), gi_si_r, gi_si_o _ _ _ _ (by omega)]; rfl
      · rw [gi_si_o _ _ _ _ (by omega), gi_si_o _ _ _ _ (by omega), gi_si_r, gi_si_o _ _ _ _ (by omega), gi_si_o _ _ _ _ (by omega)]; rfl
      · rw [gi_si_o _ _ _ _ (by omega), gi_si_r, gi_si_o _ _ _ _ (by omega), gi_si_o _ _ _ _ (by omega), gi_si_o _ _ _ _ (by omega)]; rfl
      · rw [gi_si_r, gi_si_o _ _ _ _ (by omega), gi_si_o _ _ _ _ (by omega), gi_si_o _ _ _ _ (by omega), gi_si_o _ _ _ _ (by omega)]; rfl
    have hall : ∀ (t : Sg), Ch [8024, 93] u3 t → gi t 80 24 = ((st.1 + 1 : Nat) : Int) → (∀ x, x < 81 → gi t 93 x = if (st.2.2 l = 0 ∧ st.2.2 g = 0) ∧ (x = l ∨ x = g) then 1 else st.2.2 x) → Ch MBs s t ∧ MoB t (addB k o (l : Int) (g : Int) st) := by
      intro t ht h24 h93
      refine ⟨hC3.tr (ht.mo (by decide)), h24, fun i hi => ?_, h93⟩
      rw [ht.g 88, ht.g 89, ht.g 90, ht.g 91, ht.g 92, (rows i).1, (rows i).2.1, (rows i).2.2.1, (rows i).2.2.2.1, (rows i).2.2.2.2]
      by_cases e : i = st.1
      · have e1 : (addB k o (l : Int) (g : Int) st).2.1 i = (k, o, (l : Int), (g : Int), if st.2.2 (l : Int).toNat = 0 ∧ st.2.2 (g : Int).toNat = 0 then 1 else 0) := if_pos e
        rw [e1, if_pos e, if_pos e, if_pos e, if_pos e, if_pos e]
        exact ⟨rfl, rfl, rfl, rfl, hcv.symm⟩
      · have e1 : (addB k o (l : Int) (g : Int) st).2.1 i = st.2.1 i := if_neg e
        rw [e1, if_neg e, if_neg e, if_neg e, if_neg e, if_neg e]
        have : i < st.1 := by
          have : i < st.1 + 1 := hi
          omega
        exact h2 i this
    -- the two marks
    have last : ∀ (w t2 : Int) (u4 : Sg), b01 t2 → Ch [8024, 93] u3 u4 → gi u4 80 24 = (st.1 : Int) → (∀ x, x < 81 → gi (si u4 93 g t2) 93 x = if (st.2.2 l = 0 ∧ st.2.2 g = 0) ∧ (x = l ∨ x = g) then 1 else st.2.2 x) → okP (Mo_laysBridge_b159 (g : Int) t2 u4) (fun t => Ch MBs s t ∧ MoB t (addB k o (l : Int) (g : Int) st)) := by
      intro w t2 u4 hb2 hc4 h24 h93
      unfold Mo_laysBridge_b159
      rw [grd_t hb2, grd_t bg, lett_eq, lett_eq]
      refine okP_some (hall _ (hc4.tr ((Ch.si (by decide)).tr (Ch.s8 (by decide)))) ?_ fun x hx => ?_)
      · rw [gi_si_s, a24 _ _ _ _ (by omega), h24]; rfl
      · rw [gi_si_o _ _ _ _ (by omega)]
        exact h93 x hx
    rw [v3, h26, grd_t bl]
    show okP (ifEq (gi u3 93 l) 0 _ _) _
    rw [x93, h3 l (by omega), ifEq_eq _ _ (hTR l) R0]
    unfold Mo_laysBridge_b124
    have mid : ∀ t2 : Int, b01 t2 → ((t2 = 1 ∧ (st.2.2 l = 1 ∨ (st.2.2 l = 0 ∧ st.2.2 g = 0))) ∨ (t2 = 0 ∧ st.2.2 l = 0 ∧ st.2.2 g ≠ 0)) → okP (Mo_laysBridge_b129 c (l : Int) t2 u3) (fun t => Ch MBs s t ∧ MoB t (addB k o (l : Int) (g : Int) st)) := by
      intro t2 hb2 ht2
      unfold Mo_laysBridge_b129 Mo_laysBridge_b154
      rw [grd_t hb2, grd_t bl, lett_eq, a24 _ _ _ _ (by omega), v3, h27, grd_t bg]
      have hg4 : gi (si u3 93 (l : Int).toNat t2) 93 (g : Int).toNat = st.2.2 g := by
        show gi (si u3 93 l t2) 93 g = _
        rw [gi_si_k _ _ _ (by omega), x93, h3 g hg]
      have hc4 : Ch [8024, 93] u3 (si u3 93 (l : Int).toNat t2) := Ch.si (by decide)
      have h24 : gi (si u3 93 (l : Int).toNat t2) 80 24 = (st.1 : Int) := by rw [a24 _ _ _ _ (by omega), v3, h1]
      have at93 : ∀ (t3 : Int) (x : Nat), gi (si (si u3 93 (l : Int).toNat t2) 93 g t3) 93 x = if x = g then t3 else if x = l then t2 else gi s 93 x := fun t3 x => by
        show gi (si (si u3 93 l t2) 93 g t3) 93 x = _
        rw [gi_si_r, gi_si_r, x93]
      rw [hg4, ifEq_eq _ _ (hTR g) R0, ifEq_eq _ _ hcR R0]
      by_cases g0 : st.2.2 g = 0
      · rw [if_pos g0]
        by_cases c0 : c = 0
        · rw [if_pos c0]
          refine last 0 0 _ (Or.inl rfl) hc4 h24 fun x hx => ?_
          have hnot : ¬ (st.2.2 l = 0 ∧ st.2.2 g = 0) := by
            rcases hc with ⟨e, -⟩ | ⟨-, q⟩
            · omega
            · exact q
          rw [at93, show (if (st.2.2 l = 0 ∧ st.2.2 g = 0) ∧ (x = l ∨ x = g) then (1 : Int) else st.2.2 x) = st.2.2 x from if_neg (fun h => hnot h.1), h3 x hx]
          by_cases e1 : x = g
          · rw [if_pos e1, e1, g0]
          · rw [if_neg e1]
            by_cases e2 : x = l
            · rw [if_pos e2, e2]
              rcases ht2 with ⟨e, q | q⟩ | ⟨-, -, q⟩
              · rw [e, q]
              · exact absurd q hnot
              · exact absurd g0 q
            · rw [if_neg e2]
        · rw [if_neg c0]
          refine last 0 1 _ (Or.inr rfl) hc4 h24 fun x hx => ?_
          have hyes : st.2.2 l = 0 ∧ st.2.2 g = 0 := by
            rcases hc with ⟨-, q⟩ | ⟨e, -⟩
            · exact q
            · exact absurd e c0
          rw [at93, h3 x hx]
          by_cases e1 : x = g
          · rw [if_pos e1, if_pos ⟨hyes, Or.inr e1⟩]
          · rw [if_neg e1]
            by_cases e2 : x = l
            · rw [if_pos e2, if_pos ⟨hyes, Or.inl e2⟩]
              rcases ht2 with ⟨e, -⟩ | ⟨-, -, q⟩
              · exact e
              · exact absurd g0 q
            · rw [if_neg e2, if_neg (fun h => h.2.elim e2 e1)]
      · rw [if_neg g0]
        refine last 0 1 _ (Or.inr rfl) hc4 h24 fun x hx => ?_
        have g1 : st.2.2 g = 1 := (hT g).resolve_left g0
        have hnot : ¬ (st.2.2 l = 0 ∧ st.2.2 g = 0) := fun h => g0 h.2
        rw [at93, show (if (st.2.2 l = 0 ∧ st.2.2 g = 0) ∧ (x = l ∨ x = g) then (1 : Int) else st.2.2 x) = st.2.2 x from if_neg (fun h => hnot h.1), h3 x hx]
        by_cases e1 : x = g
        · rw [if_pos e1, e1, g1]
        · rw [if_neg e1]
          by_cases e2 : x = l
          · rw [if_pos e2, e2]
            rcases ht2 with ⟨e, q | q⟩ | ⟨e, q, -⟩
            · rw [e, q]
            · exact absurd q.2 g0
            · rw [e, q]
          · rw [if_neg e2]
    by_cases l0 : st.2.2 l = 0
    · rw [if_pos l0, ifEq_eq _ _ hcR R0]
      rcases hc with ⟨rfl, q⟩ | ⟨rfl, q⟩
      · rw [if_neg (by omega)]
        exact mid 1 (Or.inr rfl) (Or.inl ⟨rfl, Or.inr q⟩)
      · rw [if_pos rfl]
        exact mid 0 (Or.inl rfl) (Or.inr ⟨rfl, l0, fun h => q ⟨l0, h⟩⟩)
    · rw [if_neg l0]
      exact mid 1 (Or.inr rfl) (Or.inl ⟨rfl, Or.inl ((hT l).resolve_left l0)⟩)
  by_cases l0 : st.2.2 l = 0
  · rw [if_pos l0, grd_t bg]
    show okP (ifEq (gi u2 93 g) 0 _ _) _
    rw [w93, h3 g hg, ifEq_eq _ _ (hTR g) R0]
    by_cases g0 : st.2.2 g = 0
    · rw [if_pos g0]
      exact fin 1 (Or.inl ⟨rfl, l0, g0⟩)
    · rw [if_neg g0]
      exact fin 0 (Or.inr ⟨rfl, fun h => g0 h.2⟩)
  · rw [if_neg l0]
    exact fin 0 (Or.inr ⟨rfl, fun h => l0 h.1⟩)
/-! the cells behind k: bridges come in the order of the far cells -/
noncomputable def stg (n : Nat) (f : Nat → Int) (k : Nat) (st : BL) : Nat → BL
  | 0 => st
  | a + 1 => stepJ n f k (stg n f k st a) a
def SgOk (n k i a : Nat) : Prop := a ≤ 3 ∧ (∀ j, j < a → ∀ y : Nat, far n k j = (y : Int) → y < i) ∧ ∀ j, a ≤ j → j < 3 → ∀ y : Nat, far n k j = (y : Int) → i ≤ y
theorem stg_skip {n k : Nat} {f : Nat → Int} {st : BL} {a : Nat} : ∀ {b : Nat}, a ≤ b → (∀ j, a ≤ j → j < b → far n k j = -1) → stg n f k st b = stg n f k st a
  | 0, h, _ => by
    have : a = 0 := by omega
    subst this; rfl
  | b + 1, h, hs => by
    by_cases e : a = b + 1
    · subst e; rfl
    · have ih := stg_skip (f := f) (st := st) (b := b) (by omega) (fun j h1 h2 => hs j h1 (by omega))
      show stepJ n f k (stg n f k st b) b = _
      unfold stepJ
      rw [if_neg (fun q => q.1 (hs b (by omega) (by omega)))]
      exact ih
theorem SgOk.no {n k i a : Nat} (h : SgOk n k i a) (hno : ∀ j, j < 3 → far n k j ≠ (i : Int)) : SgOk n k (i + 1) a := by
  refine ⟨h.1, fun j hj y e => by have := h.2.1 j hj y e; omega, fun j h1 h2 y e => ?_⟩
  have h3 := h.2.2 j h1 h2 y e
  have h4 := hno j h2
  by_cases e9 : y = i
  · subst e9; exact absurd e h4
  · omega
theorem SgOk.at {n k i a j : Nat} {f : Nat → Int} {st : BL} (h : SgOk n k i a) (hj : j < 3) (e : far n k j = (i : Int)) : stg n f k st j = stg n f k st a ∧ SgOk n k (i + 1) (j + 1) := by
  have haj : a ≤ j := by
    by_cases q : a ≤ j
    · exact q
    · have := h.2.1 j (by omega) i e
      omega
  refine ⟨stg_skip haj fun j' h1 h2 => ?_, by omega, fun j' h1 y e' => ?_, fun j' h1 h2 y e' => ?_⟩
  · rcases far_rg n k j' with q | ⟨y, q, -⟩
    · exact q
    · have h3 := h.2.2 j' h1 (by omega) y q
      have h4 := far_mono q e h2 hj
      omega
  · by_cases q : j' = j
    · subst q
      rw [e] at e'
      omega
    · have := far_mono e' e (by omega) hj
      omega
  · have := far_mono e e' (by omega) h2
    omega
theorem laysBridges_ok {s : Sg} {n : Nat} {f : Nat → Int} {sd : Int} (hM : MB s n f) (hfr : FR n f) (hsd : sd = 0 ∨ sd = 1) :
    okP (Mo_laysBridges sd s) (fun t => Ch MBs s t ∧ MoB t (brl n f sd (n * n))) := by
  have h81 := nn_le hM.1.2.1
  have hn := hM.1.1
  have hsR : R sd := by unfold R; omega
  have hs1 : sd ≠ -1 := by omega
  unfold Mo_laysBridges
  rw [lett_eq]
  unfold Mo_laysBridges_l7
  refine okP_bnd (P := fun t => Ch MBs s t ∧ gi t 80 24 = 0 ∧ ∀ c, c < 81 → gi t 93 c = 0) (whl_for (fun (i : Nat) (t : Sg) => ((i : Int), t)) 81 (fun i t => Ch MBs s t ∧ gi t 80 24 = 0 ∧ ∀ c, c < i → gi t 93 c = 0) (t0 := si s 80 24 0) (Nat.zero_le 81) ⟨Ch.s8 (by decide), gi_si_s _ _ _ _, fun c hc => absurd hc (Nat.not_lt_zero c)⟩ ?_ ?_) ?_
  · rintro i t hi ⟨k1, k2, k3⟩
    show okP (Mo_laysBridges_t7 sd (i : Int) t) _
    unfold Mo_laysBridges_t7
    rw [ifLt_eq _ _ (R_nat (by omega)) R81, if_pos (by omega), grd_t (by omega), lett_eq]
    refine okP_some (Or.inl ⟨_, rfl, k1.tr (Ch.si (by decide)), by rw [gi_si_o _ _ _ _ (by omega)]; exact k2, fun c hc => ?_⟩)
    show gi (si t 93 i 0) 93 c = 0
    rw [gi_si_r]
    by_cases e : c = i
    · rw [if_pos e]
    · rw [if_neg e]; exact k3 c (by omega)
  · rintro t ⟨k1, k2, k3⟩
    show okP (Mo_laysBridges_t7 sd ((81 : Nat) : Int) t) _
    unfold Mo_laysBridges_t7
    rw [ifLt_eq _ _ (R_nat (by omega)) R81, if_neg (by omega)]
    exact okP_some ⟨_, rfl, k1, k2, k3⟩
  · rintro t - ⟨k1, k2, k3⟩
    unfold Mo_laysBridges_l28
    refine okP_bnd (P := fun t => Ch MBs s t ∧ MoB t (brl n f sd (n * n))) (whl_for (fun (i : Nat) (t : Sg) => ((i : Int), t)) (n * n) (fun i t => Ch MBs s t ∧ MoB t (brl n f sd i)) (t0 := t) (Nat.zero_le _) ⟨k1, k2, fun i hi => absurd hi (Nat.not_lt_zero i), k3⟩ ?_ ?_) (fun v _ hv => okP_some hv)
    · rintro k t hk ⟨c1, c2⟩
      have hMt : MB t n f := hM.ch c1
      have hw := brl_w (n := n) (f := f) (sd := sd) hn k (by omega)
      show okP (Mo_laysBridges_t28 sd (k : Int) t) _
      unfold Mo_laysBridges_t28 Mo_laysBridges_b112
      rw [Mo_cells_eq hMt.1, bnd_some, ifLt_eq _ _ (R_nat (by omega)) (R_nat (by omega)), if_pos (by omega), hMt.st hk, bnd_some, ifEq_eq _ _ (hfr.r hk) hsR]
      by_cases e : f k = sd
      · rw [if_pos e, lett_eq]
        unfold Mo_laysBridges_l52
        have h0 := stepJ_w (j := 0) hk (by omega) e hw.1
        have h1 := stepJ_w (j := 1) hk (by omega) e h0.1
        have h2 := stepJ_w (j := 2) hk (by omega) e h1.1
        have h3 := stepE_w (e := 0) hn hk (by omega) e h2.1
        have hbr : brl n f sd (k + 1) = stepE n f sd k (stepE n f sd k (stg n f k (brl n f sd k) 3) 0) 1 := if_pos e
        have hstw : ∀ a, a < 3 → (stg n f k (brl n f sd k) a).1 < 405 ∧ ∀ x, (stg n f k (brl n f sd k) a).2.2 x = 0 ∨ (stg n f k (brl n f sd k) a).2.2 x = 1 := by
          intro a ha
          obtain rfl | rfl | rfl : a = 0 ∨ a = 1 ∨ a = 2 := by omega
          · exact ⟨by show (brl n f sd k).1 < 405; omega, hw.1.2⟩
          · exact ⟨by show (stepJ n f k (brl n f sd k) 0).1 < 405; omega, h0.1.2⟩
          · exact ⟨by show (stepJ n f k (stepJ n f k (brl n f sd k) 0) 1).1 < 405; omega, h1.1.2⟩
        rw [hbr]
        refine okP_bnd (P := fun u => Ch MBs s u ∧ MoB u (stg n f k (brl n f sd k) 3)) (whl_for (fun (i : Nat) (u : Sg) => ((i : Int), u)) (n * n) (fun i u => Ch MBs s u ∧ k < i ∧ ∃ a, SgOk n k i a ∧ MoB u (stg n f k (brl n f sd k) a)) (i0 := k + 1) (t0 := t) (by omega) ⟨c1, by omega, 0, ⟨by omega, fun j hj => absurd hj (Nat.not_lt_zero j), fun j _ hj y hy => by have := (far_ok hk hj hy).1; omega⟩, c2⟩ ?_ ?_) ?_
        · rintro i u hi ⟨d1, d0, a, d2, d3⟩
          have hMu : MB u n f := hM.ch d1
          show okP (Mo_laysBridges_t52 sd (k : Int) (i : Int) u) _
          unfold Mo_laysBridges_t52 Mo_laysBridges_b75
          rw [Mo_cells_eq hMu.1, bnd_some, ifLt_eq _ _ (R_nat (by omega)) (R_nat (by omega)), if_pos (by omega)]
          refine okP_bnd2 (Mo_joinsCells_ok hMu hfr hk hi) ?_
          rintro y v - ⟨q1, q2, q3⟩
          have q2 : y = bI (BrC n f k i) := q2
          have hv : MoB v (stg n f k (brl n f sd k) a) := d3.ch q1
          rw [q2, ifEq_eq _ _ (R_bI _) R0]
          by_cases hb : BrC n f k i
          · rw [bI_t hb, if_neg (by omega)]
            obtain ⟨j, hj, ef, hc⟩ := (BrC_far hk hi d0 (by rw [e]; exact hs1)).mp hb
            obtain ⟨x, z, x1, x2, x3, x4, x5⟩ := q3 hb
            obtain ⟨-, -, -, l, g, l1, l2, l3, l4, l5⟩ := far_ok hk hj ef
            have ex := (l5 x (by omega)).mp ((x5 x (by omega)).mpr (Or.inl rfl))
            have ez := (l5 z x4).mp ((x5 z x4).mpr (Or.inr rfl))
            obtain ⟨rfl, rfl⟩ : x = l ∧ z = g := by omega
            obtain ⟨hsk, hok⟩ := d2.at (f := f) (st := brl n f sd k) hj ef
            rw [← hsk] at hv
            have hst := hstw j hj
            refine okP_bnd (Mo_laysBridge_ok (k := (k : Int)) (o := (i : Int)) hv x1 x2 x3 (by omega) hst.1 hst.2) ?_
            rintro w - ⟨r1, r2⟩
            have hj1 : stg n f k (brl n f sd k) (j + 1) = addB (k : Int) (i : Int) (x : Int) (z : Int) (stg n f k (brl n f sd k) j) := by
              show stepJ n f k (stg n f k (brl n f sd k) j) j = _
              unfold stepJ
              rw [if_pos hc, ef, l1, l2]
            exact okP_some (Or.inl ⟨w, rfl, d1.tr ((q1.mo (by decide)).tr r1), by omega, j + 1, hok, by rw [hj1]; exact r2⟩)
          · rw [bI_f hb, if_pos rfl]
            refine okP_some (Or.inl ⟨v, rfl, d1.tr (q1.mo (by decide)), by omega, ?_⟩)
            by_cases hex : ∃ j, j < 3 ∧ far n k j = (i : Int)
            · obtain ⟨j, hj, ef⟩ := hex
              obtain ⟨hsk, hok⟩ := d2.at (f := f) (st := brl n f sd k) hj ef
              have hc : ¬ cellC n f k j := fun q => hb ((BrC_far hk hi d0 (by rw [e]; exact hs1)).mpr ⟨j, hj, ef, q⟩)
              have hj1 : stg n f k (brl n f sd k) (j + 1) = stg n f k (brl n f sd k) j := if_neg hc
              exact ⟨j + 1, hok, by rw [hj1, hsk]; exact hv⟩
            · exact ⟨a, d2.no fun j hj q => hex ⟨j, hj, q⟩, hv⟩
        · rintro u ⟨d1, d0, a, d2, d3⟩
          have hMu : MB u n f := hM.ch d1
          show okP (Mo_laysBridges_t52 sd (k : Int) ((n * n : Nat) : Int) u) _
          unfold Mo_laysBridges_t52
          rw [Mo_cells_eq hMu.1, bnd_some, ifLt_eq _ _ (R_nat (by omega)) (R_nat (by omega)), if_neg (by omega)]
          have hsk : stg n f k (brl n f sd k) 3 = stg n f k (brl n f sd k) a := stg_skip d2.1 fun j h1 h2 => by
            rcases far_rg n k j with q | ⟨y, q, hy⟩
            · exact q
            · have := d2.2.2 j h1 h2 y q
              omega
          exact okP_some ⟨u, rfl, d1, by rw [hsk]; exact d3⟩
        · rintro u - ⟨d1, d2⟩
          unfold Mo_laysBridges_l83 Mo_laysBridges_b112
          have h2' : BW n f sd (stg n f k (brl n f sd k) 3) ∧ (stg n f k (brl n f sd k) 3).1 ≤ (brl n f sd k).1 + 3 := ⟨h2.1, by show (stepJ n f k (stepJ n f k (stepJ n f k (brl n f sd k) 0) 1) 2).1 ≤ _; omega⟩
          have h3' : BW n f sd (stepE n f sd k (stg n f k (brl n f sd k) 3) 0) ∧ (stepE n f sd k (stg n f k (brl n f sd k) 3) 0).1 ≤ (stg n f k (brl n f sd k) 3).1 + 1 := stepE_w (e := 0) hn hk (by omega) e h2'.1
          refine okP_bnd (P := fun v => Ch MBs s v ∧ MoB v (stepE n f sd k (stepE n f sd k (stg n f k (brl n f sd k) 3) 0) 1)) (whl_for (fun (j : Nat) (v : Sg) => ((j : Int), v)) 2 (fun j v => Ch MBs s v ∧ ∃ st, MoB v st ∧ ((j = 0 ∧ st = stg n f k (brl n f sd k) 3) ∨ (j = 1 ∧ st = stepE n f sd k (stg n f k (brl n f sd k) 3) 0) ∨ (j = 2 ∧ st = stepE n f sd k (stepE n f sd k (stg n f k (brl n f sd k) 3) 0) 1))) (t0 := u) (Nat.zero_le 2) ⟨d1, _, d2, Or.inl ⟨rfl, rfl⟩⟩ ?_ ?_) ?_
          · rintro j v hj ⟨g1, st, g2, g3⟩
            have hMv : MB v n f := hM.ch g1
            have hst : st.1 < 405 ∧ ∀ x, st.2.2 x = 0 ∨ st.2.2 x = 1 := by
              rcases g3 with ⟨-, rfl⟩ | ⟨-, rfl⟩ | ⟨h, -⟩
              · exact ⟨by omega, h2'.1.2⟩
              · exact ⟨by omega, h3'.1.2⟩
              · omega
            show okP (Mo_laysBridges_t83 sd (k : Int) (j : Int) v) _
            unfold Mo_laysBridges_t83 Mo_laysBridges_b106
            rw [ifLt_eq _ _ (R_nat (by omega)) R2, if_pos (by omega)]
            refine okP_bnd2 (Mo_joinsEdge_ok (e := j) hMv hfr hk (by omega) e hsd) ?_
            rintro y w - ⟨q1, q2, q3⟩
            have q2 : y = bI (edgC n f sd k j) := q2
            have hw2 : MoB w st := g2.ch q1
            rw [q2, ifEq_eq _ _ (R_bI _) R0]
            have next : ∀ (z : Sg), Ch MBs s z → MoB z (stepE n f sd k st j) → (∃ t', (.inl ((j : Int) + 1, z) : (Int × Sg) ⊕ Sg) = .inl (((j + 1 : Nat) : Int), t') ∧ Ch MBs s t' ∧ ∃ st', MoB t' st' ∧ ((j + 1 = 0 ∧ st' = stg n f k (brl n f sd k) 3) ∨ (j + 1 = 1 ∧ st' = stepE n f sd k (stg n f k (brl n f sd k) 3) 0) ∨ (j + 1 = 2 ∧ st' = stepE n f sd k (stepE n f sd k (stg n f k (brl n f sd k) 3) 0) 1))) := by
              intro z z1 z2
              refine ⟨z, rfl, z1, _, z2, ?_⟩
              rcases g3 with ⟨rfl, rfl⟩ | ⟨rfl, rfl⟩ | ⟨h, -⟩
              · exact Or.inr (Or.inl ⟨rfl, rfl⟩)
              · exact Or.inr (Or.inr ⟨rfl, rfl⟩)
              · omega
            by_cases hb : edgC n f sd k j
            · rw [bI_t hb, if_neg (by omega)]
              obtain ⟨x1, x2⟩ := q3 hb
              obtain ⟨l, g, l1, l2, l3, l4⟩ := (ebr_two hn hk (by omega) hb.1).2 hb.2.1
              rw [l3] at x1
              rw [l4] at x2
              refine okP_bnd (Mo_laysBridge_ok (k := (k : Int)) (o := -10 - (j : Int)) hw2 x1 x2 l1 (by omega) hst.1 hst.2) ?_
              rintro z - ⟨r1, r2⟩
              refine okP_some (Or.inl (next z (g1.tr ((q1.mo (by decide)).tr r1)) ?_))
              unfold stepE
              rw [if_pos hb, l3, l4]
              exact r2
            · rw [bI_f hb, if_pos rfl]
              refine okP_some (Or.inl (next w (g1.tr (q1.mo (by decide))) ?_))
              unfold stepE
              rw [if_neg hb]
              exact hw2
          · rintro v ⟨g1, st, g2, g3⟩
            show okP (Mo_laysBridges_t83 sd (k : Int) ((2 : Nat) : Int) v) _
            unfold Mo_laysBridges_t83
            rw [ifLt_eq _ _ (R_nat (by omega)) R2, if_neg (by omega)]
            refine okP_some ⟨v, rfl, g1, ?_⟩
            rcases g3 with ⟨h, -⟩ | ⟨h, -⟩ | ⟨-, rfl⟩
            · omega
            · omega
            · exact g2
          · rintro v - ⟨g1, g2⟩
            exact okP_some (Or.inl ⟨v, rfl, g1, g2⟩)
      · rw [if_neg e]
        have hbr : brl n f sd (k + 1) = brl n f sd k := if_neg e
        exact okP_some (Or.inl ⟨t, rfl, c1, by rw [hbr]; exact c2⟩)
    · rintro t ⟨c1, c2⟩
      have hMt : MB t n f := hM.ch c1
      show okP (Mo_laysBridges_t28 sd ((n * n : Nat) : Int) t) _
      unfold Mo_laysBridges_t28
      rw [Mo_cells_eq hMt.1, bnd_some, ifLt_eq _ _ (R_nat (by omega)) (R_nat (by omega)), if_neg (by omega)]
      exact okP_some ⟨_, rfl, c1, c2⟩

/-! ===== the law: both answer alike, call by call (written by gen89) ===== -/
def QL (x5 : Int) (o : (Int × Sg) ⊕ Sg) : Prop := (∃ s', o = .inl (x5 + 4, s') ∧ LInv s') ∨ ∃ r, o = .inr r
section LAWP
variable {L : Nat} {x5 : Int} {s : Sg} {X : Xs} {cI cX c v : Int} {β : Type}
theorem l_fin {X' : Xs} {s2 s0 : Sg} (hX : XsOK X') (hC : CI X' s2) (hM : MI X' s2) (hs : ∀ k, gi s2 1200 k = gi s0 1200 k) (h0 : ∀ k, R (gi s0 1200 k)) : okP (some (.inl (x5 + 4, s2)) : Option ((Int × Sg) ⊕ Sg)) (QL x5) :=
  okP_some (Or.inl ⟨s2, rfl, X', hX, hC.2.1.2.1, hC, hM, fun k => by rw [hs]; exact h0 k⟩)
theorem la_okB {m : Option ((Nat ⊕ Int) × Sg)} (h : okP m (CPost cI cX c v X s)) (hv : v = 0 ∨ v = 1) : okP (hcat m cI cX fun y1 s2 => ifEq y1 0 (grd (0 ≤ (0 : Int) ∧ (0 : Int) < 1) <| lett (sl s2 100 (0 : Int).toNat 0) fun s4 => some (0, s4)) (grd (0 ≤ (0 : Int) ∧ (0 : Int) < 1) <| lett (sl s2 100 (0 : Int).toNat 1) fun s4 => some (0, s4))) (LPost c v X s) := by
  obtain ⟨⟨r, t⟩, e, h1, h2, h3⟩ := h
  rw [e]
  rcases h3 with ⟨e1, e2, e3⟩ | ⟨e1, e2, e3⟩ | ⟨e1, e2, e3⟩
  · have e2 : r = .inr v := e2
    subst e2
    show okP (ifEq v 0 _ _) _
    rcases hv with rfl | rfl
    · rw [ifEq_t R0 R0 rfl, grd_t ⟨by omega, by omega⟩, lett_eq]
      exact okP_some ⟨h1, h2.sl _ _ _, e1.symm, fun _ => ⟨by show gl (sl t 100 0 0) 100 0 = 0; rw [gl_sl, if_pos ⟨rfl, rfl⟩], e3⟩⟩
    · rw [ifEq_f R1 R0 (by omega), grd_t ⟨by omega, by omega⟩, lett_eq]
      exact okP_some ⟨h1, h2.sl _ _ _, e1.symm, fun _ => ⟨by show gl (sl t 100 0 1) 100 0 = 1; rw [gl_sl, if_pos ⟨rfl, rfl⟩], e3⟩⟩
  · have e1 : r = .inl 0 := e1
    subst e1
    show okP (if cI = 0 then none else some (cI, t)) _
    rw [if_neg e3]
    exact okP_some ⟨h1, h2, e2.symm, fun q => absurd (e2.symm.trans q) e3⟩
  · have e1 : r = .inl 1 := e1
    subst e1
    show okP (if cX = 0 then none else some (cX, t)) _
    rw [if_neg e3]
    exact okP_some ⟨h1, h2, e2.symm, fun q => absurd (e2.symm.trans q) e3⟩
theorem law_tailB {X' : Xs} {s0 s1 : Sg} {m : Option (Int × Sg)} {K : Sg → Option β} {Q : β → Prop} (hv : v = 0 ∨ v = 1) (hc : R c) (hC : CI X' s1) (hF : CF s0 s1) (hg : c = 0 → gl s1 100 0 = v ∧ R v) (hm : okP m (MPost c v X' s1)) (k : ∀ s2, CI X' s2 → MI X' s2 → (∀ j, gi s2 1200 j = gi s0 1200 j) → okP (K s2) Q) :
    okP (bnd2 m fun y36 s37 => bnd (Mo_thrown s37) fun y38 => ifEq y38 c (ifEq c 0 (grd (0 ≤ 0 ∧ 0 < 1) <| ifEq y36 0 (grd (RL64 (gl s37 100 0) ∧ RL64 0) <| ifEq (lcmpI (gl s37 100 0) 0) 0 (K s37) none) (grd (RL64 (gl s37 100 0) ∧ RL64 1) <| ifEq (lcmpI (gl s37 100 0) 1) 0 (K s37) none)) (K s37)) none) Q := by
  refine okP_bnd2 hm ?_
  rintro y t - ⟨h1, h2, h3, h4⟩
  have h1 : MF s1 t := h1
  have h2 : MI X' t := h2
  have h3 : gi t 80 0 = c := h3
  have h4 : c = 0 → y = v := h4
  unfold Mo_thrown
  rw [bnd_some, h3, ifEq_eq _ _ hc hc, if_pos rfl, ifEq_eq _ _ hc R0]
  have kk : okP (K t) Q := k t (hC.mf h1) h2 fun j => (h1.1 1200 j (by omega)).trans (hF 1200 j (by omega))
  by_cases q : c = 0
  · obtain ⟨g1, g2⟩ := hg q
    have g3 : gl t 100 0 = v := (h1.2.1 100 0 (by omega)).trans g1
    rw [if_pos q, grd_t ⟨by omega, by omega⟩, h4 q, g3]
    rcases hv with rfl | rfl
    · rw [ifEq_t R0 R0 rfl, grd_t ⟨RL_R R0, RL_R R0⟩, lcmp_z, ifEq_t R0 R0 rfl]
      exact kk
    · rw [ifEq_f R1 R0 (by omega), grd_t ⟨RL_R R1, RL_R R1⟩, lcmp_z, ifEq_t R0 R0 rfl]
      exact kk
  · rw [if_neg q]
    exact kk
theorem L_b264 (hI : LInv s) (h0 : 0 ≤ x5) (hx : x5 + 3 < (L : Int)) : okP (La_law_b264 L x5 s) (QL x5) := by
  obtain ⟨X, hX, h8, hC, hM, hR⟩ := hI
  obtain ⟨v, X', hv, hX', kC, kM⟩ := on_append hX (lorI (lshlI (gi s 1200 (x5 + 1).toNat) 32) (landI (gi s 1200 (x5 + 2).toNat) 4294967295))
  unfold La_law_b264
  rw [grd_t ⟨by omega, by omega⟩, grd_t (hR _), grd_t ⟨by omega, by omega⟩, grd_t (hR _)]
  refine okP_bnd2 (kC s hC) ?_
  rintro y s1 - ⟨k1, k2, k3⟩
  have k1 : CF s s1 := k1
  have k2 : CI X' s1 := k2
  have k3 : y = v := k3
  have e : ∀ k, gi s1 1200 k = gi s 1200 k := fun k => k1 1200 k (by omega)
  rw [grd_t ⟨by omega, by omega⟩, e, e, grd_t (hR _), grd_t ⟨by omega, by omega⟩, grd_t (hR _)]
  refine okP_bnd2 (kM s1 (hM.cf hX k1)) ?_
  rintro y' s2 - ⟨m1, m2, m3, m4⟩
  have m1 : MF s1 s2 := m1
  have m2 : MI X' s2 := m2
  have m4 : y' = v := m4 rfl
  rw [k3, m4, ifEq_t hv hv rfl]
  exact l_fin hX' (k2.mf m1) m2 (fun k => (m1.1 1200 k (by omega)).trans (e k)) hR
theorem L_b321 (hI : LInv s) (h0 : 0 ≤ x5) (hx : x5 + 3 < (L : Int)) : okP (La_law_b321 L x5 s) (QL x5) := by
  obtain ⟨X, hX, h8, hC, hM, hR⟩ := hI
  obtain ⟨v, X', hv, hX', kC, kM⟩ := on_load hX
  unfold La_law_b321
  refine okP_bnd2 (kC s hC) ?_
  rintro y s1 - ⟨k1, k2, k3⟩
  have k1 : CF s s1 := k1
  have k2 : CI X' s1 := k2
  have k3 : y = v := k3
  refine okP_bnd2 (kM s1 (hM.cf hX k1)) ?_
  rintro y' s2 - ⟨m1, m2, m3, m4⟩
  have m1 : MF s1 s2 := m1
  have m2 : MI X' s2 := m2
  have m4 : y' = v := m4 rfl
  rw [k3, m4, ifEq_t hv hv rfl]
  exact l_fin hX' (k2.mf m1) m2 (fun k => (m1.1 1200 k (by omega)).trans (k1 1200 k (by omega))) hR
theorem L_b334 (hI : LInv s) (h0 : 0 ≤ x5) (hx : x5 + 3 < (L : Int)) : okP (La_law_b334 L x5 s) (QL x5) := by
  obtain ⟨X, hX, h8, hC, hM, hR⟩ := hI
  obtain ⟨v, hv, kC, kM⟩ := os_loadError hX
  unfold La_law_b334
  rw [kC s hC, bnd_some]
  refine okP_bnd2 (kM s hM) ?_
  rintro y' s2 - ⟨m1, m2, m3, m4⟩
  have m1 : MF s s2 := m1
  have m2 : MI X s2 := m2
  have m4 : y' = v := m4 rfl
  rw [m4, ifEq_t hv hv rfl]
  exact l_fin hX (hC.mf m1) m2 (fun k => m1.1 1200 k (by omega)) hR
theorem L_b347 (hI : LInv s) (h0 : 0 ≤ x5) (hx : x5 + 3 < (L : Int)) : okP (La_law_b347 L x5 s) (QL x5) := by
  obtain ⟨X, hX, h8, hC, hM, hR⟩ := hI
  obtain ⟨v, hv, kC, kM⟩ := os_loadStatement hX
  unfold La_law_b347
  rw [kC s hC, bnd_some]
  refine okP_bnd2 (kM s hM) ?_
  rintro y' s2 - ⟨m1, m2, m3, m4⟩
  have m1 : MF s s2 := m1
  have m2 : MI X s2 := m2
  have m4 : y' = v := m4 rfl
  rw [m4, ifEq_t hv hv rfl]
  exact l_fin hX (hC.mf m1) m2 (fun k => m1.1 1200 k (by omega)) hR
theorem L_b360 (hI : LInv s) (h0 : 0 ≤ x5) (hx : x5 + 3 < (L : Int)) : okP (La_law_b360 L x5 s) (QL x5) := by
  obtain ⟨X, hX, h8, hC, hM, hR⟩ := hI
  obtain ⟨c, v, X', hc, hX', kC, kM⟩ := op_size hX (hR (x5 + 1).toNat)
  unfold La_law_b360
  rw [grd_t ⟨by omega, by omega⟩]
  refine okP_bnd2 (la_ok (kC s hC)) ?_
  rintro y s1 - ⟨k1, k2, k3, k4⟩
  have k1 : CF s s1 := k1
  have k2 : CI X' s1 := k2
  have k3 : y = c := k3
  have k4 : c = 0 → gl s1 100 0 = v ∧ R v := k4
  have e : ∀ k, gi s1 1200 k = gi s 1200 k := fun k => k1 1200 k (by omega)
  rw [grd_t ⟨by omega, by omega⟩, e, k3]
  exact law_tail (s0 := s) hc k2 k1 k4 (kM s1 (hM.cf hX k1)) fun s2 m1 m2 m3 => l_fin hX' m1 m2 m3 hR
theorem L_b416 (hI : LInv s) (h0 : 0 ≤ x5) (hx : x5 + 3 < (L : Int)) : okP (La_law_b416 L x5 s) (QL x5) := by
  obtain ⟨X, hX, h8, hC, hM, hR⟩ := hI
  obtain ⟨c, v, X', hc, hX', kC, kM⟩ := op_cell hX (hR (x5 + 1).toNat)
  unfold La_law_b416
  rw [grd_t ⟨by omega, by omega⟩]
  refine okP_bnd2 (la_ok (kC s hC)) ?_
  rintro y s1 - ⟨k1, k2, k3, k4⟩
  have k1 : CF s s1 := k1
  have k2 : CI X' s1 := k2
  have k3 : y = c := k3
  have k4 : c = 0 → gl s1 100 0 = v ∧ R v := k4
  have e : ∀ k, gi s1 1200 k = gi s 1200 k := fun k => k1 1200 k (by omega)
  rw [grd_t ⟨by omega, by omega⟩, e, k3]
  exact law_tail (s0 := s) hc k2 k1 k4 (kM s1 (hM.cf hX k1)) fun s2 m1 m2 m3 => l_fin hX' m1 m2 m3 hR
theorem L_b472 (hI : LInv s) (h0 : 0 ≤ x5) (hx : x5 + 3 < (L : Int)) : okP (La_law_b472 L x5 s) (QL x5) := by
  obtain ⟨X, hX, h8, hC, hM, hR⟩ := hI
  obtain ⟨c, v, X', hc, hX', kC, kM⟩ := op_neighbour hX (hR (x5 + 1).toNat) (hR (x5 + 2).toNat)
  unfold La_law_b472
  rw [grd_t ⟨by omega, by omega⟩, grd_t ⟨by omega, by omega⟩]
  refine okP_bnd2 (la_ok (kC s hC)) ?_
  rintro y s1 - ⟨k1, k2, k3, k4⟩
  have k1 : CF s s1 := k1
  have k2 : CI X' s1 := k2
  have k3 : y = c := k3
  have k4 : c = 0 → gl s1 100 0 = v ∧ R v := k4
  have e : ∀ k, gi s1 1200 k = gi s 1200 k := fun k => k1 1200 k (by omega)
  rw [grd_t ⟨by omega, by omega⟩, grd_t ⟨by omega, by omega⟩, e, e, k3]
  exact law_tail (s0 := s) hc k2 k1 k4 (kM s1 (hM.cf hX k1)) fun s2 m1 m2 m3 => l_fin hX' m1 m2 m3 hR
theorem L_b540 (hI : LInv s) (h0 : 0 ≤ x5) (hx : x5 + 3 < (L : Int)) : okP (La_law_b540 L x5 s) (QL x5) := by
  obtain ⟨X, hX, h8, hC, hM, hR⟩ := hI
  obtain ⟨c, v, X', hc, hX', kC, kM⟩ := op_group hX (hR (x5 + 1).toNat) (hR (x5 + 2).toNat)
  unfold La_law_b540
  rw [grd_t ⟨by omega, by omega⟩, grd_t ⟨by omega, by omega⟩]
  refine okP_bnd2 (la_ok (kC s hC)) ?_
  rintro y s1 - ⟨k1, k2, k3, k4⟩
  have k1 : CF s s1 := k1
  have k2 : CI X' s1 := k2
  have k3 : y = c := k3
  have k4 : c = 0 → gl s1 100 0 = v ∧ R v := k4
  have e : ∀ k, gi s1 1200 k = gi s 1200 k := fun k => k1 1200 k (by omega)
  rw [grd_t ⟨by omega, by omega⟩, grd_t ⟨by omega, by omega⟩, e, e, k3]
  exact law_tail (s0 := s) hc k2 k1 k4 (kM s1 (hM.cf hX k1)) fun s2 m1 m2 m3 => l_fin hX' m1 m2 m3 hR
theorem L_b608 (hI : LInv s) (h0 : 0 ≤ x5) (hx : x5 + 3 < (L : Int)) : okP (La_law_b608 L x5 s) (QL x5) := by
  obtain ⟨X, hX, h8, hC, hM, hR⟩ := hI
  obtain ⟨c, v, X', hc, hX', kC, kM⟩ := op_groups hX (hR (x5 + 1).toNat)
  unfold La_law_b608
  rw [grd_t ⟨by omega, by omega⟩]
  refine okP_bnd2 (la_ok (kC s hC)) ?_
  rintro y s1 - ⟨k1, k2, k3, k4⟩
  have k1 : CF s s1 := k1
  have k2 : CI X' s1 := k2
  have k3 : y = c := k3
  have k4 : c = 0 → gl s1 100 0 = v ∧ R v := k4
  have e : ∀ k, gi s1 1200 k = gi s 1200 k := fun k => k1 1200 k (by omega)
  rw [grd_t ⟨by omega, by omega⟩, e, k3]
  exact law_tail (s0 := s) hc k2 k1 k4 (kM s1 (hM.cf hX k1)) fun s2 m1 m2 m3 => l_fin hX' m1 m2 m3 hR
theorem L_b664 (hI : LInv s) (h0 : 0 ≤ x5) (hx : x5 + 3 < (L : Int)) : okP (La_law_b664 L x5 s) (QL x5) := by
  obtain ⟨X, hX, h8, hC, hM, hR⟩ := hI
  obtain ⟨c, v, X', hc, hX', kC, kM⟩ := op_largest hX (hR (x5 + 1).toNat)
  unfold La_law_b664
  rw [grd_t ⟨by omega, by omega⟩]
  refine okP_bnd2 (la_ok (kC s hC)) ?_
  rintro y s1 - ⟨k1, k2, k3, k4⟩
  have k1 : CF s s1 := k1
  have k2 : CI X' s1 := k2
  have k3 : y = c := k3
  have k4 : c = 0 → gl s1 100 0 = v ∧ R v := k4
  have e : ∀ k, gi s1 1200 k = gi s 1200 k := fun k => k1 1200 k (by omega)
  rw [grd_t ⟨by omega, by omega⟩, e, k3]
  exact law_tail (s0 := s) hc k2 k1 k4 (kM s1 (hM.cf hX k1)) fun s2 m1 m2 m3 => l_fin hX' m1 m2 m3 hR
theorem L_b720 (hI : LInv s) (h0 : 0 ≤ x5) (hx : x5 + 3 < (L : Int)) : okP (La_law_b720 L x5 s) (QL x5) := by
  obtain ⟨X, hX, h8, hC, hM, hR⟩ := hI
  obtain ⟨c, v, X', hv, hc, hX', kC, kM⟩ := op_isBridge hX (hR (x5 + 1).toNat) (hR (x5 + 2).toNat)
  unfold La_law_b720
  rw [grd_t ⟨by omega, by omega⟩, grd_t ⟨by omega, by omega⟩]
  refine okP_bnd2 (la_okB (kC s hC) hv) ?_
  rintro y s1 - ⟨k1, k2, k3, k4⟩
  have k1 : CF s s1 := k1
  have k2 : CI X' s1 := k2
  have k3 : y = c := k3
  have k4 : c = 0 → gl s1 100 0 = v ∧ R v := k4
  have e : ∀ k, gi s1 1200 k = gi s 1200 k := fun k => k1 1200 k (by omega)
  rw [grd_t ⟨by omega, by omega⟩, grd_t ⟨by omega, by omega⟩, e, e, k3]
  exact law_tailB (s0 := s) hv hc k2 k1 k4 (kM s1 (hM.cf hX k1)) fun s2 m1 m2 m3 => l_fin hX' m1 m2 m3 hR
theorem L_b795 (hI : LInv s) (h0 : 0 ≤ x5) (hx : x5 + 3 < (L : Int)) : okP (La_law_b795 L x5 s) (QL x5) := by
  obtain ⟨X, hX, h8, hC, hM, hR⟩ := hI
  obtain ⟨w, hw, hwR, key⟩ : ∃ w : Int, (w = 0 ∨ w = 1) ∧ R w ∧ ∀ (A B : Option ((Int × Sg) ⊕ Sg)) (u : Sg), gi u 1200 (x5 + 2).toNat = gi s 1200 (x5 + 2).toNat → ifEq (gi u 1200 (x5 + 2).toNat) 0 A B = if w = 0 then A else B := by
    by_cases q : gi s 1200 (x5 + 2).toNat = 0
    · exact ⟨0, Or.inl rfl, R0, fun A B u e => by rw [e, ifEq_t (hR _) R0 q, if_pos rfl]⟩
    · exact ⟨1, Or.inr rfl, R1, fun A B u e => by rw [e, ifEq_f (hR _) R0 q, if_neg (by omega)]⟩
  obtain ⟨c, v, X', hc, hX', kC, kM⟩ := op_bridges hX (hR (x5 + 1).toNat) hwR
  have go : okP (La_law_b816 L x5 (gi s 1200 (x5 + 1).toNat) w s) (QL x5) := by
    unfold La_law_b816
    refine okP_bnd2 (la_ok (kC s hC)) ?_
    rintro y s1 - ⟨k1, k2, k3, k4⟩
    have k1 : CF s s1 := k1
    have k2 : CI X' s1 := k2
    have k3 : y = c := k3
    have k4 : c = 0 → gl s1 100 0 = v ∧ R v := k4
    have e : ∀ k, gi s1 1200 k = gi s 1200 k := fun k => k1 1200 k (by omega)
    have tail : okP (La_law_b843 L x5 c (gi s 1200 (x5 + 1).toNat) w s1) (QL x5) := by
      unfold La_law_b843
      exact law_tail (s0 := s) hc k2 k1 k4 (kM s1 (hM.cf hX k1)) fun s2 m1 m2 m3 => l_fin hX' m1 m2 m3 hR
    rw [grd_t ⟨by omega, by omega⟩, grd_t ⟨by omega, by omega⟩, key _ _ s1 (e _), e, k3]
    rcases hw with rfl | rfl
    · rw [if_pos rfl]; exact tail
    · rw [if_neg (by omega)]; exact tail
  unfold La_law_b795
  rw [grd_t ⟨by omega, by omega⟩, grd_t ⟨by omega, by omega⟩, key _ _ s rfl]
  rcases hw with rfl | rfl
  · rw [if_pos rfl]; exact go
  · rw [if_neg (by omega)]; exact go
theorem L_b879 (hI : LInv s) (h0 : 0 ≤ x5) (hx : x5 + 3 < (L : Int)) : okP (La_law_b879 L x5 s) (QL x5) := by
  obtain ⟨X, hX, h8, hC, hM, hR⟩ := hI
  obtain ⟨c, v, X', hc, hX', kC, kM⟩ := op_bridge hX (hR (x5 + 1).toNat) (hR (x5 + 2).toNat) (hR (x5 + 3).toNat)
  unfold La_law_b879
  rw [grd_t ⟨by omega, by omega⟩, grd_t ⟨by omega, by omega⟩, grd_t ⟨by omega, by omega⟩]
  refine okP_bnd2 (la_ok (kC s hC)) ?_
  rintro y s1 - ⟨k1, k2, k3, k4⟩
  have k1 : CF s s1 := k1
  have k2 : CI X' s1 := k2
  have k3 : y = c := k3
  have k4 : c = 0 → gl s1 100 0 = v ∧ R v := k4
  have e : ∀ k, gi s1 1200 k = gi s 1200 k := fun k => k1 1200 k (by omega)
  rw [grd_t ⟨by omega, by omega⟩, grd_t ⟨by omega, by omega⟩, grd_t ⟨by omega, by omega⟩, e, e, e, k3]
  exact law_tail (s0 := s) hc k2 k1 k4 (kM s1 (hM.cf hX k1)) fun s2 m1 m2 m3 => l_fin hX' m1 m2 m3 hR
theorem L_b959 (hI : LInv s) (h0 : 0 ≤ x5) (hx : x5 + 3 < (L : Int)) : okP (La_law_b959 L x5 s) (QL x5) := by
  obtain ⟨X, hX, h8, hC, hM, hR⟩ := hI
  obtain ⟨c, v, X', hc, hX', kC, kM⟩ := op_chain hX (hR (x5 + 1).toNat) (hR (x5 + 2).toNat)
  unfold La_law_b959
  rw [grd_t ⟨by omega, by omega⟩, grd_t ⟨by omega, by omega⟩]
  refine okP_bnd2 (la_ok (kC s hC)) ?_
  rintro y s1 - ⟨k1, k2, k3, k4⟩
  have k1 : CF s s1 := k1
  have k2 : CI X' s1 := k2
  have k3 : y = c := k3
  have k4 : c = 0 → gl s1 100 0 = v ∧ R v := k4
  have e : ∀ k, gi s1 1200 k = gi s 1200 k := fun k => k1 1200 k (by omega)
  rw [grd_t ⟨by omega, by omega⟩, grd_t ⟨by omega, by omega⟩, e, e, k3]
  exact law_tail (s0 := s) hc k2 k1 k4 (kM s1 (hM.cf hX k1)) fun s2 m1 m2 m3 => l_fin hX' m1 m2 m3 hR
theorem L_b1027 (hI : LInv s) (h0 : 0 ≤ x5) (hx : x5 + 3 < (L : Int)) : okP (La_law_b1027 L x5 s) (QL x5) := by
  obtain ⟨X, hX, h8, hC, hM, hR⟩ := hI
  obtain ⟨c, v, X', hc, hX', kC, kM⟩ := op_chains hX (hR (x5 + 1).toNat)
  unfold La_law_b1027
  rw [grd_t ⟨by omega, by omega⟩]
  refine okP_bnd2 (la_ok (kC s hC)) ?_
  rintro y s1 - ⟨k1, k2, k3, k4⟩
  have k1 : CF s s1 := k1
  have k2 : CI X' s1 := k2
  have k3 : y = c := k3
  have k4 : c = 0 → gl s1 100 0 = v ∧ R v := k4
  have e : ∀ k, gi s1 1200 k = gi s 1200 k := fun k => k1 1200 k (by omega)
  rw [grd_t ⟨by omega, by omega⟩, e, k3]
  exact law_tail (s0 := s) hc k2 k1 k4 (kM s1 (hM.cf hX k1)) fun s2 m1 m2 m3 => l_fin hX' m1 m2 m3 hR
theorem L_b1083 (hI : LInv s) (h0 : 0 ≤ x5) (hx : x5 + 3 < (L : Int)) : okP (La_law_b1083 L x5 s) (QL x5) := by
  obtain ⟨X, hX, h8, hC, hM, hR⟩ := hI
  obtain ⟨c, v, X', hv, hc, hX', kC, kM⟩ := op_isSafe hX (hR (x5 + 1).toNat)
  unfold La_law_b1083
  rw [grd_t ⟨by omega, by omega⟩]
  refine okP_bnd2 (la_okB (kC s hC) hv) ?_
  rintro y s1 - ⟨k1, k2, k3, k4⟩
  have k1 : CF s s1 := k1
  have k2 : CI X' s1 := k2
  have k3 : y = c := k3
  have k4 : c = 0 → gl s1 100 0 = v ∧ R v := k4
  have e : ∀ k, gi s1 1200 k = gi s 1200 k := fun k => k1 1200 k (by omega)
  rw [grd_t ⟨by omega, by omega⟩, e, k3]
  exact law_tailB (s0 := s) hv hc k2 k1 k4 (kM s1 (hM.cf hX k1)) fun s2 m1 m2 m3 => l_fin hX' m1 m2 m3 hR
theorem L_b1146 (hI : LInv s) (h0 : 0 ≤ x5) (hx : x5 + 3 < (L : Int)) : okP (La_law_b1146 L x5 s) (QL x5) := by
  obtain ⟨X, hX, h8, hC, hM, hR⟩ := hI
  obtain ⟨c, v, X', hc, hX', kC, kM⟩ := op_answer hX (hR (x5 + 1).toNat)
  unfold La_law_b1146
  rw [grd_t ⟨by omega, by omega⟩]
  refine okP_bnd2 (la_ok (kC s hC)) ?_
  rintro y s1 - ⟨k1, k2, k3, k4⟩
  have k1 : CF s s1 := k1
  have k2 : CI X' s1 := k2
  have k3 : y = c := k3
  have k4 : c = 0 → gl s1 100 0 = v ∧ R v := k4
  have e : ∀ k, gi s1 1200 k = gi s 1200 k := fun k => k1 1200 k (by omega)
  rw [grd_t ⟨by omega, by omega⟩, e, k3]
  exact law_tail (s0 := s) hc k2 k1 k4 (kM s1 (hM.cf hX k1)) fun s2 m1 m2 m3 => l_fin hX' m1 m2 m3 hR
theorem L_b1202 (hI : LInv s) (h0 : 0 ≤ x5) (hx : x5 + 3 < (L : Int)) : okP (La_law_b1202 L x5 s) (QL x5) := by
  obtain ⟨X, hX, h8, hC, hM, hR⟩ := hI
  obtain ⟨c, v, X', hc, hX', kC, kM⟩ := op_threats hX (hR (x5 + 1).toNat)
  unfold La_law_b1202
  rw [grd_t ⟨by omega, by omega⟩]
  refine okP_bnd2 (la_ok (kC s hC)) ?_
  rintro y s1 - ⟨k1, k2, k3, k4⟩
  have k1 : CF s s1 := k1
  have k2 : CI X' s1 := k2
  have k3 : y = c := k3
  have k4 : c = 0 → gl s1 100 0 = v ∧ R v := k4
  have e : ∀ k, gi s1 1200 k = gi s 1200 k := fun k => k1 1200 k (by omega)
  rw [grd_t ⟨by omega, by omega⟩, e, k3]
  exact law_tail (s0 := s) hc k2 k1 k4 (kM s1 (hM.cf hX k1)) fun s2 m1 m2 m3 => l_fin hX' m1 m2 m3 hR
theorem L_b1258 (hI : LInv s) (h0 : 0 ≤ x5) (hx : x5 + 3 < (L : Int)) : okP (La_law_b1258 L x5 s) (QL x5) := by
  obtain ⟨X, hX, h8, hC, hM, hR⟩ := hI
  obtain ⟨c, v, X', hc, hX', kC, kM⟩ := op_threat hX (hR (x5 + 1).toNat) (hR (x5 + 2).toNat)
  unfold La_law_b1258
  rw [grd_t ⟨by omega, by omega⟩, grd_t ⟨by omega, by omega⟩]
  refine okP_bnd2 (la_ok (kC s hC)) ?_
  rintro y s1 - ⟨k1, k2, k3, k4⟩
  have k1 : CF s s1 := k1
  have k2 : CI X' s1 := k2
  have k3 : y = c := k3
  have k4 : c = 0 → gl s1 100 0 = v ∧ R v := k4
  have e : ∀ k, gi s1 1200 k = gi s 1200 k := fun k => k1 1200 k (by omega)
  rw [grd_t ⟨by omega, by omega⟩, grd_t ⟨by omega, by omega⟩, e, e, k3]
  exact law_tail (s0 := s) hc k2 k1 k4 (kM s1 (hM.cf hX k1)) fun s2 m1 m2 m3 => l_fin hX' m1 m2 m3 hR
theorem L_b1326 (hI : LInv s) (h0 : 0 ≤ x5) (hx : x5 + 3 < (L : Int)) : okP (La_law_b1326 L x5 s) (QL x5) := by
  obtain ⟨X, hX, h8, hC, hM, hR⟩ := hI
  obtain ⟨v, X', hv, hX', kC, kM⟩ := on_forced hX
  unfold La_law_b1326
  refine okP_bnd2 (kC s hC) ?_
  rintro y s1 - ⟨k1, k2, k3⟩
  have k1 : CF s s1 := k1
  have k2 : CI X' s1 := k2
  have k3 : y = v := k3
  refine okP_bnd2 (kM s1 (hM.cf hX k1)) ?_
  rintro y' s2 - ⟨m1, m2, m3, m4⟩
  have m1 : MF s1 s2 := m1
  have m2 : MI X' s2 := m2
  have m4 : y' = v := m4 rfl
  rw [k3, m4, ifEq_t hv hv rfl]
  exact l_fin hX' (k2.mf m1) m2 (fun k => (m1.1 1200 k (by omega)).trans (k1 1200 k (by omega))) hR
theorem L_b1339 (hI : LInv s) (h0 : 0 ≤ x5) (hx : x5 + 3 < (L : Int)) : okP (La_law_b1339 L x5 s) (QL x5) := by
  obtain ⟨X, hX, h8, hC, hM, hR⟩ := hI
  obtain ⟨c, v, X', hc, hX', kC, kM⟩ := op_distance hX (hR (x5 + 1).toNat)
  unfold La_law_b1339
  rw [grd_t ⟨by omega, by omega⟩]
  refine okP_bnd2 (la_ok (kC s hC)) ?_
  rintro y s1 - ⟨k1, k2, k3, k4⟩
  have k1 : CF s s1 := k1
  have k2 : CI X' s1 := k2
  have k3 : y = c := k3
  have k4 : c = 0 → gl s1 100 0 = v ∧ R v := k4
  have e : ∀ k, gi s1 1200 k = gi s 1200 k := fun k => k1 1200 k (by omega)
  rw [grd_t ⟨by omega, by omega⟩, e, k3]
  exact law_tail (s0 := s) hc k2 k1 k4 (kM s1 (hM.cf hX k1)) fun s2 m1 m2 m3 => l_fin hX' m1 m2 m3 hR
theorem L_b1395 (hI : LInv s) (h0 : 0 ≤ x5) (hx : x5 + 3 < (L : Int)) : okP (La_law_b1395 L x5 s) (QL x5) := by
  obtain ⟨X, hX, h8, hC, hM, hR⟩ := hI
  obtain ⟨c, v, X', hc, hX', kC, kM⟩ := op_through hX (hR (x5 + 1).toNat) (hR (x5 + 2).toNat)
  unfold La_law_b1395
  rw [grd_t ⟨by omega, by omega⟩, grd_t ⟨by omega, by omega⟩]
  refine okP_bnd2 (la_ok (kC s hC)) ?_
  rintro y s1 - ⟨k1, k2, k3, k4⟩
  have k1 : CF s s1 := k1
  have k2 : CI X' s1 := k2
  have k3 : y = c := k3
  have k4 : c = 0 → gl s1 100 0 = v ∧ R v := k4
  have e : ∀ k, gi s1 1200 k = gi s 1200 k := fun k => k1 1200 k (by omega)
  rw [grd_t ⟨by omega, by omega⟩, grd_t ⟨by omega, by omega⟩, e, e, k3]
  exact law_tail (s0 := s) hc k2 k1 k4 (kM s1 (hM.cf hX k1)) fun s2 m1 m2 m3 => l_fin hX' m1 m2 m3 hR
theorem L_b1463 (hI : LInv s) (h0 : 0 ≤ x5) (hx : x5 + 3 < (L : Int)) : okP (La_law_b1463 L x5 s) (QL x5) := by
  obtain ⟨X, hX, h8, hC, hM, hR⟩ := hI
  obtain ⟨c, v, X', hc, hX', kC, kM⟩ := op_useful hX (hR (x5 + 1).toNat)
  unfold La_law_b1463
  rw [grd_t ⟨by omega, by omega⟩]
  refine okP_bnd2 (la_ok (kC s hC)) ?_
  rintro y s1 - ⟨k1, k2, k3, k4⟩
  have k1 : CF s s1 := k1
  have k2 : CI X' s1 := k2
  have k3 : y = c := k3
  have k4 : c = 0 → gl s1 100 0 = v ∧ R v := k4
  have e : ∀ k, gi s1 1200 k = gi s 1200 k := fun k => k1 1200 k (by omega)
  rw [grd_t ⟨by omega, by omega⟩, e, k3]
  exact law_tail (s0 := s) hc k2 k1 k4 (kM s1 (hM.cf hX k1)) fun s2 m1 m2 m3 => l_fin hX' m1 m2 m3 hR
theorem L_b1519 (hI : LInv s) (h0 : 0 ≤ x5) (hx : x5 + 3 < (L : Int)) : okP (La_law_b1519 L x5 s) (QL x5) := by
  obtain ⟨X, hX, h8, hC, hM, hR⟩ := hI
  obtain ⟨v, X', hv, hX', kC, kM⟩ := on_shared hX
  unfold La_law_b1519
  refine okP_bnd2 (kC s hC) ?_
  rintro y s1 - ⟨k1, k2, k3⟩
  have k1 : CF s s1 := k1
  have k2 : CI X' s1 := k2
  have k3 : y = v := k3
  refine okP_bnd2 (kM s1 (hM.cf hX k1)) ?_
  rintro y' s2 - ⟨m1, m2, m3, m4⟩
  have m1 : MF s1 s2 := m1
  have m2 : MI X' s2 := m2
  have m4 : y' = v := m4 rfl
  rw [k3, m4, ifEq_t hv hv rfl]
  exact l_fin hX' (k2.mf m1) m2 (fun k => (m1.1 1200 k (by omega)).trans (k1 1200 k (by omega))) hR
theorem L_b1532 (hI : LInv s) (h0 : 0 ≤ x5) (hx : x5 + 3 < (L : Int)) : okP (La_law_b1532 L x5 s) (QL x5) := by
  obtain ⟨X, hX, h8, hC, hM, hR⟩ := hI
  obtain ⟨c, v, X', hc, hX', kC, kM⟩ := op_potential hX (hR (x5 + 1).toNat) (hR (x5 + 2).toNat) (hR (x5 + 3).toNat)
  unfold La_law_b1532
  rw [grd_t ⟨by omega, by omega⟩, grd_t ⟨by omega, by omega⟩, grd_t ⟨by omega, by omega⟩]
  refine okP_bnd2 (la_ok (kC s hC)) ?_
  rintro y s1 - ⟨k1, k2, k3, k4⟩
  have k1 : CF s s1 := k1
  have k2 : CI X' s1 := k2
  have k3 : y = c := k3
  have k4 : c = 0 → gl s1 100 0 = v ∧ R v := k4
  have e : ∀ k, gi s1 1200 k = gi s 1200 k := fun k => k1 1200 k (by omega)
  rw [grd_t ⟨by omega, by omega⟩, grd_t ⟨by omega, by omega⟩, grd_t ⟨by omega, by omega⟩, e, e, e, k3]
  exact law_tail (s0 := s) hc k2 k1 k4 (kM s1 (hM.cf hX k1)) fun s2 m1 m2 m3 => l_fin hX' m1 m2 m3 hR
theorem L_b1612 (hI : LInv s) (h0 : 0 ≤ x5) (hx : x5 + 3 < (L : Int)) : okP (La_law_b1612 L x5 s) (QL x5) := by
  obtain ⟨X, hX, h8, hC, hM, hR⟩ := hI
  obtain ⟨c, v, X', hc, hX', kC, kM⟩ := op_current hX (hR (x5 + 1).toNat) (hR (x5 + 2).toNat)
  unfold La_law_b1612
  rw [grd_t ⟨by omega, by omega⟩, grd_t ⟨by omega, by omega⟩]
  refine okP_bnd2 (la_ok (kC s hC)) ?_
  rintro y s1 - ⟨k1, k2, k3, k4⟩
  have k1 : CF s s1 := k1
  have k2 : CI X' s1 := k2
  have k3 : y = c := k3
  have k4 : c = 0 → gl s1 100 0 = v ∧ R v := k4
  have e : ∀ k, gi s1 1200 k = gi s 1200 k := fun k => k1 1200 k (by omega)
  rw [grd_t ⟨by omega, by omega⟩, grd_t ⟨by omega, by omega⟩, e, e, k3]
  exact law_tail (s0 := s) hc k2 k1 k4 (kM s1 (hM.cf hX k1)) fun s2 m1 m2 m3 => l_fin hX' m1 m2 m3 hR
theorem L_b1680 (hI : LInv s) (h0 : 0 ≤ x5) (hx : x5 + 3 < (L : Int)) : okP (La_law_b1680 L x5 s) (QL x5) := by
  obtain ⟨X, hX, h8, hC, hM, hR⟩ := hI
  obtain ⟨c, v, hv, hc, kC, kM⟩ := of_resistance hX (hR (x5 + 1).toNat) (hR (x5 + 2).toNat)
  unfold La_law_b1680
  rw [grd_t ⟨by omega, by omega⟩, grd_t ⟨by omega, by omega⟩]
  obtain ⟨⟨r, t⟩, er, k1, k2, k3⟩ := kC s hC
  have k1 : CF s t := k1
  have k2 : CI X t := k2
  have hL : okP (La_resistance (gi s 1200 (x5 + 1).toNat) (gi s 1200 (x5 + 2).toNat) s) (fun o => CF s o.2 ∧ CI X o.2 ∧ o.1 = c ∧ (c = 0 → gd o.2 101 0 = FP.f2d v)) := by
    unfold La_resistance
    rw [er]
    rcases k3 with ⟨e1, e2⟩ | ⟨e1, e2, e3⟩ | ⟨e1, e2, e3⟩
    · have e2 : r = .inr v := e2
      subst e2
      show okP (grd (vf_n64 (FP.f2d v)) <| grd (0 ≤ 0 ∧ 0 < 1) <| lett (sd t 101 0 (FP.f2d v)) fun s5 => some (0, s5)) _
      rw [grd_t (f2d_nn hv), grd_t ⟨by omega, by omega⟩, lett_eq]
      exact okP_some ⟨k1, k2.eq rfl, e1.symm, fun _ => by show gd (sd t 101 0 (FP.f2d v)) 101 0 = FP.f2d v; rw [gd_sd, if_pos ⟨rfl, rfl⟩]⟩
    · have e1 : r = .inl 0 := e1
      subst e1
      show okP (some ((1 : Int), t)) _
      exact okP_some ⟨k1, k2, e2.symm, fun q => by omega⟩
    · exact absurd rfl e3
  refine okP_bnd2 hL ?_
  rintro y s1 - ⟨l1, l2, l3, l4⟩
  have l1 : CF s s1 := l1
  have l2 : CI X s1 := l2
  have l3 : y = c := l3
  have l4 : c = 0 → gd s1 101 0 = FP.f2d v := l4
  have e : ∀ k, gi s1 1200 k = gi s 1200 k := fun k => l1 1200 k (by omega)
  rw [grd_t ⟨by omega, by omega⟩, grd_t ⟨by omega, by omega⟩, e, e, l3]
  refine okP_bnd2 (kM s1 (hM.cf hX l1)) ?_
  rintro y' s2 - ⟨m1, m2, m3, m4⟩
  have m1 : MF s1 s2 := m1
  have m2 : MI X s2 := m2
  have m3 : gi s2 80 0 = c := m3
  have m4 : c = 0 → y' = v := m4
  unfold Mo_thrown
  rw [bnd_some, m3, ifEq_t hc hc rfl, ifEq_eq _ _ hc R0]
  have kk : okP (some (.inl (x5 + 4, s2)) : Option ((Int × Sg) ⊕ Sg)) (QL x5) := l_fin hX (l2.mf m1) m2 (fun k => (m1.1 1200 k (by omega)).trans (e k)) hR
  by_cases q : c = 0
  · have g : gd s2 101 0 = FP.f2d v := by
      show s2.2.2 101 0 = _
      rw [m1.2.2]
      exact l4 q
    have hd : dcmplI (FP.f2d v) (FP.f2d v) = 0 := dcmp_nn (f2d_nn hv)
    rw [if_pos q, grd_t ⟨by omega, by omega⟩, m4 q, grd_t (f2d_nn hv), g, hd, ifEq_t R0 R0 rfl]
    exact kk
  · rw [if_neg q]
    exact kk
theorem L_b1770 (hI : LInv s) (h0 : 0 ≤ x5) (hx : x5 + 3 < (L : Int)) : okP (La_law_b1770 L x5 s) (QL x5) := by
  obtain ⟨X, hX, h8, hC, hM, hR⟩ := hI
  obtain ⟨c, v, hv, hc, kC, kM⟩ := of_balance hX (hR (x5 + 1).toNat)
  unfold La_law_b1770
  rw [grd_t ⟨by omega, by omega⟩]
  obtain ⟨⟨r, t⟩, er, k1, k2, k3⟩ := kC s hC
  have k1 : CF s t := k1
  have k2 : CI X t := k2
  have hL : okP (La_balance (gi s 1200 (x5 + 1).toNat) s) (fun o => CF s o.2 ∧ CI X o.2 ∧ o.1 = c ∧ (c = 0 → gd o.2 101 0 = v)) := by
    unfold La_balance
    rw [er]
    rcases k3 with ⟨e1, e2⟩ | ⟨e1, e2, e3⟩ | ⟨e1, e2, e3⟩
    · have e2 : r = .inr v := e2
      subst e2
      show okP (grd (0 ≤ 0 ∧ 0 < 1) <| lett (sd t 101 0 (v)) fun s5 => some (0, s5)) _
      rw [grd_t ⟨by omega, by omega⟩, lett_eq]
      exact okP_some ⟨k1, k2.eq rfl, e1.symm, fun _ => by show gd (sd t 101 0 (v)) 101 0 = v; rw [gd_sd, if_pos ⟨rfl, rfl⟩]⟩
    · have e1 : r = .inl 0 := e1
      subst e1
      show okP (some ((1 : Int), t)) _
      exact okP_some ⟨k1, k2, e2.symm, fun q => by omega⟩
    · exact absurd rfl e3
  refine okP_bnd2 hL ?_
  rintro y s1 - ⟨l1, l2, l3, l4⟩
  have l1 : CF s s1 := l1
  have l2 : CI X s1 := l2
  have l3 : y = c := l3
  have l4 : c = 0 → gd s1 101 0 = v := l4
  have e : ∀ k, gi s1 1200 k = gi s 1200 k := fun k => l1 1200 k (by omega)
  rw [grd_t ⟨by omega, by omega⟩, e, l3]
  refine okP_bnd2 (kM s1 (hM.cf hX l1)) ?_
  rintro y' s2 - ⟨m1, m2, m3, m4⟩
  have m1 : MF s1 s2 := m1
  have m2 : MI X s2 := m2
  have m3 : gi s2 80 0 = c := m3
  have m4 : c = 0 → y' = v := m4
  unfold Mo_thrown
  rw [bnd_some, m3, ifEq_t hc hc rfl, ifEq_eq _ _ hc R0]
  have kk : okP (some (.inl (x5 + 4, s2)) : Option ((Int × Sg) ⊕ Sg)) (QL x5) := l_fin hX (l2.mf m1) m2 (fun k => (m1.1 1200 k (by omega)).trans (e k)) hR
  by_cases q : c = 0
  · have g : gd s2 101 0 = v := by
      show s2.2.2 101 0 = _
      rw [m1.2.2]
      exact l4 q
    have hd : dcmplI (v) (v) = 0 := dcmp_nn (hv)
    rw [if_pos q, grd_t ⟨by omega, by omega⟩, m4 q, g, hd, ifEq_t R0 R0 rfl]
    exact kk
  · rw [if_neg q]
    exact kk
theorem L_b1847 (hI : LInv s) (h0 : 0 ≤ x5) (hx : x5 + 3 < (L : Int)) : okP (La_law_b1847 L x5 s) (QL x5) := by
  obtain ⟨X, hX, h8, hC, hM, hR⟩ := hI
  obtain ⟨v, X', hv, hX', kC, kM⟩ := on_solved hX
  unfold La_law_b1847
  refine okP_bnd2 (kC s hC) ?_
  rintro y s1 - ⟨k1, k2, k3⟩
  have k1 : CF s s1 := k1
  have k2 : CI X' s1 := k2
  have k3 : y = v := k3
  refine okP_bnd2 (kM s1 (hM.cf hX k1)) ?_
  rintro y' s2 - ⟨m1, m2, m3, m4⟩
  have m1 : MF s1 s2 := m1
  have m2 : MI X' s2 := m2
  have m4 : y' = v := m4 rfl
  rw [k3, m4, ifEq_t hv hv rfl]
  exact l_fin hX' (k2.mf m1) m2 (fun k => (m1.1 1200 k (by omega)).trans (k1 1200 k (by omega))) hR
theorem L_b1860 (hI : LInv s) (h0 : 0 ≤ x5) (hx : x5 + 3 < (L : Int)) : okP (La_law_b1860 L x5 s) (QL x5) := by
  obtain ⟨X, hX, h8, hC, hM, hR⟩ := hI
  obtain ⟨v, X', hv, hX', kC, kM⟩ := on_goodMoves hX
  unfold La_law_b1860
  refine okP_bnd2 (kC s hC) ?_
  rintro y s1 - ⟨k1, k2, k3⟩
  have k1 : CF s s1 := k1
  have k2 : CI X' s1 := k2
  have k3 : y = v := k3
  refine okP_bnd2 (kM s1 (hM.cf hX k1)) ?_
  rintro y' s2 - ⟨m1, m2, m3, m4⟩
  have m1 : MF s1 s2 := m1
  have m2 : MI X' s2 := m2
  have m4 : y' = v := m4 rfl
  rw [k3, m4, ifEq_t hv hv rfl]
  exact l_fin hX' (k2.mf m1) m2 (fun k => (m1.1 1200 k (by omega)).trans (k1 1200 k (by omega))) hR
theorem L_b1873 (hI : LInv s) (h0 : 0 ≤ x5) (hx : x5 + 3 < (L : Int)) : okP (La_law_b1873 L x5 s) (QL x5) := by
  obtain ⟨X, hX, h8, hC, hM, hR⟩ := hI
  obtain ⟨v, X', hv, hX', kC, kM⟩ := on_bestMove hX
  unfold La_law_b1873
  refine okP_bnd2 (kC s hC) ?_
  rintro y s1 - ⟨k1, k2, k3⟩
  have k1 : CF s s1 := k1
  have k2 : CI X' s1 := k2
  have k3 : y = v := k3
  refine okP_bnd2 (kM s1 (hM.cf hX k1)) ?_
  rintro y' s2 - ⟨m1, m2, m3, m4⟩
  have m1 : MF s1 s2 := m1
  have m2 : MI X' s2 := m2
  have m4 : y' = v := m4 rfl
  rw [k3, m4, ifEq_t hv hv rfl]
  exact l_fin hX' (k2.mf m1) m2 (fun k => (m1.1 1200 k (by omega)).trans (k1 1200 k (by omega))) hR
theorem L_b1886 (hI : LInv s) (h0 : 0 ≤ x5) (hx : x5 + 3 < (L : Int)) : okP (La_law_b1886 L x5 s) (QL x5) := by
  obtain ⟨X, hX, h8, hC, hM, hR⟩ := hI
  obtain ⟨c, v, X', hc, hX', kC, kM⟩ := op_filled hX (hR (x5 + 1).toNat)
  unfold La_law_b1886
  rw [grd_t ⟨by omega, by omega⟩]
  refine okP_bnd2 (la_ok (kC s hC)) ?_
  rintro y s1 - ⟨k1, k2, k3, k4⟩
  have k1 : CF s s1 := k1
  have k2 : CI X' s1 := k2
  have k3 : y = c := k3
  have k4 : c = 0 → gl s1 100 0 = v ∧ R v := k4
  have e : ∀ k, gi s1 1200 k = gi s 1200 k := fun k => k1 1200 k (by omega)
  rw [grd_t ⟨by omega, by omega⟩, e, k3]
  exact law_tail (s0 := s) hc k2 k1 k4 (kM s1 (hM.cf hX k1)) fun s2 m1 m2 m3 => l_fin hX' m1 m2 m3 hR
theorem L_b1942 (hI : LInv s) (h0 : 0 ≤ x5) (hx : x5 + 3 < (L : Int)) : okP (La_law_b1942 L x5 s) (QL x5) := by
  obtain ⟨X, hX, h8, hC, hM, hR⟩ := hI
  obtain ⟨c, v, X', hc, hX', kC, kM⟩ := op_fillings hX (hR (x5 + 1).toNat) (hR (x5 + 2).toNat) (hR (x5 + 3).toNat)
  unfold La_law_b1942
  rw [grd_t ⟨by omega, by omega⟩, grd_t ⟨by omega, by omega⟩, grd_t ⟨by omega, by omega⟩]
  refine okP_bnd2 (la_ok (kC s hC)) ?_
  rintro y s1 - ⟨k1, k2, k3, k4⟩
  have k1 : CF s s1 := k1
  have k2 : CI X' s1 := k2
  have k3 : y = c := k3
  have k4 : c = 0 → gl s1 100 0 = v ∧ R v := k4
  have e : ∀ k, gi s1 1200 k = gi s 1200 k := fun k => k1 1200 k (by omega)
  rw [grd_t ⟨by omega, by omega⟩, grd_t ⟨by omega, by omega⟩, grd_t ⟨by omega, by omega⟩, e, e, e, k3]
  exact law_tail (s0 := s) hc k2 k1 k4 (kM s1 (hM.cf hX k1)) fun s2 m1 m2 m3 => l_fin hX' m1 m2 m3 hR
theorem L_b2022 (hI : LInv s) (h0 : 0 ≤ x5) (hx : x5 + 3 < (L : Int)) : okP (La_law_b2022 L x5 s) (QL x5) := by
  obtain ⟨X, hX, h8, hC, hM, hR⟩ := hI
  obtain ⟨c, v, X', hc, hX', kC, kM⟩ := op_idle hX (hR (x5 + 1).toNat)
  unfold La_law_b2022
  rw [grd_t ⟨by omega, by omega⟩]
  refine okP_bnd2 (la_ok (kC s hC)) ?_
  rintro y s1 - ⟨k1, k2, k3, k4⟩
  have k1 : CF s s1 := k1
  have k2 : CI X' s1 := k2
  have k3 : y = c := k3
  have k4 : c = 0 → gl s1 100 0 = v ∧ R v := k4
  have e : ∀ k, gi s1 1200 k = gi s 1200 k := fun k => k1 1200 k (by omega)
  rw [grd_t ⟨by omega, by omega⟩, e, k3]
  exact law_tail (s0 := s) hc k2 k1 k4 (kM s1 (hM.cf hX k1)) fun s2 m1 m2 m3 => l_fin hX' m1 m2 m3 hR
theorem L_b2078 (hI : LInv s) (h0 : 0 ≤ x5) (hx : x5 + 3 < (L : Int)) : okP (La_law_b2078 L x5 s) (QL x5) := by
  obtain ⟨X, hX, h8, hC, hM, hR⟩ := hI
  obtain ⟨v, hv, kC, kM⟩ := os_moveAt hX (hR (x5 + 1).toNat)
  unfold La_law_b2078
  rw [grd_t ⟨by omega, by omega⟩, kC s hC, bnd_some, grd_t ⟨by omega, by omega⟩]
  refine okP_bnd2 (kM s hM) ?_
  rintro y' s2 - ⟨m1, m2, m3, m4⟩
  have m1 : MF s s2 := m1
  have m2 : MI X s2 := m2
  have m4 : y' = v := m4 rfl
  rw [m4, ifEq_t hv hv rfl]
  exact l_fin hX (hC.mf m1) m2 (fun k => m1.1 1200 k (by omega)) hR
theorem L_b2103 (hI : LInv s) (h0 : 0 ≤ x5) (hx : x5 + 3 < (L : Int)) : okP (La_law_b2103 L x5 s) (QL x5) := by
  obtain ⟨X, hX, h8, hC, hM, hR⟩ := hI
  obtain ⟨c, v, X', hc, hX', kC, kM⟩ := op_move hX (hR (x5 + 1).toNat)
  unfold La_law_b2103
  rw [grd_t ⟨by omega, by omega⟩]
  refine okP_bnd2 (la_ok (kC s hC)) ?_
  rintro y s1 - ⟨k1, k2, k3, k4⟩
  have k1 : CF s s1 := k1
  have k2 : CI X' s1 := k2
  have k3 : y = c := k3
  have k4 : c = 0 → gl s1 100 0 = v ∧ R v := k4
  have e : ∀ k, gi s1 1200 k = gi s 1200 k := fun k => k1 1200 k (by omega)
  rw [grd_t ⟨by omega, by omega⟩, e, k3]
  exact law_tail (s0 := s) hc k2 k1 k4 (kM s1 (hM.cf hX k1)) fun s2 m1 m2 m3 => l_fin hX' m1 m2 m3 hR
theorem L_b2159 (hI : LInv s) (h0 : 0 ≤ x5) (hx : x5 + 3 < (L : Int)) : okP (La_law_b2159 L x5 s) (QL x5) := by
  obtain ⟨X, hX, h8, hC, hM, hR⟩ := hI
  obtain ⟨v, X', hv, hX', kC, kM⟩ := on_swap hX
  unfold La_law_b2159
  refine okP_bnd2 (kC s hC) ?_
  rintro y s1 - ⟨k1, k2, k3⟩
  have k1 : CF s s1 := k1
  have k2 : CI X' s1 := k2
  have k3 : y = v := k3
  refine okP_bnd2 (kM s1 (hM.cf hX k1)) ?_
  rintro y' s2 - ⟨m1, m2, m3, m4⟩
  have m1 : MF s1 s2 := m1
  have m2 : MI X' s2 := m2
  have m4 : y' = v := m4 rfl
  rw [k3, m4, ifEq_t hv hv rfl]
  exact l_fin hX' (k2.mf m1) m2 (fun k => (m1.1 1200 k (by omega)).trans (k1 1200 k (by omega))) hR
theorem L_b2172 (hI : LInv s) (h0 : 0 ≤ x5) (hx : x5 + 3 < (L : Int)) : okP (La_law_b2172 L x5 s) (QL x5) := by
  obtain ⟨X, hX, h8, hC, hM, hR⟩ := hI
  obtain ⟨v, X', hv, hX', kC, kM⟩ := on_giveUp hX
  unfold La_law_b2172
  refine okP_bnd2 (kC s hC) ?_
  rintro y s1 - ⟨k1, k2, k3⟩
  have k1 : CF s s1 := k1
  have k2 : CI X' s1 := k2
  have k3 : y = v := k3
  refine okP_bnd2 (kM s1 (hM.cf hX k1)) ?_
  rintro y' s2 - ⟨m1, m2, m3, m4⟩
  have m1 : MF s1 s2 := m1
  have m2 : MI X' s2 := m2
  have m4 : y' = v := m4 rfl
  rw [k3, m4, ifEq_t hv hv rfl]
  exact l_fin hX' (k2.mf m1) m2 (fun k => (m1.1 1200 k (by omega)).trans (k1 1200 k (by omega))) hR
theorem L_b2185 (hI : LInv s) (h0 : 0 ≤ x5) (hx : x5 + 3 < (L : Int)) : okP (La_law_b2185 L x5 s) (QL x5) := by
  obtain ⟨X, hX, h8, hC, hM, hR⟩ := hI
  obtain ⟨c, v, X', hc, hX', kC, kM⟩ := op_put hX (hR (x5 + 1).toNat) (hR (x5 + 2).toNat)
  unfold La_law_b2185
  rw [grd_t ⟨by omega, by omega⟩, grd_t ⟨by omega, by omega⟩]
  refine okP_bnd2 (la_ok (kC s hC)) ?_
  rintro y s1 - ⟨k1, k2, k3, k4⟩
  have k1 : CF s s1 := k1
  have k2 : CI X' s1 := k2
  have k3 : y = c := k3
  have k4 : c = 0 → gl s1 100 0 = v ∧ R v := k4
  have e : ∀ k, gi s1 1200 k = gi s 1200 k := fun k => k1 1200 k (by omega)
  rw [grd_t ⟨by omega, by omega⟩, grd_t ⟨by omega, by omega⟩, e, e, k3]
  exact law_tail (s0 := s) hc k2 k1 k4 (kM s1 (hM.cf hX k1)) fun s2 m1 m2 m3 => l_fin hX' m1 m2 m3 hR
theorem L_b2253 (hI : LInv s) (h0 : 0 ≤ x5) (hx : x5 + 3 < (L : Int)) : okP (La_law_b2253 L x5 s) (QL x5) := by
  obtain ⟨X, hX, h8, hC, hM, hR⟩ := hI
  obtain ⟨c, v, X', hc, hX', kC, kM⟩ := op_setTurn hX (hR (x5 + 1).toNat)
  unfold La_law_b2253
  rw [grd_t ⟨by omega, by omega⟩]
  refine okP_bnd2 (la_ok (kC s hC)) ?_
  rintro y s1 - ⟨k1, k2, k3, k4⟩
  have k1 : CF s s1 := k1
  have k2 : CI X' s1 := k2
  have k3 : y = c := k3
  have k4 : c = 0 → gl s1 100 0 = v ∧ R v := k4
  have e : ∀ k, gi s1 1200 k = gi s 1200 k := fun k => k1 1200 k (by omega)
  rw [grd_t ⟨by omega, by omega⟩, e, k3]
  exact law_tail (s0 := s) hc k2 k1 k4 (kM s1 (hM.cf hX k1)) fun s2 m1 m2 m3 => l_fin hX' m1 m2 m3 hR
theorem L_b2309 (hI : LInv s) (h0 : 0 ≤ x5) (hx : x5 + 3 < (L : Int)) : okP (La_law_b2309 L x5 s) (QL x5) := by
  obtain ⟨X, hX, h8, hC, hM, hR⟩ := hI
  obtain ⟨v, X', hv, hX', kC, kM⟩ := on_turnOver hX
  unfold La_law_b2309
  refine okP_bnd2 (kC s hC) ?_
  rintro y s1 - ⟨k1, k2, k3⟩
  have k1 : CF s s1 := k1
  have k2 : CI X' s1 := k2
  have k3 : y = v := k3
  refine okP_bnd2 (kM s1 (hM.cf hX k1)) ?_
  rintro y' s2 - ⟨m1, m2, m3, m4⟩
  have m1 : MF s1 s2 := m1
  have m2 : MI X' s2 := m2
  have m4 : y' = v := m4 rfl
  rw [k3, m4, ifEq_t hv hv rfl]
  exact l_fin hX' (k2.mf m1) m2 (fun k => (m1.1 1200 k (by omega)).trans (k1 1200 k (by omega))) hR
theorem L_b2322 (hI : LInv s) (h0 : 0 ≤ x5) (hx : x5 + 3 < (L : Int)) : okP (La_law_b2322 L x5 s) (QL x5) := by
  obtain ⟨X, hX, h8, hC, hM, hR⟩ := hI
  obtain ⟨c, v, X', hc, hX', kC, kM⟩ := op_playForced hX (hR (x5 + 1).toNat)
  unfold La_law_b2322
  rw [grd_t ⟨by omega, by omega⟩]
  refine okP_bnd2 (la_ok (kC s hC)) ?_
  rintro y s1 - ⟨k1, k2, k3, k4⟩
  have k1 : CF s s1 := k1
  have k2 : CI X' s1 := k2
  have k3 : y = c := k3
  have k4 : c = 0 → gl s1 100 0 = v ∧ R v := k4
  have e : ∀ k, gi s1 1200 k = gi s 1200 k := fun k => k1 1200 k (by omega)
  rw [grd_t ⟨by omega, by omega⟩, e, k3]
  exact law_tail (s0 := s) hc k2 k1 k4 (kM s1 (hM.cf hX k1)) fun s2 m1 m2 m3 => l_fin hX' m1 m2 m3 hR
theorem L_b2378 (hI : LInv s) (h0 : 0 ≤ x5) (hx : x5 + 3 < (L : Int)) : okP (La_law_b2378 L x5 s) (QL x5) := by
  obtain ⟨X, hX, h8, hC, hM, hR⟩ := hI
  obtain ⟨v, X', hv, hX', kC, kM⟩ := on_forcedWinner hX
  unfold La_law_b2378
  refine okP_bnd2 (kC s hC) ?_
  rintro y s1 - ⟨k1, k2, k3⟩
  have k1 : CF s s1 := k1
  have k2 : CI X' s1 := k2
  have k3 : y = v := k3
  refine okP_bnd2 (kM s1 (hM.cf hX k1)) ?_
  rintro y' s2 - ⟨m1, m2, m3, m4⟩
  have m1 : MF s1 s2 := m1
  have m2 : MI X' s2 := m2
  have m4 : y' = v := m4 rfl
  rw [k3, m4, ifEq_t hv hv rfl]
  exact l_fin hX' (k2.mf m1) m2 (fun k => (m1.1 1200 k (by omega)).trans (k1 1200 k (by omega))) hR
theorem L_b2391 (hI : LInv s) (h0 : 0 ≤ x5) (hx : x5 + 3 < (L : Int)) : okP (La_law_b2391 L x5 s) (QL x5) := by
  obtain ⟨X, hX, h8, hC, hM, hR⟩ := hI
  obtain ⟨v, X', hv, hX', kC, kM⟩ := on_forcedRow hX
  unfold La_law_b2391
  refine okP_bnd2 (kC s hC) ?_
  rintro y s1 - ⟨k1, k2, k3⟩
  have k1 : CF s s1 := k1
  have k2 : CI X' s1 := k2
  have k3 : y = v := k3
  refine okP_bnd2 (kM s1 (hM.cf hX k1)) ?_
  rintro y' s2 - ⟨m1, m2, m3, m4⟩
  have m1 : MF s1 s2 := m1
  have m2 : MI X' s2 := m2
  have m4 : y' = v := m4 rfl
  rw [k3, m4, ifEq_t hv hv rfl]
  exact l_fin hX' (k2.mf m1) m2 (fun k => (m1.1 1200 k (by omega)).trans (k1 1200 k (by omega))) hR
theorem L_b2404 (hI : LInv s) (h0 : 0 ≤ x5) (hx : x5 + 3 < (L : Int)) : okP (La_law_b2404 L x5 s) (QL x5) := by
  obtain ⟨X, hX, h8, hC, hM, hR⟩ := hI
  obtain ⟨⟨y, s2⟩, e, m1, m2, m3⟩ := Mo_fullness_ok hX.1 hM.1
  have m1 : Ch [8000] s s2 := m1
  have m3 : y = fln X.b.n (Fc X.b.n X.b.f) := m3
  have hd : dcmplI (fln X.b.n (Fc X.b.n X.b.f)) (fln X.b.n (Fc X.b.n X.b.f)) = 0 := dcmp_nn (fln_nn hX.1 _)
  unfold La_law_b2404
  rw [Hx_fullness_eq hX.1 hC.1, bnd_some, e, bnd2_some, m3, hd, ifEq_t R0 R0 rfl]
  exact l_fin hX (hC.mf m1.mf) (hM.ch hX m1) (fun k => m1.mf.1 1200 k (by omega)) hR
theorem L_b2445 (hI : LInv s) (h0 : 0 ≤ x5) (hx : x5 + 3 < (L : Int)) : okP (La_law_b2445 L x5 s) (QL x5) := by
  obtain ⟨X, hX, h8, hC, hM, hR⟩ := hI
  obtain ⟨c, v, X', hc, hX', kC, kM⟩ := op_writeRow hX (hR (x5 + 1).toNat)
  unfold La_law_b2445
  rw [grd_t ⟨by omega, by omega⟩]
  refine okP_bnd2 (la_ok (kC s hC)) ?_
  rintro y s1 - ⟨k1, k2, k3, k4⟩
  have k1 : CF s s1 := k1
  have k2 : CI X' s1 := k2
  have k3 : y = c := k3
  have k4 : c = 0 → gl s1 100 0 = v ∧ R v := k4
  have e : ∀ k, gi s1 1200 k = gi s 1200 k := fun k => k1 1200 k (by omega)
  rw [grd_t ⟨by omega, by omega⟩, e, k3]
  exact law_tail (s0 := s) hc k2 k1 k4 (kM s1 (hM.cf hX k1)) fun s2 m1 m2 m3 => l_fin hX' m1 m2 m3 hR
theorem L_b2501 (hI : LInv s) (h0 : 0 ≤ x5) (hx : x5 + 3 < (L : Int)) : okP (La_law_b2501 L x5 s) (QL x5) := by
  obtain ⟨X, hX, h8, hC, hM, hR⟩ := hI
  obtain ⟨c, v, X', hc, hX', kC, kM⟩ := op_writeCell hX (hR (x5 + 1).toNat)
  unfold La_law_b2501
  rw [grd_t ⟨by omega, by omega⟩]
  refine okP_bnd2 (la_ok (kC s hC)) ?_
  rintro y s1 - ⟨k1, k2, k3, k4⟩
  have k1 : CF s s1 := k1
  have k2 : CI X' s1 := k2
  have k3 : y = c := k3
  have k4 : c = 0 → gl s1 100 0 = v ∧ R v := k4
  have e : ∀ k, gi s1 1200 k = gi s 1200 k := fun k => k1 1200 k (by omega)
  rw [grd_t ⟨by omega, by omega⟩, e, k3]
  exact law_tail (s0 := s) hc k2 k1 k4 (kM s1 (hM.cf hX k1)) fun s2 m1 m2 m3 => l_fin hX' m1 m2 m3 hR
theorem L_b2557 (hI : LInv s) (h0 : 0 ≤ x5) (hx : x5 + 3 < (L : Int)) : okP (La_law_b2557 L x5 s) (QL x5) := by
  obtain ⟨X, hX, h8, hC, hM, hR⟩ := hI
  obtain ⟨v, hv, kC, kM⟩ := os_outputByte hX (hR (x5 + 1).toNat)
  unfold La_law_b2557
  rw [grd_t ⟨by omega, by omega⟩, kC s hC, bnd_some, grd_t ⟨by omega, by omega⟩]
  refine okP_bnd2 (kM s hM) ?_
  rintro y' s2 - ⟨m1, m2, m3, m4⟩
  have m1 : MF s s2 := m1
  have m2 : MI X s2 := m2
  have m4 : y' = v := m4 rfl
  rw [m4, ifEq_t hv hv rfl]
  exact l_fin hX (hC.mf m1) m2 (fun k => m1.1 1200 k (by omega)) hR
theorem L_b2582 (hI : LInv s) (h0 : 0 ≤ x5) (hx : x5 + 3 < (L : Int)) : okP (La_law_b2582 L x5 s) (QL x5) := by
  obtain ⟨X, hX, h8, hC, hM, hR⟩ := hI
  obtain ⟨v, X', hv, hX', kC, kM⟩ := on_undo hX h8
  unfold La_law_b2582
  refine okP_bnd2 (kC s hC) ?_
  rintro y s1 - ⟨k1, k2, k3⟩
  have k1 : CF s s1 := k1
  have k2 : CI X' s1 := k2
  have k3 : y = v := k3
  refine okP_bnd2 (kM s1 (hM.cf hX k1)) ?_
  rintro y' s2 - ⟨m1, m2, m3, m4⟩
  have m1 : MF s1 s2 := m1
  have m2 : MI X' s2 := m2
  have m4 : y' = v := m4 rfl
  rw [k3, m4, ifEq_t hv hv rfl]
  exact l_fin hX' (k2.mf m1) m2 (fun k => (m1.1 1200 k (by omega)).trans (k1 1200 k (by omega))) hR
theorem L_b2595 (hI : LInv s) (h0 : 0 ≤ x5) (hx : x5 + 3 < (L : Int)) : okP (La_law_b2595 L x5 s) (QL x5) := by
  obtain ⟨X, hX, h8, hC, hM, hR⟩ := hI
  obtain ⟨c, v, X', hc, hX', kC, kM⟩ := op_saveSnapshot hX (hR (x5 + 1).toNat)
  unfold La_law_b2595
  rw [grd_t ⟨by omega, by omega⟩]
  refine okP_bnd2 (la_ok (kC s hC)) ?_
  rintro y s1 - ⟨k1, k2, k3, k4⟩
  have k1 : CF s s1 := k1
  have k2 : CI X' s1 := k2
  have k3 : y = c := k3
  have k4 : c = 0 → gl s1 100 0 = v ∧ R v := k4
  have e : ∀ k, gi s1 1200 k = gi s 1200 k := fun k => k1 1200 k (by omega)
  rw [grd_t ⟨by omega, by omega⟩, e, k3]
  exact law_tail (s0 := s) hc k2 k1 k4 (kM s1 (hM.cf hX k1)) fun s2 m1 m2 m3 => l_fin hX' m1 m2 m3 hR
theorem L_b2651 (hI : LInv s) (h0 : 0 ≤ x5) (hx : x5 + 3 < (L : Int)) : okP (La_law_b2651 L x5 s) (QL x5) := by
  obtain ⟨X, hX, h8, hC, hM, hR⟩ := hI
  obtain ⟨c, v, X', hc, hX', kC, kM⟩ := op_restoreSnapshot hX (hR (x5 + 1).toNat)
  unfold La_law_b2651
  rw [grd_t ⟨by omega, by omega⟩]
  refine okP_bnd2 (la_ok (kC s hC)) ?_
  rintro y s1 - ⟨k1, k2, k3, k4⟩
  have k1 : CF s s1 := k1
  have k2 : CI X' s1 := k2
  have k3 : y = c := k3
  have k4 : c = 0 → gl s1 100 0 = v ∧ R v := k4
  have e : ∀ k, gi s1 1200 k = gi s 1200 k := fun k => k1 1200 k (by omega)
  rw [grd_t ⟨by omega, by omega⟩, e, k3]
  exact law_tail (s0 := s) hc k2 k1 k4 (kM s1 (hM.cf hX k1)) fun s2 m1 m2 m3 => l_fin hX' m1 m2 m3 hR
theorem L_b2707 (hI : LInv s) (h0 : 0 ≤ x5) (hx : x5 + 3 < (L : Int)) : okP (La_law_b2707 L x5 s) (QL x5) := by
  obtain ⟨X, hX, h8, hC, hM, hR⟩ := hI
  unfold La_law_b2707
  exact l_fin hX hC hM (fun _ => rfl) hR
theorem t28_ok (hI : LInv s) (h0 : 0 ≤ x5) (hL : L ≤ 2048) (hx : x5 ≤ (L : Int)) : okP (La_law_t28 L x5 s) (fun o => (∃ s', o = .inl (x5 + 4, s') ∧ LInv s' ∧ x5 + 4 ≤ (L : Int)) ∨ ∃ r, o = .inr r) := by
  have hRx : R (iandI (gi s 1200 x5.toNat) 63) := by
    unfold iandI
    have h1 := (Int32.ofInt (gi s 1200 x5.toNat) &&& Int32.ofInt 63).le_toInt
    have h2 := (Int32.ofInt (gi s 1200 x5.toNat) &&& Int32.ofInt 63).toInt_lt
    unfold R
    omega
  unfold La_law_t28
  rw [grd_t ⟨h0, by omega⟩, ifLt_eq _ _ (by unfold R; omega) (by unfold R; omega)]
  by_cases q : (L : Int) - 4 < x5
  · rw [if_pos q]
    exact okP_some (Or.inr ⟨s, rfl⟩)
  · have hx3 : x5 + 3 < (L : Int) := by omega
    rw [if_neg q, grd_t ⟨h0, by omega⟩]
    refine okP_mono (Q := QL x5) ?_ (fun o ho => ho.imp (fun ⟨s', e, k⟩ => ⟨s', e, k, by omega⟩) id)
    refine okP_ifEq hRx (by unfold R; omega) (fun _ => L_b264 hI h0 hx3) (fun _ => ?_)
    refine okP_ifEq hRx (by unfold R; omega) (fun _ => L_b321 hI h0 hx3) (fun _ => ?_)
    refine okP_ifEq hRx (by unfold R; omega) (fun _ => L_b334 hI h0 hx3) (fun _ => ?_)
    refine okP_ifEq hRx (by unfold R; omega) (fun _ => L_b347 hI h0 hx3) (fun _ => ?_)
    refine okP_ifEq hRx (by unfold R; omega) (fun _ => L_b360 hI h0 hx3) (fun _ => ?_)
    refine okP_ifEq hRx (by unfold R; omega) (fun _ => L_b416 hI h0 hx3) (fun _ => ?_)
    refine okP_ifEq hRx (by unfold R; omega) (fun _ => L_b472 hI h0 hx3) (fun _ => ?_)
    refine okP_ifEq hRx (by unfold R; omega) (fun _ => L_b540 hI h0 hx3) (fun _ => ?_)
    refine okP_ifEq hRx (by unfold R; omega) (fun _ => L_b608 hI h0 hx3) (fun _ => ?_)
    refine okP_ifEq hRx (by unfold R; omega) (fun _ => L_b664 hI h0 hx3) (fun _ => ?_)
    refine okP_ifEq hRx (by unfold R; omega) (fun _ => L_b720 hI h0 hx3) (fun _ => ?_)
    refine okP_ifEq hRx (by unfold R; omega) (fun _ => L_b795 hI h0 hx3) (fun _ => ?_)
    refine okP_ifEq hRx (by unfold R; omega) (fun _ => L_b879 hI h0 hx3) (fun _ => ?_)
    refine okP_ifEq hRx (by unfold R; omega) (fun _ => L_b959 hI h0 hx3) (fun _ => ?_)
    refine okP_ifEq hRx (by unfold R; omega) (fun _ => L_b1027 hI h0 hx3) (fun _ => ?_)
    refine okP_ifEq hRx (by unfold R; omega) (fun _ => L_b1083 hI h0 hx3) (fun _ => ?_)
    refine okP_ifEq hRx (by unfold R; omega) (fun _ => L_b1146 hI h0 hx3) (fun _ => ?_)
    refine okP_ifEq hRx (by unfold R; omega) (fun _ => L_b1202 hI h0 hx3) (fun _ => ?_)
    refine okP_ifEq hRx (by unfold R; omega) (fun _ => L_b1258 hI h0 hx3) (fun _ => ?_)
    refine okP_ifEq hRx (by unfold R; omega) (fun _ => L_b1326 hI h0 hx3) (fun _ => ?_)
    refine okP_ifEq hRx (by unfold R; omega) (fun _ => L_b1339 hI h0 hx3) (fun _ => ?_)
    refine okP_ifEq hRx (by unfold R; omega) (fun _ => L_b1395 hI h0 hx3) (fun _ => ?_)
    refine okP_ifEq hRx (by unfold R; omega) (fun _ => L_b1463 hI h0 hx3) (fun _ => ?_)
    refine okP_ifEq hRx (by unfold R; omega) (fun _ => L_b1519 hI h0 hx3) (fun _ => ?_)
    refine okP_ifEq hRx (by unfold R; omega) (fun _ => L_b1532 hI h0 hx3) (fun _ => ?_)
    refine okP_ifEq hRx (by unfold R; omega) (fun _ => L_b1612 hI h0 hx3) (fun _ => ?_)
    refine okP_ifEq hRx (by unfold R; omega) (fun _ => L_b1680 hI h0 hx3) (fun _ => ?_)
    refine okP_ifEq hRx (by unfold R; omega) (fun _ => L_b1770 hI h0 hx3) (fun _ => ?_)
    refine okP_ifEq hRx (by unfold R; omega) (fun _ => L_b1847 hI h0 hx3) (fun _ => ?_)
    refine okP_ifEq hRx (by unfold R; omega) (fun _ => L_b1860 hI h0 hx3) (fun _ => ?_)
    refine okP_ifEq hRx (by unfold R; omega) (fun _ => L_b1873 hI h0 hx3) (fun _ => ?_)
    refine okP_ifEq hRx (by unfold R; omega) (fun _ => L_b1886 hI h0 hx3) (fun _ => ?_)
    refine okP_ifEq hRx (by unfold R; omega) (fun _ => L_b1942 hI h0 hx3) (fun _ => ?_)
    refine okP_ifEq hRx (by unfold R; omega) (fun _ => L_b2022 hI h0 hx3) (fun _ => ?_)
    refine okP_ifEq hRx (by unfold R; omega) (fun _ => L_b2078 hI h0 hx3) (fun _ => ?_)
    refine okP_ifEq hRx (by unfold R; omega) (fun _ => L_b2103 hI h0 hx3) (fun _ => ?_)
    refine okP_ifEq hRx (by unfold R; omega) (fun _ => L_b2159 hI h0 hx3) (fun _ => ?_)
    refine okP_ifEq hRx (by unfold R; omega) (fun _ => L_b2172 hI h0 hx3) (fun _ => ?_)
    refine okP_ifEq hRx (by unfold R; omega) (fun _ => L_b2185 hI h0 hx3) (fun _ => ?_)
    refine okP_ifEq hRx (by unfold R; omega) (fun _ => L_b2253 hI h0 hx3) (fun _ => ?_)
    refine okP_ifEq hRx (by unfold R; omega) (fun _ => L_b2309 hI h0 hx3) (fun _ => ?_)
    refine okP_ifEq hRx (by unfold R; omega) (fun _ => L_b2322 hI h0 hx3) (fun _ => ?_)
    refine okP_ifEq hRx (by unfold R; omega) (fun _ => L_b2378 hI h0 hx3) (fun _ => ?_)
    refine okP_ifEq hRx (by unfold R; omega) (fun _ => L_b2391 hI h0 hx3) (fun _ => ?_)
    refine okP_ifEq hRx (by unfold R; omega) (fun _ => L_b2404 hI h0 hx3) (fun _ => ?_)
    refine okP_ifEq hRx (by unfold R; omega) (fun _ => L_b2445 hI h0 hx3) (fun _ => ?_)
    refine okP_ifEq hRx (by unfold R; omega) (fun _ => L_b2501 hI h0 hx3) (fun _ => ?_)
    refine okP_ifEq hRx (by unfold R; omega) (fun _ => L_b2557 hI h0 hx3) (fun _ => ?_)
    refine okP_ifEq hRx (by unfold R; omega) (fun _ => L_b2582 hI h0 hx3) (fun _ => ?_)
    refine okP_ifEq hRx (by unfold R; omega) (fun _ => L_b2595 hI h0 hx3) (fun _ => ?_)
    refine okP_ifEq hRx (by unfold R; omega) (fun _ => L_b2651 hI h0 hx3) (fun _ => ?_)
    exact L_b2707 hI h0 hx3
end LAWP

/-! ===== the reference's small methods ===== -/
noncomputable def bI (p : Prop) : Int := @ite _ p (Classical.propDecidable _) 1 0
theorem bI_t {p : Prop} (h : p) : bI p = 1 := if_pos h
theorem bI_f {p : Prop} (h : ¬ p) : bI p = 0 := if_neg h
theorem bI_rg (p : Prop) : bI p = 0 ∨ bI p = 1 := by
  by_cases h : p
  · exact Or.inr (bI_t h)
  · exact Or.inl (bI_f h)
theorem RL_of {x : Int} (h : R x) : RL64 x := by unfold R at h; unfold RL64; omega
def MoN (s : Sg) (n : Nat) : Prop := 2 ≤ n ∧ n ≤ 9 ∧ gi s 81 0 = (n : Int)
theorem MoN.ch {s s' : Sg} {n : Nat} {L : List Nat} (h : MoN s n) (hc : Ch L s s') (h1 : 81 ∉ L) : MoN s' n := ⟨h.1, h.2.1, by rw [hc.g 81 h1]; exact h.2.2⟩
theorem lcmp_pos {x y : Int} : 0 < lcmpI x y ↔ y < x := by
  unfold lcmpI
  split
  · omega
  · split <;> omega
theorem lcmp_R (x y : Int) : R (lcmpI x y) := by
  unfold lcmpI R
  split
  · omega
  · split <;> omega
theorem Mo_in_eq {x l h : Int} {s : Sg} (hx : RL64 x) (hl : RL64 l) (hh : RL64 h) : Mo_in x l h s = some (if l ≤ x ∧ x ≤ h then 1 else 0) := by
  unfold Mo_in
  rw [grd_t ⟨hl, hx⟩, ifLt_eq _ _ R0 (lcmp_R _ _), grd_t ⟨hx, hh⟩, ifLt_eq _ _ R0 (lcmp_R _ _)]
  simp only [lcmp_pos]
  by_cases h1 : x < l
  · rw [if_pos h1, if_neg (by omega)]
  · rw [if_neg h1]
    by_cases h2 : h < x
    · rw [if_pos h2, if_neg (by omega)]
    · rw [if_neg h2, if_pos (by omega)]
theorem Mo_cells_eq {s : Sg} {n : Nat} (h : MoN s n) : Mo_cells s = some ((n * n : Nat) : Int) := by
  unfold Mo_cells
  rw [grd_t (by omega), grd_t (by omega), h.2.2]
  simp
theorem Mo_stone_eq {s : Sg} {c : Nat} (h : c < 281) : Mo_stone (c : Int) s = some (gi s 81 (5 + c)) := by
  unfold Mo_stone
  rw [grd_t (by omega)]
  have e : (5 + (c : Int)).toNat = 5 + c := by omega
  rw [e]
theorem Mo_row_eq {s : Sg} {n c : Nat} (h : MoN s n) (hc : c ≤ 1000) : Mo_row (c : Int) s = some ((c / n : Nat) : Int) := by
  obtain ⟨h1, h2, h3⟩ := h
  unfold Mo_row
  rw [grd_t (by omega), h3, grd_t ⟨⟨by omega, R_nat (by omega)⟩, by omega, R_nat (by omega)⟩]
  simp
theorem Mo_column_eq {s : Sg} {n c : Nat} (h : MoN s n) (hc : c ≤ 1000) : Mo_column (c : Int) s = some ((c % n : Nat) : Int) := by
  obtain ⟨h1, h2, h3⟩ := h
  unfold Mo_column
  rw [grd_t (by omega), h3, grd_t ⟨⟨by omega, R_nat (by omega)⟩, by omega, R_nat (by omega)⟩]
  simp
theorem Mo_round_b60_eq {s : Sg} {n : Nat} {r q d : Int} (h : MoN s n) (hr : -10 ≤ r ∧ r ≤ 1000) (hq : -10 ≤ q + d ∧ q + d ≤ 1000) : Mo_round_b60 r q d s = some (cellv n r (q + d)) := by
  obtain ⟨h1, h2, h3⟩ := h
  have hRr : R r := by unfold R; omega
  have hRq : R (q + d) := by unfold R; omega
  have hRn : R ((n : Int) - 1) := by unfold R; omega
  unfold Mo_round_b60 cellv
  rw [lett_eq, grd_t hRr, grd_t (by omega), h3, grd_t hRn, Mo_in_eq (RL_of hRr) (RL_of R0) (RL_of hRn), bnd_some]
  by_cases c1 : 0 ≤ r ∧ r ≤ (n : Int) - 1
  · rw [if_pos c1, ifEq_eq _ _ (by unfold R; omega) R0, if_neg (by omega), grd_t hRq, grd_t (by omega), grd_t hRn, Mo_in_eq (RL_of hRq) (RL_of R0) (RL_of hRn), bnd_some]
    by_cases c2 : 0 ≤ q + d ∧ q + d ≤ (n : Int) - 1
    · rw [if_pos c2, ifEq_eq _ _ (by unfold R; omega) R0, if_neg (by omega), grd_t (by omega), if_pos ⟨c1.1, by omega, c2.1, by omega⟩]
    · rw [if_neg c2, ifEq_eq _ _ R0 R0, if_pos rfl, if_neg (by omega)]
  · rw [if_neg c1, ifEq_eq _ _ R0 R0, if_pos rfl, if_neg (by omega)]
theorem Mo_round_eq {s : Sg} {n c k : Nat} (h : MoN s n) (hc : c < n * n) (hk : k < 6) : Mo_round (c : Int) (k : Int) s = some (rnd n c k) := by
  have h81 := nn_le h.2.1
  have hn := h.1
  have hd : c / n < n := Nat.div_lt_of_lt_mul hc
  have hm : c % n < n := Nat.mod_lt _ (by omega)
  have hn9 := h.2.1
  have hkR : R (k : Int) := R_nat (by omega)
  have R1 : R 1 := by unfold R; omega
  have R2 : R 2 := by unfold R; omega
  have R3 : R 3 := by unfold R; omega
  have R4 : R 4 := by unfold R; omega
  have hd0 : (0 : Int) ≤ ((c / n : Nat) : Int) := Int.natCast_nonneg _
  have hm0 : (0 : Int) ≤ ((c % n : Nat) : Int) := Int.natCast_nonneg _
  have key : ∀ (k : Nat) (dr : Int), k < 6 → drow k = dr → Mo_round_b24 (c : Int) (k : Int) ((c / n : Nat) : Int) dr s = some (rnd n c k) := by
    intro k dr hk hdr
    have hkR : R (k : Int) := R_nat (by omega)
    have hdr2 : -1 ≤ dr ∧ dr ≤ 1 := by
      have : ∀ k, k < 6 → -1 ≤ drow k ∧ drow k ≤ 1 := by decide
      rw [← hdr]; exact this k hk
    unfold Mo_round_b24 Mo_round_b41 Mo_round_b55
    rw [lett_eq, Mo_column_eq h (by omega), bnd_some, ifEq_eq _ _ hkR R1, ifEq_eq _ _ hkR R3, ifEq_eq _ _ hkR R2, ifEq_eq _ _ hkR R4]
    have fin : ∀ d : Int, dcol k = d → Mo_round_b60 (((c / n : Nat) : Int) + dr) ((c % n : Nat) : Int) d s = some (rnd n c k) := by
      intro d hd'
      have hd2 : -1 ≤ d ∧ d ≤ 1 := by
        have : ∀ k, k < 6 → -1 ≤ dcol k ∧ dcol k ≤ 1 := by decide
        rw [← hd']; exact this k hk
      rw [Mo_round_b60_eq h ⟨by omega, by omega⟩ ⟨by omega, by omega⟩]
      unfold rnd
      rw [hdr, hd']
    obtain rfl | rfl | rfl | rfl | rfl | rfl : k = 0 ∨ k = 1 ∨ k = 2 ∨ k = 3 ∨ k = 4 ∨ k = 5 := by omega
    · rw [if_neg (by omega), if_neg (by omega), if_neg (by omega), if_neg (by omega)]; exact fin 0 rfl
    · rw [if_pos (by omega)]; exact fin 1 rfl
    · rw [if_neg (by omega), if_neg (by omega), if_pos (by omega)]; exact fin (-1) rfl
    · rw [if_neg (by omega), if_pos (by omega)]; exact fin 1 rfl
    · rw [if_neg (by omega), if_neg (by omega), if_neg (by omega), if_pos (by omega)]; exact fin (-1) rfl
    · rw [if_neg (by omega), if_neg (by omega), if_neg (by omega), if_neg (by omega)]; exact fin 0 rfl
  unfold Mo_round
  rw [Mo_row_eq h (by omega), bnd_some, ifLt_eq _ _ hkR R2, ifLt_eq _ _ hkR R4]
  by_cases k2 : (k : Int) < 2
  · rw [if_pos k2]
    exact key k (-1) hk (by obtain rfl | rfl : k = 0 ∨ k = 1 := by omega
                            · rfl
                            · rfl)
  · rw [if_neg k2]
    by_cases k4 : (k : Int) < 4
    · rw [if_pos k4]
      exact key k 0 hk (by obtain rfl | rfl : k = 2 ∨ k = 3 := by omega
                           · rfl
                           · rfl)
    · rw [if_neg k4]
      exact key k 1 hk (by obtain rfl | rfl : k = 4 ∨ k = 5 := by omega
                           · rfl
                           · rfl)
theorem Mo_edges_b17_eq {s : Sg} {n l : Nat} (h : MoN s n) (hl : l ≤ 1000) : Mo_edges_b17 (l : Int) s = some (edgeOf n l) := by
  obtain ⟨h1, h2, h3⟩ := h
  have hlR : R (l : Int) := R_nat (by omega)
  have hnR : R ((n : Int) - 1) := by unfold R; omega
  unfold Mo_edges_b17 Mo_edges_b27 Mo_edges_b44 edgeOf
  rw [ifEq_eq _ _ hlR R0, grd_t (by omega), grd_t (by omega), h3, ifEq_eq _ _ hlR hnR, ifEq_eq _ _ hlR hnR]
  by_cases e0 : l = 0
  · subst e0
    rw [if_pos (show ((0 : Nat) : Int) = 0 from rfl), if_neg (by omega), if_pos rfl]; rfl
  · rw [if_neg (by omega), if_neg e0]
    by_cases e1 : l = n - 1
    · rw [if_pos (by omega), if_pos e1]; rfl
    · rw [if_neg (by omega), if_neg e1]; rfl
theorem Mo_edges_eq {s : Sg} {n c : Nat} {sd : Int} (h : MoN s n) (hc : c < n * n) (hsd : sd = 0 ∨ sd = 1) : Mo_edges sd (c : Int) s = some (edg n sd c) := by
  have h81 := nn_le h.2.1
  have hn := h.1
  have hd : c / n < n := Nat.div_lt_of_lt_mul hc
  have hm : c % n < n := Nat.mod_lt _ (by omega)
  have hn9 := h.2.1
  unfold Mo_edges edg
  rw [ifEq_eq _ _ (by unfold R; omega) R0, Mo_row_eq h (by omega), bnd_some, Mo_column_eq h (by omega), bnd_some, Mo_edges_b17_eq h (by omega), Mo_edges_b17_eq h (by omega)]
  split <;> rfl
/-! ===== marks that are lowered ===== -/
def msum (g : Nat → Int) : Nat → Nat
  | 0 => 0
  | N + 1 => msum g N + (g N).toNat
theorem msum_le {g h : Nat → Int} : ∀ {N : Nat}, (∀ i, i < N → g i ≤ h i) → msum g N ≤ msum h N
  | 0, _ => Nat.le_refl 0
  | N + 1, k => by
    have ih := msum_le (N := N) (fun i hi => k i (by omega))
    have := k N (by omega)
    show msum g N + (g N).toNat ≤ msum h N + (h N).toNat
    omega
theorem msum_lt {g h : Nat → Int} {j : Nat} : ∀ {N : Nat}, (∀ i, i < N → g i ≤ h i) → j < N → g j < h j → 0 ≤ g j → msum g N < msum h N
  | 0, _, hj, _, _ => by omega
  | N + 1, k, hj, hlt, h0 => by
    show msum g N + (g N).toNat < msum h N + (h N).toNat
    have hN := k N (by omega)
    by_cases e : j = N
    · subst e
      have := msum_le (N := j) (fun i hi => k i (by omega))
      omega
    · have := msum_lt (N := N) (fun i hi => k i (by omega)) (by omega) hlt h0
      omega
/-- marks: each one is reached, and not above its cell -/
def Mq (n : Nat) (E : Nat → Nat → Prop) (g : Nat → Int) : Prop := ∀ c, c < n * n → ∃ v : Nat, g c = (v : Int) ∧ v ≤ c ∧ Rch E c v
theorem Mq_lab {n : Nat} {E : Nat → Nat → Prop} {g : Nat → Int} (hE : ∀ u v, E u v → E v u) (hin : ∀ u v, E u v → u < n * n ∧ v < n * n) (h : Mq n E g) (hc : ∀ x y, E x y → g x = g y) (c : Nat) (hcn : c < n * n) : g c = (lab E c : Int) := by
  have h1 : g c = g (lab E c) := lab_r E c (fun z => g c = g z) rfl fun u v hu e => hu.trans (hc u v e)
  have h2 : lab E c < n * n := by have := lab_le E c; omega
  obtain ⟨v, e1, e2, e3⟩ := h (lab E c) h2
  obtain ⟨w, f1, f2, f3⟩ := h c hcn
  have hvw : v = w := by rw [e1, f1] at h1; omega
  have : lab E c ≤ w := lab_m f3
  rw [f1]; omega
theorem Mo_lowers_ok {s : Sg} {r n x y : Nat} {E : Nat → Nat → Prop} (hr : n * n ≤ alen r) (hx : x < n * n) (hy : y < n * n) (hn : n ≤ 9) (hm : Mq n E (gi s r)) (hE : E x y) (hsy : ∀ u v, E u v → E v u) :
    okP (Mo_lowers r (x : Int) (y : Int) s) (fun o => Ch [r] s o.2 ∧ Mq n E (gi o.2 r) ∧ (∀ c, c < n * n → gi o.2 r c ≤ gi s r c) ∧ ((o.1 = 0 ∧ gi s r x = gi s r y ∧ ∀ c, gi o.2 r c = gi s r c) ∨ (o.1 = 1 ∧ ∃ j, j < n * n ∧ gi o.2 r j < gi s r j))) := by
  have h81 := nn_le hn
  obtain ⟨v, v1, v2, v3⟩ := hm x hx
  obtain ⟨w, w1, w2, w3⟩ := hm y hy
  have hv : R (gi s r x) := by rw [v1]; exact R_nat (by omega)
  have hw : R (gi s r y) := by rw [w1]; exact R_nat (by omega)
  have hbx : 0 ≤ (x : Int) ∧ (x : Int) < (alen r : Int) := by omega
  have hby : 0 ≤ (y : Int) ∧ (y : Int) < (alen r : Int) := by omega
  unfold Mo_lowers Mo_lowers_b25
  rw [grd_t hbx, grd_t hby]
  show okP (grd (R (gi s r x) ∧ R (gi s r y)) _) _
  rw [grd_t ⟨hv, hw⟩, lett_eq, grd_t hbx, grd_t hby]
  show okP (ifEq (gi s r x) (gi s r y) _ _) _
  rw [ifEq_eq _ _ hv hw, grd_t hbx, lett_eq, grd_t hby, lett_eq, grd_t hbx, lett_eq, grd_t hby, lett_eq, grd_t b01_0, grd_t b01_1]
  have em : min (gi s r x) (gi s r y) = ((min v w : Nat) : Int) := by rw [v1, w1]; omega
  have hg : ∀ c, gi (si (si s r (x : Int).toNat (min (gi s r (x : Int).toNat) (gi s r (y : Int).toNat))) r (y : Int).toNat (min (gi s r (x : Int).toNat) (gi s r (y : Int).toNat))) r c = if c = x ∨ c = y then ((min v w : Nat) : Int) else gi s r c := by
    intro c
    show gi (si (si s r x (min (gi s r x) (gi s r y))) r y (min (gi s r x) (gi s r y))) r c = _
    rw [gi_si_r, gi_si_r, em]
    by_cases c1 : c = y
    · rw [if_pos c1, if_pos (Or.inr c1)]
    · rw [if_neg c1]
      by_cases c2 : c = x
      · rw [if_pos c2, if_pos (Or.inl c2)]
      · rw [if_neg c2, if_neg (fun q => q.elim c2 c1)]
  have hCh : Ch [r] s (si (si s r (x : Int).toNat (min (gi s r (x : Int).toNat) (gi s r (y : Int).toNat))) r (y : Int).toNat (min (gi s r (x : Int).toNat) (gi s r (y : Int).toNat))) := (Ch.si (List.mem_singleton.mpr rfl) (ne80' (by omega))).tr (Ch.si (List.mem_singleton.mpr rfl) (ne80' (by omega)))
  have hMk : Mq n E (gi (si (si s r (x : Int).toNat (min (gi s r (x : Int).toNat) (gi s r (y : Int).toNat))) r (y : Int).toNat (min (gi s r (x : Int).toNat) (gi s r (y : Int).toNat))) r) := by
    intro c hc
    rw [hg c]
    by_cases h1 : c = x ∨ c = y
    · rw [if_pos h1]
      refine ⟨min v w, rfl, ?_, ?_⟩
      · rcases h1 with h1 | h1 <;> subst h1 <;> omega
      · by_cases hvw : v ≤ w
        · have e : min v w = v := by omega
          rw [e]
          rcases h1 with h1 | h1
          · subst h1; exact v3
          · subst h1; exact (Rch.one (hsy _ _ hE)).tr v3
        · have e : min v w = w := by omega
          rw [e]
          rcases h1 with h1 | h1
          · subst h1; exact (Rch.one hE).tr w3
          · subst h1; exact w3
    · rw [if_neg h1]; exact hm c hc
  have hle : ∀ c, c < n * n → gi (si (si s r (x : Int).toNat (min (gi s r (x : Int).toNat) (gi s r (y : Int).toNat))) r (y : Int).toNat (min (gi s r (x : Int).toNat) (gi s r (y : Int).toNat))) r c ≤ gi s r c := by
    intro c hc
    rw [hg c]
    by_cases h1 : c = x ∨ c = y
    · rw [if_pos h1]
      rcases h1 with h1 | h1
      · subst h1; rw [v1]; omega
      · subst h1; rw [w1]; omega
    · rw [if_neg h1]; exact Int.le_refl _
  by_cases e : gi s r x = gi s r y
  · rw [if_pos e]
    refine okP_some ⟨hCh, hMk, hle, Or.inl ⟨rfl, e, fun c => ?_⟩⟩
    show gi (si (si s r (x : Int).toNat _) r (y : Int).toNat _) r c = _
    rw [hg c]
    have hvw : v = w := by rw [v1, w1] at e; omega
    by_cases h1 : c = x ∨ c = y
    · rw [if_pos h1]
      rcases h1 with h1 | h1
      · subst h1; rw [v1]; omega
      · subst h1; rw [w1]; omega
    · rw [if_neg h1]
  · rw [if_neg e]
    have hvw : v ≠ w := fun q => e (by rw [v1, w1, q])
    refine okP_some ⟨hCh, hMk, hle, Or.inr ⟨rfl, ?_⟩⟩
    by_cases hlt : v < w
    · refine ⟨y, hy, ?_⟩
      show gi (si (si s r (x : Int).toNat _) r (y : Int).toNat _) r y < _
      rw [hg y, if_pos (Or.inr rfl), w1]; omega
    · refine ⟨x, hx, ?_⟩
      show gi (si (si s r (x : Int).toNat _) r (y : Int).toNat _) r x < _
      rw [hg x, if_pos (Or.inl rfl), v1]; omega
/-- one pass over all neighbours -/
theorem lowersNeighbours_ok {s : Sg} {r n : Nat} {f : Nat → Int} {E : Nat → Nat → Prop} (hN : MoN s n) (hr : n * n ≤ alen r ∧ r ≠ 81) (hf : ∀ c, c < n * n → gi s 81 (5 + c) = f c) (hfr : ∀ c, c < n * n → f c = -1 ∨ f c = 0 ∨ f c = 1) (hsy : ∀ u v, E u v → E v u) (hEb : ∀ u v, Eb n f u v → E u v) (hm : Mq n E (gi s r)) :
    okP (Mo_lowersNeighbours r s) (fun o => Ch [r] s o.2 ∧ Mq n E (gi o.2 r) ∧ (∀ c, c < n * n → gi o.2 r c ≤ gi s r c) ∧ ((o.1 = 0 ∧ (∀ c, c < n * n → gi o.2 r c = gi s r c) ∧ ∀ x y, Eb n f x y → gi s r x = gi s r y) ∨ (o.1 = 1 ∧ ∃ j, j < n * n ∧ gi o.2 r j < gi s r j))) := by
  have h81 := nn_le hN.2.1
  -- what holds behind the cells below i and the places below k of the cell i
  have hfR : ∀ c, c < n * n → R (f c) := fun c hc => by rcases hfr c hc with h | h | h <;> rw [h] <;> unfold R <;> omega
  let I : (Nat → Nat → Prop) → Int → Sg → Prop := fun D y t => Ch [r] s t ∧ Mq n E (gi t r) ∧ (∀ c, c < n * n → gi t r c ≤ gi s r c) ∧ ((y = 0 ∧ (∀ c, c < n * n → gi t r c = gi s r c) ∧ ∀ u v, D u v → Eb n f u v → gi s r u = gi s r v) ∨ (y = 1 ∧ ∃ j, j < n * n ∧ gi t r j < gi s r j))
  unfold Mo_lowersNeighbours Mo_lowersNeighbours_l4
  refine okP_bnd (P := fun o => I (fun u _ => u < n * n) o.1 o.2) (whl_for (fun (i : Nat) (t : Int × Sg) => (t.1, (i : Int), t.2)) (n * n) (fun i t => I (fun u _ => u < i) t.1 t.2) (t0 := (0, s)) (Nat.zero_le _) ⟨Ch.rf _ _, hm, fun _ _ => Int.le_refl _, Or.inl ⟨rfl, fun _ _ => rfl, fun u v h => absurd h (Nat.not_lt_zero _)⟩⟩ ?_ ?_) ?_
  · rintro i ⟨y, t⟩ hi hI
    show okP (Mo_lowersNeighbours_t4 r y (i : Int) t) _
    have hNt : MoN t n := hN.ch hI.1 (by simp; exact fun q => hr.2 q.symm)
    unfold Mo_lowersNeighbours_t4
    rw [Mo_cells_eq hNt, bnd_some, ifLt_eq _ _ (R_nat (by omega)) (R_nat (by omega)), if_pos (by omega)]
    unfold Mo_lowersNeighbours_l15
    refine okP_bnd (P := fun o => I (fun u _ => u < i + 1) o.1 o.2) (whl_for (fun (k : Nat) (t : Int × Sg) => (t.1, (k : Int), t.2)) 6 (fun k t => I (fun u v => u < i ∨ (u = i ∧ ∃ k', k' < k ∧ rnd n i k' = (v : Int))) t.1 t.2) (t0 := (y, t)) (Nat.zero_le 6) ?_ ?_ ?_) ?_
    · obtain ⟨h1, h2, h3, h4⟩ := hI
      refine ⟨h1, h2, h3, ?_⟩
      rcases h4 with ⟨g1, g2, g3⟩ | h4
      · exact Or.inl ⟨g1, g2, fun u v hD e => g3 u v (hD.elim id fun q => by obtain ⟨-, k', hk', -⟩ := q; exact absurd hk' (Nat.not_lt_zero _)) e⟩
      · exact Or.inr h4
    · rintro k ⟨y, t⟩ hk hI
      have hNt : MoN t n := hN.ch hI.1 (by simp; exact fun q => hr.2 q.symm)
      have hft : ∀ c, c < n * n → gi t 81 (5 + c) = f c := fun c hc => by rw [hI.1.g 81 (by simp; exact fun q => hr.2 q.symm)]; exact hf c hc
      show okP (Mo_lowersNeighbours_t15 r y (i : Int) (k : Int) t) _
      -- nothing to do at this place
      have keep : (∀ v : Nat, rnd n i k = (v : Int) → ¬ Eb n f i v) → okP (some (.inl (y, (k : Int) + 1, t)) : Option ((Int × Int × Sg) ⊕ (Int × Sg))) (fun o => (∃ t' : Int × Sg, o = .inl ((t'.1 : Int), ((k + 1 : Nat) : Int), t'.2) ∧ I (fun u v => u < i ∨ (u = i ∧ ∃ k', k' < k + 1 ∧ rnd n i k' = (v : Int))) t'.1 t'.2) ∨ ∃ r', o = .inr r' ∧ I (fun u _ => u < i + 1) r'.1 r'.2) := by
        intro hno
        refine okP_some (Or.inl ⟨(y, t), rfl, ?_⟩)
        obtain ⟨h1, h2, h3, h4⟩ := hI
        refine ⟨h1, h2, h3, ?_⟩
        rcases h4 with ⟨g1, g2, g3⟩ | h4
        · refine Or.inl ⟨g1, g2, fun u v hD e => ?_⟩
          rcases hD with hD | ⟨rfl, k', hk', hv⟩
          · exact g3 u v (Or.inl hD) e
          · by_cases ek : k' = k
            · subst ek; exact absurd e (hno v hv)
            · exact g3 u v (Or.inr ⟨rfl, k', by omega, hv⟩) e
        · exact Or.inr h4
      unfold Mo_lowersNeighbours_t15 Mo_lowersNeighbours_b73
      rw [ifLt_eq _ _ (R_nat (by omega)) (by unfold R; omega), if_pos (by omega), Mo_round_eq hNt hi hk, bnd_some]
      rcases rnd_rg n i k with hv | ⟨z, hv, hz⟩
      · rw [hv, ifEq_eq _ _ R_n1 R_n1, if_pos rfl]
        exact keep fun v e => by rw [hv] at e; omega
      · rw [hv, ifEq_eq _ _ (R_nat (by omega)) R_n1, if_neg (by omega), Mo_stone_eq (by omega), bnd_some, hft i hi, ifEq_eq _ _ (hfR i hi) R_n1]
        by_cases e1 : f i = -1
        · rw [if_pos e1]
          exact keep fun v _ hE => hE.2.2.2.1 e1
        · rw [if_neg e1, bnd_some, Mo_stone_eq (by omega), bnd_some, hft z hz, ifEq_eq _ _ (hfR i hi) (hfR z hz)]
          by_cases e2 : f i = f z
          · rw [if_pos e2]
            have hE : Eb n f i z := ⟨hi, hz, e2, e1, k, hk, hv⟩
            obtain ⟨h1, h2, h3, h4⟩ := hI
            refine okP_bnd2 (Mo_lowers_ok hr.1 hi hz hN.2.1 h2 (hEb _ _ hE) hsy) ?_
            rintro w t' - ⟨q1, q2, q3, q4⟩
            have hCh := h1.tr q1
            have hle : ∀ c, c < n * n → gi t' r c ≤ gi s r c := fun c hc => Int.le_trans (q3 c hc) (h3 c hc)
            rcases q4 with ⟨rfl, p2, p3⟩ | ⟨rfl, j, j1, j2⟩
            · rw [ifEq_eq _ _ R0 R0, if_pos rfl]
              refine okP_some (Or.inl ⟨(y, t'), rfl, hCh, q2, hle, ?_⟩)
              rcases h4 with ⟨g1, g2, g3⟩ | ⟨g1, j, j1, j2⟩
              · refine Or.inl ⟨g1, fun c hc => (p3 c).trans (g2 c hc), fun u v hD e => ?_⟩
                rcases hD with hD | ⟨rfl, k', hk', hv'⟩
                · exact g3 u v (Or.inl hD) e
                · by_cases ek : k' = k
                  · subst ek
                    have : v = z := by rw [hv] at hv'; omega
                    subst this
                    rw [← g2 u hi, ← g2 v hz]; exact p2
                  · exact g3 u v (Or.inr ⟨rfl, k', by omega, hv'⟩) e
              · exact Or.inr ⟨g1, j, j1, by show gi t' r j < _; rw [p3 j]; exact j2⟩
            · rw [ifEq_eq _ _ (by unfold R; omega) R0, if_neg (by omega)]
              exact okP_some (Or.inl ⟨(1, t'), rfl, hCh, q2, hle, Or.inr ⟨rfl, j, j1, by have h9 : gi t r j ≤ gi s r j := h3 j j1; have h8 : gi t' r j < gi t r j := j2; show gi t' r j < gi s r j; omega⟩⟩)
          · rw [if_neg e2]
            exact keep fun v e hE => by
              rw [hv] at e
              have : v = z := by omega
              subst this
              exact e2 hE.2.2.1
    · rintro ⟨y, t⟩ hI
      show okP (Mo_lowersNeighbours_t15 r y (i : Int) ((6 : Nat) : Int) t) _
      unfold Mo_lowersNeighbours_t15
      rw [ifLt_eq _ _ (by unfold R; omega) (by unfold R; omega), if_neg (by omega)]
      refine okP_some ⟨_, rfl, ?_⟩
      obtain ⟨h1, h2, h3, h4⟩ := hI
      refine ⟨h1, h2, h3, ?_⟩
      rcases h4 with ⟨g1, g2, g3⟩ | h4
      · refine Or.inl ⟨g1, g2, fun u v hD e => ?_⟩
        by_cases e9 : u < i
        · exact g3 u v (Or.inl e9) e
        · have hu : u = i := by omega
          subst hu
          obtain ⟨k, hk, hv⟩ := e.2.2.2.2
          exact g3 u v (Or.inr ⟨rfl, k, hk, hv⟩) e
      · exact Or.inr h4
    · rintro ⟨y, t⟩ - hI
      exact okP_some (Or.inl ⟨(y, t), rfl, hI⟩)
  · rintro ⟨y, t⟩ hI
    have hNt : MoN t n := hN.ch hI.1 (by simp; exact fun q => hr.2 q.symm)
    show okP (Mo_lowersNeighbours_t4 r y ((n * n : Nat) : Int) t) _
    unfold Mo_lowersNeighbours_t4
    rw [Mo_cells_eq hNt, bnd_some, ifLt_eq _ _ (R_nat (by omega)) (R_nat (by omega)), if_neg (by omega)]
    exact okP_some ⟨_, rfl, hI⟩
  · rintro ⟨y, t⟩ - ⟨h1, h2, h3, h4⟩
    have hb : b01 y := by
      rcases h4 with ⟨g, -⟩ | ⟨g, -⟩
      · exact Or.inl g
      · exact Or.inr g
    rw [grd_t hb]
    refine okP_some ⟨h1, h2, h3, ?_⟩
    rcases h4 with ⟨g1, g2, g3⟩ | h4
    · exact Or.inl ⟨g1, g2, fun x y e => g3 x y e.1 e⟩
    · exact Or.inr h4
theorem marksSelves_ok {s : Sg} {r n : Nat} (hN : MoN s n) (hr : n * n ≤ alen r ∧ r ≠ 81) : okP (Mo_marksSelves r s) (fun s' => Ch [r] s s' ∧ ∀ c, c < n * n → gi s' r c = (c : Int)) := by
  have h81 := nn_le hN.2.1
  unfold Mo_marksSelves Mo_marksSelves_l2
  refine okP_bnd (P := fun s' => Ch [r] s s' ∧ ∀ c, c < n * n → gi s' r c = (c : Int)) (whl_for (fun (i : Nat) (t : Sg) => ((i : Int), t)) (n * n) (fun i t => Ch [r] s t ∧ ∀ c, c < i → gi t r c = (c : Int)) (t0 := s) (Nat.zero_le _) ⟨Ch.rf _ _, fun c hc => absurd hc (Nat.not_lt_zero c)⟩ ?_ ?_) (fun v _ hv => okP_some hv)
  · rintro i t hi ⟨k1, k2⟩
    have hNt : MoN t n := hN.ch k1 (by simp; exact fun q => hr.2 q.symm)
    show okP (Mo_marksSelves_t2 r (i : Int) t) _
    unfold Mo_marksSelves_t2
    rw [Mo_cells_eq hNt, bnd_some, ifLt_eq _ _ (R_nat (by omega)) (R_nat (by omega)), if_pos (by omega), grd_t (by omega), lett_eq]
    refine okP_some (Or.inl ⟨_, rfl, k1.tr (Ch.si (List.mem_singleton.mpr rfl) (ne80' (by omega))), fun c hc => ?_⟩)
    show gi (si t r i (i : Int)) r c = _
    rw [gi_si_r]
    by_cases e : c = i
    · rw [if_pos e, e]
    · rw [if_neg e]; exact k2 c (by omega)
  · rintro t ⟨k1, k2⟩
    have hNt : MoN t n := hN.ch k1 (by simp; exact fun q => hr.2 q.symm)
    show okP (Mo_marksSelves_t2 r ((n * n : Nat) : Int) t) _
    unfold Mo_marksSelves_t2
    rw [Mo_cells_eq hNt, bnd_some, ifLt_eq _ _ (R_nat (by omega)) (R_nat (by omega)), if_neg (by omega)]
    exact okP_some ⟨_, rfl, k1, k2⟩
theorem laysGroups_ok {s : Sg} {n : Nat} {f : Nat → Int} (hN : MoN s n) (hf : ∀ c, c < n * n → gi s 81 (5 + c) = f c) (hfr : ∀ c, c < n * n → f c = -1 ∨ f c = 0 ∨ f c = 1) :
    okP (Mo_laysGroups s) (fun s' => Ch [87] s s' ∧ ∀ c, c < n * n → gi s' 87 c = (lab (Eb n f) c : Int)) := by
  have h81 := nn_le hN.2.1
  have a87 : alen 87 = 81 := rfl
  have hr : n * n ≤ alen 87 ∧ 87 ≠ 81 := ⟨by omega, by omega⟩
  unfold Mo_laysGroups
  refine okP_bnd (marksSelves_ok hN hr) ?_
  rintro s1 - ⟨c1, m1⟩
  unfold Mo_laysGroups_l10
  refine okP_bnd (P := fun s' => Ch [87] s s' ∧ ∀ c, c < n * n → gi s' 87 c = (lab (Eb n f) c : Int)) (okP_whl (fun σ => Ch [87] s σ.2 ∧ Mq n (Eb n f) (gi σ.2 87) ∧ ((σ.1 = 0 ∧ ∀ x y, Eb n f x y → gi σ.2 87 x = gi σ.2 87 y) ∨ σ.1 = 1)) (fun σ => 2 * msum (gi σ.2 87) (n * n) + σ.1.toNat) ⟨c1, fun c hc => ⟨c, m1 c hc, Nat.le_refl c, Rch.rf _ _⟩, Or.inr rfl⟩ ?_) (fun v _ hv => okP_some hv)
  rintro ⟨y, t⟩ ⟨k1, k2, k3⟩
  show okP (Mo_laysGroups_t10 y t) _
  unfold Mo_laysGroups_t10
  rcases k3 with ⟨rfl, k3⟩ | rfl
  · rw [ifEq_eq _ _ R0 R0, if_pos rfl]
    exact okP_some (Or.inr ⟨t, rfl, k1, fun c hc => Mq_lab Eb_sy (fun u v e => ⟨e.1, e.2.1⟩) k2 k3 c hc⟩)
  · rw [ifEq_eq _ _ (by unfold R; omega) R0, if_neg (by omega)]
    refine okP_bnd2 (lowersNeighbours_ok (hN.ch k1 (by decide)) hr (fun c hc => by rw [k1.g 81]; exact hf c hc) hfr Eb_sy (fun _ _ e => e) k2) ?_
    rintro y' t' - ⟨q1, q2, q3, q4⟩
    rcases q4 with ⟨rfl, p1, p2⟩ | ⟨rfl, j, j1, j2⟩
    · refine okP_some (Or.inl ⟨(0, t'), rfl, ⟨k1.tr q1, q2, Or.inl ⟨rfl, fun x y e => by rw [p1 x e.1, p1 y e.2.1]; exact p2 x y e⟩⟩, ?_⟩)
      have h9 : msum (gi t' 87) (n * n) ≤ msum (gi t 87) (n * n) := msum_le q3
      show 2 * msum (gi t' 87) (n * n) + (0 : Int).toNat < 2 * msum (gi t 87) (n * n) + (1 : Int).toNat
      omega
    · refine okP_some (Or.inl ⟨(1, t'), rfl, ⟨k1.tr q1, q2, Or.inr rfl⟩, ?_⟩)
      have h0 : 0 ≤ gi t' 87 j := by
        obtain ⟨v, v1, -⟩ := q2 j j1
        have v1' : gi t' 87 j = (v : Int) := v1
        omega
      have h9 : msum (gi t' 87) (n * n) < msum (gi t 87) (n * n) := msum_lt q3 j1 j2 h0
      show 2 * msum (gi t' 87) (n * n) + (1 : Int).toNat < 2 * msum (gi t 87) (n * n) + (1 : Int).toNat
      omega

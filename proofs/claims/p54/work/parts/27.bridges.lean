/-! ===== the list of bridges ===== -/
theorem R_i32 (z : Int32) : R z.toInt := by
  have h1 := Int32.le_toInt z
  have h2 := Int32.toInt_lt z
  unfold R
  omega
theorem R_iand (x y : Int) : R (iandI x y) := R_i32 _
theorem R_ior (x y : Int) : R (iorI x y) := R_i32 _
/-- many, entries (lower cell, other, carriers, whether it counts), taken cells -/
abbrev BL : Type := Nat × (Nat → Int × Int × Int × Int × Int) × (Nat → Int)
def addB (k o l g : Int) (st : BL) : BL := (st.1 + 1, fun i => if i = st.1 then (k, o, l, g, if st.2.2 l.toNat = 0 ∧ st.2.2 g.toNat = 0 then 1 else 0) else st.2.1 i, fun x => if (st.2.2 l.toNat = 0 ∧ st.2.2 g.toNat = 0) ∧ (x = l.toNat ∨ x = g.toNat) then 1 else st.2.2 x)
/-- entries make sense -/
def BW (n : Nat) (f : Nat → Int) (sd : Int) (st : BL) : Prop := (∀ i, i < st.1 → ∃ k l g : Nat, (st.2.1 i).1 = (k : Int) ∧ (st.2.1 i).2.2.1 = (l : Int) ∧ (st.2.1 i).2.2.2.1 = (g : Int) ∧ k < n * n ∧ l < g ∧ g < n * n ∧ f k = sd ∧ f l = -1 ∧ f g = -1 ∧
    ((∃ o : Nat, (st.2.1 i).2.1 = (o : Int) ∧ o < n * n ∧ f o = sd ∧ k < o) ∨ (st.2.1 i).2.1 = -10 ∨ (st.2.1 i).2.1 = -11) ∧ ((st.2.1 i).2.2.2.2 = 0 ∨ (st.2.1 i).2.2.2.2 = 1)) ∧ ∀ x, st.2.2 x = 0 ∨ st.2.2 x = 1
theorem BW.add {n : Nat} {f : Nat → Int} {sd : Int} {st : BL} (h : BW n f sd st) {k l g : Nat} {o : Int} (hk : k < n * n) (hl : l < g) (hg : g < n * n) (fk : f k = sd) (fl : f l = -1) (fg : f g = -1) (ho : (∃ o' : Nat, o = (o' : Int) ∧ o' < n * n ∧ f o' = sd ∧ k < o') ∨ o = -10 ∨ o = -11) : BW n f sd (addB k o l g st) := by
  refine ⟨fun i hi => ?_, fun x => ?_⟩
  · by_cases e : i = st.1
    · subst e
      have e1 : (addB (k : Int) o (l : Int) (g : Int) st).2.1 st.1 = ((k : Int), o, (l : Int), (g : Int), if st.2.2 (l : Int).toNat = 0 ∧ st.2.2 (g : Int).toNat = 0 then 1 else 0) := if_pos rfl
      rw [e1]
      refine ⟨k, l, g, rfl, rfl, rfl, hk, hl, hg, fk, fl, fg, ho, ?_⟩
      show (if st.2.2 (l : Int).toNat = 0 ∧ st.2.2 (g : Int).toNat = 0 then (1 : Int) else 0) = 0 ∨ (if st.2.2 (l : Int).toNat = 0 ∧ st.2.2 (g : Int).toNat = 0 then (1 : Int) else 0) = 1
      split
      · exact Or.inr rfl
      · exact Or.inl rfl
    · have e1 : (addB (k : Int) o (l : Int) (g : Int) st).2.1 i = st.2.1 i := if_neg e
      rw [e1]
      have : i < st.1 := by
        have : i < st.1 + 1 := hi
        omega
      exact h.1 i this
  · show (if (st.2.2 (l : Int).toNat = 0 ∧ st.2.2 (g : Int).toNat = 0) ∧ (x = (l : Int).toNat ∨ x = (g : Int).toNat) then (1 : Int) else st.2.2 x) = 0 ∨ (if (st.2.2 (l : Int).toNat = 0 ∧ st.2.2 (g : Int).toNat = 0) ∧ (x = (l : Int).toNat ∨ x = (g : Int).toNat) then (1 : Int) else st.2.2 x) = 1
    split
    · exact Or.inr rfl
    · exact h.2 x
/-- cells to which a bridge of k leads -/
def cellC (n : Nat) (f : Nat → Int) (k j : Nat) : Prop := far n k j ≠ -1 ∧ f (far n k j).toNat = f k ∧ f (lwc n k j).toNat = -1 ∧ f (hic n k j).toNat = -1
noncomputable def stepJ (n : Nat) (f : Nat → Int) (k : Nat) (st : BL) (j : Nat) : BL := @ite _ (cellC n f k j) (Classical.propDecidable _) (addB k (far n k j) (lwc n k j) (hic n k j) st) st
/-- the two neighbours at an edge: the first, the last -/
def eF (n : Nat) (sd : Int) (e : Nat) (q : Int × Int) (y : Int) : Int × Int := if y ≠ -1 ∧ edg n sd y.toNat = (e : Int) + 1 then (if q.1 = -1 then y else q.1, y) else q
def ebr (n : Nat) (sd : Int) (e k : Nat) : Int × Int := fo (eF n sd e) (rnd n k) (-1, -1) 6
def edgC (n : Nat) (f : Nat → Int) (sd : Int) (k e : Nat) : Prop := edg n sd k ≠ (e : Int) + 1 ∧ (ebr n sd e k).1 ≠ (ebr n sd e k).2 ∧ f (ebr n sd e k).1.toNat = -1 ∧ f (ebr n sd e k).2.toNat = -1
noncomputable def stepE (n : Nat) (f : Nat → Int) (sd : Int) (k : Nat) (st : BL) (e : Nat) : BL := @ite _ (edgC n f sd k e) (Classical.propDecidable _) (addB k (-10 - (e : Int)) (ebr n sd e k).1 (ebr n sd e k).2 st) st
noncomputable def cellS (n : Nat) (f : Nat → Int) (sd : Int) (st : BL) (k : Nat) : BL := if f k = sd then stepE n f sd k (stepE n f sd k (stepJ n f k (stepJ n f k (stepJ n f k st 0) 1) 2) 0) 1 else st
noncomputable def brl (n : Nat) (f : Nat → Int) (sd : Int) : Nat → BL
  | 0 => (0, fun _ => (0, 0, 0, 0, 0), fun _ => 0)
  | k + 1 => cellS n f sd (brl n f sd k) k
/-! edges: what the six places give -/
theorem eF_m (n : Nat) (sd : Int) (e : Nat) (q : Int × Int) : eF n sd e q (-1) = q := if_neg (fun h => h.1 rfl)
/-- of two at an edge the first is the lower one: places go by numbers -/
theorem rnd_up {n c j j' y z : Nat} (hj : j < j') (hj' : j' < 6) (h : rnd n c j = (y : Int)) (h' : rnd n c j' = (z : Int)) : y < z := by
  obtain ⟨hy, a1, a2⟩ := cellv_inv h
  obtain ⟨hz, b1, b2⟩ := cellv_inv h'
  refine cell_lt_iff hy hz ?_
  have key : ∀ j, j < 6 → ∀ j', j' < 6 → j < j' → drow j < drow j' ∨ (drow j = drow j' ∧ dcol j < dcol j') := by decide
  have := key j (by omega) j' hj' hj
  unfold ro co
  omega
/-- at most two of the six places are at an edge at which the cell is not -/
theorem edge_two {n c e : Nat} {sd : Int} (hn : 2 ≤ n) (hc : c < n * n) (he : e < 2) (hne : edg n sd c ≠ (e : Int) + 1) : cnt (fun j => rnd n c j ≠ -1 ∧ edg n sd (rnd n c j).toNat = (e : Int) + 1) 6 ≤ 2 := by
  -- the places lie in one line
  have line : ∀ j, (rnd n c j ≠ -1 ∧ edg n sd (rnd n c j).toNat = (e : Int) + 1) → (if sd = 0 then drow j else dcol j) = (if e = 0 then -1 else 1) := by
    rintro j ⟨h1, h2⟩
    rcases rnd_rg n c j with h | ⟨y, h, hy⟩
    · exact absurd h h1
    · rw [h] at h2
      have h2 : edg n sd y = (e : Int) + 1 := h2
      obtain ⟨-, a1, a2⟩ := cellv_inv h
      have hd : drow j = -1 ∨ drow j = 0 ∨ drow j = 1 := by
        unfold drow
        split <;> simp
      have hd2 : dcol j = -1 ∨ dcol j = 0 ∨ dcol j = 1 := by
        unfold dcol
        split <;> simp
      have r1 := Nat.div_lt_of_lt_mul hc
      have r2 := Nat.div_lt_of_lt_mul hy
      have c1 := Nat.mod_lt c (show 0 < n by omega)
      have c2 := Nat.mod_lt y (show 0 < n by omega)
      have p1 : (0 : Int) ≤ ((c / n : Nat) : Int) := Int.natCast_nonneg _
      have p2 : (0 : Int) ≤ ((y / n : Nat) : Int) := Int.natCast_nonneg _
      have p3 : ((c / n : Nat) : Int) < (n : Int) := Int.ofNat_lt.mpr r1
      have p4 : ((y / n : Nat) : Int) < (n : Int) := Int.ofNat_lt.mpr r2
      unfold edg edgeOf at h2 hne
      obtain rfl | rfl : e = 0 ∨ e = 1 := by omega
      · by_cases hs : sd = 0
        · rw [if_pos hs] at h2 hne ⊢
          rw [if_pos rfl]
          by_cases q1 : y / n = 0
          · by_cases q2 : c / n = 0
            · rw [if_pos q2] at hne; exact absurd rfl hne
            · omega
          · rw [if_neg q1] at h2
            split at h2 <;> omega
        · rw [if_neg hs] at h2 hne ⊢
          rw [if_pos rfl]
          by_cases q1 : y % n = 0
          · by_cases q2 : c % n = 0
            · rw [if_pos q2] at hne; exact absurd rfl hne
            · omega
          · rw [if_neg q1] at h2
            split at h2 <;> omega
      · by_cases hs : sd = 0
        · rw [if_pos hs] at h2 hne ⊢
          rw [if_neg (by omega)]
          by_cases q0 : y / n = 0
          · rw [if_pos q0] at h2; omega
          · rw [if_neg q0] at h2
            by_cases q1 : y / n = n - 1
            · by_cases q2 : c / n = n - 1
              · rw [if_neg (by omega), if_pos q2] at hne; exact absurd rfl hne
              · omega
            · rw [if_neg q1] at h2; omega
        · rw [if_neg hs] at h2 hne ⊢
          rw [if_neg (by omega)]
          by_cases q0 : y % n = 0
          · rw [if_pos q0] at h2; omega
          · rw [if_neg q0] at h2
            by_cases q1 : y % n = n - 1
            · by_cases q2 : c % n = n - 1
              · rw [if_neg (by omega), if_pos q2] at hne; exact absurd rfl hne
              · omega
            · rw [if_neg q1] at h2; omega
  refine Nat.le_trans (cnt_mono (q := fun j => (if sd = 0 then drow j else dcol j) = (if e = 0 then -1 else 1)) fun j _ h => line j h) ?_
  have two : ∃ a b, a < b ∧ b < 6 ∧ ∀ j, j < 6 → ((if sd = 0 then drow j else dcol j) = (if e = 0 then -1 else 1) ↔ j = a ∨ j = b) := by
    by_cases hs : sd = 0
    · by_cases h0 : e = 0
      · exact ⟨0, 1, by omega, by omega, by simp only [if_pos hs, if_pos h0]; decide⟩
      · exact ⟨4, 5, by omega, by omega, by simp only [if_pos hs, if_neg h0]; decide⟩
    · by_cases h0 : e = 0
      · exact ⟨2, 4, by omega, by omega, by simp only [if_neg hs, if_pos h0]; decide⟩
      · exact ⟨1, 3, by omega, by omega, by simp only [if_neg hs, if_neg h0]; decide⟩
  obtain ⟨a, b, h1, h2, h3⟩ := two
  exact Nat.le_of_eq (cnt_two h1 h2 h3)
/-- what the first j places give -/
theorem ebr_inv {n c e : Nat} {sd : Int} (hc : c < n * n) : ∀ j, j ≤ 6 →
    (cnt (fun j => rnd n c j ≠ -1 ∧ edg n sd (rnd n c j).toNat = (e : Int) + 1) j = 0 ∧ fo (eF n sd e) (rnd n c) (-1, -1) j = (-1, -1)) ∨
    (cnt (fun j => rnd n c j ≠ -1 ∧ edg n sd (rnd n c j).toNat = (e : Int) + 1) j = 1 ∧ ∃ y : Nat, y < n * n ∧ (∃ i, i < j ∧ rnd n c i = (y : Int)) ∧ fo (eF n sd e) (rnd n c) (-1, -1) j = ((y : Int), (y : Int))) ∨
    (2 ≤ cnt (fun j => rnd n c j ≠ -1 ∧ edg n sd (rnd n c j).toNat = (e : Int) + 1) j ∧ ∃ y z : Nat, y < n * n ∧ z < n * n ∧ y < z ∧ (∃ i, i < j ∧ rnd n c i = (y : Int)) ∧ (∃ i, i < j ∧ rnd n c i = (z : Int)) ∧ fo (eF n sd e) (rnd n c) (-1, -1) j = ((y : Int), (z : Int)))
  | 0, _ => Or.inl ⟨rfl, rfl⟩
  | j + 1, hj => by
    have ih := ebr_inv (n := n) (c := c) (e := e) (sd := sd) hc j (by omega)
    by_cases hp : rnd n c j ≠ -1 ∧ edg n sd (rnd n c j).toNat = (e : Int) + 1
    · rw [cnt_t (p := fun j => rnd n c j ≠ -1 ∧ edg n sd (rnd n c j).toNat = (e : Int) + 1) hp]
      have hs : ∀ q, fo (eF n sd e) (rnd n c) (-1, -1) j = q → fo (eF n sd e) (rnd n c) (-1, -1) (j + 1) = (if q.1 = -1 then rnd n c j else q.1, rnd n c j) := by
        intro q hq
        show eF n sd e (fo (eF n sd e) (rnd n c) (-1, -1) j) (rnd n c j) = _
        rw [hq]
        exact if_pos hp
      obtain ⟨w, hw, hwn⟩ := (rnd_rg n c j).resolve_left hp.1
      rcases ih with ⟨h1, h2⟩ | ⟨h1, y, hy, ⟨i, hi, he⟩, h2⟩ | ⟨h1, y, z, hy, hz, hyz, ⟨i, hi, he⟩, hz2, h2⟩
      · refine Or.inr (Or.inl ⟨by omega, w, hwn, ⟨j, by omega, hw⟩, ?_⟩)
        rw [hs _ h2, hw]; rfl
      · refine Or.inr (Or.inr ⟨by omega, y, w, hy, hwn, rnd_up hi (by omega) he hw, ⟨i, by omega, he⟩, ⟨j, by omega, hw⟩, ?_⟩)
        · rw [hs _ h2, hw]
          show (if (y : Int) = -1 then (w : Int) else (y : Int), (w : Int)) = _
          rw [if_neg (by omega)]
      · refine Or.inr (Or.inr ⟨by omega, y, w, hy, hwn, rnd_up hi (by omega) he hw, ⟨i, by omega, he⟩, ⟨j, by omega, hw⟩, ?_⟩)
        · rw [hs _ h2, hw]
          show (if (y : Int) = -1 then (w : Int) else (y : Int), (w : Int)) = _
          rw [if_neg (by omega)]
    · rw [cnt_f (p := fun j => rnd n c j ≠ -1 ∧ edg n sd (rnd n c j).toNat = (e : Int) + 1) hp]
      have hs : fo (eF n sd e) (rnd n c) (-1, -1) (j + 1) = fo (eF n sd e) (rnd n c) (-1, -1) j := if_neg hp
      rw [hs]
      rcases ih with h | ⟨h1, y, hy, ⟨i, hi, he⟩, h2⟩ | ⟨h1, y, z, hy, hz, hyz, ⟨i, hi, he⟩, ⟨i2, hi2, he2⟩, h2⟩
      · exact Or.inl h
      · exact Or.inr (Or.inl ⟨h1, y, hy, ⟨i, by omega, he⟩, h2⟩)
      · exact Or.inr (Or.inr ⟨h1, y, z, hy, hz, hyz, ⟨i, by omega, he⟩, ⟨i2, by omega, he2⟩, h2⟩)
/-- the two at an edge, if there are two -/
theorem ebr_two {n k e : Nat} {sd : Int} (hn : 2 ≤ n) (hk : k < n * n) (he : e < 2) (hne : edg n sd k ≠ (e : Int) + 1) : ((ebr n sd e k).1 ≠ (ebr n sd e k).2 ↔ cnt (fun j => rnd n k j ≠ -1 ∧ edg n sd (rnd n k j).toNat = (e : Int) + 1) 6 = 2) ∧
    ((ebr n sd e k).1 ≠ (ebr n sd e k).2 → ∃ l g : Nat, l < g ∧ g < n * n ∧ (ebr n sd e k).1 = (l : Int) ∧ (ebr n sd e k).2 = (g : Int)) := by
  have h2 := edge_two (sd := sd) hn hk he hne
  unfold ebr
  rcases ebr_inv (n := n) (c := k) (e := e) (sd := sd) hk 6 (Nat.le_refl 6) with ⟨h1, q⟩ | ⟨h1, y, hy, -, q⟩ | ⟨h1, y, z, hy, hz, hyz, -, -, q⟩
  · rw [q]
    exact ⟨⟨fun h => absurd rfl h, fun h => by omega⟩, fun h => absurd rfl h⟩
  · rw [q]
    exact ⟨⟨fun h => absurd rfl h, fun h => by omega⟩, fun h => absurd rfl h⟩
  · rw [q]
    refine ⟨⟨fun _ => by omega, fun _ h => ?_⟩, fun _ => ⟨y, z, hyz, hz, rfl, rfl⟩⟩
    have h : (y : Int) = (z : Int) := h
    omega
theorem cellC_w {n k j : Nat} {f : Nat → Int} (hk : k < n * n) (hj : j < 3) (h : cellC n f k j) : ∃ i l g : Nat, far n k j = (i : Int) ∧ lwc n k j = (l : Int) ∧ hic n k j = (g : Int) ∧ k < i ∧ i < n * n ∧ l < g ∧ g < n * n ∧ f i = f k ∧ f l = -1 ∧ f g = -1 := by
  obtain ⟨i, hi, -⟩ := (far_rg n k j).resolve_left h.1
  obtain ⟨h1, h2, -, l, g, e1, e2, h3, h4, -⟩ := far_ok hk hj hi
  have a1 := h.2.1
  have a2 := h.2.2.1
  have a3 := h.2.2.2
  rw [hi] at a1
  rw [e1] at a2
  rw [e2] at a3
  exact ⟨i, l, g, hi, e1, e2, h1, h2, h3, h4, a1, a2, a3⟩
theorem stepJ_w {n k j : Nat} {f : Nat → Int} {sd : Int} {st : BL} (hk : k < n * n) (hj : j < 3) (fk : f k = sd) (h : BW n f sd st) : BW n f sd (stepJ n f k st j) ∧ (stepJ n f k st j).1 ≤ st.1 + 1 := by
  unfold stepJ
  by_cases hc : cellC n f k j
  · rw [if_pos hc]
    obtain ⟨i, l, g, e1, e2, e3, h1, h2, h3, h4, a1, a2, a3⟩ := cellC_w hk hj hc
    rw [e1, e2, e3]
    exact ⟨h.add hk h3 h4 fk a2 a3 (Or.inl ⟨i, rfl, h2, a1.trans fk, h1⟩), Nat.le_refl _⟩
  · rw [if_neg hc]
    exact ⟨h, Nat.le_succ _⟩
theorem stepE_w {n k e : Nat} {f : Nat → Int} {sd : Int} {st : BL} (hn : 2 ≤ n) (hk : k < n * n) (he : e < 2) (fk : f k = sd) (h : BW n f sd st) : BW n f sd (stepE n f sd k st e) ∧ (stepE n f sd k st e).1 ≤ st.1 + 1 := by
  unfold stepE
  by_cases hc : edgC n f sd k e
  · rw [if_pos hc]
    obtain ⟨l, g, h1, h2, e1, e2⟩ := (ebr_two hn hk he hc.1).2 hc.2.1
    have a1 := hc.2.2.1
    have a2 := hc.2.2.2
    rw [e1] at a1
    rw [e2] at a2
    rw [e1, e2]
    exact ⟨h.add hk h1 h2 fk a1 a2 (Or.inr (by omega)), Nat.le_refl _⟩
  · rw [if_neg hc]
    exact ⟨h, Nat.le_succ _⟩
theorem cellS_w {n k : Nat} {f : Nat → Int} {sd : Int} {st : BL} (hn : 2 ≤ n) (hk : k < n * n) (h : BW n f sd st) : BW n f sd (cellS n f sd st k) ∧ (cellS n f sd st k).1 ≤ st.1 + 5 := by
  unfold cellS
  by_cases fk : f k = sd
  · rw [if_pos fk]
    have h0 := stepJ_w (j := 0) hk (by omega) fk h
    have h1 := stepJ_w (j := 1) hk (by omega) fk h0.1
    have h2 := stepJ_w (j := 2) hk (by omega) fk h1.1
    have h3 := stepE_w (e := 0) hn hk (by omega) fk h2.1
    have h4 := stepE_w (e := 1) hn hk (by omega) fk h3.1
    exact ⟨h4.1, by omega⟩
  · rw [if_neg fk]
    exact ⟨h, by omega⟩
theorem brl_w {n : Nat} {f : Nat → Int} {sd : Int} (hn : 2 ≤ n) : ∀ k, k ≤ n * n → BW n f sd (brl n f sd k) ∧ (brl n f sd k).1 ≤ 5 * k
  | 0, _ => ⟨⟨fun i hi => absurd hi (Nat.not_lt_zero i), fun _ => Or.inl rfl⟩, Nat.le_refl 0⟩
  | k + 1, hk => by
    have ih := brl_w (n := n) (f := f) (sd := sd) hn k (by omega)
    have h := cellS_w hn (show k < n * n by omega) ih.1
    exact ⟨h.1, by show (cellS n f sd (brl n f sd k) k).1 ≤ _; omega⟩
/-! ===== the class's list ===== -/
def ClB (s : Sg) (st : BL) : Prop := gi s 56 7 = (st.1 : Int) ∧ (∀ i, i < st.1 → gi s 57 i = (st.2.1 i).1 ∧ gi s 58 i = (st.2.1 i).2.1 ∧ gi s 59 i = (st.2.1 i).2.2.1 ∧ gi s 60 i = (st.2.1 i).2.2.2.1 ∧ gi s 61 i = (st.2.1 i).2.2.2.2) ∧ ∀ c, c < 81 → gi s 62 c = st.2.2 c
abbrev BLs : List Nat := [56, 57, 58, 59, 60, 61, 62]
theorem b84_ok {s : Sg} {st : BL} {k o : Int} {l g : Nat} {c : Int} (hB : ClB s st) (hm : st.1 < 405) (hl : l < 81) (hg : g < 81) (hc : (c = 1 ∧ (st.2.2 l = 0 ∧ st.2.2 g = 0)) ∨ (c = 0 ∧ ¬ (st.2.2 l = 0 ∧ st.2.2 g = 0))) :
    okP (Bl_addIfFree_b84 k o (l : Int) (g : Int) c s) (fun t => Ch BLs s t ∧ ClB t (addB k o (l : Int) (g : Int) st)) := by
  have a57 : alen 57 = 405 := rfl
  have a58 : alen 58 = 405 := rfl
  have a59 : alen 59 = 405 := rfl
  have a60 : alen 60 = 405 := rfl
  have a61 : alen 61 = 405 := rfl
  have a62 : alen 62 = 81 := rfl
  obtain ⟨h1, h2, h3⟩ := hB
  have hcR : R c := by unfold R; omega
  unfold Bl_addIfFree_b84
  have p1 : gi (si s 57 st.1 k) 56 7 = (st.1 : Int) := by rw [gi_si_o _ _ _ _ (by omega)]; exact h1
  have p2 : gi (si (si s 57 st.1 k) 58 st.1 o) 56 7 = (st.1 : Int) := by rw [gi_si_o _ _ _ _ (by omega)]; exact p1
  have p3 : gi (si (si (si s 57 st.1 k) 58 st.1 o) 59 st.1 (l : Int)) 56 7 = (st.1 : Int) := by rw [gi_si_o _ _ _ _ (by omega)]; exact p2
  have p4 : gi (si (si (si (si s 57 st.1 k) 58 st.1 o) 59 st.1 (l : Int)) 60 st.1 (g : Int)) 56 7 = (st.1 : Int) := by rw [gi_si_o _ _ _ _ (by omega)]; exact p3
  rw [h1, Hx_set_n (by omega), bnd_some, p1, Hx_set_n (by omega), bnd_some, p2, Hx_set_n (by omega), bnd_some, p3, Hx_set_n (by omega), bnd_some, p4, ifEq_eq _ _ hcR R0]
  -- behind the five rows
  have fin : okP (Bl_addIfFree_b154 (l : Int) (g : Int) c (st.1 : Int) c (si (si (si (si s 57 st.1 k) 58 st.1 o) 59 st.1 (l : Int)) 60 st.1 (g : Int))) (fun t => Ch BLs s t ∧ ClB t (addB k o (l : Int) (g : Int) st)) := by
    unfold Bl_addIfFree_b154
    rw [Hx_set_n (by omega), bnd_some, lett_eq, ifEq_eq _ _ hcR R0]
    have p5 : gi (si (si (si (si (si s 57 st.1 k) 58 st.1 o) 59 st.1 (l : Int)) 60 st.1 (g : Int)) 61 st.1 c) 56 7 = (st.1 : Int) := by rw [gi_si_o _ _ _ _ (by omega)]; exact p4
    rw [p5]
    have hC0 : Ch BLs s (si (si (si (si (si (si s 57 st.1 k) 58 st.1 o) 59 st.1 (l : Int)) 60 st.1 (g : Int)) 61 st.1 c) 56 7 ((st.1 : Int) + 1)) := (Ch.si (by decide)).tr ((Ch.si (by decide)).tr ((Ch.si (by decide)).tr ((Ch.si (by decide)).tr ((Ch.si (by decide)).tr (Ch.si (by decide))))))
    generalize hu : si (si (si (si (si (si s 57 st.1 k) 58 st.1 o) 59 st.1 (l : Int)) 60 st.1 (g : Int)) 61 st.1 c) 56 7 ((st.1 : Int) + 1) = u at hC0
    have u56 : gi u 56 7 = ((st.1 + 1 : Nat) : Int) := by rw [← hu, gi_si_s]; rfl
    have u57 : ∀ i, gi u 57 i = if i = st.1 then k else gi s 57 i := fun i => by
      rw [← hu, gi_si_o _ _ _ _ (by omega), gi_si_o _ _ _ _ (by omega), gi_si_o _ _ _ _ (by omega), gi_si_o _ _ _ _ (by omega), gi_si_o _ _ _ _ (by omega), gi_si_r]
    have u58 : ∀ i, gi u 58 i = if i = st.1 then o else gi s 58 i := fun i => by
      rw [← hu, gi_si_o _ _ _ _ (by omega), gi_si_o _ _ _ _ (by omega), gi_si_o _ _ _ _ (by omega), gi_si_o _ _ _ _ (by omega), gi_si_r, gi_si_o _ _ _ _ (by omega)]
    have u59 : ∀ i, gi u 59 i = if i = st.1 then (l : Int) else gi s 59 i := fun i => by
      rw [← hu, gi_si_o _ _ _ _ (by omega), gi_si_o _ _ _ _ (by omega), gi_si_o _ _ _ _ (by omega), gi_si_r, gi_si_o _ _ _ _ (by omega), gi_si_o _ _ _ _ (by omega)]
    have u60 : ∀ i, gi u 60 i = if i = st.1 then (g : Int) else gi s 60 i := fun i => by
      rw [← hu, gi_si_o _ _ _ _ (by omega), gi_si_o _ _ _ _ (by omega), gi_si_r, gi_si_o _ _ _ _ (by omega), gi_si_o _ _ _ _ (by omega), gi_si_o _ _ _ _ (by omega)]
    have u61 : ∀ i, gi u 61 i = if i = st.1 then c else gi s 61 i := fun i => by
      rw [← hu, gi_si_o _ _ _ _ (by omega), gi_si_r, gi_si_o _ _ _ _ (by omega), gi_si_o _ _ _ _ (by omega), gi_si_o _ _ _ _ (by omega), gi_si_o _ _ _ _ (by omega)]
    have u62 : ∀ i, gi u 62 i = gi s 62 i := fun i => by
      rw [← hu, gi_si_o _ _ _ _ (by omega), gi_si_o _ _ _ _ (by omega), gi_si_o _ _ _ _ (by omega), gi_si_o _ _ _ _ (by omega), gi_si_o _ _ _ _ (by omega), gi_si_o _ _ _ _ (by omega)]
    have hcv : (if st.2.2 (l : Int).toNat = 0 ∧ st.2.2 (g : Int).toNat = 0 then (1 : Int) else 0) = c := by
      show (if st.2.2 l = 0 ∧ st.2.2 g = 0 then (1 : Int) else 0) = c
      rcases hc with ⟨e, q⟩ | ⟨e, q⟩
      · rw [if_pos q, e]
      · rw [if_neg q, e]
    have rows : ∀ t : Sg, (∀ o', o' ∈ [56, 57, 58, 59, 60, 61] → ∀ i, gi t o' i = gi u o' i) → (gi t 56 7 = ((addB k o (l : Int) (g : Int) st).1 : Int) ∧ ∀ i, i < (addB k o (l : Int) (g : Int) st).1 → gi t 57 i = ((addB k o (l : Int) (g : Int) st).2.1 i).1 ∧ gi t 58 i = ((addB k o (l : Int) (g : Int) st).2.1 i).2.1 ∧ gi t 59 i = ((addB k o (l : Int) (g : Int) st).2.1 i).2.2.1 ∧ gi t 60 i = ((addB k o (l : Int) (g : Int) st).2.1 i).2.2.2.1 ∧ gi t 61 i = ((addB k o (l : Int) (g : Int) st).2.1 i).2.2.2.2) := by
      intro t ht
      refine ⟨(ht 56 (by decide) 7).trans u56, fun i hi => ?_⟩
      rw [ht 57 (by decide) i, ht 58 (by decide) i, ht 59 (by decide) i, ht 60 (by decide) i, ht 61 (by decide) i, u57, u58, u59, u60, u61]
      by_cases e : i = st.1
      · have e1 : (addB k o (l : Int) (g : Int) st).2.1 i = (k, o, (l : Int), (g : Int), if st.2.2 (l : Int).toNat = 0 ∧ st.2.2 (g : Int).toNat = 0 then 1 else 0) := if_pos e
        rw [e1, if_pos e, if_pos e, if_pos e, if_pos e, if_pos e]
        exact ⟨rfl, rfl, rfl, rfl, hcv.symm⟩
      · have e1 : (addB k o (l : Int) (g : Int) st).2.1 i = st.2.1 i := if_neg e
        rw [e1, if_neg e, if_neg e, if_neg e, if_neg e, if_neg e]
        have : i < st.1 := by
          have : i < st.1 + 1 := hi
          omega
        exact h2 i this
    rcases hc with ⟨rfl, q⟩ | ⟨rfl, q⟩
    · rw [if_neg (by omega), Hx_set_n (by omega), bnd_some, Hx_set_n (by omega), bnd_some]
      have hr := rows (si (si u 62 l 1) 62 g 1) (fun o' ho i => by
        have : o' ≠ 62 := by rintro rfl; revert ho; decide
        rw [gi_si_o _ _ _ _ this, gi_si_o _ _ _ _ this])
      refine okP_some ⟨hC0.tr ((Ch.si (by decide)).tr (Ch.si (by decide))), hr.1, hr.2, fun x hx => ?_⟩
      rw [gi_si_r, gi_si_r, u62, h3 x hx]
      show _ = if (st.2.2 l = 0 ∧ st.2.2 g = 0) ∧ (x = l ∨ x = g) then 1 else st.2.2 x
      by_cases e1 : x = g
      · rw [if_pos e1, if_pos ⟨q, Or.inr e1⟩]
      · by_cases e2 : x = l
        · rw [if_neg e1, if_pos e2, if_pos ⟨q, Or.inl e2⟩]
        · rw [if_neg e1, if_neg e2, if_neg (fun h => h.2.elim e2 e1)]
    · rw [if_pos rfl]
      have hr := rows u (fun _ _ _ => rfl)
      refine okP_some ⟨hC0, hr.1, hr.2, fun x hx => ?_⟩
      rw [u62, h3 x hx]
      show _ = if (st.2.2 l = 0 ∧ st.2.2 g = 0) ∧ (x = l ∨ x = g) then 1 else st.2.2 x
      rw [if_neg (fun h => q h.1)]
  rcases hc with ⟨rfl, q⟩ | ⟨rfl, q⟩
  · rw [if_neg (by omega)]; exact fin
  · rw [if_pos rfl]; exact fin
theorem addIfFree_ok {s : Sg} {n r1 : Nat} {f : Nat → Int} {k o : Int} {l g : Nat} {st : BL} (hn : n ≤ 9) (hl : l < n * n) (hg : g < n * n) (hr : alen r1 = 81) (hf : CB s n r1 f) (hfr : FR n f) (hB : ClB s st) (hm : st.1 < 405) (hT : ∀ x, st.2.2 x = 0 ∨ st.2.2 x = 1) :
    okP (Bl_addIfFree r1 k o (l : Int) (g : Int) s) (fun t => Ch BLs s t ∧ ClB t (if f l = -1 ∧ f g = -1 then addB k o (l : Int) (g : Int) st else st)) := by
  have h81 := nn_le hn
  have a62 : alen 62 = 81 := rfl
  have hTR : ∀ x, R (st.2.2 x) := fun x => by rcases hT x with h | h <;> rw [h] <;> unfold R <;> omega
  unfold Bl_addIfFree Bl_addIfFree_b36
  have none' : ¬ (f l = -1 ∧ f g = -1) → okP (Bl_addIfFree_b37 k o (l : Int) (g : Int) 0 s) (fun t => Ch BLs s t ∧ ClB t (if f l = -1 ∧ f g = -1 then addB k o (l : Int) (g : Int) st else st)) := by
    intro h
    unfold Bl_addIfFree_b37
    rw [ifEq_eq _ _ R0 R0, if_pos rfl, if_neg h]
    exact okP_some ⟨Ch.rf _ _, hB⟩
  rw [ifEq_eq _ _ (R_nat (by omega)) R_n1, if_neg (by omega), ifEq_eq _ _ (R_nat (by omega)) R_n1, if_neg (by omega), Hx_at_n (by omega), bnd_some, hf l hl, ifEq_eq _ _ (hfr.r hl) R_n1]
  by_cases e1 : f l = -1
  · rw [if_pos e1, Hx_at_n (by omega), bnd_some, hf g hg, ifEq_eq _ _ (hfr.r hg) R_n1]
    by_cases e2 : f g = -1
    · rw [if_pos e2, if_pos ⟨e1, e2⟩]
      unfold Bl_addIfFree_b37 Bl_addIfFree_b83
      rw [ifEq_eq _ _ R1 R0, if_neg (by omega), hB.1, ifLt_eq _ _ (R_nat (by omega)) (by unfold R; omega), if_pos (by omega), Hx_at_n (by omega), bnd_some, hB.2.2 l (by omega), ifEq_eq _ _ (hTR l) R0]
      by_cases t1 : st.2.2 l = 0
      · rw [if_pos t1, Hx_at_n (by omega), bnd_some, hB.2.2 g (by omega), ifEq_eq _ _ (hTR g) R0]
        by_cases t2 : st.2.2 g = 0
        · rw [if_pos t2]
          exact b84_ok hB hm (by omega) (by omega) (Or.inl ⟨rfl, t1, t2⟩)
        · rw [if_neg t2]
          exact b84_ok hB hm (by omega) (by omega) (Or.inr ⟨rfl, fun q => t2 q.2⟩)
      · rw [if_neg t1]
        exact b84_ok hB hm (by omega) (by omega) (Or.inr ⟨rfl, fun q => t1 q.1⟩)
    · rw [if_neg e2]
      exact none' (fun q => e2 q.2)
  · rw [if_neg e1]
    exact none' (fun q => e1 q.1)
/-- the rows of steps that never change -/
def Stat (s : Sg) : Prop := (∀ j, j < 6 → gi s 1000 j = drow j ∧ gi s 1001 j = dcol j) ∧ ∀ j, j < 3 → gi s 1002 j = frow j ∧ gi s 1003 j = fcol j ∧ gi s 1004 j = lrow j ∧ gi s 1005 j = lcol j ∧ gi s 1006 j = hrow j ∧ gi s 1007 j = hcol j
theorem Stat.ch {s s' : Sg} {L : List Nat} (h : Stat s) (hc : Ch L s s') (hL : ∀ x ∈ L, x < 1000) : Stat s' := by
  have no : ∀ o, 1000 ≤ o → o ∉ L := fun o ho q => by have := hL o q; omega
  refine ⟨fun j hj => ?_, fun j hj => ?_⟩
  · rw [hc.g 1000 (no _ (by omega)), hc.g 1001 (no _ (by omega))]
    exact h.1 j hj
  · rw [hc.g 1002 (no _ (by omega)), hc.g 1003 (no _ (by omega)), hc.g 1004 (no _ (by omega)), hc.g 1005 (no _ (by omega)), hc.g 1006 (no _ (by omega)), hc.g 1007 (no _ (by omega))]
    exact h.2 j hj
theorem addToCell_ok {s : Sg} {n r1 k j : Nat} {f : Nat → Int} {st : BL} (hG : GridOK s n) (hS : Stat s) (hk : k < n * n) (hj : j < 3) (hr : alen r1 = 81) (hf : CB s n r1 f) (hfr : FR n f) (hB : ClB s st) (hm : st.1 < 405) (hT : ∀ x, st.2.2 x = 0 ∨ st.2.2 x = 1) :
    okP (Bl_addToCell r1 (k : Int) (j : Int) s) (fun t => Ch BLs s t ∧ ClB t (stepJ n f k st j)) := by
  have h81 := nn_le hG.2.1
  have hn := hG.1
  have hn9 := hG.2.1
  have rk := ro_rg hk
  have ck := co_rg hk
  obtain ⟨s1, s2, s3, s4, s5, s6⟩ := hS.2 j hj
  have fr : -2 ≤ frow j ∧ frow j ≤ 2 ∧ -2 ≤ fcol j ∧ fcol j ≤ 2 ∧ -2 ≤ lrow j ∧ lrow j ≤ 2 ∧ -2 ≤ lcol j ∧ lcol j ≤ 2 ∧ -2 ≤ hrow j ∧ hrow j ≤ 2 ∧ -2 ≤ hcol j ∧ hcol j ≤ 2 := by
    have : ∀ j, j < 3 → -2 ≤ frow j ∧ frow j ≤ 2 ∧ -2 ≤ fcol j ∧ fcol j ≤ 2 ∧ -2 ≤ lrow j ∧ lrow j ≤ 2 ∧ -2 ≤ lcol j ∧ lcol j ≤ 2 ∧ -2 ≤ hrow j ∧ hrow j ≤ 2 ∧ -2 ≤ hcol j ∧ hcol j ≤ 2 := by decide
    exact this j hj
  unfold Bl_addToCell
  have hro : ((k / n : Nat) : Int) = ro n k := rfl
  have hco : ((k % n : Nat) : Int) = co n k := rfl
  have hfar : cellv n (ro n k + frow j) (co n k + fcol j) = far n k j := rfl
  have hlw : cellv n (ro n k + lrow j) (co n k + lcol j) = lwc n k j := rfl
  have hhc : cellv n (ro n k + hrow j) (co n k + hcol j) = hic n k j := rfl
  rw [Gr_row_eq hG.2.2.1 ⟨by omega, hn9⟩ (by omega), bnd_some, Gr_column_eq hG.2.2.1 ⟨by omega, hn9⟩ (by omega), bnd_some, hro, hco]
  have a2 : alen 1002 = 3 := rfl
  have a3 : alen 1003 = 3 := rfl
  have a4 : alen 1004 = 3 := rfl
  have a5 : alen 1005 = 3 := rfl
  have a6 : alen 1006 = 3 := rfl
  have a7 : alen 1007 = 3 := rfl
  rw [Hx_at_n (by omega), bnd_some, Hx_at_n (by omega), bnd_some, s1, s2, Gr_cellAt_eq hG.2.2.1 hn9 (by unfold R; omega) (by unfold R; omega), bnd_some, hfar]
  unfold stepJ
  rcases far_rg n k j with e | ⟨i, e, hi⟩
  · rw [e, ifEq_eq _ _ R_n1 R_n1, if_pos rfl, if_neg (fun q => q.1 e)]
    exact okP_some ⟨Ch.rf _ _, hB⟩
  · obtain ⟨h1, h2, -, l, g, e1, e2, h3, h4, -⟩ := far_ok hk hj e
    rw [e, ifEq_eq _ _ (R_nat (by omega)) R_n1, if_neg (by omega), Hx_at_n (by omega), bnd_some, Hx_at_n (by omega), bnd_some, hf i hi, hf k hk, ifEq_eq _ _ (hfr.r hi) (hfr.r hk)]
    by_cases q : f i = f k
    · rw [if_pos q, Hx_at_n (by omega), bnd_some, Hx_at_n (by omega), bnd_some, s3, s4, Gr_cellAt_eq hG.2.2.1 hn9 (by unfold R; omega) (by unfold R; omega), bnd_some, Hx_at_n (by omega), bnd_some, Hx_at_n (by omega), bnd_some, s5, s6, Gr_cellAt_eq hG.2.2.1 hn9 (by unfold R; omega) (by unfold R; omega), bnd_some, hlw, hhc, e1, e2]
      refine okP_bnd (addIfFree_ok hn9 (by omega) h4 hr hf hfr hB hm hT) ?_
      rintro t - ⟨hC, hB2⟩
      refine okP_some ⟨hC, ?_⟩
      by_cases w : f l = -1 ∧ f g = -1
      · rw [if_pos w] at hB2
        rw [if_pos ⟨by rw [e]; omega, by rw [e]; exact q, by rw [e1]; exact w.1, by rw [e2]; exact w.2⟩]
        exact hB2
      · rw [if_neg w] at hB2
        rw [if_neg (fun c => w ⟨by have := c.2.2.1; rw [e1] at this; exact this, by have := c.2.2.2; rw [e2] at this; exact this⟩)]
        exact hB2
    · rw [if_neg q, if_neg (fun c => q (by have := c.2.1; rw [e] at this; exact this))]
      exact okP_some ⟨Ch.rf _ _, hB⟩
theorem ebit {v : Int} {e : Nat} (hv : v = 0 ∨ v = 1 ∨ v = 2) (he : e < 2) : iandI v (ishlI 1 (e : Int)) = 0 ↔ ¬ v = (e : Int) + 1 := by
  obtain rfl | rfl : e = 0 ∨ e = 1 := by omega
  · rcases hv with rfl | rfl | rfl <;> decide
  · rcases hv with rfl | rfl | rfl <;> decide
theorem ebit2 {v : Int} {e : Nat} (hv : v = 0 ∨ v = 1 ∨ v = 2) (he : e < 2) : iandI (ishrI v (e : Int)) 1 = 1 ↔ v = (e : Int) + 1 := by
  obtain rfl | rfl : e = 0 ∨ e = 1 := by omega
  · rcases hv with rfl | rfl | rfl <;> decide
  · rcases hv with rfl | rfl | rfl <;> decide
theorem addToEdge_ok {s : Sg} {n r1 k e : Nat} {f : Nat → Int} {sd : Int} {st : BL} (hG : GridOK s n) (hsd : sd = 0 ∨ sd = 1) (hk : k < n * n) (fk : f k = sd) (he : e < 2) (hr : alen r1 = 81) (hf : CB s n r1 f) (hfr : FR n f) (hB : ClB s st) (hm : st.1 < 405) (hT : ∀ x, st.2.2 x = 0 ∨ st.2.2 x = 1) :
    okP (Bl_addToEdge r1 (k : Int) (e : Int) s) (fun t => Ch BLs s t ∧ ClB t (stepE n f sd k st e)) := by
  have h81 := nn_le hG.2.1
  have hn9 := hG.2.1
  unfold Bl_addToEdge
  rw [Hx_at_n (by omega), bnd_some, hf k hk, fk, lett_eq, Gr_edges_eq hG hk hsd, bnd_some, ifEq_eq _ _ (R_iand _ _) R0]
  unfold stepE
  by_cases h0 : edg n sd k = (e : Int) + 1
  · rw [if_neg (fun q => (ebit (edg_rg n sd k) he).mp q h0), if_neg (fun q => q.1 h0)]
    exact okP_some ⟨Ch.rf _ _, hB⟩
  · rw [if_pos ((ebit (edg_rg n sd k) he).mpr h0)]
    unfold Bl_addToEdge_l38
    have key : whl (fun σ : Int × Int × Int => Bl_addToEdge_t38 r1 (k : Int) (e : Int) sd (ishlI 1 (e : Int)) σ.1 σ.2.1 σ.2.2 s) (-1, -1, 0) = some ((ebr n sd e k).1, (ebr n sd e k).2) := by
      have hnb : ebr n sd e k = fo (eF n sd e) (nbj n k) (-1, -1) 6 := (fo_nb (eF_m n sd e) n k (-1, -1)).symm
      rw [hnb]
      have hRq : ∀ j, R (fo (eF n sd e) (nbj n k) (-1, -1) j).1 := by
        intro j
        induction j with
        | zero => exact R_n1
        | succ j ih =>
          show R (eF n sd e (fo (eF n sd e) (nbj n k) (-1, -1) j) (nbj n k j)).1
          unfold eF
          split
          · show R (if _ then _ else _)
            split
            · rcases nbj_rg n k j with q | ⟨y, q, hy, -⟩
              · rw [q]; exact R_n1
              · rw [q]; exact R_nat (by omega)
            · exact ih
          · exact ih
      refine whl_up 6 (fun j => ((fo (eF n sd e) (nbj n k) (-1, -1) j).1, (fo (eF n sd e) (nbj n k) (-1, -1) j).2, (j : Int))) _ (fun j hj => ?_) ?_
      · show Bl_addToEdge_t38 r1 (k : Int) (e : Int) sd (ishlI 1 (e : Int)) (fo (eF n sd e) (nbj n k) (-1, -1) j).1 (fo (eF n sd e) (nbj n k) (-1, -1) j).2 (j : Int) s = some (.inl ((eF n sd e (fo (eF n sd e) (nbj n k) (-1, -1) j) (nbj n k j)).1, (eF n sd e (fo (eF n sd e) (nbj n k) (-1, -1) j) (nbj n k j)).2, ((j + 1 : Nat) : Int)))
        have hq := hRq j
        generalize fo (eF n sd e) (nbj n k) (-1, -1) j = q at hq ⊢
        unfold Bl_addToEdge_t38 Bl_addToEdge_b93 Bl_addToEdge_b99 eF
        rw [ifLt_eq _ _ (R_nat (by omega)) R6, if_pos (by omega), Gr_near_eq hG hk hj, bnd_some]
        rcases nbj_rg n k j with w | ⟨y, w, hy, -⟩
        · rw [w, ifEq_eq _ _ R_n1 R_n1, if_pos rfl, if_neg (fun c => c.1 rfl)]; rfl
        · rw [w, ifEq_eq _ _ (R_nat (by omega)) R_n1, if_neg (by omega), Gr_edges_eq hG hy hsd, bnd_some, ifEq_eq _ _ (R_iand _ _) R0]
          by_cases h1 : edg n sd y = (e : Int) + 1
          · rw [if_neg (fun c => (ebit (edg_rg n sd y) he).mp c h1), if_pos ⟨by omega, h1⟩]
            rw [ifEq_eq _ _ hq R_n1]
            by_cases h2 : q.1 = -1
            · rw [if_pos h2, if_pos h2]; rfl
            · rw [if_neg h2, if_neg h2]; rfl
          · rw [if_pos ((ebit (edg_rg n sd y) he).mpr h1), if_neg (fun c => h1 c.2)]; rfl
      · show Bl_addToEdge_t38 r1 (k : Int) (e : Int) sd _ _ _ ((6 : Nat) : Int) s = _
        unfold Bl_addToEdge_t38
        rw [ifLt_eq _ _ (R_nat (by omega)) R6, if_neg (by omega)]
    rw [key, bnd_some]
    have htwo := ebr_two (sd := sd) hG.1 hk he h0
    have hRe : R (ebr n sd e k).1 ∧ R (ebr n sd e k).2 := by
      unfold ebr
      rcases ebr_inv (n := n) (c := k) (e := e) (sd := sd) hk 6 (Nat.le_refl 6) with ⟨-, q⟩ | ⟨-, y, hy, -, q⟩ | ⟨-, y, z, hy, hz, -, -, -, q⟩
      · rw [q]; exact ⟨R_n1, R_n1⟩
      · rw [q]; exact ⟨R_nat (by omega), R_nat (by omega)⟩
      · rw [q]; exact ⟨R_nat (by omega), R_nat (by omega)⟩
    show okP (ifEq (ebr n sd e k).1 (ebr n sd e k).2 _ _) _
    rw [ifEq_eq _ _ hRe.1 hRe.2]
    by_cases h1 : (ebr n sd e k).1 = (ebr n sd e k).2
    · rw [if_pos h1, if_neg (fun q => q.2.1 h1)]
      exact okP_some ⟨Ch.rf _ _, hB⟩
    · rw [if_neg h1]
      obtain ⟨l, g, h3, h4, e1, e2⟩ := htwo.2 h1
      show okP (bnd (Bl_addIfFree r1 (k : Int) (-10 - (e : Int)) (ebr n sd e k).1 (ebr n sd e k).2 s) _) _
      rw [e1, e2]
      refine okP_bnd (addIfFree_ok hn9 (by omega) h4 hr hf hfr hB hm hT) ?_
      rintro t - ⟨hC, hB2⟩
      refine okP_some ⟨hC, ?_⟩
      by_cases w : f l = -1 ∧ f g = -1
      · rw [if_pos w] at hB2
        rw [if_pos ⟨h0, h1, by rw [e1]; exact w.1, by rw [e2]; exact w.2⟩]
        exact hB2
      · rw [if_neg w] at hB2
        rw [if_neg (fun c => w ⟨by have := c.2.2.1; rw [e1] at this; exact this, by have := c.2.2.2; rw [e2] at this; exact this⟩)]
        exact hB2
theorem Bl_find_ok {s : Sg} {n r1 : Nat} {f : Nat → Int} {sd : Int} (hG : GridOK s n) (hS : Stat s) (hsd : sd = 0 ∨ sd = 1) (hr : alen r1 = 81 ∧ r1 ∉ BLs) (hf : CB s n r1 f) (hfr : FR n f) :
    okP (Bl_find r1 sd s) (fun t => Ch BLs s t ∧ ClB t (brl n f sd (n * n))) := by
  have h81 := nn_le hG.2.1
  have hn := hG.1
  have a62 : alen 62 = 81 := rfl
  have hsR : R sd := by unfold R; omega
  unfold Bl_find
  rw [lett_eq]
  unfold Bl_find_l7
  refine okP_bnd (P := fun t => Ch BLs s t ∧ gi t 56 7 = 0 ∧ ∀ c, c < 81 → gi t 62 c = 0) (whl_for (fun (i : Nat) (t : Sg) => ((i : Int), t)) 81 (fun i t => Ch BLs s t ∧ gi t 56 7 = 0 ∧ ∀ c, c < i → gi t 62 c = 0) (t0 := si s 56 7 0) (Nat.zero_le 81) ⟨Ch.si (by decide), gi_si_s _ _ _ _, fun c hc => absurd hc (Nat.not_lt_zero c)⟩ ?_ ?_) ?_
  · rintro i t hi ⟨k1, k2, k3⟩
    show okP (Bl_find_t7 r1 sd (i : Int) t) _
    unfold Bl_find_t7
    rw [ifLt_eq _ _ (R_nat (by omega)) R81, if_pos (by omega), Hx_set_n (by omega), bnd_some]
    refine okP_some (Or.inl ⟨_, rfl, k1.tr (Ch.si (by decide)), by rw [gi_si_o _ _ _ _ (by omega)]; exact k2, fun c hc => ?_⟩)
    rw [gi_si_r]
    by_cases e : c = i
    · rw [if_pos e]
    · rw [if_neg e]; exact k3 c (by omega)
  · rintro t ⟨k1, k2, k3⟩
    show okP (Bl_find_t7 r1 sd ((81 : Nat) : Int) t) _
    unfold Bl_find_t7
    rw [ifLt_eq _ _ (R_nat (by omega)) R81, if_neg (by omega)]
    exact okP_some ⟨_, rfl, k1, k2, k3⟩
  · rintro t - ⟨k1, k2, k3⟩
    unfold Bl_find_l30
    refine okP_bnd (P := fun t => Ch BLs s t ∧ ClB t (brl n f sd (n * n))) (whl_for (fun (i : Nat) (t : Sg) => ((i : Int), t)) (n * n) (fun i t => Ch BLs s t ∧ ClB t (brl n f sd i)) (t0 := t) (Nat.zero_le _) ⟨k1, k2, fun i hi => absurd hi (Nat.not_lt_zero i), k3⟩ ?_ ?_) (fun v _ hv => okP_some hv)
    · rintro i t hi ⟨c1, c2⟩
      have hGt : GridOK t n := hG.ch c1 (by decide) (by decide) (by decide) (by decide)
      have hSt : Stat t := hS.ch c1 (by decide)
      have hft : CB t n r1 f := fun c hc => by rw [c1.g r1 hr.2 (ne80 hr.1)]; exact hf c hc
      have hw := brl_w (n := n) (f := f) (sd := sd) hn i (by omega)
      show okP (Bl_find_t30 r1 sd (i : Int) t) _
      unfold Bl_find_t30 Bl_find_b90
      rw [hGt.2.2.2.1, ifLt_eq _ _ (R_nat (by omega)) (R_nat (by omega)), if_pos (by omega), Hx_at_n (by omega), bnd_some, hft i hi, ifEq_eq _ _ (hfr.r hi) hsR]
      by_cases e : f i = sd
      · rw [if_pos e]
        unfold Bl_find_l53 Bl_find_b90
        have h0 := stepJ_w (j := 0) hi (by omega) e hw.1
        have h1 := stepJ_w (j := 1) hi (by omega) e h0.1
        have h2 := stepJ_w (j := 2) hi (by omega) e h1.1
        have h3 := stepE_w (e := 0) hn hi (by omega) e h2.1
        have hbr : brl n f sd (i + 1) = stepE n f sd i (stepE n f sd i (stepJ n f i (stepJ n f i (stepJ n f i (brl n f sd i) 0) 1) 2) 0) 1 := if_pos e
        rw [hbr]
        -- the three cells
        refine okP_bnd (P := fun u => Ch BLs s u ∧ ClB u (stepJ n f i (stepJ n f i (stepJ n f i (brl n f sd i) 0) 1) 2)) (whl_for (fun (j : Nat) (u : Sg) => ((j : Int), u)) 3 (fun j u => Ch BLs s u ∧ ∃ st, ClB u st ∧ ((j = 0 ∧ st = brl n f sd i) ∨ (j = 1 ∧ st = stepJ n f i (brl n f sd i) 0) ∨ (j = 2 ∧ st = stepJ n f i (stepJ n f i (brl n f sd i) 0) 1) ∨ (j = 3 ∧ st = stepJ n f i (stepJ n f i (stepJ n f i (brl n f sd i) 0) 1) 2))) (t0 := t) (Nat.zero_le 3) ⟨c1, _, c2, Or.inl ⟨rfl, rfl⟩⟩ ?_ ?_) ?_
        · rintro j u hj ⟨d1, st, d2, d3⟩
          have hGu : GridOK u n := hG.ch d1 (by decide) (by decide) (by decide) (by decide)
          have hSu : Stat u := hS.ch d1 (by decide)
          have hfu : CB u n r1 f := fun c hc => by rw [d1.g r1 hr.2 (ne80 hr.1)]; exact hf c hc
          show okP (Bl_find_t53 r1 sd (i : Int) (j : Int) u) _
          unfold Bl_find_t53
          have hst : st.1 < 405 ∧ ∀ x, st.2.2 x = 0 ∨ st.2.2 x = 1 := by
            rcases d3 with ⟨-, rfl⟩ | ⟨-, rfl⟩ | ⟨-, rfl⟩ | ⟨h, -⟩
            · exact ⟨by omega, hw.1.2⟩
            · exact ⟨by omega, h0.1.2⟩
            · exact ⟨by omega, h1.1.2⟩
            · omega
          rw [ifLt_eq _ _ (R_nat (by omega)) R3, if_pos (by omega)]
          refine okP_bnd (addToCell_ok hGu hSu hi hj hr.1 hfu hfr d2 hst.1 hst.2) ?_
          rintro v - ⟨q1, q2⟩
          refine okP_some (Or.inl ⟨v, rfl, d1.tr q1, _, q2, ?_⟩)
          rcases d3 with ⟨rfl, rfl⟩ | ⟨rfl, rfl⟩ | ⟨rfl, rfl⟩ | ⟨h, -⟩
          · exact Or.inr (Or.inl ⟨rfl, rfl⟩)
          · exact Or.inr (Or.inr (Or.inl ⟨rfl, rfl⟩))
          · exact Or.inr (Or.inr (Or.inr ⟨rfl, rfl⟩))
          · omega
        · rintro u ⟨d1, st, d2, d3⟩
          show okP (Bl_find_t53 r1 sd (i : Int) ((3 : Nat) : Int) u) _
          unfold Bl_find_t53
          rw [ifLt_eq _ _ (R_nat (by omega)) R3, if_neg (by omega)]
          refine okP_some ⟨u, rfl, d1, ?_⟩
          rcases d3 with ⟨h, -⟩ | ⟨h, -⟩ | ⟨h, -⟩ | ⟨-, rfl⟩
          · omega
          · omega
          · omega
          · exact d2
        · rintro u - ⟨d1, d2⟩
          have hGu : GridOK u n := hG.ch d1 (by decide) (by decide) (by decide) (by decide)
          have hfu : CB u n r1 f := fun c hc => by rw [d1.g r1 hr.2 (ne80 hr.1)]; exact hf c hc
          refine okP_bnd (addToEdge_ok (e := 0) hGu hsd hi e (by omega) hr.1 hfu hfr d2 (by omega) h2.1.2) ?_
          rintro v - ⟨q1, q2⟩
          have hGv : GridOK v n := hGu.ch q1 (by decide) (by decide) (by decide) (by decide)
          have hfv : CB v n r1 f := fun c hc => by rw [q1.g r1 hr.2 (ne80 hr.1)]; exact hfu c hc
          refine okP_bnd (addToEdge_ok (e := 1) hGv hsd hi e (by omega) hr.1 hfv hfr q2 (by omega) h3.1.2) ?_
          rintro w - ⟨q3, q4⟩
          exact okP_some (Or.inl ⟨w, rfl, d1.tr (q1.tr q3), q4⟩)
      · rw [if_neg e]
        have hbr : brl n f sd (i + 1) = brl n f sd i := if_neg e
        exact okP_some (Or.inl ⟨t, rfl, c1, by rw [hbr]; exact c2⟩)
    · rintro t ⟨c1, c2⟩
      have hGt : GridOK t n := hG.ch c1 (by decide) (by decide) (by decide) (by decide)
      show okP (Bl_find_t30 r1 sd ((n * n : Nat) : Int) t) _
      unfold Bl_find_t30
      rw [hGt.2.2.2.1, ifLt_eq _ _ (R_nat (by omega)) (R_nat (by omega)), if_neg (by omega)]
      exact okP_some ⟨_, rfl, c1, c2⟩


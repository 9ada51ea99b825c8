/-! ===== the board in the triangle ===== -/
def tc (sd : Int) (n c : Nat) : Nat × Nat := if sd = 0 then (c / n, c % n) else (c % n, c / n)
def clx (sd : Int) (n : Nat) (x : Nat × Nat) : Nat := if sd = 0 then n * x.1 + x.2 else n * x.2 + x.1
def own (sd : Int) (n : Nat) (f : Nat → Int) (x : Nat × Nat) : Prop := (x.1 < n ∧ x.2 < n ∧ f (clx sd n x) = sd) ∨ n ≤ x.1
section HEX
variable {n : Nat} {f : Nat → Int} {sd : Int}
theorem tc_clx {x : Nat × Nat} (h1 : x.1 < n) (h2 : x.2 < n) : tc sd n (clx sd n x) = x ∧ clx sd n x < n * n := by
  unfold tc clx
  by_cases h : sd = 0
  · rw [if_pos h, if_pos h, cell_div h2, cell_mod h2]
    exact ⟨rfl, cell_lt h1 h2⟩
  · rw [if_neg h, if_neg h, cell_div h1, cell_mod h1]
    exact ⟨rfl, cell_lt h2 h1⟩
theorem tc_lt {c : Nat} (hc : c < n * n) : (tc sd n c).1 < n ∧ (tc sd n c).2 < n := by
  have hn : 0 < n := by
    rcases Nat.eq_zero_or_pos n with h | h
    · subst h; simp at hc
    · exact h
  have h1 : c / n < n := Nat.div_lt_of_lt_mul hc
  have h2 : c % n < n := Nat.mod_lt _ hn
  unfold tc
  by_cases h : sd = 0
  · rw [if_pos h]; exact ⟨h1, h2⟩
  · rw [if_neg h]; exact ⟨h2, h1⟩
theorem clx_tc (c : Nat) : clx sd n (tc sd n c) = c := by
  unfold tc clx
  by_cases h : sd = 0
  · rw [if_pos h, if_pos h]; exact Nat.div_add_mod c n
  · rw [if_neg h, if_neg h]; exact Nat.div_add_mod c n
theorem tc_edg (c : Nat) : edg n sd c = edgeOf n (tc sd n c).1 := by
  unfold edg tc
  by_cases h : sd = 0
  · rw [if_pos h, if_pos h]
  · rw [if_neg h, if_neg h]
theorem tc_adj {x y : Nat} (hy : y < n * n) : Adj n x y ↔ Ad (tc sd n x) (tc sd n y) := by
  rw [adj_iff hy]
  unfold stp ro co Ad tc
  generalize x / n = a
  generalize x % n = b
  generalize y / n = a'
  generalize y % n = b'
  by_cases h : sd = 0
  · rw [if_pos h, if_pos h]
    show _ ↔ (a' = a ∧ (b' = b + 1 ∨ b = b' + 1)) ∨ (b' = b ∧ (a' = a + 1 ∨ a = a' + 1)) ∨ (a' = a + 1 ∧ b = b' + 1) ∨ (a = a' + 1 ∧ b' = b + 1)
    omega
  · rw [if_neg h, if_neg h]
    show _ ↔ (b' = b ∧ (a' = a + 1 ∨ a = a' + 1)) ∨ (a' = a ∧ (b' = b + 1 ∨ b = b' + 1)) ∨ (b' = b + 1 ∧ a = a' + 1) ∨ (b = b' + 1 ∧ a' = a + 1)
    omega
theorem edge2 (hn : 2 ≤ n) {l : Nat} (hl : l < n) : edgeOf n l = 2 ↔ l = n - 1 := by
  unfold edgeOf
  by_cases h : l = 0
  · rw [if_pos h]
    constructor
    · intro q; omega
    · intro q; omega
  · rw [if_neg h]
    by_cases h2 : l = n - 1
    · rw [if_pos h2]; exact ⟨fun _ => h2, fun _ => rfl⟩
    · rw [if_neg h2]; exact ⟨fun q => absurd q (by omega), fun q => absurd q h2⟩
theorem edge1 {l : Nat} : edgeOf n l = 1 ↔ l = 0 := by
  unfold edgeOf
  by_cases h : l = 0
  · rw [if_pos h]; exact ⟨fun _ => h, fun _ => rfl⟩
  · rw [if_neg h]
    by_cases h2 : l = n - 1
    · rw [if_pos h2]; exact ⟨fun q => absurd q (by omega), fun q => absurd q h⟩
    · rw [if_neg h2]; exact ⟨fun q => absurd q (by omega), fun q => absurd q h⟩
theorem Y_to (hn : 2 ≤ n) (hsd : sd = 0 ∨ sd = 1) (h : Yw (2 * n - 1) (own sd n f)) : Jn n f sd := by
  obtain ⟨a, b, c, ha, ga, a1, b2, c3, hab, hac⟩ := h
  have ga' : a.1 < n ∧ a.2 < n ∧ f (clx sd n a) = sd := by
    rcases ga with k | k
    · exact k
    · omega
  obtain ⟨e1, l1⟩ := tc_clx (sd := sd) ga'.1 ga'.2.1
  have hstart : edg n sd (clx sd n a) = 1 := by
    rw [tc_edg, e1]; exact edge1.mpr a1
  have hlast : ∀ z : Nat × Nat, z.1 < n → z.2 < n → z.1 = n - 1 → edg n sd (clx sd n z) = 2 := by
    intro z h1 h2 h3
    rw [tc_edg, (tc_clx (sd := sd) h1 h2).1]
    exact (edge2 hn h1).mpr h3
  have key := hac (fun z => (∃ y, Rch (Eb n f) (clx sd n a) y ∧ edg n sd y = 2) ∨ (z.1 < n ∧ z.2 < n ∧ Rch (Eb n f) (clx sd n a) (clx sd n z))) (Or.inr ⟨ga'.1, ga'.2.1, Rch.rf _ _⟩) (by
    rintro u v (hu | ⟨h1, h2, hr⟩) e
    · exact Or.inl hu
    · obtain ⟨-, -, gu, gv, hA⟩ := e
      have gu' : f (clx sd n u) = sd := by
        rcases gu with k | k
        · exact k.2.2
        · omega
      rcases gv with ⟨k1, k2, k3⟩ | k
      · right
        obtain ⟨eu, lu⟩ := tc_clx (sd := sd) h1 h2
        obtain ⟨ev', lv⟩ := tc_clx (sd := sd) k1 k2
        refine ⟨k1, k2, hr.st ⟨lu, lv, gu'.trans k3.symm, by omega, ?_⟩⟩
        rw [tc_adj (sd := sd) lv, eu, ev']; exact hA
      · left
        refine ⟨_, hr, hlast u h1 h2 ?_⟩
        unfold Ad at hA; omega)
  rcases key with ⟨y, hr, he⟩ | ⟨h1, h2, hr⟩
  · exact ⟨_, y, l1, ga'.2.2, hstart, hr, he⟩
  · exact ⟨_, _, l1, ga'.2.2, hstart, hr, hlast c h1 h2 (by omega)⟩
theorem Y_of (hn : 2 ≤ n) (hsd : sd = 0 ∨ sd = 1) (h : Jn n f sd) : Yw (2 * n - 1) (own sd n f) := by
  obtain ⟨x, y, hx, fx, e1, hr, e2⟩ := h
  have hin := Eb_in hx hr
  have g0 : ∀ c, c < n * n → f c = sd → own sd n f (tc sd n c) := fun c hc hf => Or.inl ⟨(tc_lt hc).1, (tc_lt hc).2, by rw [clx_tc]; exact hf⟩
  have hsum : ∀ c, c < n * n → (tc sd n c).1 + (tc sd n c).2 < 2 * n - 1 := fun c hc => by
    have := tc_lt (sd := sd) hc
    omega
  -- the way on the board
  have hway : ∀ z, Rch (Eb n f) x z → z < n * n ∧ f z = sd ∧ Rc (Et (2 * n - 1) (own sd n f)) (tc sd n x) (tc sd n z) := by
    intro z hz
    refine hz (fun z => z < n * n ∧ f z = sd ∧ Rc (Et (2 * n - 1) (own sd n f)) (tc sd n x) (tc sd n z)) ⟨hx, fx, Rc.rf _ _⟩ ?_
    rintro u v ⟨hu, fu, ru⟩ e
    have fv : f v = sd := e.2.2.1.symm.trans fu
    exact ⟨e.2.1, fv, ru.st ⟨hsum u hu, hsum v e.2.1, g0 u hu fu, g0 v e.2.1 fv, (tc_adj e.2.1).mp e.2.2.2.2⟩⟩
  obtain ⟨hy, fy, ry⟩ := hway y hr
  have hly := tc_lt (sd := sd) hy
  have hy1 : (tc sd n y).1 = n - 1 := (edge2 hn hly.1).mp (by rw [← tc_edg]; exact e2)
  -- the row behind the board
  have hrow : ∀ j, j < n - 1 → Rc (Et (2 * n - 1) (own sd n f)) (n, 0) (n, j) := by
    intro j
    induction j with
    | zero => intro _; exact Rc.rf _ _
    | succ j ih =>
      intro hj
      refine (ih (by omega)).st ⟨?_, ?_, Or.inr (Nat.le_refl n), Or.inr (Nat.le_refl n), Or.inl ⟨rfl, Or.inl rfl⟩⟩
      · show n + j < 2 * n - 1; omega
      · show n + (j + 1) < 2 * n - 1; omega
  have hjump : ∃ j, j < n - 1 ∧ Et (2 * n - 1) (own sd n f) (tc sd n y) (n, j) := by
    refine ⟨(tc sd n y).2 - 1, by omega, hsum y hy, ?_, g0 y hy fy, Or.inr (Nat.le_refl n), ?_⟩
    · show n + ((tc sd n y).2 - 1) < 2 * n - 1; omega
    · unfold Ad
      show (n = (tc sd n y).1 ∧ _) ∨ ((tc sd n y).2 - 1 = (tc sd n y).2 ∧ (n = (tc sd n y).1 + 1 ∨ (tc sd n y).1 = n + 1)) ∨ (n = (tc sd n y).1 + 1 ∧ (tc sd n y).2 = (tc sd n y).2 - 1 + 1) ∨ ((tc sd n y).1 = n + 1 ∧ _)
      omega
  obtain ⟨j, hj, hE⟩ := hjump
  have r0 : Rc (Et (2 * n - 1) (own sd n f)) (tc sd n x) (n, 0) := (ry.st hE).tr (hrow j hj).sy
  refine ⟨tc sd n x, (n, 0), (n, n - 2), hsum x hx, g0 x hx fx, ?_, rfl, ?_, r0, r0.tr (hrow (n - 2) (by omega))⟩
  · exact edge1.mp (by rw [← tc_edg]; exact e1)
  · show n + (n - 2) + 1 = 2 * n - 1; omega
theorem Yw_congr {m : Nat} {g g' : Nat × Nat → Prop} (k : ∀ x : Nat × Nat, x.1 + x.2 < m → (g x ↔ g' x)) (h : Yw m g) : Yw m g' := by
  obtain ⟨a, b, c, ha, ga, a1, b2, c3, hab, hac⟩ := h
  have mo : ∀ z, Rc (Et m g) a z → Rc (Et m g') a z := fun z hz => hz (fun z => Rc (Et m g') a z) (Rc.rf _ _) fun u v hu e => hu.st ⟨e.1, e.2.1, (k u e.1).mp e.2.2.1, (k v e.2.1).mp e.2.2.2.1, e.2.2.2.2⟩
  exact ⟨a, b, c, ha, (k a ha).mp ga, a1, b2, c3, mo b hab, mo c hac⟩
theorem Yw_swap {m : Nat} {g : Nat × Nat → Prop} (h : Yw m g) : Yw m (fun x => g (x.2, x.1)) := by
  obtain ⟨a, b, c, ha, ga, a1, b2, c3, hab, hac⟩ := h
  have mo : ∀ z, Rc (Et m g) a z → Rc (Et m (fun x => g (x.2, x.1))) (a.2, a.1) (z.2, z.1) := fun z hz => hz (fun z => Rc (Et m (fun x => g (x.2, x.1))) (a.2, a.1) (z.2, z.1)) (Rc.rf _ _) fun u v hu e => hu.st ⟨by have := e.1; show u.2 + u.1 < m; omega, by have := e.2.1; show v.2 + v.1 < m; omega, e.2.2.1, e.2.2.2.1, by
    have := e.2.2.2.2
    unfold Ad at this ⊢
    show (v.2 = u.2 ∧ (v.1 = u.1 + 1 ∨ u.1 = v.1 + 1)) ∨ (v.1 = u.1 ∧ (v.2 = u.2 + 1 ∨ u.2 = v.2 + 1)) ∨ (v.2 = u.2 + 1 ∧ u.1 = v.1 + 1) ∨ (u.2 = v.2 + 1 ∧ v.1 = u.1 + 1)
    omega⟩
  have hb := Et_in ⟨ha, ga⟩ hab
  have ra : Rc (Et m (fun x => g (x.2, x.1))) (b.2, b.1) (a.2, a.1) := (mo b hab).sy
  exact ⟨(b.2, b.1), (a.2, a.1), (c.2, c.1), by have := hb.1; show b.2 + b.1 < m; omega, hb.2, b2, a1, by show c.2 + c.1 + 1 = m; omega, ra, ra.tr (mo c hac)⟩
/-- a full board -/
def Full (n : Nat) (f : Nat → Int) : Prop := ∀ c, c < n * n → f c = 0 ∨ f c = 1
theorem own_swap (h : Full n f) (x : Nat × Nat) (hx : x.1 + x.2 < 2 * n - 1) : ¬ own 0 n f (x.2, x.1) ↔ own 1 n f x := by
  unfold own
  have e0 : clx 0 n (x.2, x.1) = n * x.2 + x.1 := if_pos rfl
  have e1 : clx 1 n x = n * x.2 + x.1 := if_neg (by omega)
  rw [e0, e1]
  show ¬ ((x.2 < n ∧ x.1 < n ∧ f (n * x.2 + x.1) = 0) ∨ n ≤ x.2) ↔ (x.1 < n ∧ x.2 < n ∧ f (n * x.2 + x.1) = 1) ∨ n ≤ x.1
  by_cases h1 : x.1 < n
  · by_cases h2 : x.2 < n
    · have hf := h _ (cell_lt h2 h1)
      constructor
      · intro q
        left
        refine ⟨h1, h2, ?_⟩
        rcases hf with k | k
        · exact absurd (Or.inl ⟨h2, h1, k⟩) q
        · exact k
      · rintro (⟨-, -, k⟩ | k)
        · rintro (⟨-, -, q⟩ | q)
          · omega
          · omega
        · omega
    · constructor
      · intro q; exact absurd (Or.inr (by omega)) q
      · rintro (⟨-, q, -⟩ | q)
        · exact absurd q h2
        · omega
  · constructor
    · intro _; right; omega
    · intro _
      rintro (⟨-, q, -⟩ | q)
      · exact h1 q
      · omega
theorem hex_some (hn : 2 ≤ n) (h : Full n f) : Jn n f 0 ∨ Jn n f 1 := by
  rcases Y_some (2 * n - 1) (own 0 n f) (by omega) with k | k
  · exact Or.inl (Y_to hn (Or.inl rfl) k)
  · exact Or.inr (Y_to hn (Or.inr rfl) (Yw_congr (fun x hx => own_swap h x hx) (Yw_swap k)))
theorem hex_one (hn : 2 ≤ n) (h : Full n f) (h0 : Jn n f 0) : ¬ Jn n f 1 := by
  intro h1
  have k0 := Y_of hn (Or.inl rfl) h0
  have k1 := Yw_swap (Y_of hn (Or.inr rfl) h1)
  refine Y_one (2 * n - 1) (own 0 n f) (by omega) k0 (Yw_congr (fun x hx => ?_) k1)
  have := own_swap h (x.2, x.1) (by show x.2 + x.1 < 2 * n - 1; omega)
  exact this.symm
/-- more stones, no fewer joins -/
theorem Jn_mono {f' : Nat → Int} (hne : sd ≠ -1) (k : ∀ c, c < n * n → f c = sd → f' c = sd) (h : Jn n f sd) : Jn n f' sd := by
  obtain ⟨x, y, hx, fx, e1, hr, e2⟩ := h
  refine ⟨x, y, hx, k x hx fx, e1, ?_, e2⟩
  refine (hr (fun z => z < n * n ∧ f z = sd ∧ Rch (Eb n f') x z) ⟨hx, fx, Rch.rf _ _⟩ ?_).2.2
  rintro u v ⟨hu, fu, ru⟩ e
  have fv : f v = sd := e.2.2.1.symm.trans fu
  exact ⟨e.2.1, fv, ru.st ⟨hu, e.2.1, by rw [k u hu fu, k v e.2.1 fv], by rw [k u hu fu]; exact hne, e.2.2.2.2⟩⟩
/-- never are both joined -/
theorem hex_both (hn : 2 ≤ n) (hfr : FR n f) (h0 : Jn n f 0) : ¬ Jn n f 1 := by
  intro h1
  have hF : Full n (fun c => if f c = 1 then 1 else 0) := by
    intro c _
    show (if f c = 1 then (1 : Int) else 0) = 0 ∨ (if f c = 1 then (1 : Int) else 0) = 1
    split
    · exact Or.inr rfl
    · exact Or.inl rfl
  exact hex_one hn hF (Jn_mono (by omega) (fun c _ q => by show (if f c = 1 then (1 : Int) else 0) = 0; rw [if_neg (by omega)]) h0) (Jn_mono (by omega) (fun c _ q => by show (if f c = 1 then (1 : Int) else 0) = 1; rw [if_pos q]) h1)
end HEX


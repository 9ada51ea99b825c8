/-! ===== the reference's list of bridges ===== -/
def MoB (s : Sg) (st : BL) : Prop := gi s 80 24 = (st.1 : Int) ∧ (∀ i, i < st.1 → gi s 88 i = (st.2.1 i).1 ∧ gi s 89 i = (st.2.1 i).2.1 ∧ gi s 90 i = (st.2.1 i).2.2.1 ∧ gi s 91 i = (st.2.1 i).2.2.2.1 ∧ gi s 92 i = (st.2.1 i).2.2.2.2) ∧ ∀ c, c < 81 → gi s 93 c = st.2.2 c
abbrev MBs : List Nat := [8024, 8025, 8026, 8027, 88, 89, 90, 91, 92, 93]
theorem MoB.ch {s s' : Sg} {st : BL} {L : List Nat} (h : MoB s st) (hc : Ch L s s') (h0 : 8024 ∉ L := by decide) (h1 : ∀ x ∈ [88, 89, 90, 91, 92, 93], x ∉ L := by decide) : MoB s' st := by
  obtain ⟨a, b, c⟩ := h
  refine ⟨by rw [hc.g8 24 h0]; exact a, fun i hi => ?_, fun x hx => ?_⟩
  · rw [hc.g 88 (h1 _ (by decide)), hc.g 89 (h1 _ (by decide)), hc.g 90 (h1 _ (by decide)), hc.g 91 (h1 _ (by decide)), hc.g 92 (h1 _ (by decide))]
    exact b i hi
  · rw [hc.g 93 (h1 _ (by decide))]; exact c x hx
/-- what is shared so far: how many, the first, the last -/
def Sh (s : Sg) (p : Nat → Prop) (i : Nat) : Prop := gi s 80 25 = (cnt p i : Int) ∧ ((cnt p i = 0 ∧ ∀ x, x < i → ¬ p x) ∨ (cnt p i = 1 ∧ ∃ a : Nat, gi s 80 26 = (a : Int) ∧ a < i ∧ ∀ x, x < i → (p x ↔ x = a)) ∨ (cnt p i = 2 ∧ ∃ a b : Nat, gi s 80 26 = (a : Int) ∧ gi s 80 27 = (b : Int) ∧ a < b ∧ b < i ∧ ∀ x, x < i → (p x ↔ x = a ∨ x = b)) ∨ 2 < cnt p i)
theorem Sh.no {s : Sg} {p : Nat → Prop} {i : Nat} (h : Sh s p i) (hp : ¬ p i) : Sh s p (i + 1) := by
  obtain ⟨h1, h2⟩ := h
  have hn : ∀ x, x < i + 1 → p x → x < i := fun x hx hpx => by
    by_cases e : x = i
    · subst e; exact absurd hpx hp
    · omega
  unfold Sh
  rw [cnt_f hp]
  refine ⟨h1, ?_⟩
  rcases h2 with ⟨q, q1⟩ | ⟨q, a, q1, q2, q3⟩ | ⟨q, a, b, q1, q2, q3, q4, q5⟩ | q
  · exact Or.inl ⟨q, fun x hx hpx => q1 x (hn x hx hpx) hpx⟩
  · refine Or.inr (Or.inl ⟨q, a, q1, by omega, fun x hx => ⟨fun hpx => (q3 x (hn x hx hpx)).mp hpx, ?_⟩⟩)
    rintro rfl
    exact (q3 x q2).mpr rfl
  · refine Or.inr (Or.inr (Or.inl ⟨q, a, b, q1, q2, q3, by omega, fun x hx => ⟨fun hpx => (q5 x (hn x hx hpx)).mp hpx, ?_⟩⟩))
    rintro (rfl | rfl)
    · exact (q5 x (by omega)).mpr (Or.inl rfl)
    · exact (q5 x q4).mpr (Or.inr rfl)
  · exact Or.inr (Or.inr (Or.inr q))
theorem Sh.zero {s : Sg} {p : Nat → Prop} (h : gi s 80 25 = 0) : Sh s p 0 := ⟨h, Or.inl ⟨rfl, fun x hx => absurd hx (Nat.not_lt_zero x)⟩⟩
/-- two cells form a bridge -/
def BrC (n : Nat) (f : Nat → Int) (x y : Nat) : Prop := x ≠ y ∧ f x ≠ -1 ∧ f x = f y ∧ ¬ Adj n x y ∧ ∃ a b, a < b ∧ b < n * n ∧ f a = -1 ∧ f b = -1 ∧ ∀ z, z < n * n → (Adj n x z ∧ Adj n y z ↔ z = a ∨ z = b)
/-- the far cells are those that form a bridge -/
theorem BrC_far {n k i : Nat} {f : Nat → Int} (hk : k < n * n) (hi : i < n * n) (hki : k < i) (hf : f k ≠ -1) : BrC n f k i ↔ ∃ j, j < 3 ∧ far n k j = (i : Int) ∧ cellC n f k j := by
  constructor
  · rintro ⟨-, -, e3, e4, a, b, h1, h2, h3, h4, h5⟩
    have ha := (h5 a (by omega)).mpr (Or.inl rfl)
    have hb := (h5 b h2).mpr (Or.inr rfl)
    obtain ⟨j, hj, e⟩ := far_of hk hi hki e4 (by omega) h2 (by omega) ha.1 ha.2 hb.1 hb.2
    obtain ⟨-, -, -, l, g, l1, l2, l3, l4, l5⟩ := far_ok hk hj e
    have el := (h5 l (by omega)).mp ((l5 l (by omega)).mpr (Or.inl rfl))
    have eg := (h5 g l4).mp ((l5 g l4).mpr (Or.inr rfl))
    obtain ⟨rfl, rfl⟩ : l = a ∧ g = b := by omega
    exact ⟨j, hj, e, by rw [e]; omega, by rw [e]; exact e3.symm, by rw [l1]; exact h3, by rw [l2]; exact h4⟩
  · rintro ⟨j, hj, e, -, c2, c3, c4⟩
    obtain ⟨-, -, hA, l, g, l1, l2, l3, l4, l5⟩ := far_ok hk hj e
    rw [e] at c2
    rw [l1] at c3
    rw [l2] at c4
    exact ⟨by omega, hf, c2.symm, hA, l, g, l3, l4, c3, c4, l5⟩
/-! the cells behind k: bridges come in the order of the far cells -/
noncomputable def stg (n : Nat) (f : Nat → Int) (k : Nat) (st : BL) : Nat → BL
  | 0 => st
  | a + 1 => stepJ n f k (stg n f k st a) a
def SgOk (n k i a : Nat) : Prop := a ≤ 3 ∧ (∀ j, j < a → ∀ y : Nat, far n k j = (y : Int) → y < i) ∧ ∀ j, a ≤ j → j < 3 → ∀ y : Nat, far n k j = (y : Int) → i ≤ y
theorem stg_skip {n k : Nat} {f : Nat → Int} {st : BL} {a : Nat} : ∀ {b : Nat}, a ≤ b → (∀ j, a ≤ j → j < b → far n k j = -1) → stg n f k st b = stg n f k st a
  | 0, h, _ => by
    have : a = 0 := by omega
    subst this; rfl
  | b + 1, h, hs => by
    by_cases e : a = b + 1
    · subst e; rfl
    · have ih := stg_skip (f := f) (st := st) (b := b) (by omega) (fun j h1 h2 => hs j h1 (by omega))
      show stepJ n f k (stg n f k st b) b = _
      unfold stepJ
      rw [if_neg (fun q => q.1 (hs b (by omega) (by omega)))]
      exact ih
theorem SgOk.no {n k i a : Nat} (h : SgOk n k i a) (hno : ∀ j, j < 3 → far n k j ≠ (i : Int)) : SgOk n k (i + 1) a := by
  refine ⟨h.1, fun j hj y e => by have := h.2.1 j hj y e; omega, fun j h1 h2 y e => ?_⟩
  have h3 := h.2.2 j h1 h2 y e
  have h4 := hno j h2
  by_cases e9 : y = i
  · subst e9; exact absurd e h4
  · omega
theorem SgOk.at {n k i a j : Nat} {f : Nat → Int} {st : BL} (h : SgOk n k i a) (hj : j < 3) (e : far n k j = (i : Int)) : stg n f k st j = stg n f k st a ∧ SgOk n k (i + 1) (j + 1) := by
  have haj : a ≤ j := by
    by_cases q : a ≤ j
    · exact q
    · have := h.2.1 j (by omega) i e
      omega
  refine ⟨stg_skip haj fun j' h1 h2 => ?_, by omega, fun j' h1 y e' => ?_, fun j' h1 h2 y e' => ?_⟩
  · rcases far_rg n k j' with q | ⟨y, q, -⟩
    · exact q
    · have h3 := h.2.2 j' h1 (by omega) y q
      have h4 := far_mono q e h2 hj
      omega
  · by_cases q : j' = j
    · subst q
      rw [e] at e'
      omega
    · have := far_mono e' e (by omega) hj
      omega
  · have := far_mono e e' (by omega) h2
    omega

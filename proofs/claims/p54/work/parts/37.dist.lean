/-! ===== what a way costs ===== -/
def cst (f : Nat → Int) (sd : Int) (c : Nat) : Nat := if f c = sd then 0 else 1
def Ub (f : Nat → Int) (sd : Int) (c : Nat) : Prop := f c = sd ∨ f c = -1
/-- a way from an edge to c costs w -/
def Wk (n : Nat) (f : Nat → Int) (sd e : Int) (c w : Nat) : Prop := ∀ P : Nat → Nat → Prop, (∀ x, x < n * n → Ub f sd x → edg n sd x = e → P x (cst f sd x)) → (∀ x v y, P x v → x < n * n → y < n * n → Adj n x y → Ub f sd y → P y (v + cst f sd y)) → P c w
section WK
variable {n : Nat} {f : Nat → Int} {sd e : Int}
theorem cst_le (f : Nat → Int) (sd : Int) (c : Nat) : cst f sd c ≤ 1 := by unfold cst; split <;> omega
theorem Wk.b {c : Nat} (hc : c < n * n) (hu : Ub f sd c) (he : edg n sd c = e) : Wk n f sd e c (cst f sd c) := fun _ hb _ => hb c hc hu he
theorem Wk.i {c w : Nat} (h : Wk n f sd e c w) : c < n * n ∧ Ub f sd c ∧ cst f sd c ≤ w :=
  h (fun c w => c < n * n ∧ Ub f sd c ∧ cst f sd c ≤ w) (fun x hx hu _ => ⟨hx, hu, Nat.le_refl _⟩) fun x v y _ _ hy _ hu => ⟨hy, hu, by omega⟩
theorem Wk.st {x v y : Nat} (h : Wk n f sd e x v) (hy : y < n * n) (hA : Adj n x y) (hu : Ub f sd y) : Wk n f sd e y (v + cst f sd y) := fun P hb hs => hs x v y (h P hb hs) h.i.1 hy hA hu
theorem dst_ex {c : Nat} (h : ∃ w, Wk n f sd e c w) : ∃ v, Wk n f sd e c v ∧ ∀ u, Wk n f sd e c u → v ≤ u := by
  obtain ⟨w, hw⟩ := h
  obtain ⟨v, -, hv, hn⟩ := least_ex (p := fun w => Wk n f sd e c w) hw
  exact ⟨v, hv, fun u hu => Nat.le_of_not_lt fun q => hn u q hu⟩
noncomputable def dst (n : Nat) (f : Nat → Int) (sd e : Int) (c : Nat) : Int := @dite _ (∃ w, Wk n f sd e c w) (Classical.propDecidable _) (fun h => ((dst_ex h).choose : Int)) (fun _ => -1)
theorem dst_cases (n : Nat) (f : Nat → Int) (sd e : Int) (c : Nat) : (dst n f sd e c = -1 ∧ ∀ w, ¬ Wk n f sd e c w) ∨ ∃ v : Nat, dst n f sd e c = (v : Int) ∧ Wk n f sd e c v ∧ ∀ u, Wk n f sd e c u → v ≤ u := by
  by_cases h : ∃ w, Wk n f sd e c w
  · refine Or.inr ⟨(dst_ex h).choose, ?_, (dst_ex h).choose_spec⟩
    unfold dst
    rw [dif_pos h]
  · refine Or.inl ⟨?_, fun w hw => h ⟨w, hw⟩⟩
    unfold dst
    rw [dif_neg h]
theorem dst_w {c w : Nat} (h : Wk n f sd e c w) : ∃ v : Nat, dst n f sd e c = (v : Int) ∧ Wk n f sd e c v ∧ v ≤ w ∧ ∀ u, Wk n f sd e c u → v ≤ u := by
  rcases dst_cases n f sd e c with ⟨-, h2⟩ | ⟨v, h1, h2, h3⟩
  · exact absurd h (h2 w)
  · exact ⟨v, h1, h2, h3 w h, h3⟩
theorem dst_u {c v : Nat} (h : Wk n f sd e c v) (hu : ∀ u, Wk n f sd e c u → v ≤ u) : dst n f sd e c = (v : Int) := by
  obtain ⟨w, h1, h2, h3, h4⟩ := dst_w h
  have := hu w h2
  rw [h1]; omega
theorem dst_of {c w : Nat} (h : dst n f sd e c = (w : Int)) : Wk n f sd e c w ∧ ∀ u, Wk n f sd e c u → w ≤ u := by
  rcases dst_cases n f sd e c with ⟨h1, h2⟩ | ⟨v, h1, h2, h3⟩
  · omega
  · have : v = w := by omega
    subst this
    exact ⟨h2, h3⟩
/-- all costs below one that is reached are there -/
theorem dst_gap {c w v : Nat} (hv : 1 ≤ v) (h : Wk n f sd e c w) : (∃ u : Nat, dst n f sd e c = (u : Int) ∧ u < v) ∨ ∃ y, y < n * n ∧ dst n f sd e y = (v : Int) := by
  refine (h (fun x w => Wk n f sd e x w ∧ ((∃ u : Nat, dst n f sd e x = (u : Int) ∧ u < v) ∨ ∃ y, y < n * n ∧ dst n f sd e y = (v : Int))) ?_ ?_).2
  · intro x hx hu he
    obtain ⟨u, h1, -, h3, -⟩ := dst_w (Wk.b hx hu he)
    have := cst_le f sd x
    refine ⟨Wk.b hx hu he, ?_⟩
    by_cases q : u < v
    · exact Or.inl ⟨u, h1, q⟩
    · exact Or.inr ⟨x, hx, by rw [h1]; omega⟩
  · rintro x w y ⟨hw, hP⟩ hx hy hA hu
    refine ⟨hw.st hy hA hu, ?_⟩
    rcases hP with ⟨u, h1, h2⟩ | hP
    · obtain ⟨u', h1', -, h3', -⟩ := dst_w ((dst_of h1).1.st hy hA hu)
      have := cst_le f sd y
      by_cases q : u' < v
      · exact Or.inl ⟨u', h1', q⟩
      · exact Or.inr ⟨y, hy, by rw [h1']; omega⟩
    · exact Or.inr hP
theorem cnt_lt {p q : Nat → Prop} {N j : Nat} (h : ∀ i, i < N → p i → q i) (hj : j < N) (hp : ¬ p j) (hq : q j) : cnt p N + 1 ≤ cnt q N := by
  have h1 := cnt_split q p N
  have h2 : cnt p N ≤ cnt (fun i => q i ∧ p i) N := cnt_mono fun i hi hp => ⟨h i hi hp, hp⟩
  have h3 : 0 < cnt (fun i => q i ∧ ¬ p i) N := cnt_pos (p := fun i => q i ∧ ¬ p i) hj ⟨hq, hp⟩
  omega
theorem dst_cnt {c w : Nat} (h : Wk n f sd e c w) : ∀ v : Nat, (v : Int) ≤ dst n f sd e c → v ≤ cnt (fun x => 1 ≤ dst n f sd e x ∧ dst n f sd e x ≤ (v : Int)) (n * n) := by
  intro v
  induction v with
  | zero => intro _; exact Nat.zero_le _
  | succ v ih =>
    intro hv
    have h1 := ih (by omega)
    rcases dst_gap (v := v + 1) (by omega) h with ⟨u, h2, h3⟩ | ⟨y, hy, h2⟩
    · omega
    · have h3 := cnt_lt (p := fun x => 1 ≤ dst n f sd e x ∧ dst n f sd e x ≤ (v : Int)) (q := fun x => 1 ≤ dst n f sd e x ∧ dst n f sd e x ≤ ((v + 1 : Nat) : Int)) (fun i _ hp => ⟨hp.1, by omega⟩) hy (fun q => by omega) ⟨by omega, by omega⟩
      omega
theorem dst_rg (n : Nat) (f : Nat → Int) (sd e : Int) (c : Nat) : dst n f sd e c = -1 ∨ ∃ v : Nat, dst n f sd e c = (v : Int) ∧ v ≤ n * n ∧ Wk n f sd e c v := by
  rcases dst_cases n f sd e c with ⟨h1, -⟩ | ⟨v, h1, h2, -⟩
  · exact Or.inl h1
  · have h3 := dst_cnt h2 v (by omega)
    have h4 := cnt_le (fun x => 1 ≤ dst n f sd e x ∧ dst n f sd e x ≤ (v : Int)) (n * n)
    exact Or.inr ⟨v, h1, by omega, h2⟩
/-- if not all stand right, one will in the next round -/
theorem dst_next {d : Nat → Int} (hb : ∀ x, x < n * n → Ub f sd x → edg n sd x = e → d x ≠ -1 ∧ d x ≤ (cst f sd x : Int)) (hl : ∀ x, x < n * n → d x = -1 ∨ ∃ v : Nat, d x = (v : Int) ∧ Wk n f sd e x v) (hno : ¬ ∀ x, x < n * n → d x = dst n f sd e x) :
    ∃ y c, y < n * n ∧ c < n * n ∧ Adj n y c ∧ Ub f sd c ∧ d y = dst n f sd e y ∧ dst n f sd e y ≠ -1 ∧ d c ≠ dst n f sd e c ∧ dst n f sd e c = dst n f sd e y + (cst f sd c : Int) := by
  apply Classical.byContradiction
  intro hc
  refine hno fun c hcn => ?_
  rcases dst_cases n f sd e c with ⟨h1, h2⟩ | ⟨v, h1, h2, h3⟩
  · rw [h1]
    rcases hl c hcn with h | ⟨w, -, hw⟩
    · exact h
    · exact absurd hw (h2 w)
  · have key := h2 (fun x w => Wk n f sd e x w ∧ (d x = dst n f sd e x ∨ dst n f sd e x < (w : Int))) (by
      intro x hx hu he
      refine ⟨Wk.b hx hu he, ?_⟩
      obtain ⟨u, h1, h2, h3, h4⟩ := dst_w (Wk.b hx hu he)
      obtain ⟨h5, h6⟩ := hb x hx hu he
      by_cases q : u = cst f sd x
      · left
        rcases hl x hx with h | ⟨w, h7, h8⟩
        · exact absurd h h5
        · have := h4 w h8
          rw [h1, h7]; omega
      · right
        rw [h1]; omega) (by
      rintro x w y ⟨hw, hP⟩ hx hy hA hu
      refine ⟨hw.st hy hA hu, ?_⟩
      obtain ⟨u, a1, a2, a3, a4⟩ := dst_w hw
      obtain ⟨u', b1, b2, b3, b4⟩ := dst_w (a2.st hy hA hu)
      by_cases q : u' = w + cst f sd y
      · left
        apply Classical.byContradiction
        intro hne
        have hex : d x = dst n f sd e x := by
          rcases hP with h | h
          · exact h
          · omega
        exact hc ⟨x, y, hx, hy, hA, hu, hex, by omega, hne, by omega⟩
      · right
        rw [b1]; omega)
    rcases key.2 with h | h
    · exact h
    · omega
/-- what nothing lowers any more is right -/
theorem dst_fix {d : Nat → Int} (hb : ∀ x, x < n * n → Ub f sd x → edg n sd x = e → d x ≤ (cst f sd x : Int)) (hs : ∀ x y, x < n * n → y < n * n → Adj n x y → Ub f sd y → d y ≤ d x + (cst f sd y : Int)) {c w : Nat} (h : Wk n f sd e c w) : d c ≤ (w : Int) :=
  h (fun x w => d x ≤ (w : Int)) hb fun x v y hv hx hy hA hu => by
    have := hs x y hx hy hA hu
    omega
end WK


/-! ===== reach by closed sets; the least cell that is reached; counting ===== -/
def Rch (E : Nat → Nat → Prop) (x y : Nat) : Prop := ∀ P : Nat → Prop, P x → (∀ u v, P u → E u v → P v) → P y
section RCH
variable {E E' : Nat → Nat → Prop} {x y z : Nat}
theorem Rch.rf (E : Nat → Nat → Prop) (x : Nat) : Rch E x x := fun _ h _ => h
theorem Rch.st (h : Rch E x y) (e : E y z) : Rch E x z := fun P hx hs => hs y z (h P hx hs) e
theorem Rch.tr (h : Rch E x y) (h2 : Rch E y z) : Rch E x z := fun P hx hs => h2 P (h P hx hs) hs
theorem Rch.one (e : E x y) : Rch E x y := (Rch.rf E x).st e
theorem Rch.mono (hm : ∀ u v, E u v → E' u v) (h : Rch E x y) : Rch E' x y := fun P hx hs => h P hx fun u v hu e => hs u v hu (hm u v e)
theorem Rch.sy (hE : ∀ u v, E u v → E v u) (h : Rch E x y) : Rch E y x := h (fun z => Rch E z x) (Rch.rf E x) fun u v hu e => (Rch.one (hE u v e)).tr hu
theorem lab_ex (E : Nat → Nat → Prop) (x : Nat) : ∃ m, Rch E x m ∧ ∀ y, Rch E x y → m ≤ y := by
  have key : ∀ k y, y ≤ k → Rch E x y → ∃ m, Rch E x m ∧ ∀ y, Rch E x y → m ≤ y := by
    intro k
    induction k with
    | zero =>
      intro y hy h
      have h0 : y = 0 := by omega
      subst h0
      exact ⟨0, h, fun z _ => Nat.zero_le z⟩
    | succ k ih =>
      intro y hy h
      by_cases hz : ∃ z, z ≤ k ∧ Rch E x z
      · obtain ⟨z, h1, h2⟩ := hz
        exact ih z h1 h2
      · refine ⟨y, h, fun z hz2 => ?_⟩
        have h3 : ¬ z ≤ k := fun q => hz ⟨z, q, hz2⟩
        omega
  exact key x x (Nat.le_refl x) (Rch.rf E x)
noncomputable def lab (E : Nat → Nat → Prop) (x : Nat) : Nat := (lab_ex E x).choose
theorem lab_r (E : Nat → Nat → Prop) (x : Nat) : Rch E x (lab E x) := (lab_ex E x).choose_spec.1
theorem lab_m (h : Rch E x y) : lab E x ≤ y := (lab_ex E x).choose_spec.2 y h
theorem lab_le (E : Nat → Nat → Prop) (x : Nat) : lab E x ≤ x := lab_m (Rch.rf E x)
theorem lab_u {m : Nat} (h : Rch E x m) (hm : ∀ y, Rch E x y → m ≤ y) : lab E x = m := Nat.le_antisymm (lab_m h) (hm _ (lab_r E x))
theorem lab_eq (hE : ∀ u v, E u v → E v u) (h : Rch E x y) : lab E x = lab E y :=
  Nat.le_antisymm (lab_m (h.tr (lab_r E y))) (lab_m ((h.sy hE).tr (lab_r E x)))
theorem lab_iff (hE : ∀ u v, E u v → E v u) : lab E x = lab E y ↔ Rch E x y :=
  ⟨fun e => (lab_r E x).tr (by rw [e]; exact (lab_r E y).sy hE), lab_eq hE⟩
theorem lab_id (hE : ∀ u v, E u v → E v u) (x : Nat) : lab E (lab E x) = lab E x := (lab_eq hE (lab_r E x)).symm
end RCH
noncomputable def cnt (p : Nat → Prop) : Nat → Nat
  | 0 => 0
  | N + 1 => cnt p N + @ite _ (p N) (Classical.propDecidable _) 1 0
theorem cnt_s (p : Nat → Prop) (N : Nat) : cnt p (N + 1) = cnt p N + @ite _ (p N) (Classical.propDecidable _) 1 0 := rfl
theorem cnt_t {p : Nat → Prop} {N : Nat} (h : p N) : cnt p (N + 1) = cnt p N + 1 := by rw [cnt_s, if_pos h]
theorem cnt_f {p : Nat → Prop} {N : Nat} (h : ¬ p N) : cnt p (N + 1) = cnt p N := by rw [cnt_s, if_neg h]; rfl
theorem cnt_le (p : Nat → Prop) : ∀ N, cnt p N ≤ N
  | 0 => Nat.le_refl 0
  | N + 1 => by
    have := cnt_le p N
    by_cases h : p N
    · rw [cnt_t h]; omega
    · rw [cnt_f h]; omega
theorem cnt_congr {p q : Nat → Prop} : ∀ {N : Nat}, (∀ i, i < N → (p i ↔ q i)) → cnt p N = cnt q N
  | 0, _ => rfl
  | N + 1, h => by
    have ih := cnt_congr (N := N) (fun i hi => h i (by omega))
    by_cases hp : p N
    · rw [cnt_t hp, cnt_t ((h N (by omega)).mp hp), ih]
    · rw [cnt_f hp, cnt_f (fun q => hp ((h N (by omega)).mpr q)), ih]
theorem cnt_mono {p q : Nat → Prop} : ∀ {N : Nat}, (∀ i, i < N → p i → q i) → cnt p N ≤ cnt q N
  | 0, _ => Nat.le_refl 0
  | N + 1, h => by
    have ih := cnt_mono (N := N) (fun i hi => h i (by omega))
    by_cases hp : p N
    · rw [cnt_t hp, cnt_t (h N (by omega) hp)]; omega
    · rw [cnt_f hp]
      by_cases hq : q N
      · rw [cnt_t hq]; omega
      · rw [cnt_f hq]; exact ih
/-- one more -/
theorem cnt_add {p q : Nat → Prop} {j : Nat} (hp : ¬ p j) (hq : q j) : ∀ {N : Nat}, j < N → (∀ i, i < N → i ≠ j → (p i ↔ q i)) → cnt q N = cnt p N + 1
  | 0, h, _ => by omega
  | N + 1, h, hc => by
    by_cases hj : j = N
    · subst hj
      rw [cnt_t hq, cnt_f hp, cnt_congr (fun i hi => (hc i (by omega) (by omega)))]
    · have ih := cnt_add hp hq (N := N) (by omega) (fun i hi hn => hc i (by omega) hn)
      by_cases hpN : p N
      · rw [cnt_t hpN, cnt_t ((hc N (by omega) (fun e => hj e.symm)).mp hpN), ih]
      · rw [cnt_f hpN, cnt_f (fun q9 => hpN ((hc N (by omega) (fun e => hj e.symm)).mpr q9)), ih]
theorem cnt_split (p q : Nat → Prop) : ∀ N, cnt p N = cnt (fun i => p i ∧ q i) N + cnt (fun i => p i ∧ ¬ q i) N
  | 0 => rfl
  | N + 1 => by
    have ih := cnt_split p q N
    by_cases hp : p N
    · by_cases hq : q N
      · rw [cnt_t hp, cnt_t (p := fun i => p i ∧ q i) ⟨hp, hq⟩, cnt_f (p := fun i => p i ∧ ¬ q i) (fun h => h.2 hq), ih]; omega
      · rw [cnt_t hp, cnt_f (p := fun i => p i ∧ q i) (fun h => hq h.2), cnt_t (p := fun i => p i ∧ ¬ q i) ⟨hp, hq⟩, ih]; omega
    · rw [cnt_f hp, cnt_f (p := fun i => p i ∧ q i) (fun h => hp h.1), cnt_f (p := fun i => p i ∧ ¬ q i) (fun h => hp h.1), ih]
theorem cnt_pos {p : Nat → Prop} {j N : Nat} (hj : j < N) (h : p j) : 0 < cnt p N := by
  induction N with
  | zero => omega
  | succ N ih =>
    by_cases hp : p N
    · rw [cnt_t hp]; omega
    · rw [cnt_f hp]
      by_cases e : j = N
      · subst e; exact absurd h hp
      · exact ih (by omega)
theorem cnt_zero {p : Nat → Prop} {N : Nat} (h : ∀ i, i < N → ¬ p i) : cnt p N = 0 := by
  rw [cnt_congr (q := fun _ => False) (fun i hi => ⟨fun q => h i hi q, fun q => q.elim⟩)]
  induction N with
  | zero => rfl
  | succ N ih =>
    rw [cnt_f (fun q => q)]
    exact ih fun i hi => h i (by omega)
/-- beyond M nothing counts -/
theorem cnt_cut {p : Nat → Prop} {M N : Nat} (hMN : M ≤ N) (h : ∀ i, M ≤ i → ¬ p i) : cnt p N = cnt p M := by
  induction N with
  | zero => have : M = 0 := by omega
            subst this; rfl
  | succ N ih =>
    by_cases e : M = N + 1
    · subst e; rfl
    · rw [cnt_f (h N (by omega))]
      exact ih (by omega)
/-! ===== the stones that hang together ===== -/
def Eb (n : Nat) (f : Nat → Int) (x y : Nat) : Prop := x < n * n ∧ y < n * n ∧ f x = f y ∧ f x ≠ -1 ∧ Adj n x y
theorem Eb_sy {n : Nat} {f : Nat → Int} (x y : Nat) (h : Eb n f x y) : Eb n f y x := ⟨h.2.1, h.1, h.2.2.1.symm, by rw [← h.2.2.1]; exact h.2.2.2.1, adj_symm h.1 h.2.2.2.2⟩
theorem Eb_in {n : Nat} {f : Nat → Int} {x y : Nat} (hx : x < n * n) (h : Rch (Eb n f) x y) : y < n * n ∧ f y = f x :=
  h (fun z => z < n * n ∧ f z = f x) ⟨hx, rfl⟩ fun u v hu e => ⟨e.2.1, by rw [← e.2.2.1]; exact hu.2⟩
theorem Eb_congr {n : Nat} {f g : Nat → Int} (h : ∀ c, c < n * n → f c = g c) (x y : Nat) : Eb n f x y → Eb n g x y := fun ⟨h1, h2, h3, h4, h5⟩ => ⟨h1, h2, by rw [← h x h1, ← h y h2]; exact h3, by rw [← h x h1]; exact h4, h5⟩
theorem lab_congr {E E' : Nat → Nat → Prop} (h1 : ∀ x y, E x y → E' x y) (h2 : ∀ x y, E' x y → E x y) (x : Nat) : lab E x = lab E' x :=
  lab_u ((lab_r E' x).mono h2) fun y hy => lab_m (hy.mono h1)
/-- two edges' bits as a number -/
noncomputable def ev (p q : Prop) : Int := @ite _ p (Classical.propDecidable _) 1 0 + @ite _ q (Classical.propDecidable _) 2 0
theorem ev_congr {p q p' q' : Prop} (h1 : p ↔ p') (h2 : q ↔ q') : ev p q = ev p' q' := by
  unfold ev
  by_cases hp : p
  · by_cases hq : q
    · rw [if_pos hp, if_pos hq, if_pos (h1.mp hp), if_pos (h2.mp hq)]
    · rw [if_pos hp, if_neg hq, if_pos (h1.mp hp), if_neg (fun k => hq (h2.mpr k))]
  · by_cases hq : q
    · rw [if_neg hp, if_pos hq, if_neg (fun k => hp (h1.mpr k)), if_pos (h2.mp hq)]
    · rw [if_neg hp, if_neg hq, if_neg (fun k => hp (h1.mpr k)), if_neg (fun k => hq (h2.mpr k))]
theorem ev_or (p q p' q' : Prop) : iorI (ev p q) (ev p' q') = ev (p ∨ p') (q ∨ q') := by
  have k : ∀ b1 b2 b3 b4 : Bool, iorI ((if b1 then 1 else 0) + (if b2 then 2 else 0)) ((if b3 then 1 else 0) + (if b4 then 2 else 0)) = (if b1 || b3 then 1 else 0) + (if b2 || b4 then 2 else 0) := by decide
  by_cases h1 : p <;> by_cases h2 : q <;> by_cases h3 : p' <;> by_cases h4 : q' <;> simp only [ev, h1, h2, h3, h4, if_true, if_false, true_or, or_true, or_self, false_or]
  · exact k true true true true
  · exact k true true true false
  · exact k true true false true
  · exact k true true false false
  · exact k true false true true
  · exact k true false true false
  · exact k true false false true
  · exact k true false false false
  · exact k false true true true
  · exact k false true true false
  · exact k false true false true
  · exact k false true false false
  · exact k false false true true
  · exact k false false true false
  · exact k false false false true
  · exact k false false false false
theorem ev_rg (p q : Prop) : 0 ≤ ev p q ∧ ev p q ≤ 3 := by
  unfold ev
  split <;> split <;> omega
theorem ev3 (p q : Prop) : ev p q = 3 ↔ p ∧ q := by
  unfold ev
  by_cases hp : p <;> by_cases hq : q <;> simp [hp, hq]
theorem edg_ev (n : Nat) (sd : Int) (c : Nat) : edg n sd c = ev (edg n sd c = 1) (edg n sd c = 2) := by
  unfold ev
  rcases edg_rg n sd c with h | h | h <;> rw [h] <;> simp
theorem ev_ff : ev False False = 0 := by unfold ev; rw [if_neg (fun q => q), if_neg (fun q => q)]; rfl


/-! ===== a full board is joined by just one side ===== -/
def Rc {α : Type} (E : α → α → Prop) (x y : α) : Prop := ∀ P : α → Prop, P x → (∀ u v, P u → E u v → P v) → P y
theorem Rc.rf {α : Type} (E : α → α → Prop) (x : α) : Rc E x x := fun _ h _ => h
theorem Rc.st {α : Type} {E : α → α → Prop} {x y z : α} (h : Rc E x y) (e : E y z) : Rc E x z := fun P hx hs => hs y z (h P hx hs) e
theorem Rc.tr {α : Type} {E : α → α → Prop} {x y z : α} (h : Rc E x y) (h2 : Rc E y z) : Rc E x z := fun P hx hs => h2 P (h P hx hs) hs
/-- neighbours, by two coordinates -/
def Ad (x y : Nat × Nat) : Prop := (y.1 = x.1 ∧ (y.2 = x.2 + 1 ∨ x.2 = y.2 + 1)) ∨ (y.2 = x.2 ∧ (y.1 = x.1 + 1 ∨ x.1 = y.1 + 1)) ∨ (y.1 = x.1 + 1 ∧ x.2 = y.2 + 1) ∨ (x.1 = y.1 + 1 ∧ y.2 = x.2 + 1)
theorem Ad.sy {x y : Nat × Nat} (h : Ad x y) : Ad y x := by unfold Ad at h ⊢; omega
/-- links of a triangle's board -/
def Et (m : Nat) (g : Nat × Nat → Prop) (x y : Nat × Nat) : Prop := x.1 + x.2 < m ∧ y.1 + y.2 < m ∧ g x ∧ g y ∧ Ad x y
theorem Et.sy {m : Nat} {g : Nat × Nat → Prop} {x y : Nat × Nat} (h : Et m g x y) : Et m g y x := ⟨h.2.1, h.1, h.2.2.2.1, h.2.2.1, h.2.2.2.2.sy⟩
def Yw (m : Nat) (g : Nat × Nat → Prop) : Prop := ∃ a b c : Nat × Nat, a.1 + a.2 < m ∧ g a ∧ a.1 = 0 ∧ b.2 = 0 ∧ c.1 + c.2 + 1 = m ∧ Rc (Et m g) a b ∧ Rc (Et m g) a c
def maj (g : Nat × Nat → Prop) (t : Nat × Nat) : Prop := (g (t.1, t.2) ∧ g (t.1 + 1, t.2)) ∨ (g (t.1, t.2) ∧ g (t.1, t.2 + 1)) ∨ (g (t.1 + 1, t.2) ∧ g (t.1, t.2 + 1))
/-- z is of the three cells of t -/
def Tz (t z : Nat × Nat) : Prop := (z.1 = t.1 ∧ z.2 = t.2) ∨ (z.1 = t.1 + 1 ∧ z.2 = t.2) ∨ (z.1 = t.1 ∧ z.2 = t.2 + 1)
theorem pr_e {x : Nat × Nat} {i j : Nat} (h1 : x.1 = i) (h2 : x.2 = j) : x = (i, j) := by
  rcases x with ⟨a, b⟩
  simp only at h1 h2
  subst h1; subst h2; rfl
theorem Et_in {m : Nat} {g : Nat × Nat → Prop} {x y : Nat × Nat} (hx : x.1 + x.2 < m ∧ g x) (h : Rc (Et m g) x y) : y.1 + y.2 < m ∧ g y :=
  h (fun z => z.1 + z.2 < m ∧ g z) hx fun u v _ e => ⟨e.2.1, e.2.2.2.1⟩
theorem Rc.sy {m : Nat} {g : Nat × Nat → Prop} {x y : Nat × Nat} (h : Rc (Et m g) x y) : Rc (Et m g) y x :=
  h (fun z => Rc (Et m g) z x) (Rc.rf _ _) fun u v hu e => ((Rc.rf _ v).st e.sy).tr hu
theorem Tz_g {g : Nat × Nat → Prop} {t z : Nat × Nat} (h : Tz t z) (hg : g z) : (z = (t.1, t.2) ∧ g (t.1, t.2)) ∨ (z = (t.1 + 1, t.2) ∧ g (t.1 + 1, t.2)) ∨ (z = (t.1, t.2 + 1) ∧ g (t.1, t.2 + 1)) := by
  rcases h with ⟨h1, h2⟩ | ⟨h1, h2⟩ | ⟨h1, h2⟩
  · have e := pr_e h1 h2
    exact Or.inl ⟨e, e ▸ hg⟩
  · have e := pr_e h1 h2
    exact Or.inr (Or.inl ⟨e, e ▸ hg⟩)
  · have e := pr_e h1 h2
    exact Or.inr (Or.inr ⟨e, e ▸ hg⟩)
/-- two cells of one three -/
theorem same_t {m : Nat} {g : Nat × Nat → Prop} {t y z : Nat × Nat} (ht : t.1 + t.2 + 1 < m) (hy : Tz t y) (hz : Tz t z) (gy : g y) (gz : g z) : Rc (Et m g) y z := by
  by_cases e : y = z
  · subst e; exact Rc.rf _ _
  · refine (Rc.rf _ y).st ⟨?_, ?_, gy, gz, ?_⟩
    · unfold Tz at hy; omega
    · unfold Tz at hz; omega
    · have : ¬ (y.1 = z.1 ∧ y.2 = z.2) := fun q => e (Prod.ext q.1 q.2)
      unfold Tz at hy hz
      unfold Ad
      omega
/-- two threes that are neighbours have linked cells -/
theorem near_t {m : Nat} {g : Nat × Nat → Prop} {t u : Nat × Nat} (ht : t.1 + t.2 + 1 < m) (hu : u.1 + u.2 + 1 < m) (mt : maj g t) (mu : maj g u) (h : Ad t u) : ∃ y z, Tz t y ∧ Tz u z ∧ g y ∧ g z ∧ Rc (Et m g) y z := by
  have go : ∀ y z : Nat × Nat, Tz t y → Tz u z → g y → g z → (y = z ∨ Ad y z) → ∃ y z, Tz t y ∧ Tz u z ∧ g y ∧ g z ∧ Rc (Et m g) y z := by
    intro y z h1 h2 h3 h4 h5
    refine ⟨y, z, h1, h2, h3, h4, ?_⟩
    rcases h5 with rfl | h5
    · exact Rc.rf _ _
    · refine (Rc.rf _ y).st ⟨?_, ?_, h3, h4, h5⟩
      · unfold Tz at h1; omega
      · unfold Tz at h2; omega
  have t0 : Tz t (t.1, t.2) := Or.inl ⟨rfl, rfl⟩
  have t1 : Tz t (t.1 + 1, t.2) := Or.inr (Or.inl ⟨rfl, rfl⟩)
  have t2 : Tz t (t.1, t.2 + 1) := Or.inr (Or.inr ⟨rfl, rfl⟩)
  have u0 : Tz u (u.1, u.2) := Or.inl ⟨rfl, rfl⟩
  have u1 : Tz u (u.1 + 1, u.2) := Or.inr (Or.inl ⟨rfl, rfl⟩)
  have u2 : Tz u (u.1, u.2 + 1) := Or.inr (Or.inr ⟨rfl, rfl⟩)
  have key : ∀ y z : Nat × Nat, Tz t y → Tz u z → g y → g z → ((y.1 = z.1 ∧ y.2 = z.2) ∨ Ad y z) → ∃ y z, Tz t y ∧ Tz u z ∧ g y ∧ g z ∧ Rc (Et m g) y z := fun y z h1 h2 h3 h4 h5 => go y z h1 h2 h3 h4 (h5.imp (fun q => Prod.ext q.1 q.2) id)
  unfold Ad at h
  rcases mt with ⟨a, b⟩ | ⟨a, b⟩ | ⟨a, b⟩ <;> rcases mu with ⟨c, d⟩ | ⟨c, d⟩ | ⟨c, d⟩ <;> rcases h with ⟨h1, h2 | h2⟩ | ⟨h1, h2 | h2⟩ | ⟨h1, h2⟩ | ⟨h1, h2⟩ <;>
    first
    | exact key _ _ t0 u0 ‹_› ‹_› (by unfold Ad; simp only; omega)
    | exact key _ _ t0 u1 ‹_› ‹_› (by unfold Ad; simp only; omega)
    | exact key _ _ t0 u2 ‹_› ‹_› (by unfold Ad; simp only; omega)
    | exact key _ _ t1 u0 ‹_› ‹_› (by unfold Ad; simp only; omega)
    | exact key _ _ t1 u1 ‹_› ‹_› (by unfold Ad; simp only; omega)
    | exact key _ _ t1 u2 ‹_› ‹_› (by unfold Ad; simp only; omega)
    | exact key _ _ t2 u0 ‹_› ‹_› (by unfold Ad; simp only; omega)
    | exact key _ _ t2 u1 ‹_› ‹_› (by unfold Ad; simp only; omega)
    | exact key _ _ t2 u2 ‹_› ‹_› (by unfold Ad; simp only; omega)
theorem maj_ex {g : Nat × Nat → Prop} {t : Nat × Nat} (h : maj g t) : ∃ z, Tz t z ∧ g z := by
  rcases h with ⟨a, b⟩ | ⟨a, b⟩ | ⟨a, b⟩
  · exact ⟨_, Or.inl ⟨rfl, rfl⟩, a⟩
  · exact ⟨_, Or.inl ⟨rfl, rfl⟩, a⟩
  · exact ⟨(t.1 + 1, t.2), Or.inr (Or.inl ⟨rfl, rfl⟩), a⟩
/-- of any two cells of a three that is owned one is owned -/
theorem maj_01 {g : Nat × Nat → Prop} {t : Nat × Nat} (h : maj g t) : (∃ z, Tz t z ∧ g z ∧ z.1 = t.1) ∧ (∃ z, Tz t z ∧ g z ∧ z.2 = t.2) ∧ ∃ z, Tz t z ∧ g z ∧ z.1 + z.2 = t.1 + t.2 + 1 := by
  have t0 : Tz t (t.1, t.2) := Or.inl ⟨rfl, rfl⟩
  have t1 : Tz t (t.1 + 1, t.2) := Or.inr (Or.inl ⟨rfl, rfl⟩)
  have t2 : Tz t (t.1, t.2 + 1) := Or.inr (Or.inr ⟨rfl, rfl⟩)
  rcases h with ⟨a, b⟩ | ⟨a, b⟩ | ⟨a, b⟩
  · exact ⟨⟨_, t0, a, rfl⟩, ⟨_, t0, a, rfl⟩, ⟨_, t1, b, by show t.1 + 1 + t.2 = _; omega⟩⟩
  · exact ⟨⟨_, t0, a, rfl⟩, ⟨_, t0, a, rfl⟩, ⟨_, t2, b, by show t.1 + (t.2 + 1) = _; omega⟩⟩
  · exact ⟨⟨_, t2, b, rfl⟩, ⟨_, t1, a, rfl⟩, ⟨_, t1, a, by show t.1 + 1 + t.2 = _; omega⟩⟩
theorem Yw_lift {m : Nat} {g : Nat × Nat → Prop} (h : Yw m (maj g)) : Yw (m + 1) g := by
  obtain ⟨a, b, c, ha, ga, a1, b2, c3, hab, hac⟩ := h
  obtain ⟨⟨z, hz, gz, z1⟩, -, -⟩ := maj_01 ga
  have key : ∀ t, Rc (Et m (maj g)) a t → ∀ y, Tz t y → g y → Rc (Et (m + 1) g) z y := by
    intro t h
    refine h (fun t => ∀ y, Tz t y → g y → Rc (Et (m + 1) g) z y) ?_ ?_
    · intro y hy gy
      exact same_t (by omega) hz hy gz gy
    · intro u v hu e y hy gy
      obtain ⟨p, q, hp, hq, gp, gq, hr⟩ := near_t (m := m + 1) (by have := e.1; omega) (by have := e.2.1; omega) e.2.2.1 e.2.2.2.1 e.2.2.2.2
      exact ((hu p hp gp).tr hr).tr (same_t (by have := e.2.1; omega) hq hy gq gy)
  have hb := Et_in ⟨ha, ga⟩ hab
  have hc := Et_in ⟨ha, ga⟩ hac
  obtain ⟨-, ⟨p, hp, gp, p2⟩, -⟩ := maj_01 hb.2
  obtain ⟨-, -, ⟨q, hq, gq, q3⟩⟩ := maj_01 hc.2
  refine ⟨z, p, q, ?_, gz, by omega, by omega, by omega, key b hab p hp gp, key c hac q hq gq⟩
  unfold Tz at hz; omega
/-- neighbours lie in one three -/
theorem com_t {m : Nat} {g : Nat × Nat → Prop} {x y : Nat × Nat} (h : Et (m + 1) g x y) : ∃ t : Nat × Nat, t.1 + t.2 < m ∧ Tz t x ∧ Tz t y ∧ maj g t := by
  obtain ⟨hx, hy, gx, gy, hA⟩ := h
  have go : ∀ t : Nat × Nat, t.1 + t.2 < m → Tz t x → Tz t y → ∃ t : Nat × Nat, t.1 + t.2 < m ∧ Tz t x ∧ Tz t y ∧ maj g t := by
    intro t ht h1 h2
    refine ⟨t, ht, h1, h2, ?_⟩
    have hne : x ≠ y := by
      rintro rfl
      unfold Ad at hA; omega
    unfold maj
    rcases Tz_g h1 gx with ⟨e1, k1⟩ | ⟨e1, k1⟩ | ⟨e1, k1⟩ <;> rcases Tz_g h2 gy with ⟨e2, k2⟩ | ⟨e2, k2⟩ | ⟨e2, k2⟩
    · exact absurd (e1.trans e2.symm) hne
    · exact Or.inl ⟨k1, k2⟩
    · exact Or.inr (Or.inl ⟨k1, k2⟩)
    · exact Or.inl ⟨k2, k1⟩
    · exact absurd (e1.trans e2.symm) hne
    · exact Or.inr (Or.inr ⟨k1, k2⟩)
    · exact Or.inr (Or.inl ⟨k2, k1⟩)
    · exact Or.inr (Or.inr ⟨k2, k1⟩)
    · exact absurd (e1.trans e2.symm) hne
  have go' : ∀ i j : Nat, i + j < m → ((x.1 = i ∧ x.2 = j) ∨ (x.1 = i + 1 ∧ x.2 = j) ∨ (x.1 = i ∧ x.2 = j + 1)) → ((y.1 = i ∧ y.2 = j) ∨ (y.1 = i + 1 ∧ y.2 = j) ∨ (y.1 = i ∧ y.2 = j + 1)) → ∃ t : Nat × Nat, t.1 + t.2 < m ∧ Tz t x ∧ Tz t y ∧ maj g t := fun i j h1 h2 h3 => go (i, j) h1 h2 h3
  rcases hA with ⟨h1, h2 | h2⟩ | ⟨h1, h2 | h2⟩ | ⟨h1, h2⟩ | ⟨h1, h2⟩
  · exact go' x.1 x.2 (by omega) (by omega) (by omega)
  · exact go' y.1 y.2 (by omega) (by omega) (by omega)
  · exact go' x.1 x.2 (by omega) (by omega) (by omega)
  · exact go' y.1 y.2 (by omega) (by omega) (by omega)
  · exact go' x.1 y.2 (by omega) (by omega) (by omega)
  · exact go' y.1 x.2 (by omega) (by omega) (by omega)
theorem both_t {m : Nat} {g : Nat × Nat → Prop} {t u z : Nat × Nat} (ht : t.1 + t.2 < m) (hu : u.1 + u.2 < m) (mt : maj g t) (mu : maj g u) (h1 : Tz t z) (h2 : Tz u z) : Rc (Et m (maj g)) t u := by
  by_cases e : t = u
  · subst e; exact Rc.rf _ _
  · have hne : ¬ (t.1 = u.1 ∧ t.2 = u.2) := fun q => e (Prod.ext q.1 q.2)
    refine (Rc.rf _ t).st ⟨ht, hu, mt, mu, ?_⟩
    unfold Tz at h1 h2
    unfold Ad
    omega
theorem Yw_lower {m : Nat} {g : Nat × Nat → Prop} (hm : 1 ≤ m) (h : Yw (m + 1) g) : Yw m (maj g) := by
  obtain ⟨a, b, c, ha, ga, a1, b2, c3, hab, hac⟩ := h
  have hnb : ∃ y, Et (m + 1) g a y := by
    apply Classical.byContradiction
    intro hno
    have hs : ∀ z, Rc (Et (m + 1) g) a z → z = a := fun z hz => hz (fun z => z = a) rfl fun u v hu e => absurd ⟨v, hu ▸ e⟩ hno
    have e1 := hs b hab
    have e2 := hs c hac
    subst e1
    rw [e2] at c3
    omega
  obtain ⟨y, hy⟩ := hnb
  obtain ⟨t0, ht0, h0a, h0y, m0⟩ := com_t hy
  -- every owned three at what a reaches is reached from t0
  have key : ∀ z, Rc (Et (m + 1) g) a z → (∃ t : Nat × Nat, t.1 + t.2 < m ∧ Tz t z ∧ maj g t) ∧ ∀ t : Nat × Nat, t.1 + t.2 < m → Tz t z → maj g t → Rc (Et m (maj g)) t0 t := by
    intro z hz
    refine hz (fun z => (∃ t : Nat × Nat, t.1 + t.2 < m ∧ Tz t z ∧ maj g t) ∧ ∀ t : Nat × Nat, t.1 + t.2 < m → Tz t z → maj g t → Rc (Et m (maj g)) t0 t) ⟨⟨t0, ht0, h0a, m0⟩, fun t h1 h2 h3 => both_t ht0 h1 m0 h3 h0a h2⟩ ?_
    rintro u v ⟨-, hu⟩ e
    obtain ⟨t, h1, h2, h3, h4⟩ := com_t e
    exact ⟨⟨t, h1, h3, h4⟩, fun t' k1 k2 k3 => (hu t h1 h2 h4).tr (both_t h1 k1 h4 k3 h3 k2)⟩
  obtain ⟨⟨t1, k1, k2, k3⟩, k4⟩ := key b hab
  obtain ⟨⟨t2, l1, l2, l3⟩, l4⟩ := key c hac
  refine ⟨t0, t1, t2, ht0, m0, ?_, ?_, ?_, k4 t1 k1 k2 k3, l4 t2 l1 l2 l3⟩
  · unfold Tz at h0a; omega
  · unfold Tz at k2; omega
  · unfold Tz at l2; omega
theorem maj_not (g : Nat × Nat → Prop) : maj (fun x => ¬ g x) = fun t => ¬ maj g t := by
  funext t
  refine propext ?_
  unfold maj
  by_cases h1 : g (t.1, t.2) <;> by_cases h2 : g (t.1 + 1, t.2) <;> by_cases h3 : g (t.1, t.2 + 1) <;> simp [h1, h2, h3]
theorem Y_some : ∀ (m : Nat) (g : Nat × Nat → Prop), 1 ≤ m → Yw m g ∨ Yw m (fun x => ¬ g x)
  | 0, _, h => absurd h (by omega)
  | 1, g, _ => by
    by_cases hg : g (0, 0)
    · exact Or.inl ⟨(0, 0), (0, 0), (0, 0), by show 0 + 0 < 1; omega, hg, rfl, rfl, rfl, Rc.rf _ _, Rc.rf _ _⟩
    · exact Or.inr ⟨(0, 0), (0, 0), (0, 0), by show 0 + 0 < 1; omega, hg, rfl, rfl, rfl, Rc.rf _ _, Rc.rf _ _⟩
  | m + 2, g, _ => by
    rcases Y_some (m + 1) (maj g) (by omega) with h | h
    · exact Or.inl (Yw_lift h)
    · rw [← maj_not] at h
      exact Or.inr (Yw_lift h)
theorem Y_one : ∀ (m : Nat) (g : Nat × Nat → Prop), 1 ≤ m → Yw m g → ¬ Yw m (fun x => ¬ g x)
  | 0, _, h => absurd h (by omega)
  | 1, g, _ => by
    rintro ⟨a, -, -, h1, h2, -⟩ ⟨b, -, -, k1, k2, -⟩
    have ea : a = (0, 0) := pr_e (by omega) (by omega)
    have eb : b = (0, 0) := pr_e (by omega) (by omega)
    rw [ea] at h2
    rw [eb] at k2
    exact k2 h2
  | m + 2, g, _ => by
    intro h1 h2
    have l1 := Yw_lower (by omega) h1
    have l2 := Yw_lower (by omega) h2
    rw [maj_not] at l2
    exact Y_one (m + 1) (maj g) (by omega) l1 l2


/-! ===== the references, fixed once all objects stand ===== -/
def rtL : List (List (Option Nat)) := [[some 1, some 5, some 10, some 13, some 16, some 42, some 45, some 48, some 50, some 52, some 56, some 63, some 67, some 71, some 74, some 78], [some 2, some 3, some 4], [], [], [], [some 1, some 6, some 7, some 8, some 9], [], [], [], [], [some 11, some 12], [], [], [some 14, some 15], [], [], [some 17], [some 18, some 21, some 24, some 27, some 30, some 33, some 36, some 39], [some 19, some 20], [], [], [some 22, some 23], [], [], [some 25, some 26], [], [], [some 28, some 29], [], [], [some 31, some 32], [], [], [some 34, some 35], [], [], [some 37, some 38], [], [], [some 40, some 41], [], [], [some 43, some 44], [], [], [some 46, some 47], [], [], [some 49], [], [some 51], [], [some 48, some 1, some 5, some 53], [some 54, some 55], [], [], [some 1, some 57, some 58, some 59, some 60, some 61, some 62], [], [], [], [], [], [], [some 1, some 64, some 65, some 66], [], [], [], [some 1, some 68, some 69, some 70], [], [], [], [some 1, some 72, some 73], [], [], [some 1, some 5, some 75, some 76, some 77], [], [], [], [some 1, some 5, some 79], []]
def RT (a f : Nat) : Option Nat := (rtL[a]?).bind fun l => (l[f]?).bind id
/-! ===== a heap of whole numbers ===== -/
/-- ints, longs, references of what comes behind the class's objects (0: null) -/
abbrev Sg : Type := (Nat → Nat → Int) × (Nat → Nat → Int) × (Nat → Nat → Nat)
def gi (s : Sg) (a k : Nat) : Int := s.1 a k
def gl (s : Sg) (a k : Nat) : Int := s.2.1 a k
def gd (s : Sg) (a k : Nat) : Nat := s.2.2 a k
def si (s : Sg) (a k : Nat) (v : Int) : Sg := (fun b j => if b = a ∧ j = k then v else s.1 b j, s.2)
def sl (s : Sg) (a k : Nat) (v : Int) : Sg := (s.1, fun b j => if b = a ∧ j = k then v else s.2.1 b j, s.2.2)
def sd (s : Sg) (a k v : Nat) : Sg := (s.1, s.2.1, fun b j => if b = a ∧ j = k then v else s.2.2 b j)
theorem gi_si (s : Sg) (a k : Nat) (v : Int) (b j : Nat) : gi (si s a k v) b j = if b = a ∧ j = k then v else gi s b j := rfl
theorem gl_si (s : Sg) (a k : Nat) (v : Int) : gl (si s a k v) = gl s := rfl
theorem gd_si (s : Sg) (a k : Nat) (v : Int) : gd (si s a k v) = gd s := rfl
theorem gl_sl (s : Sg) (a k : Nat) (v : Int) (b j : Nat) : gl (sl s a k v) b j = if b = a ∧ j = k then v else gl s b j := rfl
theorem gi_sl (s : Sg) (a k : Nat) (v : Int) : gi (sl s a k v) = gi s := rfl
theorem gd_sl (s : Sg) (a k : Nat) (v : Int) : gd (sl s a k v) = gd s := rfl
theorem gd_sd (s : Sg) (a k v : Nat) (b j : Nat) : gd (sd s a k v) b j = if b = a ∧ j = k then v else gd s b j := rfl
theorem gi_sd (s : Sg) (a k v : Nat) : gi (sd s a k v) = gi s := rfl
theorem gl_sd (s : Sg) (a k v : Nat) : gl (sd s a k v) = gl s := rfl
def drf (k : Nat) : Option Nat := if k = 0 then none else some k
def hp (nx : Nat) (s : Sg) : Hp := (fun a f => Int32.ofInt (s.1 a f), fun a f => if a < nx then (if a < KN then RT a f else drf (s.2.2 a f)) else none, fun a f => Int64.ofInt (s.2.1 a f), fun _ _ => 0)
theorem hp_si (nx : Nat) (s : Sg) (a k : Nat) (v : Int) : sI (hp nx s) a k (Int32.ofInt v) = hp nx (si s a k v) := by
  unfold sI hp si
  refine Prod.ext ?_ rfl
  funext b j
  show (if b = a ∧ j = k then Int32.ofInt v else Int32.ofInt (s.1 b j)) = Int32.ofInt (if b = a ∧ j = k then v else s.1 b j)
  split <;> rfl
theorem hp_sl (nx : Nat) (s : Sg) (a k : Nat) (v : Int) : sL (hp nx s) a k (Int64.ofInt v) = hp nx (sl s a k v) := by
  unfold sL hp sl
  refine Prod.ext rfl (Prod.ext rfl (Prod.ext ?_ rfl))
  funext b j
  show (if b = a ∧ j = k then Int64.ofInt v else Int64.ofInt (s.2.1 b j)) = Int64.ofInt (if b = a ∧ j = k then v else s.2.1 b j)
  split <;> rfl
theorem RT_lt {a f b : Nat} (h : RT a f = some b) : a < KN := by
  apply Classical.byContradiction
  intro q
  have e : rtL[a]? = none := List.getElem?_eq_none (by show 80 ≤ a; unfold KN at q; omega)
  unfold RT at h
  rw [e] at h
  cases h
theorem hpR {nx : Nat} {s : Sg} {a f b : Nat} (ha : a < nx) (h : RT a f = some b) : gR (hp nx s) a f = some b := by
  show (if a < nx then (if a < KN then RT a f else drf (s.2.2 a f)) else none) = some b
  rw [if_pos ha, if_pos (RT_lt h), h]
/-- a reference of what comes behind the class's objects -/
theorem hpD {nx : Nat} {s : Sg} {a f b : Nat} (ha : a < nx) (hK : KN ≤ a) (hb : b ≠ 0) (h : gd s a f = b) : gR (hp nx s) a f = some b := by
  show (if a < nx then (if a < KN then RT a f else drf (gd s a f)) else none) = some b
  rw [if_pos ha, if_neg (Nat.not_lt.mpr hK), h]
  unfold drf
  rw [if_neg hb]
theorem hp_sr {nx : Nat} {s : Sg} {a f b : Nat} (ha : a < nx) (hK : KN ≤ a) (hb : b ≠ 0) : sR (hp nx s) a f (some b) = hp nx (sd s a f b) := by
  unfold sR hp sd
  refine Prod.ext rfl (Prod.ext ?_ rfl)
  funext x y
  show (if x = a ∧ y = f then some b else (if x < nx then (if x < KN then RT x y else drf (s.2.2 x y)) else none)) = (if x < nx then (if x < KN then RT x y else drf (if x = a ∧ y = f then b else s.2.2 x y)) else none)
  by_cases q : x = a ∧ y = f
  · obtain ⟨rfl, rfl⟩ := q
    rw [if_pos ⟨rfl, rfl⟩, if_pos ha, if_neg (Nat.not_lt.mpr hK), if_pos ⟨rfl, rfl⟩]
    unfold drf
    rw [if_neg hb]
  · rw [if_neg q, if_neg q]
abbrev vi (x : Int) : Value := .int (Int32.ofInt x)
abbrev vl (x : Int) : Value := .long (Int64.ofInt x)
/-- the range of an int, of a long -/
def R (x : Int) : Prop := -2147483648 ≤ x ∧ x ≤ 2147483647
def RL64 (x : Int) : Prop := -9223372036854775808 ≤ x ∧ x ≤ 9223372036854775807
theorem t32 {x : Int} (h : R x) : (Int32.ofInt x).toInt = x := by
  unfold R at h
  rw [Int32.toInt_ofInt, show Int32.size = 4294967296 from rfl]
  exact Int.bmod_eq_of_le_mul_two (by omega) (by omega)
theorem t64 {x : Int} (h : RL64 x) : (Int64.ofInt x).toInt = x := by
  unfold RL64 at h
  rw [Int64.toInt_ofInt, show Int64.size = 18446744073709551616 from rfl]
  exact Int.bmod_eq_of_le_mul_two (by omega) (by omega)
theorem c32e {x y : Int} (hx : R x) (hy : R y) : Int32.ofInt x = Int32.ofInt y ↔ x = y :=
  ⟨fun h => by rw [← t32 hx, ← t32 hy, h], fun h => by rw [h]⟩
theorem c32l {x y : Int} (hx : R x) (hy : R y) : Int32.ofInt x < Int32.ofInt y ↔ x < y := by
  rw [Int32.lt_iff_toInt_lt, t32 hx, t32 hy]
theorem c32m {x y : Int} (hx : R x) (hy : R y) : Int32.ofInt x ≤ Int32.ofInt y ↔ x ≤ y := by
  rw [Int32.le_iff_toInt_le, t32 hx, t32 hy]
theorem R0 : R 0 := by unfold R; omega
theorem z32 : (0 : Int32) = Int32.ofInt 0 := by decide
/-! ===== combinators of the models ===== -/
noncomputable def grd {α : Type} (p : Prop) (x : Option α) : Option α := @ite _ p (Classical.propDecidable p) x none
theorem grd_e {α : Type} {p : Prop} {x : Option α} {o : α} {G : Prop} (hs : grd p x = some o) (k : p → x = some o → G) : G := by
  unfold grd at hs
  split at hs
  · exact k ‹_› hs
  · cases hs
theorem grd_t {α : Type} {p : Prop} {x : Option α} (h : p) : grd p x = x := by unfold grd; exact if_pos h
def bnd {α β : Type} (m : Option α) (f : α → Option β) : Option β := match m with
  | some a => f a
  | none => none
def bnd2 {α β : Type} (m : Option (α × Sg)) (f : α → Sg → Option β) : Option β := match m with
  | some (a, s) => f a s
  | none => none
/-- behind a call that doesn't throw -/
def bndr {α β : Type} (m : Option ((Nat ⊕ α) × Sg)) (f : α → Sg → Option β) : Option β := match m with
  | some (.inr a, s) => f a s
  | _ => none
theorem bndr_some {α β : Type} (a : α) (s : Sg) (f : α → Sg → Option β) : bndr (some (.inr a, s)) f = f a s := rfl
/-- behind a call that may throw -/
def bndx {α β : Type} (m : Option ((Nat ⊕ α) × Sg)) (f : α → Sg → Option ((Nat ⊕ β) × Sg)) : Option ((Nat ⊕ β) × Sg) := match m with
  | some (.inr a, s) => f a s
  | some (.inl e, s) => some (.inl e, s)
  | none => none
theorem bnd_some {α β : Type} (a : α) (f : α → Option β) : bnd (some a) f = f a := rfl
theorem bnd2_some {α β : Type} (a : α) (s : Sg) (f : α → Sg → Option β) : bnd2 (some (a, s)) f = f a s := rfl
theorem bndx_some {α β : Type} (a : α) (s : Sg) (f : α → Sg → Option ((Nat ⊕ β) × Sg)) : bndx (some (.inr a, s)) f = f a s := rfl
theorem bndx_thrown {α β : Type} (e : Nat) (s : Sg) (f : α → Sg → Option ((Nat ⊕ β) × Sg)) : bndx (some (.inl e, s)) f = some (.inl e, s) := rfl
theorem bnd_e {α β : Type} {m : Option α} {f : α → Option β} {o : β} {G : Prop} (hs : bnd m f = some o) (k : ∀ a, m = some a → f a = some o → G) : G := by
  cases m with
  | none => cases hs
  | some a => exact k a rfl hs
theorem bnd2_e {α β : Type} {m : Option (α × Sg)} {f : α → Sg → Option β} {o : β} {G : Prop} (hs : bnd2 m f = some o) (k : ∀ a s, m = some (a, s) → f a s = some o → G) : G := by
  cases m with
  | none => cases hs
  | some a => exact k a.1 a.2 rfl hs
theorem bndx_e {α β : Type} {m : Option ((Nat ⊕ α) × Sg)} {f : α → Sg → Option ((Nat ⊕ β) × Sg)} {o : (Nat ⊕ β) × Sg} {G : Prop} (hs : bndx m f = some o) (k : ∀ a s, m = some (.inr a, s) → f a s = some o → G) (kx : ∀ e s, m = some (.inl e, s) → o = (.inl e, s) → G) : G := by
  rcases m with _ | ⟨e | a, s⟩
  · cases hs
  · exact kx e s rfl (by cases hs; rfl)
  · exact k a s rfl hs
noncomputable def ifLt {α : Type} (x y : Int) (A B : Option α) : Option α := grd (R x ∧ R y) (if x < y then A else B)
noncomputable def ifEq {α : Type} (x y : Int) (A B : Option α) : Option α := grd (R x ∧ R y) (if x = y then A else B)
theorem ifLt_e {α : Type} {x y : Int} {A B : Option α} {o : α} {G : Prop} (hs : ifLt x y A B = some o) (k : R x → R y → (x < y → A = some o → G) ∧ (¬ x < y → B = some o → G) → G) (k1 : x < y → A = some o → G) (k2 : ¬ x < y → B = some o → G) : G :=
  grd_e hs fun h _ => k h.1 h.2 ⟨k1, k2⟩
theorem ifLt_u {α : Type} {x y : Int} {A B : Option α} {o : α} (hs : ifLt x y A B = some o) : R x ∧ R y ∧ (x < y → A = some o) ∧ (¬ x < y → B = some o) :=
  grd_e hs fun h hs => ⟨h.1, h.2, fun q => (if_pos q).symm.trans hs, fun q => (if_neg q).symm.trans hs⟩
theorem ifEq_u {α : Type} {x y : Int} {A B : Option α} {o : α} (hs : ifEq x y A B = some o) : R x ∧ R y ∧ (x = y → A = some o) ∧ (¬ x = y → B = some o) :=
  grd_e hs fun h hs => ⟨h.1, h.2, fun q => (if_pos q).symm.trans hs, fun q => (if_neg q).symm.trans hs⟩
theorem ifLt_eq {α : Type} {x y : Int} (A B : Option α) (hx : R x) (hy : R y) : ifLt x y A B = if x < y then A else B := grd_t ⟨hx, hy⟩
theorem ifEq_eq {α : Type} {x y : Int} (A B : Option α) (hx : R x) (hy : R y) : ifEq x y A B = if x = y then A else B := grd_t ⟨hx, hy⟩
/-- a value that gets a name -/
def lett {α β : Type} (x : α) (f : α → Option β) : Option β := f x
theorem lett_e {α β : Type} {x : α} {f : α → Option β} {o : β} {G : α → Prop} (hs : lett x f = some o) (k : ∀ a, a = x → f a = some o → G a) : G x := k x rfl hs
theorem lett_eq {α β : Type} (x : α) (f : α → Option β) : lett x f = f x := rfl
section WHL
variable {σ ρ : Type} {f : σ → Option (σ ⊕ ρ)}
def itr (f : σ → Option (σ ⊕ ρ)) : Nat → σ → Option ρ
  | 0, _ => none
  | n + 1, s => match f s with
    | some (.inl s') => itr f n s'
    | some (.inr r) => some r
    | none => none
theorem itr_more {r : ρ} : ∀ (n : Nat) (s : σ), itr f n s = some r → itr f (n + 1) s = some r
  | 0, s, h => by cases h
  | n + 1, s, h => by
    unfold itr at h ⊢
    revert h
    rcases f s with _ | s' | r'
    · exact fun h => h
    · exact fun h => itr_more n s' h
    · exact fun h => h
theorem itr_le {r : ρ} {n : Nat} {s : σ} (h : itr f n s = some r) : ∀ k, itr f (n + k) s = some r
  | 0 => h
  | k + 1 => itr_more _ _ (itr_le h k)
theorem itr_det {r r' : ρ} {n m : Nat} {s : σ} (h : itr f n s = some r) (h' : itr f m s = some r') : r = r' := by
  have h1 := itr_le h m
  have h2 := itr_le h' n
  rw [Nat.add_comm] at h2
  exact Option.some.inj (h1.symm.trans h2)
/-- as long as f says so -/
noncomputable def whl (f : σ → Option (σ ⊕ ρ)) (s : σ) : Option ρ := @dite _ (∃ r n, itr f n s = some r) (Classical.propDecidable _) (fun h => some h.choose) (fun _ => none)
theorem whl_iff {s : σ} {r : ρ} : whl f s = some r ↔ ∃ n, itr f n s = some r := by
  unfold whl
  split
  · rename_i h
    constructor
    · intro e
      cases e
      exact h.choose_spec
    · rintro ⟨n, e⟩
      obtain ⟨m, e'⟩ := h.choose_spec
      rw [itr_det e' e]
  · rename_i h
    exact ⟨fun e => (nomatch e), fun ⟨n, e⟩ => absurd ⟨r, n, e⟩ h⟩
theorem whl_w {P : σ → Prop} {E : ρ → Prop} {s0 : σ} {r : ρ} (h : whl f s0 = some r) (hE : E r) (hi : ∀ s o, f s = some o → (∀ s', o = .inl s' → P s') → (∀ r', o = .inr r' → E r') → P s) : P s0 := by
  obtain ⟨n, e⟩ := whl_iff.mp h
  clear h
  induction n generalizing s0 with
  | zero => cases e
  | succ n ih =>
    unfold itr at e
    revert e
    rcases ho : f s0 with _ | s' | r'
    · exact fun e => (nomatch e)
    · intro e
      exact hi s0 _ ho (fun s2 h2 => by cases h2; exact ih e) (fun r2 h2 => by cases h2)
    · intro e
      cases e
      exact hi s0 _ ho (fun s2 h2 => by cases h2) (fun r2 h2 => by cases h2; exact hE)
/-- total: what a loop comes to -/
theorem whl_t (I : σ → Prop) (μ : σ → Nat) {Q : ρ → Prop} {s0 : σ} (h0 : I s0) (hi : ∀ s, I s → ∃ o, f s = some o ∧ (∀ s', o = .inl s' → I s' ∧ μ s' < μ s) ∧ (∀ r, o = .inr r → Q r)) : ∃ r, whl f s0 = some r ∧ Q r := by
  have key : ∀ n s, I s → μ s < n → ∃ r, itr f n s = some r ∧ Q r := by
    intro n
    induction n with
    | zero => intro s _ h; omega
    | succ n ih =>
      intro s hs hn
      obtain ⟨o, ho, h1, h2⟩ := hi s hs
      unfold itr
      rw [ho]
      rcases o with s' | r
      · obtain ⟨a, b⟩ := h1 s' rfl
        exact ih s' a (by omega)
      · exact ⟨r, rfl, h2 r rfl⟩
  obtain ⟨r, e, q⟩ := key _ s0 h0 (Nat.lt_succ_self _)
  exact ⟨r, whl_iff.mpr ⟨_, e⟩, q⟩
end WHL
/-! ===== values of the operations ===== -/
def iandI (x y : Int) : Int := (Int32.ofInt x &&& Int32.ofInt y).toInt
def iorI (x y : Int) : Int := (Int32.ofInt x ||| Int32.ofInt y).toInt
def ixorI (x y : Int) : Int := (Int32.ofInt x ^^^ Int32.ofInt y).toInt
def ishlI (x y : Int) : Int := (Int32.ofInt x <<< (Int32.ofInt y &&& 31)).toInt
def ishrI (x y : Int) : Int := (Int32.ofInt x >>> (Int32.ofInt y &&& 31)).toInt
def i2bI (x : Int) : Int := (Int32.ofInt x).toInt8.toInt32.toInt
def landI (x y : Int) : Int := (Int64.ofInt x &&& Int64.ofInt y).toInt
def lorI (x y : Int) : Int := (Int64.ofInt x ||| Int64.ofInt y).toInt
def lshlI (x y : Int) : Int := (Int64.ofInt x <<< ((Int32.ofInt y).toInt64 &&& 63)).toInt
def lshrI (x y : Int) : Int := (Int64.ofInt x >>> ((Int32.ofInt y).toInt64 &&& 63)).toInt
def lushrI (x y : Int) : Int := (((Int64.ofInt x).toUInt64 >>> ((Int32.ofInt y).toInt64.toUInt64 &&& Int64.toUInt64 63)).toInt64).toInt
def lcmpI (x y : Int) : Int := if x < y then -1 else if x = y then 0 else 1
def b01 (x : Int) : Prop := x = 0 ∨ x = 1
def exN : Nat → String
  | 0 => "java/lang/IllegalArgumentException"
  | _ => "java/lang/IndexOutOfBoundsException"
abbrev XF : String → Hp → Prop := fun _ _ => False
abbrev QI (nx : Nat) (s : Sg) (r : Int) : Option Value → Hp → Prop := fun v h' => v = some (vi r) ∧ h' = hp nx s
abbrev QV (nx : Nat) (s : Sg) : Option Value → Hp → Prop := fun v h' => v = none ∧ h' = hp nx s
abbrev QA (nx : Nat) (s : Sg) (r : Nat) : Option Value → Hp → Prop := fun v h' => v = some (.ref r) ∧ h' = hp nx s
abbrev QO (nx : Nat) (s : Sg) (r : Option Nat) : Option Value → Hp → Prop := fun v h' => v = some (va_rf r) ∧ h' = hp nx s
abbrev QF (nx : Nat) (s : Sg) (r : UInt32) : Option Value → Hp → Prop := fun v h' => v = some (.float r) ∧ h' = hp nx s
abbrev QD (nx : Nat) (s : Sg) (r : UInt64) : Option Value → Hp → Prop := fun v h' => v = some (.double r) ∧ h' = hp nx s
abbrev QJ (nx : Nat) (s : Sg) (r : Int) : Option Value → Hp → Prop := fun v h' => v = some (vl r) ∧ h' = hp nx s
abbrev QT (nx : Nat) (o : (Nat ⊕ Int) × Sg) : Option Value → Hp → Prop := fun v h' => ∃ r, o.1 = .inr r ∧ v = some (vi r) ∧ h' = hp nx o.2
abbrev QTV (nx : Nat) (o : (Nat ⊕ Int) × Sg) : Option Value → Hp → Prop := fun v h' => ∃ r, o.1 = .inr r ∧ v = none ∧ h' = hp nx o.2
abbrev QTF (nx : Nat) (o : (Nat ⊕ UInt32) × Sg) : Option Value → Hp → Prop := fun v h' => ∃ r, o.1 = .inr r ∧ v = some (.float r) ∧ h' = hp nx o.2
abbrev QTD (nx : Nat) (o : (Nat ⊕ UInt64) × Sg) : Option Value → Hp → Prop := fun v h' => ∃ r, o.1 = .inr r ∧ v = some (.double r) ∧ h' = hp nx o.2
abbrev XT {α : Type} (nx : Nat) (o : (Nat ⊕ α) × Sg) : String → Hp → Prop := fun E h' => ∃ e, o.1 = .inl e ∧ E = exN e ∧ h' = hp nx o.2
/-! ===== kinds of references ===== -/
def posL : List Nat := [10, 13, 18, 21, 24, 27, 30, 33, 36, 39, 42, 45, 53]
def isPos (p : Nat) : Prop := p ∈ posL
def isPaths (p : Nat) : Prop := p = 63 ∨ p = 67
def isBytes (p : Nat) : Prop := p = 48 ∨ p = 50
def alen (a : Nat) : Nat := match shp a with
  | some (.inr (_, n)) => n
  | _ => if a = 1000 ∨ a = 1001 then 6 else if 1002 ≤ a ∧ a ≤ 1007 then 3 else 0
theorem alen_all : shL.all (fun x => match x with
  | .inl _ => true
  | .inr (_, n) => decide (n ≤ 4096)) = true := by decide +kernel
theorem alen_le (a : Nat) : alen a ≤ 4096 := by
  unfold alen shp
  split
  · rename_i h
    have h1 := List.all_eq_true.mp alen_all _ (List.mem_of_getElem? h)
    simpa using h1
  · split
    · omega
    · split <;> omega
theorem pos_lt : ∀ p ∈ posL, p + 2 < 80 := by decide +kernel
theorem pos_s0 : ∀ p ∈ posL, shp p = some (.inl 9) := by decide +kernel
theorem pos_s1 : ∀ p ∈ posL, shp (p + 1) = some (.inr (.int, 81)) := by decide +kernel
theorem pos_s2 : ∀ p ∈ posL, shp (p + 2) = some (.inr (.int, 200)) := by decide +kernel
theorem pos_r0 : ∀ p ∈ posL, RT p 0 = some (p + 1) := by decide +kernel
theorem pos_r1 : ∀ p ∈ posL, RT p 1 = some (p + 2) := by decide +kernel
theorem pos_a1 (p : Nat) (h : isPos p) : alen (p + 1) = 81 := by unfold alen; rw [pos_s1 p h]
theorem pos_a2 (p : Nat) (h : isPos p) : alen (p + 2) = 200 := by unfold alen; rw [pos_s2 p h]
theorem pos_n0 {p nx : Nat} (h : isPos p) (hn : 80 ≤ nx) : p < nx := by have := pos_lt p h; omega
theorem pos_n1 {p nx : Nat} (h : isPos p) (hn : 80 ≤ nx) : p + 1 < nx := by have := pos_lt p h; omega
theorem pos_n2 {p nx : Nat} (h : isPos p) (hn : 80 ≤ nx) : p + 2 < nx := by have := pos_lt p h; omega
theorem paths_n {p nx j : Nat} (h : isPaths p) (hj : j ≤ 3) (hn : 80 ≤ nx) : p + j < nx := by rcases h with rfl | rfl <;> omega
theorem paths_s0 {p : Nat} (h : isPaths p) : shp p = some (.inl 8) := by rcases h with rfl | rfl <;> rfl
theorem paths_s1 {p : Nat} (h : isPaths p) : shp (p + 1) = some (.inr (.int, 81)) := by rcases h with rfl | rfl <;> rfl
theorem paths_s2 {p : Nat} (h : isPaths p) : shp (p + 2) = some (.inr (.int, 81)) := by rcases h with rfl | rfl <;> rfl
theorem paths_s3 {p : Nat} (h : isPaths p) : shp (p + 3) = some (.inr (.int, 81)) := by rcases h with rfl | rfl <;> rfl
theorem paths_r0 {p : Nat} (h : isPaths p) : RT p 0 = some 1 := by rcases h with rfl | rfl <;> rfl
theorem paths_r1 {p : Nat} (h : isPaths p) : RT p 1 = some (p + 1) := by rcases h with rfl | rfl <;> rfl
theorem paths_r2 {p : Nat} (h : isPaths p) : RT p 2 = some (p + 2) := by rcases h with rfl | rfl <;> rfl
theorem paths_r3 {p : Nat} (h : isPaths p) : RT p 3 = some (p + 3) := by rcases h with rfl | rfl <;> rfl
theorem bytes_n {p nx j : Nat} (h : isBytes p) (hj : j ≤ 1) (hn : 80 ≤ nx) : p + j < nx := by rcases h with rfl | rfl <;> omega
theorem bytes_s0 {p : Nat} (h : isBytes p) : shp p = some (.inl 1) := by rcases h with rfl | rfl <;> rfl
theorem bytes_s1 {p : Nat} (h : isBytes p) : shp (p + 1) = some (.inr (.int, alen (p + 1))) := by rcases h with rfl | rfl <;> rfl
theorem bytes_r0 {p : Nat} (h : isBytes p) : RT p 0 = some (p + 1) := by rcases h with rfl | rfl <;> rfl
/-- rows that may be written, rows that may be read -/
def isRowW (nx a : Nat) : Prop := shp a = some (.inr (.int, alen a)) ∧ a < nx
def isRow (nx a : Nat) : Prop := isRowW nx a ∨ (1000 ≤ a ∧ a ≤ 1007)
theorem isRow_A {C : Cx} {nx a : Nat} (h : isRow nx a) : isA C nx a (alen a) := by
  rcases h with h | ⟨h1, h2⟩
  · exact Or.inl h
  · refine Or.inr ?_
    obtain rfl | rfl | rfl | rfl | rfl | rfl | rfl | rfl : a = 1000 ∨ a = 1001 ∨ a = 1002 ∨ a = 1003 ∨ a = 1004 ∨ a = 1005 ∨ a = 1006 ∨ a = 1007 := by omega
    · exact List.mem_of_getElem? (i := 0) rfl
    · exact List.mem_of_getElem? (i := 1) rfl
    · exact List.mem_of_getElem? (i := 2) rfl
    · exact List.mem_of_getElem? (i := 3) rfl
    · exact List.mem_of_getElem? (i := 4) rfl
    · exact List.mem_of_getElem? (i := 5) rfl
    · exact List.mem_of_getElem? (i := 6) rfl
    · exact List.mem_of_getElem? (i := 7) rfl
theorem rowW_of {nx a n : Nat} (h : shp a = some (.inr (.int, n))) (hl : a < nx) : isRowW nx a := by
  refine ⟨?_, hl⟩
  rw [show alen a = n by unfold alen; rw [h]]
  exact h
theorem lt_of {a n nx : Nat} (h : n ≤ nx) (ha : a < n) : a < nx := Nat.lt_of_lt_of_le ha h

section XX
variable {C : Cx} {M : Mk} {d mc ms ne : Nat} {Qr : Option Value → Hp → Prop} {Qx : String → Hp → Prop} {nx k n pc : Nat} {lv lv' : List (Nat × Value)} {st stk : List Value} {h : Hp} {s : Sg} {α β : Type} {o : β}
theorem x_iconst {z : Int} (hd : decode (mB M) pc = .ok (.iconst z, 1)) (kk : ww C M d mc ms ne Qr Qx nx k n (pc + 1) lv (vi z :: st) h) : ww C M d mc ms ne Qr Qx nx k n pc lv (st) h := w_iconst hd rfl kk
theorem x_bipush {z : Int} (hd : decode (mB M) pc = .ok (.bipush z, 2)) (hv : (Int8.ofInt z).toInt32 = Int32.ofInt z) (kk : ww C M d mc ms ne Qr Qx nx k n (pc + 2) lv (vi z :: st) h) : ww C M d mc ms ne Qr Qx nx k n pc lv (st) h := w_bipush hd hv kk
theorem x_sipush {z : Int} (hd : decode (mB M) pc = .ok (.sipush z, 3)) (hv : (Int16.ofInt z).toInt32 = Int32.ofInt z) (kk : ww C M d mc ms ne Qr Qx nx k n (pc + 3) lv (vi z :: st) h) : ww C M d mc ms ne Qr Qx nx k n pc lv (st) h := w_sipush hd hv kk
theorem x_lconst {z : Fin 2} {x : Int} (hd : decode (mB M) pc = .ok (.lconst z, 1)) (hv : ((z : Nat) : Int) = x) (kk : ww C M d mc ms ne Qr Qx nx k n (pc + 1) lv (vl x :: st) h) : ww C M d mc ms ne Qr Qx nx k n pc lv (st) h := by
  subst hv
  exact w_lconst hd (by rw [Int64.ofInt_eq_ofNat]) kk
theorem x_ldc {idx : Nat} (x : Int) (hd : decode (mB M) pc = .ok (.ldc idx, 2)) (hw : Cond.constant (mY M).cls idx (Int32.ofInt x) ∈ lw_all) (kk : ww C M d mc ms ne Qr Qx nx k n (pc + 2) lv (vi x :: st) h) : ww C M d mc ms ne Qr Qx nx k n pc lv (st) h := w_ldc _ hd hw kk
theorem x_ldcw {idx : Nat} (x : Int) (hd : decode (mB M) pc = .ok (.ldc_w idx, 3)) (hw : Cond.constant (mY M).cls idx (Int32.ofInt x) ∈ lw_all) (kk : ww C M d mc ms ne Qr Qx nx k n (pc + 3) lv (vi x :: st) h) : ww C M d mc ms ne Qr Qx nx k n pc lv (st) h := w_ldcw _ hd hw kk
theorem x_ldc2 {idx : Nat} (x : Int) (hd : decode (mB M) pc = .ok (.ldc2_w idx, 3)) (hw : Cond.constantLong (mY M).cls idx (Int64.ofInt x) ∈ lw_all) (kk : ww C M d mc ms ne Qr Qx nx k n (pc + 3) lv (vl x :: st) h) : ww C M d mc ms ne Qr Qx nx k n pc lv (st) h := w_ldc2 _ hd hw kk
theorem x_iadd {x y : Int} (hd : decode (mB M) pc = .ok (.iadd, 1)) (kk : ww C M d mc ms ne Qr Qx nx k n (pc + 1) lv (vi (x + y) :: st) h) : ww C M d mc ms ne Qr Qx nx k n pc lv (vi y :: vi x :: st) h := w_iadd hd (by rw [← Int32.ofInt_add]; exact kk)
theorem x_isub {x y : Int} (hd : decode (mB M) pc = .ok (.isub, 1)) (kk : ww C M d mc ms ne Qr Qx nx k n (pc + 1) lv (vi (x - y) :: st) h) : ww C M d mc ms ne Qr Qx nx k n pc lv (vi y :: vi x :: st) h := w_isub hd (by rw [← Int32.ofInt_sub]; exact kk)
theorem x_imul {x y : Int} (hd : decode (mB M) pc = .ok (.imul, 1)) (kk : ww C M d mc ms ne Qr Qx nx k n (pc + 1) lv (vi (x * y) :: st) h) : ww C M d mc ms ne Qr Qx nx k n pc lv (vi y :: vi x :: st) h := w_imul hd (by rw [← Int32.ofInt_mul]; exact kk)
theorem x_ladd {x y : Int} (hd : decode (mB M) pc = .ok (.ladd, 1)) (kk : ww C M d mc ms ne Qr Qx nx k n (pc + 1) lv (vl (x + y) :: st) h) : ww C M d mc ms ne Qr Qx nx k n pc lv (vl y :: vl x :: st) h := w_ladd hd (by rw [← Int64.ofInt_add]; exact kk)
theorem x_lsub {x y : Int} (hd : decode (mB M) pc = .ok (.lsub, 1)) (kk : ww C M d mc ms ne Qr Qx nx k n (pc + 1) lv (vl (x - y) :: st) h) : ww C M d mc ms ne Qr Qx nx k n pc lv (vl y :: vl x :: st) h := w_lsub hd (by rw [← Int64.ofInt_sub]; exact kk)
theorem x_lmul {x y : Int} (hd : decode (mB M) pc = .ok (.lmul, 1)) (kk : ww C M d mc ms ne Qr Qx nx k n (pc + 1) lv (vl (x * y) :: st) h) : ww C M d mc ms ne Qr Qx nx k n pc lv (vl y :: vl x :: st) h := w_lmul hd (by rw [← Int64.ofInt_mul]; exact kk)
theorem x_iand {x y : Int} (hd : decode (mB M) pc = .ok (.iand, 1)) (kk : ww C M d mc ms ne Qr Qx nx k n (pc + 1) lv (vi (iandI x y) :: st) h) : ww C M d mc ms ne Qr Qx nx k n pc lv (vi y :: vi x :: st) h := w_iand hd (by rw [show vi (iandI x y) = _ from congrArg Value.int (Int32.ofInt_toInt _)] at kk; exact kk)
theorem x_ior {x y : Int} (hd : decode (mB M) pc = .ok (.ior, 1)) (kk : ww C M d mc ms ne Qr Qx nx k n (pc + 1) lv (vi (iorI x y) :: st) h) : ww C M d mc ms ne Qr Qx nx k n pc lv (vi y :: vi x :: st) h := w_ior hd (by rw [show vi (iorI x y) = _ from congrArg Value.int (Int32.ofInt_toInt _)] at kk; exact kk)
theorem x_ixor {x y : Int} (hd : decode (mB M) pc = .ok (.ixor, 1)) (kk : ww C M d mc ms ne Qr Qx nx k n (pc + 1) lv (vi (ixorI x y) :: st) h) : ww C M d mc ms ne Qr Qx nx k n pc lv (vi y :: vi x :: st) h := w_ixor hd (by rw [show vi (ixorI x y) = _ from congrArg Value.int (Int32.ofInt_toInt _)] at kk; exact kk)
theorem x_ishl {x y : Int} (hd : decode (mB M) pc = .ok (.ishl, 1)) (kk : ww C M d mc ms ne Qr Qx nx k n (pc + 1) lv (vi (ishlI x y) :: st) h) : ww C M d mc ms ne Qr Qx nx k n pc lv (vi y :: vi x :: st) h := w_ishl hd (by rw [show vi (ishlI x y) = _ from congrArg Value.int (Int32.ofInt_toInt _)] at kk; exact kk)
theorem x_ishr {x y : Int} (hd : decode (mB M) pc = .ok (.ishr, 1)) (kk : ww C M d mc ms ne Qr Qx nx k n (pc + 1) lv (vi (ishrI x y) :: st) h) : ww C M d mc ms ne Qr Qx nx k n pc lv (vi y :: vi x :: st) h := w_ishr hd (by rw [show vi (ishrI x y) = _ from congrArg Value.int (Int32.ofInt_toInt _)] at kk; exact kk)
theorem x_land {x y : Int} (hd : decode (mB M) pc = .ok (.land, 1)) (kk : ww C M d mc ms ne Qr Qx nx k n (pc + 1) lv (vl (landI x y) :: st) h) : ww C M d mc ms ne Qr Qx nx k n pc lv (vl y :: vl x :: st) h := w_land hd (by rw [show vl (landI x y) = _ from congrArg Value.long (Int64.ofInt_toInt _)] at kk; exact kk)
theorem x_lor {x y : Int} (hd : decode (mB M) pc = .ok (.lor, 1)) (kk : ww C M d mc ms ne Qr Qx nx k n (pc + 1) lv (vl (lorI x y) :: st) h) : ww C M d mc ms ne Qr Qx nx k n pc lv (vl y :: vl x :: st) h := w_lor hd (by rw [show vl (lorI x y) = _ from congrArg Value.long (Int64.ofInt_toInt _)] at kk; exact kk)
theorem x_lshl {x y : Int} (hd : decode (mB M) pc = .ok (.lshl, 1)) (kk : ww C M d mc ms ne Qr Qx nx k n (pc + 1) lv (vl (lshlI x y) :: st) h) : ww C M d mc ms ne Qr Qx nx k n pc lv (vi y :: vl x :: st) h := w_lshl hd (by rw [show vl (lshlI x y) = _ from congrArg Value.long (Int64.ofInt_toInt _)] at kk; exact kk)
theorem x_lshr {x y : Int} (hd : decode (mB M) pc = .ok (.lshr, 1)) (kk : ww C M d mc ms ne Qr Qx nx k n (pc + 1) lv (vl (lshrI x y) :: st) h) : ww C M d mc ms ne Qr Qx nx k n pc lv (vi y :: vl x :: st) h := w_lshr hd (by rw [show vl (lshrI x y) = _ from congrArg Value.long (Int64.ofInt_toInt _)] at kk; exact kk)
theorem x_lushr {x y : Int} (hd : decode (mB M) pc = .ok (.lushr, 1)) (kk : ww C M d mc ms ne Qr Qx nx k n (pc + 1) lv (vl (lushrI x y) :: st) h) : ww C M d mc ms ne Qr Qx nx k n pc lv (vi y :: vl x :: st) h := w_lushr hd (by rw [show vl (lushrI x y) = _ from congrArg Value.long (Int64.ofInt_toInt _)] at kk; exact kk)
theorem x_i2b {x : Int} (hd : decode (mB M) pc = .ok (.i2b, 1)) (kk : ww C M d mc ms ne Qr Qx nx k n (pc + 1) lv (vi (i2bI x) :: st) h) : ww C M d mc ms ne Qr Qx nx k n pc lv (vi x :: st) h := w_i2b hd (by rw [show vi (i2bI x) = _ from congrArg Value.int (Int32.ofInt_toInt _)] at kk; exact kk)
theorem i2l_v {x : Int} (h : R x) : (Int32.ofInt x).toInt64 = Int64.ofInt x := by
  apply Int64.toInt.inj
  rw [Int32.toInt_toInt64, t32 h, t64 (by unfold R at h; unfold RL64; omega)]
theorem l2i_v (x : Int) : (Int64.ofInt x).toInt32 = Int32.ofInt x := by
  apply Int32.toInt.inj
  rw [Int64.toInt_toInt32, Int64.toInt_ofInt, Int32.toInt_ofInt]
  exact Int.bmod_bmod_of_dvd (by decide)
theorem div_v {x y : Int} (hx : 0 ≤ x ∧ R x) (hy : 0 < y ∧ R y) : Int32.ofInt x / Int32.ofInt y = Int32.ofInt (x / y) := by
  apply Int32.toInt.inj
  rw [Int32.toInt_div, t32 hx.2, t32 hy.2, Int32.toInt_ofInt, Int.tdiv_eq_ediv_of_nonneg hx.1]
theorem ldiv_v {x y : Int} (hx : 0 ≤ x ∧ RL64 x) (hy : 0 < y ∧ RL64 y) : Int64.ofInt x / Int64.ofInt y = Int64.ofInt (x / y) := by
  apply Int64.toInt.inj
  rw [Int64.toInt_div, t64 hx.2, t64 hy.2, Int64.toInt_ofInt, Int.tdiv_eq_ediv_of_nonneg hx.1]
theorem rem_v {x y : Int} (hx : 0 ≤ x ∧ R x) (hy : 0 < y ∧ R y) : Int32.ofInt x - Int32.ofInt x / Int32.ofInt y * Int32.ofInt y = Int32.ofInt (x % y) := by
  rw [div_v hx hy, ← Int32.ofInt_mul, ← Int32.ofInt_sub]
  congr 1
  rw [Int.emod_def, Int.mul_comm]
theorem lrem_v {x y : Int} (hx : 0 ≤ x ∧ RL64 x) (hy : 0 < y ∧ RL64 y) : Int64.ofInt x - Int64.ofInt x / Int64.ofInt y * Int64.ofInt y = Int64.ofInt (x % y) := by
  rw [ldiv_v hx hy, ← Int64.ofInt_mul, ← Int64.ofInt_sub]
  congr 1
  rw [Int.emod_def, Int.mul_comm]
theorem nz_v {y : Int} (hy : 0 < y ∧ R y) : ¬ Int32.ofInt y = 0 := by
  rw [z32, c32e hy.2 R0]; omega
theorem lnz_v {y : Int} (hy : 0 < y ∧ RL64 y) : ¬ Int64.ofInt y = 0 := by
  intro e
  have := congrArg Int64.toInt e
  rw [t64 hy.2] at this
  have h0 : (0 : Int64).toInt = 0 := by decide
  omega
theorem x_i2l {x : Int} (hd : decode (mB M) pc = .ok (.i2l, 1)) (hx : R x) (kk : ww C M d mc ms ne Qr Qx nx k n (pc + 1) lv (vl x :: st) h) : ww C M d mc ms ne Qr Qx nx k n pc lv (vi x :: st) h := w_i2l hd (by rw [i2l_v hx]; exact kk)
theorem x_l2i {x : Int} (hd : decode (mB M) pc = .ok (.l2i, 1)) (kk : ww C M d mc ms ne Qr Qx nx k n (pc + 1) lv (vi x :: st) h) : ww C M d mc ms ne Qr Qx nx k n pc lv (vl x :: st) h := w_l2i hd (by rw [l2i_v x]; exact kk)
theorem x_idiv {x y : Int} (hd : decode (mB M) pc = .ok (.idiv, 1)) (hg : (0 ≤ x ∧ R x) ∧ (0 < y ∧ R y)) (kk : ww C M d mc ms ne Qr Qx nx k n (pc + 1) lv (vi (x / y) :: st) h) : ww C M d mc ms ne Qr Qx nx k n pc lv (vi y :: vi x :: st) h := w_idiv hd (nz_v hg.2) (by rw [div_v hg.1 hg.2]; exact kk)
theorem x_irem {x y : Int} (hd : decode (mB M) pc = .ok (.irem, 1)) (hg : (0 ≤ x ∧ R x) ∧ (0 < y ∧ R y)) (kk : ww C M d mc ms ne Qr Qx nx k n (pc + 1) lv (vi (x % y) :: st) h) : ww C M d mc ms ne Qr Qx nx k n pc lv (vi y :: vi x :: st) h := w_irem hd (nz_v hg.2) (by rw [rem_v hg.1 hg.2]; exact kk)
theorem x_ldiv {x y : Int} (hd : decode (mB M) pc = .ok (.ldiv, 1)) (hg : (0 ≤ x ∧ RL64 x) ∧ (0 < y ∧ RL64 y)) (kk : ww C M d mc ms ne Qr Qx nx k n (pc + 1) lv (vl (x / y) :: st) h) : ww C M d mc ms ne Qr Qx nx k n pc lv (vl y :: vl x :: st) h := w_ldiv hd (lnz_v hg.2) (by rw [ldiv_v hg.1 hg.2]; exact kk)
theorem x_lrem {x y : Int} (hd : decode (mB M) pc = .ok (.lrem, 1)) (hg : (0 ≤ x ∧ RL64 x) ∧ (0 < y ∧ RL64 y)) (kk : ww C M d mc ms ne Qr Qx nx k n (pc + 1) lv (vl (x % y) :: st) h) : ww C M d mc ms ne Qr Qx nx k n pc lv (vl y :: vl x :: st) h := w_lrem hd (lnz_v hg.2) (by rw [lrem_v hg.1 hg.2]; exact kk)
theorem lcmp_v {x y : Int} (hx : RL64 x) (hy : RL64 y) : lg_cmp (Int64.ofInt x) (Int64.ofInt y) = Int32.ofInt (lcmpI x y) := by
  unfold lg_cmp lcmpI
  have h1 : Int64.ofInt x < Int64.ofInt y ↔ x < y := by rw [Int64.lt_iff_toInt_lt, t64 hx, t64 hy]
  have h2 : Int64.ofInt x = Int64.ofInt y ↔ x = y := ⟨fun h => by rw [← t64 hx, ← t64 hy, h], fun h => by rw [h]⟩
  have h3 : Int64.ofInt y < Int64.ofInt x ↔ y < x := by rw [Int64.lt_iff_toInt_lt, t64 hx, t64 hy]
  rcases Int.lt_trichotomy x y with h | h | h
  · have h4 : ¬ y < x := by omega
    have h5 : ¬ x = y := by omega
    simp only [GT.gt, h3, h2, h4, h5, h, if_true, if_false]
    decide
  · subst h
    simp only [GT.gt, Int.lt_irrefl, h3, h2, if_true, if_false]
    decide
  · have h4 : ¬ x < y := by omega
    have h5 : ¬ x = y := by omega
    simp only [GT.gt, h3, h2, h4, h5, h, if_true, if_false]
    decide
theorem x_lcmp {x y : Int} (hd : decode (mB M) pc = .ok (.lcmp, 1)) (hx : RL64 x) (hy : RL64 y) (kk : ww C M d mc ms ne Qr Qx nx k n (pc + 1) lv (vi (lcmpI x y) :: st) h) : ww C M d mc ms ne Qr Qx nx k n pc lv (vl y :: vl x :: st) h := w_lcmp hd (by rw [lcmp_v hx hy]; exact kk)
theorem lg_self (x : Int64) : lg_cmp x x = 0 := by
  unfold lg_cmp
  rw [if_neg (fun h => Int.lt_irrefl _ (Int64.lt_iff_toInt_lt.mp h)), if_pos rfl]
theorem x_lcmpE {x y : Int} (hd : decode (mB M) pc = .ok (.lcmp, 1)) (he : x = y) (kk : ww C M d mc ms ne Qr Qx nx k n (pc + 1) lv (vi 0 :: st) h) : ww C M d mc ms ne Qr Qx nx k n pc lv (vl y :: vl x :: st) h := by
  subst he
  exact w_lcmp hd (by rw [lg_self, z32]; exact kk)
theorem x_iinc (q : Nat) {i : Nat} {z x : Int} (hd : decode (mB M) pc = .ok (.iinc i z, 3)) (hq : lv[q]? = some (i, vi x)) (hn : i < mL M) (hl : (i, vi (x + z)) :: lv.filter (fun q => !(q.1 == i) && !(q.1 + 1 == i && q.2.category == 2)) = lv')
    (kk : ww C M d mc ms ne Qr Qx nx k n (pc + 3) lv' st h) : ww C M d mc ms ne Qr Qx nx k n pc lv st h := w_iinc q hd hq (by rw [← Int32.ofInt_add]) hn hl kk
theorem x_icmpeq {x y : Int} {A B : Option β} {off : Int} {tgt : Nat} (hs : ifEq x y A B = some o) (hd : decode (mB M) pc = .ok (.if_icmp .eq off, 3)) (ht : (pc : Int) + off = (tgt : Int)) (kt : A = some o → ww C M d mc ms ne Qr Qx nx k n tgt lv st h) (kf : B = some o → ww C M d mc ms ne Qr Qx nx k n (pc + 3) lv st h) : ww C M d mc ms ne Qr Qx nx k n pc lv (vi y :: vi x :: st) h := by
  obtain ⟨hx, hy, hA, hB⟩ := ifEq_u hs
  exact w_icmpeq hd ht (fun q => kt (hA ((c32e hx hy).mp q))) (fun q => kf (hB (fun e => q ((c32e hx hy).mpr e))))
theorem x_icmpne {x y : Int} {A B : Option β} {off : Int} {tgt : Nat} (hs : ifEq x y A B = some o) (hd : decode (mB M) pc = .ok (.if_icmp .ne off, 3)) (ht : (pc : Int) + off = (tgt : Int)) (kt : B = some o → ww C M d mc ms ne Qr Qx nx k n tgt lv st h) (kf : A = some o → ww C M d mc ms ne Qr Qx nx k n (pc + 3) lv st h) : ww C M d mc ms ne Qr Qx nx k n pc lv (vi y :: vi x :: st) h := by
  obtain ⟨hx, hy, hA, hB⟩ := ifEq_u hs
  exact w_icmpne hd ht (fun q => kt (hB (fun e => q ((c32e hx hy).mpr e)))) (fun q => kf (hA ((c32e hx hy).mp q)))
theorem x_icmplt {x y : Int} {A B : Option β} {off : Int} {tgt : Nat} (hs : ifLt x y A B = some o) (hd : decode (mB M) pc = .ok (.if_icmp .lt off, 3)) (ht : (pc : Int) + off = (tgt : Int)) (kt : A = some o → ww C M d mc ms ne Qr Qx nx k n tgt lv st h) (kf : B = some o → ww C M d mc ms ne Qr Qx nx k n (pc + 3) lv st h) : ww C M d mc ms ne Qr Qx nx k n pc lv (vi y :: vi x :: st) h := by
  obtain ⟨hx, hy, hA, hB⟩ := ifLt_u hs
  exact w_icmplt hd ht (fun q => kt (hA ((c32l hx hy).mp q))) (fun q => kf (hB (fun e => q ((c32l hx hy).mpr e))))
theorem x_icmpge {x y : Int} {A B : Option β} {off : Int} {tgt : Nat} (hs : ifLt x y A B = some o) (hd : decode (mB M) pc = .ok (.if_icmp .ge off, 3)) (ht : (pc : Int) + off = (tgt : Int)) (kt : B = some o → ww C M d mc ms ne Qr Qx nx k n tgt lv st h) (kf : A = some o → ww C M d mc ms ne Qr Qx nx k n (pc + 3) lv st h) : ww C M d mc ms ne Qr Qx nx k n pc lv (vi y :: vi x :: st) h := by
  obtain ⟨hx, hy, hA, hB⟩ := ifLt_u hs
  exact w_icmpge hd ht (fun q => kt (hB (by have := (c32m hy hx).mp q; omega))) (fun q => kf (hA (by have := Int.not_le.mp fun e => q ((c32m hy hx).mpr e); omega)))

theorem x_icmpgt {x y : Int} {A B : Option β} {off : Int} {tgt : Nat} (hs : ifLt y x A B = some o) (hd : decode (mB M) pc = .ok (.if_icmp .gt off, 3)) (ht : (pc : Int) + off = (tgt : Int)) (kt : A = some o → ww C M d mc ms ne Qr Qx nx k n tgt lv st h) (kf : B = some o → ww C M d mc ms ne Qr Qx nx k n (pc + 3) lv st h) : ww C M d mc ms ne Qr Qx nx k n pc lv (vi y :: vi x :: st) h := by
  obtain ⟨hx, hy, hA, hB⟩ := ifLt_u hs
  exact w_icmpgt hd ht (fun q => kt (hA (by exact (c32l hx hy).mp q))) (fun q => kf (hB (by exact fun e => q ((c32l hx hy).mpr e))))
theorem x_icmple {x y : Int} {A B : Option β} {off : Int} {tgt : Nat} (hs : ifLt y x A B = some o) (hd : decode (mB M) pc = .ok (.if_icmp .le off, 3)) (ht : (pc : Int) + off = (tgt : Int)) (kt : B = some o → ww C M d mc ms ne Qr Qx nx k n tgt lv st h) (kf : A = some o → ww C M d mc ms ne Qr Qx nx k n (pc + 3) lv st h) : ww C M d mc ms ne Qr Qx nx k n pc lv (vi y :: vi x :: st) h := by
  obtain ⟨hx, hy, hA, hB⟩ := ifLt_u hs
  exact w_icmple hd ht (fun q => kt (hB (by have := (c32m hy hx).mp q; omega))) (fun q => kf (hA (by have := Int.not_le.mp fun e => q ((c32m hy hx).mpr e); omega)))
theorem x_ifeq {x : Int} {A B : Option β} {off : Int} {tgt : Nat} (hs : ifEq x 0 A B = some o) (hd : decode (mB M) pc = .ok (.ifCond .eq off, 3)) (ht : (pc : Int) + off = (tgt : Int)) (kt : A = some o → ww C M d mc ms ne Qr Qx nx k n tgt lv st h) (kf : B = some o → ww C M d mc ms ne Qr Qx nx k n (pc + 3) lv st h) : ww C M d mc ms ne Qr Qx nx k n pc lv (vi x :: st) h := by
  obtain ⟨hx, hy, hA, hB⟩ := ifEq_u hs
  exact w_ifeq hd ht (fun q => kt (hA ((c32e hx hy).mp (by rw [z32] at q; exact q)))) (fun q => kf (hB (fun e => q (by rw [z32]; exact (c32e hx hy).mpr e))))
theorem x_ifne {x : Int} {A B : Option β} {off : Int} {tgt : Nat} (hs : ifEq x 0 A B = some o) (hd : decode (mB M) pc = .ok (.ifCond .ne off, 3)) (ht : (pc : Int) + off = (tgt : Int)) (kt : B = some o → ww C M d mc ms ne Qr Qx nx k n tgt lv st h) (kf : A = some o → ww C M d mc ms ne Qr Qx nx k n (pc + 3) lv st h) : ww C M d mc ms ne Qr Qx nx k n pc lv (vi x :: st) h := by
  obtain ⟨hx, hy, hA, hB⟩ := ifEq_u hs
  exact w_ifne hd ht (fun q => kt (hB (fun e => q (by rw [z32]; exact (c32e hx hy).mpr e)))) (fun q => kf (hA ((c32e hx hy).mp (by rw [z32] at q; exact q))))
theorem x_iflt {x : Int} {A B : Option β} {off : Int} {tgt : Nat} (hs : ifLt x 0 A B = some o) (hd : decode (mB M) pc = .ok (.ifCond .lt off, 3)) (ht : (pc : Int) + off = (tgt : Int)) (kt : A = some o → ww C M d mc ms ne Qr Qx nx k n tgt lv st h) (kf : B = some o → ww C M d mc ms ne Qr Qx nx k n (pc + 3) lv st h) : ww C M d mc ms ne Qr Qx nx k n pc lv (vi x :: st) h := by
  obtain ⟨hx, hy, hA, hB⟩ := ifLt_u hs
  exact w_iflt hd ht (fun q => kt (hA ((c32l hx hy).mp (by rw [z32] at q; exact q)))) (fun q => kf (hB (fun e => q (by rw [z32]; exact (c32l hx hy).mpr e))))
theorem x_ifge {x : Int} {A B : Option β} {off : Int} {tgt : Nat} (hs : ifLt x 0 A B = some o) (hd : decode (mB M) pc = .ok (.ifCond .ge off, 3)) (ht : (pc : Int) + off = (tgt : Int)) (kt : B = some o → ww C M d mc ms ne Qr Qx nx k n tgt lv st h) (kf : A = some o → ww C M d mc ms ne Qr Qx nx k n (pc + 3) lv st h) : ww C M d mc ms ne Qr Qx nx k n pc lv (vi x :: st) h := by
  obtain ⟨hx, hy, hA, hB⟩ := ifLt_u hs
  exact w_ifge hd ht (fun q => kt (hB (by rw [z32] at q; have := (c32m hy hx).mp q; omega))) (fun q => kf (hA (by rw [z32] at q; have := Int.not_le.mp fun e => q ((c32m hy hx).mpr e); omega)))
theorem x_ifgt {x : Int} {A B : Option β} {off : Int} {tgt : Nat} (hs : ifLt 0 x A B = some o) (hd : decode (mB M) pc = .ok (.ifCond .gt off, 3)) (ht : (pc : Int) + off = (tgt : Int)) (kt : A = some o → ww C M d mc ms ne Qr Qx nx k n tgt lv st h) (kf : B = some o → ww C M d mc ms ne Qr Qx nx k n (pc + 3) lv st h) : ww C M d mc ms ne Qr Qx nx k n pc lv (vi x :: st) h := by
  obtain ⟨hx, hy, hA, hB⟩ := ifLt_u hs
  exact w_ifgt hd ht (fun q => kt (hA (by rw [z32] at q; exact (c32l hx hy).mp q))) (fun q => kf (hB (by rw [z32] at q; exact fun e => q ((c32l hx hy).mpr e))))
theorem x_ifle {x : Int} {A B : Option β} {off : Int} {tgt : Nat} (hs : ifLt 0 x A B = some o) (hd : decode (mB M) pc = .ok (.ifCond .le off, 3)) (ht : (pc : Int) + off = (tgt : Int)) (kt : B = some o → ww C M d mc ms ne Qr Qx nx k n tgt lv st h) (kf : A = some o → ww C M d mc ms ne Qr Qx nx k n (pc + 3) lv st h) : ww C M d mc ms ne Qr Qx nx k n pc lv (vi x :: st) h := by
  obtain ⟨hx, hy, hA, hB⟩ := ifLt_u hs
  exact w_ifle hd ht (fun q => kt (hB (by rw [z32] at q; have := (c32m hy hx).mp q; omega))) (fun q => kf (hA (by rw [z32] at q; have := Int.not_le.mp fun e => q ((c32m hy hx).mpr e); omega)))
theorem x_tableIn {x : Int} {dflt lo hi off : Int} {offs : Array Int} {len tgt : Nat} (z : Int) (hz : x = z) (hR : R z) (hd : decode (mB M) pc = .ok (.tableswitch dflt lo hi offs, len)) (h1 : ¬ z < lo) (h2 : ¬ hi < z) (ho : offs[(z - lo).toNat]? = some off) (ht : (pc : Int) + off = (tgt : Int)) (kk : ww C M d mc ms ne Qr Qx nx k n tgt lv st h) : ww C M d mc ms ne Qr Qx nx k n pc lv (vi x :: st) h := by
  subst hz
  exact w_tableIn hd (by rw [t32 hR]; exact h1) (by rw [t32 hR]; exact h2) (by rw [t32 hR]; exact ho) ht kk
theorem x_tableOut {x : Int} {dflt lo hi : Int} {offs : Array Int} {len tgt : Nat} (hR : R x) (hd : decode (mB M) pc = .ok (.tableswitch dflt lo hi offs, len)) (h1 : x < lo ∨ hi < x) (ht : (pc : Int) + dflt = (tgt : Int)) (kk : ww C M d mc ms ne Qr Qx nx k n tgt lv st h) : ww C M d mc ms ne Qr Qx nx k n pc lv (vi x :: st) h :=
  w_tableOut hd (by rw [t32 hR]; exact h1) ht kk
def FX (M : Mk) (idx ci f : Nat) : Prop := FL M idx ci f ∨ FN M idx ci f
theorem x_getI (ci f : Nat) {idx a : Nat} (hd : decode (mB M) pc = .ok (.getfield idx, 3)) (hf : FX M idx ci f) (hty : isI (cty ci f) = true) (hs : shp a = some (.inl ci)) (ha : a < nx) (kk : ww C M d mc ms ne Qr Qx nx k n (pc + 3) lv (vi (gi s a f) :: st) (hp nx s)) : ww C M d mc ms ne Qr Qx nx k n pc lv (.ref a :: st) (hp nx s) :=
  hf.elim (fun hf => w_getI ci f hd hf hty (shp_C hs) ha kk) (fun hf => w_getIn ci f hd hf hty (shp_C hs) ha kk)
theorem x_getL (ci f : Nat) {idx a : Nat} (hd : decode (mB M) pc = .ok (.getfield idx, 3)) (hf : FL M idx ci f) (hty : cty ci f = .long) (hs : shp a = some (.inl ci)) (ha : a < nx) (kk : ww C M d mc ms ne Qr Qx nx k n (pc + 3) lv (vl (gl s a f) :: st) (hp nx s)) : ww C M d mc ms ne Qr Qx nx k n pc lv (.ref a :: st) (hp nx s) := w_getL ci f hd hf hty (shp_C hs) ha kk
theorem x_getR (ci f : Nat) {idx a b : Nat} (hd : decode (mB M) pc = .ok (.getfield idx, 3)) (hf : FX M idx ci f) (hty : isR (cty ci f) = true) (hs : shp a = some (.inl ci)) (ha : a < nx) (hb : RT a f = some b) (kk : ww C M d mc ms ne Qr Qx nx k n (pc + 3) lv (.ref b :: st) (hp nx s)) : ww C M d mc ms ne Qr Qx nx k n pc lv (.ref a :: st) (hp nx s) :=
  hf.elim (fun hf => w_getR ci f hd hf hty (shp_C hs) ha (hpR ha hb) kk) (fun hf => w_getRn ci f hd hf hty (shp_C hs) ha (hpR ha hb) kk)
theorem x_putI (ci f : Nat) {idx a : Nat} {x : Int} (hd : decode (mB M) pc = .ok (.putfield idx, 3)) (hf : putOK M idx ci f) (hty : cty ci f = .int) (hs : shp a = some (.inl ci)) (ha : a < nx) (kk : ww C M d mc ms ne Qr Qx nx k n (pc + 3) lv st (hp nx (si s a f x))) : ww C M d mc ms ne Qr Qx nx k n pc lv (vi x :: .ref a :: st) (hp nx s) :=
  w_putI ci f hd hf (by rw [hty]; rfl) (shp_C hs) ha (by rw [hty]; rfl) (by rw [hty]; rfl) (by rw [hp_si]; exact kk)
theorem x_putZ (ci f : Nat) {idx a : Nat} {x : Int} (hg : b01 x) (hd : decode (mB M) pc = .ok (.putfield idx, 3)) (hf : putOK M idx ci f) (hty : cty ci f = .boolean) (hs : shp a = some (.inl ci)) (ha : a < nx) (kk : ww C M d mc ms ne Qr Qx nx k n (pc + 3) lv st (hp nx (si s a f x))) : ww C M d mc ms ne Qr Qx nx k n pc lv (vi x :: .ref a :: st) (hp nx s) :=
  w_putI ci f hd hf (by rw [hty]; rfl) (shp_C hs) ha (by rw [hty]; rcases hg with rfl | rfl <;> rfl) (by rw [hty]; rcases hg with rfl | rfl <;> rfl) (by rw [hp_si]; exact kk)
theorem x_putL (ci f : Nat) {idx a : Nat} {x : Int} (hd : decode (mB M) pc = .ok (.putfield idx, 3)) (hf : putOK M idx ci f) (hty : cty ci f = .long) (hs : shp a = some (.inl ci)) (ha : a < nx) (kk : ww C M d mc ms ne Qr Qx nx k n (pc + 3) lv st (hp nx (sl s a f x))) : ww C M d mc ms ne Qr Qx nx k n pc lv (vl x :: .ref a :: st) (hp nx s) :=
  w_putL ci f hd hf hty (shp_C hs) ha (by rw [hp_sl]; exact kk)
theorem ix_v {i : Int} {m1 : Nat} (hi : 0 ≤ i ∧ i < (m1 : Int)) (hm : m1 ≤ 4096) : vp_in (Int32.ofInt i) m1 ∧ (Int32.ofInt i).toNatClampNeg = i.toNat := by
  have hR : R i := by unfold R; omega
  have h2 : (Int32.ofInt i).toNatClampNeg = i.toNat := by
    show (Int32.ofInt i).toInt.toNat = i.toNat
    rw [t32 hR]
  refine ⟨?_, h2⟩
  rintro (q | q)
  · rw [z32, c32l hR R0] at q; omega
  · rw [h2] at q; omega
theorem x_iald {a m1 : Nat} {i : Int} (hi : 0 ≤ i ∧ i < (m1 : Int)) (hm : m1 ≤ 4096) (hd : decode (mB M) pc = .ok (.iaload, 1)) (hA : isA C nx a m1) (kk : ww C M d mc ms ne Qr Qx nx k n (pc + 1) lv (vi (gi s a i.toNat) :: st) (hp nx s)) : ww C M d mc ms ne Qr Qx nx k n pc lv (vi i :: .ref a :: st) (hp nx s) := by
  obtain ⟨h1, h2⟩ := ix_v hi hm
  refine w_iald hd hA h1 ?_
  rw [h2]
  exact kk
theorem x_zald {a m1 : Nat} {i : Int} (hi : 0 ≤ i ∧ i < (m1 : Int)) (hm : m1 ≤ 4096) (hd : decode (mB M) pc = .ok (.baload, 1)) (hA : shp a = some (.inr (.boolean, m1))) (ha : a < nx) (kk : ww C M d mc ms ne Qr Qx nx k n (pc + 1) lv (vi (gi s a i.toNat) :: st) (hp nx s)) : ww C M d mc ms ne Qr Qx nx k n pc lv (vi i :: .ref a :: st) (hp nx s) := by
  obtain ⟨h1, h2⟩ := ix_v hi hm
  refine w_zald hd (shp_C hA) ha h1 ?_
  rw [h2]
  exact kk
theorem x_bald {a m1 : Nat} {i : Int} (hi : 0 ≤ i ∧ i < (m1 : Int)) (hm : m1 ≤ 4096) (hd : decode (mB M) pc = .ok (.baload, 1)) (hA : shp a = some (.inr (.byte, m1))) (ha : a < nx) (kk : ww C M d mc ms ne Qr Qx nx k n (pc + 1) lv (vi (gi s a i.toNat) :: st) (hp nx s)) : ww C M d mc ms ne Qr Qx nx k n pc lv (vi i :: .ref a :: st) (hp nx s) := by
  obtain ⟨h1, h2⟩ := ix_v hi hm
  refine w_bald hd (shp_C hA) ha h1 ?_
  rw [h2]
  exact kk
theorem x_aald {a b m1 : Nat} {i : Int} (hi : 0 ≤ i ∧ i < (m1 : Int)) (hm : m1 ≤ 4096) (hd : decode (mB M) pc = .ok (.aaload, 1)) (hA : shp a = some (.inr (ty_pos, m1))) (ha : a < nx) (hb : RT a i.toNat = some b) (kk : ww C M d mc ms ne Qr Qx nx k n (pc + 1) lv (.ref b :: st) (hp nx s)) : ww C M d mc ms ne Qr Qx nx k n pc lv (vi i :: .ref a :: st) (hp nx s) := by
  obtain ⟨h1, h2⟩ := ix_v hi hm
  exact w_aaldR hd hA ha h1 (by rw [h2]; exact hpR ha hb) kk
theorem x_alen {a m1 : Nat} (hd : decode (mB M) pc = .ok (.arraylength, 1)) (hA : isA C nx a m1) (kk : ww C M d mc ms ne Qr Qx nx k n (pc + 1) lv (vi (m1 : Int) :: st) h) : ww C M d mc ms ne Qr Qx nx k n pc lv (.ref a :: st) h :=
  w_alen hd hA (by rw [← Int32.ofInt_eq_ofNat]; exact kk)
theorem x_alenq {a m1 : Nat} (hd : decode (mB M) pc = .ok (.arraylength, 1)) (hA : shp a = some (.inr (ty_pos, m1))) (ha : a < nx) (kk : ww C M d mc ms ne Qr Qx nx k n (pc + 1) lv (vi (m1 : Int) :: st) h) : ww C M d mc ms ne Qr Qx nx k n pc lv (.ref a :: st) h :=
  w_alenq hd hA ha (by rw [← Int32.ofInt_eq_ofNat]; exact kk)
theorem x_iast {a m1 : Nat} {i x : Int} (hi : 0 ≤ i ∧ i < (m1 : Int)) (hm : m1 ≤ 4096) (hd : decode (mB M) pc = .ok (.iastore, 1)) (hA : shp a = some (.inr (.int, m1))) (ha : a < nx) (kk : ww C M d mc ms ne Qr Qx nx k n (pc + 1) lv st (hp nx (si s a i.toNat x))) : ww C M d mc ms ne Qr Qx nx k n pc lv (vi x :: vi i :: .ref a :: st) (hp nx s) := by
  obtain ⟨h1, h2⟩ := ix_v hi hm
  refine w_iast hd (shp_C hA) ha h1 ?_
  rw [h2, hp_si]
  exact kk
theorem x_zast {a m1 : Nat} {i x : Int} (hg : b01 x) (hi : 0 ≤ i ∧ i < (m1 : Int)) (hm : m1 ≤ 4096) (hd : decode (mB M) pc = .ok (.bastore, 1)) (hA : shp a = some (.inr (.boolean, m1))) (ha : a < nx) (kk : ww C M d mc ms ne Qr Qx nx k n (pc + 1) lv st (hp nx (si s a i.toNat x))) : ww C M d mc ms ne Qr Qx nx k n pc lv (vi x :: vi i :: .ref a :: st) (hp nx s) := by
  obtain ⟨h1, h2⟩ := ix_v hi hm
  refine w_zast hd (shp_C hA) ha h1 ?_
  rw [h2, show vp_nar .boolean (Int32.ofInt x) = Int32.ofInt x by rcases hg with rfl | rfl <;> rfl, hp_si]
  exact kk
theorem x_bast {a m1 : Nat} {i x : Int} (hi : 0 ≤ i ∧ i < (m1 : Int)) (hm : m1 ≤ 4096) (hd : decode (mB M) pc = .ok (.bastore, 1)) (hA : shp a = some (.inr (.byte, m1))) (ha : a < nx) (kk : ww C M d mc ms ne Qr Qx nx k n (pc + 1) lv st (hp nx (si s a i.toNat (i2bI x)))) : ww C M d mc ms ne Qr Qx nx k n pc lv (vi x :: vi i :: .ref a :: st) (hp nx s) := by
  obtain ⟨h1, h2⟩ := ix_v hi hm
  refine w_bast hd (shp_C hA) ha h1 ?_
  rw [h2, show vp_nar .byte (Int32.ofInt x) = Int32.ofInt (i2bI x) from (Int32.ofInt_toInt _).symm, hp_si]
  exact kk

def isTk (C : Cx) (nx a : Nat) : Prop := shC C a = some (.inr (.boolean, 81)) ∧ a < nx
theorem x_zaldC {a m1 : Nat} {i : Int} (hi : 0 ≤ i ∧ i < (m1 : Int)) (hm : m1 ≤ 4096) (hd : decode (mB M) pc = .ok (.baload, 1)) (hA : shC C a = some (.inr (.boolean, m1))) (ha : a < nx) (kk : ww C M d mc ms ne Qr Qx nx k n (pc + 1) lv (vi (gi s a i.toNat) :: st) (hp nx s)) : ww C M d mc ms ne Qr Qx nx k n pc lv (vi i :: .ref a :: st) (hp nx s) := by
  obtain ⟨h1, h2⟩ := ix_v hi hm
  refine w_zald hd hA ha h1 ?_
  rw [h2]
  exact kk
theorem x_zastC {a m1 : Nat} {i x : Int} (hg : b01 x) (hi : 0 ≤ i ∧ i < (m1 : Int)) (hm : m1 ≤ 4096) (hd : decode (mB M) pc = .ok (.bastore, 1)) (hA : shC C a = some (.inr (.boolean, m1))) (ha : a < nx) (kk : ww C M d mc ms ne Qr Qx nx k n (pc + 1) lv st (hp nx (si s a i.toNat x))) : ww C M d mc ms ne Qr Qx nx k n pc lv (vi x :: vi i :: .ref a :: st) (hp nx s) := by
  obtain ⟨h1, h2⟩ := ix_v hi hm
  refine w_zast hd hA ha h1 ?_
  rw [h2, show vp_nar .boolean (Int32.ofInt x) = Int32.ofInt x by rcases hg with rfl | rfl <;> rfl, hp_si]
  exact kk
theorem x_bastC {a m1 : Nat} {i x : Int} (hi : 0 ≤ i ∧ i < (m1 : Int)) (hm : m1 ≤ 4096) (hd : decode (mB M) pc = .ok (.bastore, 1)) (hA : shC C a = some (.inr (.byte, m1))) (ha : a < nx) (kk : ww C M d mc ms ne Qr Qx nx k n (pc + 1) lv st (hp nx (si s a i.toNat (i2bI x)))) : ww C M d mc ms ne Qr Qx nx k n pc lv (vi x :: vi i :: .ref a :: st) (hp nx s) := by
  obtain ⟨h1, h2⟩ := ix_v hi hm
  refine w_bast hd hA ha h1 ?_
  rw [h2, show vp_nar .byte (Int32.ofInt x) = Int32.ofInt (i2bI x) from (Int32.ofInt_toInt _).symm, hp_si]
  exact kk
theorem x_baldC {a m1 : Nat} {i : Int} (hi : 0 ≤ i ∧ i < (m1 : Int)) (hm : m1 ≤ 4096) (hd : decode (mB M) pc = .ok (.baload, 1)) (hA : shC C a = some (.inr (.byte, m1))) (ha : a < nx) (kk : ww C M d mc ms ne Qr Qx nx k n (pc + 1) lv (vi (gi s a i.toNat) :: st) (hp nx s)) : ww C M d mc ms ne Qr Qx nx k n pc lv (vi i :: .ref a :: st) (hp nx s) := by
  obtain ⟨h1, h2⟩ := ix_v hi hm
  refine w_bald hd hA ha h1 ?_
  rw [h2]
  exact kk
theorem x_mmax {x y : Int} {idx : Nat} (hx : R x) (hy : R y) (hd : decode (mB M) pc = .ok (.invokestatic idx, 3)) (hlk : Cond.methodLink (mY M).cls idx Lib.Math.max.name ∈ lw_all ∧ Cond.static Lib.Math.max.name ∈ lw_all ∧ Cond.initialized "java/lang/Math" ∈ lw_all ∧ Cond.code Lib.Math.max.name Lib.Math.max.code 2 (some .int) ∈ lw_all) (hdd : 1 ≤ d) (hw : (st.map fun v => v.category).sum ≤ 8) (hk : k ≤ mc) (hn : n ≤ ms) (kk : ww C M d mc ms ne Qr Qx nx k n (pc + 3) lv (vi (max x y) :: st) h) : ww C M d mc ms ne Qr Qx nx k n pc lv (vi y :: vi x :: st) h := by
  intro p l ee s m args below meth c Fin cz hr hx9 hzz H locs ls hP hS hL
  refine va_mmax (x := Int32.ofInt x) (y := Int32.ofInt y) (rest := st.map (up C)) cz.1.1 cz.1.2.1 (cz.1.2.2.2.1.trans hL.1.symm) cz.1.2.2.2.2 (cz.2.1 _ hlk.1) (cz.2.1 _ hlk.2.1) (cz.2.1 _ hlk.2.2.1) (cz.2.1 _ hlk.2.2.2) hdd (by rw [up_sum]; show _ ≤ 70 * d; omega) hk hn hd ?_
  have e : (if Int32.ofInt x < Int32.ofInt y then Int32.ofInt y else Int32.ofInt x) = Int32.ofInt (max x y) := by
    split
    · rename_i q
      congr 1
      have := (c32l hx hy).mp q
      rw [Int.max_def]
      split <;> omega
    · rename_i q
      congr 1
      have := Int.not_lt.mp fun e => q ((c32l hx hy).mpr e)
      rw [Int.max_def]
      split <;> omega
  rw [e]
  exact kk p l ee s m args below meth c Fin cz hr hx9 hzz H locs ls hP hS hL
theorem x_mmin {x y : Int} {idx : Nat} (hx : R x) (hy : R y) (hd : decode (mB M) pc = .ok (.invokestatic idx, 3)) (hlk : Cond.methodLink (mY M).cls idx Lib.Math.min.name ∈ lw_all ∧ Cond.static Lib.Math.min.name ∈ lw_all ∧ Cond.initialized "java/lang/Math" ∈ lw_all ∧ Cond.code Lib.Math.min.name Lib.Math.min.code 2 (some .int) ∈ lw_all) (hdd : 1 ≤ d) (hw : (st.map fun v => v.category).sum ≤ 8) (hk : k ≤ mc) (hn : n ≤ ms) (kk : ww C M d mc ms ne Qr Qx nx k n (pc + 3) lv (vi (min x y) :: st) h) : ww C M d mc ms ne Qr Qx nx k n pc lv (vi y :: vi x :: st) h := by
  intro p l ee s m args below meth c Fin cz hr hx9 hzz H locs ls hP hS hL
  refine va_mmin (x := Int32.ofInt x) (y := Int32.ofInt y) (rest := st.map (up C)) cz.1.1 cz.1.2.1 (cz.1.2.2.2.1.trans hL.1.symm) cz.1.2.2.2.2 (cz.2.1 _ hlk.1) (cz.2.1 _ hlk.2.1) (cz.2.1 _ hlk.2.2.1) (cz.2.1 _ hlk.2.2.2) hdd (by rw [up_sum]; show _ ≤ 70 * d; omega) hk hn hd ?_
  have e : (if Int32.ofInt y < Int32.ofInt x then Int32.ofInt y else Int32.ofInt x) = Int32.ofInt (min x y) := by
    split
    · rename_i q
      congr 1
      have := (c32l hy hx).mp q
      rw [Int.min_def]
      split <;> omega
    · rename_i q
      congr 1
      have := Int.not_lt.mp fun e => q ((c32l hy hx).mpr e)
      rw [Int.min_def]
      split <;> omega
  rw [e]
  exact kk p l ee s m args below meth c Fin cz hr hx9 hzz H locs ls hP hS hL
theorem x_gets {cls nm : String} {i idx : Nat} (hi : 1000 ≤ i) (hm : (cls, nm, i) ∈ rsF) (hd : decode (mB M) pc = .ok (.getstatic idx, 3)) (hlk : Cond.fieldLink (mY M).cls idx cls nm "[I" ∈ lw_all) (kk : ww C M d mc ms ne Qr Qx nx k n (pc + 3) lv (.ref i :: st) h) : ww C M d mc ms ne Qr Qx nx k n pc lv st h := by
  intro p l e s m args below meth c Fin cz hr hx9 hzz H locs ls hP hS hL
  have h9 := kk p l e s m args below meth c Fin cz hr hx9 hzz H locs ls hP hS hL
  have h8 : up C (.ref i) = .ref (xO C i) := by show Value.ref (ad C i) = _; rw [ad_ge hi]
  rw [List.map_cons, h8] at h9
  exact va_gets (A := xAl C) cz.1.1 cz.1.2.1 (cz.2.2.2.1.2.2.2.1 _ hm) hS cz.1.2.2.2.2 (cz.2.1 _ hlk) (fun _ z => z) hd h9
theorem x_V_I (M' : Mk) (As : List Value) (st : List Value) {idx d' b ci  : Nat} {m : Option Int} {f : Int → Option β} (hs : bnd m f = some o) (hst : stk = As.reverse ++ .ref b :: st) (hd : decode (mB M) pc = .ok (.invokevirtual idx, 3)) (hlk : LKV M M' idx As.length) (hb : b < nx) (hsh : shp b = some (.inl ci)) (hci : cR ci = (mY M').cls) (hdd : d' + 1 ≤ d) (hk : k ≤ mc) (hn : n ≤ ms) (hw : (st.map fun v => v.category).sum ≤ 8)
    (hm : ∀ r, m = some r → mm C M' d' 0 0 nx nx (.ref b :: As) (hp nx s) (QI nx s r) XF) (kk : ∀ r, m = some r → f r = some o → ww C M d mc ms ne Qr Qx nx k n (pc + 3) lv (vi r :: st) (hp nx s)) : ww C M d mc ms ne Qr Qx nx k n pc lv stk (hp nx s) := by
  subst hst
  refine bnd_e hs fun r hr hs => ?_
  refine w_callV M' As hd hlk hb (shp_C hsh) hci hdd hk hn hw (hm r hr) XOK.no (fun v h' hq => ?_)
  obtain ⟨rfl, rfl⟩ := hq
  exact kk r hr hs
theorem x_V_V (M' : Mk) (As : List Value) (st : List Value) {idx d' b ci  : Nat} {m : Option Sg} {f : Sg → Option β} (hs : bnd m f = some o) (hst : stk = As.reverse ++ .ref b :: st) (hd : decode (mB M) pc = .ok (.invokevirtual idx, 3)) (hlk : LKV M M' idx As.length) (hb : b < nx) (hsh : shp b = some (.inl ci)) (hci : cR ci = (mY M').cls) (hdd : d' + 1 ≤ d) (hk : k ≤ mc) (hn : n ≤ ms) (hw : (st.map fun v => v.category).sum ≤ 8)
    (hm : ∀ r, m = some r → mm C M' d' 0 0 nx nx (.ref b :: As) (hp nx s) (QV nx r) XF) (kk : ∀ r, m = some r → f r = some o → ww C M d mc ms ne Qr Qx nx k n (pc + 3) lv st (hp nx r)) : ww C M d mc ms ne Qr Qx nx k n pc lv stk (hp nx s) := by
  subst hst
  refine bnd_e hs fun r hr hs => ?_
  refine w_callV M' As hd hlk hb (shp_C hsh) hci hdd hk hn hw (hm r hr) XOK.no (fun v h' hq => ?_)
  obtain ⟨rfl, rfl⟩ := hq
  exact kk r hr hs
theorem x_V_B (M' : Mk) (As : List Value) (st : List Value) {idx d' b ci  : Nat} {m : Option (Int × Sg)} {f : Int → Sg → Option β} (hs : bnd2 m f = some o) (hst : stk = As.reverse ++ .ref b :: st) (hd : decode (mB M) pc = .ok (.invokevirtual idx, 3)) (hlk : LKV M M' idx As.length) (hb : b < nx) (hsh : shp b = some (.inl ci)) (hci : cR ci = (mY M').cls) (hdd : d' + 1 ≤ d) (hk : k ≤ mc) (hn : n ≤ ms) (hw : (st.map fun v => v.category).sum ≤ 8)
    (hm : ∀ r, m = some r → mm C M' d' 0 0 nx nx (.ref b :: As) (hp nx s) (QI nx r.2 r.1) XF) (kk : ∀ r s1, m = some (r, s1) → f r s1 = some o → ww C M d mc ms ne Qr Qx nx k n (pc + 3) lv (vi r :: st) (hp nx s1)) : ww C M d mc ms ne Qr Qx nx k n pc lv stk (hp nx s) := by
  subst hst
  refine bnd2_e hs fun r s1 hr hs => ?_
  refine w_callV M' As hd hlk hb (shp_C hsh) hci hdd hk hn hw (hm (r, s1) hr) XOK.no (fun v h' hq => ?_)
  obtain ⟨rfl, rfl⟩ := hq
  exact kk r s1 hr hs
theorem x_V_A (M' : Mk) (As : List Value) (st : List Value) {idx d' b ci  : Nat} {m : Option (Nat × Sg)} {f : Nat → Sg → Option β} (hs : bnd2 m f = some o) (hst : stk = As.reverse ++ .ref b :: st) (hd : decode (mB M) pc = .ok (.invokevirtual idx, 3)) (hlk : LKV M M' idx As.length) (hb : b < nx) (hsh : shp b = some (.inl ci)) (hci : cR ci = (mY M').cls) (hdd : d' + 1 ≤ d) (hk : k ≤ mc) (hn : n ≤ ms) (hw : (st.map fun v => v.category).sum ≤ 8)
    (hm : ∀ r, m = some r → mm C M' d' 0 0 nx nx (.ref b :: As) (hp nx s) (QA nx r.2 r.1) XF) (kk : ∀ r s1, m = some (r, s1) → f r s1 = some o → ww C M d mc ms ne Qr Qx nx k n (pc + 3) lv (.ref r :: st) (hp nx s1)) : ww C M d mc ms ne Qr Qx nx k n pc lv stk (hp nx s) := by
  subst hst
  refine bnd2_e hs fun r s1 hr hs => ?_
  refine w_callV M' As hd hlk hb (shp_C hsh) hci hdd hk hn hw (hm (r, s1) hr) XOK.no (fun v h' hq => ?_)
  obtain ⟨rfl, rfl⟩ := hq
  exact kk r s1 hr hs
theorem x_V_O (M' : Mk) (As : List Value) (st : List Value) {idx d' b ci  : Nat} {m : Option (Option Nat)} {f : Option Nat → Option β} (hs : bnd m f = some o) (hst : stk = As.reverse ++ .ref b :: st) (hd : decode (mB M) pc = .ok (.invokevirtual idx, 3)) (hlk : LKV M M' idx As.length) (hb : b < nx) (hsh : shp b = some (.inl ci)) (hci : cR ci = (mY M').cls) (hdd : d' + 1 ≤ d) (hk : k ≤ mc) (hn : n ≤ ms) (hw : (st.map fun v => v.category).sum ≤ 8)
    (hm : ∀ r, m = some r → mm C M' d' 0 0 nx nx (.ref b :: As) (hp nx s) (QO nx s r) XF) (kk : ∀ r, m = some r → f r = some o → ww C M d mc ms ne Qr Qx nx k n (pc + 3) lv (va_rf r :: st) (hp nx s)) : ww C M d mc ms ne Qr Qx nx k n pc lv stk (hp nx s) := by
  subst hst
  refine bnd_e hs fun r hr hs => ?_
  refine w_callV M' As hd hlk hb (shp_C hsh) hci hdd hk hn hw (hm r hr) XOK.no (fun v h' hq => ?_)
  obtain ⟨rfl, rfl⟩ := hq
  exact kk r hr hs
theorem x_S_I (M' : Mk) (As : List Value) (st : List Value) {idx d' : Nat} {m : Option Int} {f : Int → Option β} (hs : bnd m f = some o) (hst : stk = As.reverse ++ st) (hd : decode (mB M) pc = .ok (.invokestatic idx, 3)) (hlk : LKS M M' idx As.length) (hdd : d' + 1 ≤ d) (hk : k ≤ mc) (hn : n ≤ ms) (hw : (st.map fun v => v.category).sum ≤ 8)
    (hm : ∀ r, m = some r → mm C M' d' 0 0 nx nx (As) (hp nx s) (QI nx s r) XF) (kk : ∀ r, m = some r → f r = some o → ww C M d mc ms ne Qr Qx nx k n (pc + 3) lv (vi r :: st) (hp nx s)) : ww C M d mc ms ne Qr Qx nx k n pc lv stk (hp nx s) := by
  subst hst
  refine bnd_e hs fun r hr hs => ?_
  refine w_callS M' As hd hlk hdd hk hn hw (hm r hr) XOK.no (fun v h' hq => ?_)
  obtain ⟨rfl, rfl⟩ := hq
  exact kk r hr hs
theorem x_S_V (M' : Mk) (As : List Value) (st : List Value) {idx d' : Nat} {m : Option Sg} {f : Sg → Option β} (hs : bnd m f = some o) (hst : stk = As.reverse ++ st) (hd : decode (mB M) pc = .ok (.invokestatic idx, 3)) (hlk : LKS M M' idx As.length) (hdd : d' + 1 ≤ d) (hk : k ≤ mc) (hn : n ≤ ms) (hw : (st.map fun v => v.category).sum ≤ 8)
    (hm : ∀ r, m = some r → mm C M' d' 0 0 nx nx (As) (hp nx s) (QV nx r) XF) (kk : ∀ r, m = some r → f r = some o → ww C M d mc ms ne Qr Qx nx k n (pc + 3) lv st (hp nx r)) : ww C M d mc ms ne Qr Qx nx k n pc lv stk (hp nx s) := by
  subst hst
  refine bnd_e hs fun r hr hs => ?_
  refine w_callS M' As hd hlk hdd hk hn hw (hm r hr) XOK.no (fun v h' hq => ?_)
  obtain ⟨rfl, rfl⟩ := hq
  exact kk r hr hs
theorem x_S_B (M' : Mk) (As : List Value) (st : List Value) {idx d' : Nat} {m : Option (Int × Sg)} {f : Int → Sg → Option β} (hs : bnd2 m f = some o) (hst : stk = As.reverse ++ st) (hd : decode (mB M) pc = .ok (.invokestatic idx, 3)) (hlk : LKS M M' idx As.length) (hdd : d' + 1 ≤ d) (hk : k ≤ mc) (hn : n ≤ ms) (hw : (st.map fun v => v.category).sum ≤ 8)
    (hm : ∀ r, m = some r → mm C M' d' 0 0 nx nx (As) (hp nx s) (QI nx r.2 r.1) XF) (kk : ∀ r s1, m = some (r, s1) → f r s1 = some o → ww C M d mc ms ne Qr Qx nx k n (pc + 3) lv (vi r :: st) (hp nx s1)) : ww C M d mc ms ne Qr Qx nx k n pc lv stk (hp nx s) := by
  subst hst
  refine bnd2_e hs fun r s1 hr hs => ?_
  refine w_callS M' As hd hlk hdd hk hn hw (hm (r, s1) hr) XOK.no (fun v h' hq => ?_)
  obtain ⟨rfl, rfl⟩ := hq
  exact kk r s1 hr hs
theorem x_S_J (M' : Mk) (As : List Value) (st : List Value) {idx d' : Nat} {m : Option Int} {f : Int → Option β} (hs : bnd m f = some o) (hst : stk = As.reverse ++ st) (hd : decode (mB M) pc = .ok (.invokestatic idx, 3)) (hlk : LKS M M' idx As.length) (hdd : d' + 1 ≤ d) (hk : k ≤ mc) (hn : n ≤ ms) (hw : (st.map fun v => v.category).sum ≤ 8)
    (hm : ∀ r, m = some r → mm C M' d' 0 0 nx nx (As) (hp nx s) (QJ nx s r) XF) (kk : ∀ r, m = some r → f r = some o → ww C M d mc ms ne Qr Qx nx k n (pc + 3) lv (vl r :: st) (hp nx s)) : ww C M d mc ms ne Qr Qx nx k n pc lv stk (hp nx s) := by
  subst hst
  refine bnd_e hs fun r hr hs => ?_
  refine w_callS M' As hd hlk hdd hk hn hw (hm r hr) XOK.no (fun v h' hq => ?_)
  obtain ⟨rfl, rfl⟩ := hq
  exact kk r hr hs
theorem x_S_BJ (M' : Mk) (As : List Value) (st : List Value) {idx d' : Nat} {m : Option (Int × Sg)} {f : Int → Sg → Option β} (hs : bnd2 m f = some o) (hst : stk = As.reverse ++ st) (hd : decode (mB M) pc = .ok (.invokestatic idx, 3)) (hlk : LKS M M' idx As.length) (hdd : d' + 1 ≤ d) (hk : k ≤ mc) (hn : n ≤ ms) (hw : (st.map fun v => v.category).sum ≤ 8)
    (hm : ∀ r, m = some r → mm C M' d' 0 0 nx nx (As) (hp nx s) (QJ nx r.2 r.1) XF) (kk : ∀ r s1, m = some (r, s1) → f r s1 = some o → ww C M d mc ms ne Qr Qx nx k n (pc + 3) lv (vl r :: st) (hp nx s1)) : ww C M d mc ms ne Qr Qx nx k n pc lv stk (hp nx s) := by
  subst hst
  refine bnd2_e hs fun r s1 hr hs => ?_
  refine w_callS M' As hd hlk hdd hk hn hw (hm (r, s1) hr) XOK.no (fun v h' hq => ?_)
  obtain ⟨rfl, rfl⟩ := hq
  exact kk r s1 hr hs
theorem x_N_I (M' : Mk) (As : List Value) (st : List Value) {idx d' : Nat} {m : Option Int} {f : Int → Option β} (hs : bnd m f = some o) (hst : stk = As.reverse ++ st) (hd : decode (mB M) pc = .ok (.invokestatic idx, 3)) (hlk : LKN M M' idx As.length) (hdd : d' + 1 ≤ d) (hk : k ≤ mc) (hn : n ≤ ms) (hw : (st.map fun v => v.category).sum ≤ 8)
    (hm : ∀ r, m = some r → mm C M' d' 0 0 nx nx (As) (hp nx s) (QI nx s r) XF) (kk : ∀ r, m = some r → f r = some o → ww C M d mc ms ne Qr Qx nx k n (pc + 3) lv (vi r :: st) (hp nx s)) : ww C M d mc ms ne Qr Qx nx k n pc lv stk (hp nx s) := by
  subst hst
  refine bnd_e hs fun r hr hs => ?_
  refine w_callN M' As hd hlk hdd hk hn hw (hm r hr) XOK.no (fun v h' hq => ?_)
  obtain ⟨rfl, rfl⟩ := hq
  exact kk r hr hs
theorem x_N_V (M' : Mk) (As : List Value) (st : List Value) {idx d' : Nat} {m : Option Sg} {f : Sg → Option β} (hs : bnd m f = some o) (hst : stk = As.reverse ++ st) (hd : decode (mB M) pc = .ok (.invokestatic idx, 3)) (hlk : LKN M M' idx As.length) (hdd : d' + 1 ≤ d) (hk : k ≤ mc) (hn : n ≤ ms) (hw : (st.map fun v => v.category).sum ≤ 8)
    (hm : ∀ r, m = some r → mm C M' d' 0 0 nx nx (As) (hp nx s) (QV nx r) XF) (kk : ∀ r, m = some r → f r = some o → ww C M d mc ms ne Qr Qx nx k n (pc + 3) lv st (hp nx r)) : ww C M d mc ms ne Qr Qx nx k n pc lv stk (hp nx s) := by
  subst hst
  refine bnd_e hs fun r hr hs => ?_
  refine w_callN M' As hd hlk hdd hk hn hw (hm r hr) XOK.no (fun v h' hq => ?_)
  obtain ⟨rfl, rfl⟩ := hq
  exact kk r hr hs
theorem x_N_B (M' : Mk) (As : List Value) (st : List Value) {idx d' : Nat} {m : Option (Int × Sg)} {f : Int → Sg → Option β} (hs : bnd2 m f = some o) (hst : stk = As.reverse ++ st) (hd : decode (mB M) pc = .ok (.invokestatic idx, 3)) (hlk : LKN M M' idx As.length) (hdd : d' + 1 ≤ d) (hk : k ≤ mc) (hn : n ≤ ms) (hw : (st.map fun v => v.category).sum ≤ 8)
    (hm : ∀ r, m = some r → mm C M' d' 0 0 nx nx (As) (hp nx s) (QI nx r.2 r.1) XF) (kk : ∀ r s1, m = some (r, s1) → f r s1 = some o → ww C M d mc ms ne Qr Qx nx k n (pc + 3) lv (vi r :: st) (hp nx s1)) : ww C M d mc ms ne Qr Qx nx k n pc lv stk (hp nx s) := by
  subst hst
  refine bnd2_e hs fun r s1 hr hs => ?_
  refine w_callN M' As hd hlk hdd hk hn hw (hm (r, s1) hr) XOK.no (fun v h' hq => ?_)
  obtain ⟨rfl, rfl⟩ := hq
  exact kk r s1 hr hs
theorem x_V_T (M' : Mk) (As : List Value) (st : List Value) {γ : Type} {o : (Nat ⊕ γ) × Sg} {idx d' b ci : Nat} {m : Option ((Nat ⊕ Int) × Sg)} {f : Int → Sg → Option ((Nat ⊕ γ) × Sg)} (hs : bndx m f = some o) (hst : stk = As.reverse ++ .ref b :: st) (hd : decode (mB M) pc = .ok (.invokevirtual idx, 3)) (hlk : LKV M M' idx As.length) (hb : b < nx) (hsh : shp b = some (.inl ci)) (hci : cR ci = (mY M').cls) (hdd : d' + 1 ≤ d) (hk : k ≤ mc) (hn : n ≤ ms) (hw : (st.map fun v => v.category).sum ≤ 8)
    (hm : ∀ r, m = some r → mm C M' d' 0 0 nx nx (.ref b :: As) (hp nx s) (QT nx r) XF) (kk : ∀ r s1, m = some (.inr r, s1) → f r s1 = some o → ww C M d mc ms ne Qr Qx nx k n (pc + 3) lv (vi r :: st) (hp nx s1)) : ww C M d mc ms ne Qr Qx nx k n pc lv stk (hp nx s) := by
  subst hst
  rcases m with _ | ⟨e | a, s1⟩
  · cases hs
  · refine w_callV M' As hd hlk hb (shp_C hsh) hci hdd hk hn hw (hm _ rfl) XOK.no (fun v h' hq => ?_)
    obtain ⟨r', h1, -⟩ := hq
    cases h1
  · refine w_callV M' As hd hlk hb (shp_C hsh) hci hdd hk hn hw (hm _ rfl) XOK.no (fun v h' hq => ?_)
    obtain ⟨r', h1, rfl, rfl⟩ := hq
    cases h1
    exact kk a s1 rfl hs
theorem x_V_Tr (M' : Mk) (As : List Value) (st : List Value)  {idx d' b ci : Nat} {m : Option ((Nat ⊕ Int) × Sg)} {f : Int → Sg → Option β} (hs : bndr m f = some o) (hst : stk = As.reverse ++ .ref b :: st) (hd : decode (mB M) pc = .ok (.invokevirtual idx, 3)) (hlk : LKV M M' idx As.length) (hb : b < nx) (hsh : shp b = some (.inl ci)) (hci : cR ci = (mY M').cls) (hdd : d' + 1 ≤ d) (hk : k ≤ mc) (hn : n ≤ ms) (hw : (st.map fun v => v.category).sum ≤ 8)
    (hm : ∀ r, m = some r → mm C M' d' 0 0 nx nx (.ref b :: As) (hp nx s) (QT nx r) XF) (kk : ∀ r s1, m = some (.inr r, s1) → f r s1 = some o → ww C M d mc ms ne Qr Qx nx k n (pc + 3) lv (vi r :: st) (hp nx s1)) : ww C M d mc ms ne Qr Qx nx k n pc lv stk (hp nx s) := by
  subst hst
  rcases m with _ | ⟨e | a, s1⟩
  · cases hs
  · refine w_callV M' As hd hlk hb (shp_C hsh) hci hdd hk hn hw (hm _ rfl) XOK.no (fun v h' hq => ?_)
    obtain ⟨r', h1, -⟩ := hq
    cases h1
  · refine w_callV M' As hd hlk hb (shp_C hsh) hci hdd hk hn hw (hm _ rfl) XOK.no (fun v h' hq => ?_)
    obtain ⟨r', h1, rfl, rfl⟩ := hq
    cases h1
    exact kk a s1 rfl hs
theorem x_V_U (M' : Mk) (As : List Value) (st : List Value) {γ : Type} {o : (Nat ⊕ γ) × Sg} {idx d' b ci : Nat} {m : Option ((Nat ⊕ Int) × Sg)} {f : Int → Sg → Option ((Nat ⊕ γ) × Sg)} (hs : bndx m f = some o) (hst : stk = As.reverse ++ .ref b :: st) (hd : decode (mB M) pc = .ok (.invokevirtual idx, 3)) (hlk : LKV M M' idx As.length) (hb : b < nx) (hsh : shp b = some (.inl ci)) (hci : cR ci = (mY M').cls) (hdd : d' + 1 ≤ d) (hk : k ≤ mc) (hn : n ≤ ms) (hw : (st.map fun v => v.category).sum ≤ 8)
    (hm : ∀ r, m = some r → mm C M' d' 0 0 nx nx (.ref b :: As) (hp nx s) (QTV nx r) XF) (kk : ∀ r s1, m = some (.inr r, s1) → f r s1 = some o → ww C M d mc ms ne Qr Qx nx k n (pc + 3) lv (st) (hp nx s1)) : ww C M d mc ms ne Qr Qx nx k n pc lv stk (hp nx s) := by
  subst hst
  rcases m with _ | ⟨e | a, s1⟩
  · cases hs
  · refine w_callV M' As hd hlk hb (shp_C hsh) hci hdd hk hn hw (hm _ rfl) XOK.no (fun v h' hq => ?_)
    obtain ⟨r', h1, -⟩ := hq
    cases h1
  · refine w_callV M' As hd hlk hb (shp_C hsh) hci hdd hk hn hw (hm _ rfl) XOK.no (fun v h' hq => ?_)
    obtain ⟨r', h1, rfl, rfl⟩ := hq
    cases h1
    exact kk a s1 rfl hs
theorem x_V_Ur (M' : Mk) (As : List Value) (st : List Value)  {idx d' b ci : Nat} {m : Option ((Nat ⊕ Int) × Sg)} {f : Int → Sg → Option β} (hs : bndr m f = some o) (hst : stk = As.reverse ++ .ref b :: st) (hd : decode (mB M) pc = .ok (.invokevirtual idx, 3)) (hlk : LKV M M' idx As.length) (hb : b < nx) (hsh : shp b = some (.inl ci)) (hci : cR ci = (mY M').cls) (hdd : d' + 1 ≤ d) (hk : k ≤ mc) (hn : n ≤ ms) (hw : (st.map fun v => v.category).sum ≤ 8)
    (hm : ∀ r, m = some r → mm C M' d' 0 0 nx nx (.ref b :: As) (hp nx s) (QTV nx r) XF) (kk : ∀ r s1, m = some (.inr r, s1) → f r s1 = some o → ww C M d mc ms ne Qr Qx nx k n (pc + 3) lv (st) (hp nx s1)) : ww C M d mc ms ne Qr Qx nx k n pc lv stk (hp nx s) := by
  subst hst
  rcases m with _ | ⟨e | a, s1⟩
  · cases hs
  · refine w_callV M' As hd hlk hb (shp_C hsh) hci hdd hk hn hw (hm _ rfl) XOK.no (fun v h' hq => ?_)
    obtain ⟨r', h1, -⟩ := hq
    cases h1
  · refine w_callV M' As hd hlk hb (shp_C hsh) hci hdd hk hn hw (hm _ rfl) XOK.no (fun v h' hq => ?_)
    obtain ⟨r', h1, rfl, rfl⟩ := hq
    cases h1
    exact kk a s1 rfl hs
theorem x_S_T (M' : Mk) (As : List Value) (st : List Value) {γ : Type} {o : (Nat ⊕ γ) × Sg} {idx d' : Nat} {m : Option ((Nat ⊕ Int) × Sg)} {f : Int → Sg → Option ((Nat ⊕ γ) × Sg)} (hs : bndx m f = some o) (hst : stk = As.reverse ++ st) (hd : decode (mB M) pc = .ok (.invokestatic idx, 3)) (hlk : LKS M M' idx As.length) (hdd : d' + 1 ≤ d) (hk : k ≤ mc) (hn : n ≤ ms) (hw : (st.map fun v => v.category).sum ≤ 8)
    (hm : ∀ r, m = some r → mm C M' d' 0 0 nx nx (As) (hp nx s) (QT nx r) XF) (kk : ∀ r s1, m = some (.inr r, s1) → f r s1 = some o → ww C M d mc ms ne Qr Qx nx k n (pc + 3) lv (vi r :: st) (hp nx s1)) : ww C M d mc ms ne Qr Qx nx k n pc lv stk (hp nx s) := by
  subst hst
  rcases m with _ | ⟨e | a, s1⟩
  · cases hs
  · refine w_callS M' As hd hlk hdd hk hn hw (hm _ rfl) XOK.no (fun v h' hq => ?_)
    obtain ⟨r', h1, -⟩ := hq
    cases h1
  · refine w_callS M' As hd hlk hdd hk hn hw (hm _ rfl) XOK.no (fun v h' hq => ?_)
    obtain ⟨r', h1, rfl, rfl⟩ := hq
    cases h1
    exact kk a s1 rfl hs
theorem x_S_Tr (M' : Mk) (As : List Value) (st : List Value)  {idx d' : Nat} {m : Option ((Nat ⊕ Int) × Sg)} {f : Int → Sg → Option β} (hs : bndr m f = some o) (hst : stk = As.reverse ++ st) (hd : decode (mB M) pc = .ok (.invokestatic idx, 3)) (hlk : LKS M M' idx As.length) (hdd : d' + 1 ≤ d) (hk : k ≤ mc) (hn : n ≤ ms) (hw : (st.map fun v => v.category).sum ≤ 8)
    (hm : ∀ r, m = some r → mm C M' d' 0 0 nx nx (As) (hp nx s) (QT nx r) XF) (kk : ∀ r s1, m = some (.inr r, s1) → f r s1 = some o → ww C M d mc ms ne Qr Qx nx k n (pc + 3) lv (vi r :: st) (hp nx s1)) : ww C M d mc ms ne Qr Qx nx k n pc lv stk (hp nx s) := by
  subst hst
  rcases m with _ | ⟨e | a, s1⟩
  · cases hs
  · refine w_callS M' As hd hlk hdd hk hn hw (hm _ rfl) XOK.no (fun v h' hq => ?_)
    obtain ⟨r', h1, -⟩ := hq
    cases h1
  · refine w_callS M' As hd hlk hdd hk hn hw (hm _ rfl) XOK.no (fun v h' hq => ?_)
    obtain ⟨r', h1, rfl, rfl⟩ := hq
    cases h1
    exact kk a s1 rfl hs
theorem x_S_U (M' : Mk) (As : List Value) (st : List Value) {γ : Type} {o : (Nat ⊕ γ) × Sg} {idx d' : Nat} {m : Option ((Nat ⊕ Int) × Sg)} {f : Int → Sg → Option ((Nat ⊕ γ) × Sg)} (hs : bndx m f = some o) (hst : stk = As.reverse ++ st) (hd : decode (mB M) pc = .ok (.invokestatic idx, 3)) (hlk : LKS M M' idx As.length) (hdd : d' + 1 ≤ d) (hk : k ≤ mc) (hn : n ≤ ms) (hw : (st.map fun v => v.category).sum ≤ 8)
    (hm : ∀ r, m = some r → mm C M' d' 0 0 nx nx (As) (hp nx s) (QTV nx r) XF) (kk : ∀ r s1, m = some (.inr r, s1) → f r s1 = some o → ww C M d mc ms ne Qr Qx nx k n (pc + 3) lv (st) (hp nx s1)) : ww C M d mc ms ne Qr Qx nx k n pc lv stk (hp nx s) := by
  subst hst
  rcases m with _ | ⟨e | a, s1⟩
  · cases hs
  · refine w_callS M' As hd hlk hdd hk hn hw (hm _ rfl) XOK.no (fun v h' hq => ?_)
    obtain ⟨r', h1, -⟩ := hq
    cases h1
  · refine w_callS M' As hd hlk hdd hk hn hw (hm _ rfl) XOK.no (fun v h' hq => ?_)
    obtain ⟨r', h1, rfl, rfl⟩ := hq
    cases h1
    exact kk a s1 rfl hs
theorem x_S_Ur (M' : Mk) (As : List Value) (st : List Value)  {idx d' : Nat} {m : Option ((Nat ⊕ Int) × Sg)} {f : Int → Sg → Option β} (hs : bndr m f = some o) (hst : stk = As.reverse ++ st) (hd : decode (mB M) pc = .ok (.invokestatic idx, 3)) (hlk : LKS M M' idx As.length) (hdd : d' + 1 ≤ d) (hk : k ≤ mc) (hn : n ≤ ms) (hw : (st.map fun v => v.category).sum ≤ 8)
    (hm : ∀ r, m = some r → mm C M' d' 0 0 nx nx (As) (hp nx s) (QTV nx r) XF) (kk : ∀ r s1, m = some (.inr r, s1) → f r s1 = some o → ww C M d mc ms ne Qr Qx nx k n (pc + 3) lv (st) (hp nx s1)) : ww C M d mc ms ne Qr Qx nx k n pc lv stk (hp nx s) := by
  subst hst
  rcases m with _ | ⟨e | a, s1⟩
  · cases hs
  · refine w_callS M' As hd hlk hdd hk hn hw (hm _ rfl) XOK.no (fun v h' hq => ?_)
    obtain ⟨r', h1, -⟩ := hq
    cases h1
  · refine w_callS M' As hd hlk hdd hk hn hw (hm _ rfl) XOK.no (fun v h' hq => ?_)
    obtain ⟨r', h1, rfl, rfl⟩ := hq
    cases h1
    exact kk a s1 rfl hs
theorem x_ireturn {x : Int} (hd : decode (mB M) pc = .ok (.ireturn, 1)) (hty : mR M = some .int) (hne : nx = ne) (hk : k ≤ mc) (hn : n ≤ ms) (hq : Qr (some (vi x)) h) : ww C M d mc ms ne Qr Qx nx k n pc lv [vi x] h := w_ireturn (ty := .int) hty rfl hd hne hk hn hq
theorem x_zreturn {x : Int} (hg : b01 x) (hd : decode (mB M) pc = .ok (.ireturn, 1)) (hty : mR M = some .boolean) (hne : nx = ne) (hk : k ≤ mc) (hn : n ≤ ms) (hq : Qr (some (vi x)) h) : ww C M d mc ms ne Qr Qx nx k n pc lv [vi x] h := w_ireturn (ty := .boolean) hty (by rcases hg with rfl | rfl <;> rfl) hd hne hk hn hq
theorem x_null_ref (r : Option Nat) {A B : Option β} {off : Int} {tgt : Nat} (hd : decode (mB M) pc = .ok (.ifnull off, 3)) (ht : (pc : Int) + off = (tgt : Int)) (kn : r = none → ww C M d mc ms ne Qr Qx nx k n tgt lv st h) (kr : ∀ a, r = some a → ww C M d mc ms ne Qr Qx nx k n (pc + 3) lv st h) : ww C M d mc ms ne Qr Qx nx k n pc lv (va_rf r :: st) h := by
  cases r with
  | none => exact w_ifnullN hd ht (kn rfl)
  | some a => exact w_ifnull hd (kr a rfl)
theorem x_nonnull_ref (r : Option Nat) {off : Int} {tgt : Nat} (hd : decode (mB M) pc = .ok (.ifnonnull off, 3)) (ht : (pc : Int) + off = (tgt : Int)) (kn : r = none → ww C M d mc ms ne Qr Qx nx k n (pc + 3) lv st h) (kr : ∀ a, r = some a → ww C M d mc ms ne Qr Qx nx k n tgt lv st h) : ww C M d mc ms ne Qr Qx nx k n pc lv (va_rf r :: st) h := by
  cases r with
  | none => exact w_ifnonnullN hd (kn rfl)
  | some a => exact w_ifnonnull hd ht (kr a rfl)
end XX

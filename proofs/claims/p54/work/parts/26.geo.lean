/-! ===== the board by rows and columns ===== -/
def stp (a b : Int) : Prop := (a = -1 ∧ b = 0) ∨ (a = -1 ∧ b = 1) ∨ (a = 0 ∧ b = -1) ∨ (a = 0 ∧ b = 1) ∨ (a = 1 ∧ b = -1) ∨ (a = 1 ∧ b = 0)
def ro (n x : Nat) : Int := ((x / n : Nat) : Int)
def co (n x : Nat) : Int := ((x % n : Nat) : Int)
theorem ro_rg {n x : Nat} (h : x < n * n) : 0 ≤ ro n x ∧ ro n x < (n : Int) := by
  have h1 := Nat.div_lt_of_lt_mul h
  have h0 : (0 : Int) ≤ ((x / n : Nat) : Int) := Int.natCast_nonneg _
  have h2 : ((x / n : Nat) : Int) < (n : Int) := Int.ofNat_lt.mpr h1
  exact ⟨h0, h2⟩
theorem co_rg {n x : Nat} (h : x < n * n) : 0 ≤ co n x ∧ co n x < (n : Int) := by
  have hn : 0 < n := by
    rcases Nat.eq_zero_or_pos n with e | e
    · subst e; simp at h
    · exact e
  have h1 := Nat.mod_lt x hn
  have h0 : (0 : Int) ≤ ((x % n : Nat) : Int) := Int.natCast_nonneg _
  have h2 : ((x % n : Nat) : Int) < (n : Int) := Int.ofNat_lt.mpr h1
  exact ⟨h0, h2⟩
theorem cellv_self {n y : Nat} (hy : y < n * n) : cellv n (ro n y) (co n y) = (y : Int) := by
  have hn : 0 < n := by
    rcases Nat.eq_zero_or_pos n with e | e
    · subst e; simp at hy
    · exact e
  unfold ro co
  rw [cellv_nat (Nat.div_lt_of_lt_mul hy) (Nat.mod_lt y hn), Nat.div_add_mod]
theorem cellv_iff {n y : Nat} {r q : Int} (hy : y < n * n) : cellv n r q = (y : Int) ↔ r = ro n y ∧ q = co n y := by
  constructor
  · intro h
    obtain ⟨-, h1, h2⟩ := cellv_inv h
    exact ⟨h1, h2⟩
  · rintro ⟨rfl, rfl⟩
    exact cellv_self hy
theorem cell_ext {n x y : Nat} (hx : x < n * n) (hy : y < n * n) (h1 : ro n x = ro n y) (h2 : co n x = co n y) : x = y := by
  have e1 := cellv_self hx
  have e2 := cellv_self hy
  rw [h1, h2, e2] at e1
  omega
theorem cell_lt_iff {n x y : Nat} (hx : x < n * n) (hy : y < n * n) (h : ro n x < ro n y ∨ (ro n x = ro n y ∧ co n x < co n y)) : x < y := by
  have d1 := Nat.div_add_mod x n
  have d2 := Nat.div_add_mod y n
  unfold ro co at h
  rcases h with h | ⟨h1, h2⟩
  · have h3 : x / n + 1 ≤ y / n := by omega
    have h4 : n * (x / n + 1) ≤ n * (y / n) := Nat.mul_le_mul_left n h3
    have h5 : n * (x / n + 1) = n * (x / n) + n := Nat.mul_succ n (x / n)
    have hn : 0 < n := by
      rcases Nat.eq_zero_or_pos n with e | e
      · subst e; simp at hx
      · exact e
    have h6 := Nat.mod_lt x hn
    omega
  · have h3 : x / n = y / n := by omega
    rw [h3] at d1
    omega
theorem adj_iff {n x y : Nat} (hy : y < n * n) : Adj n x y ↔ stp (ro n y - ro n x) (co n y - co n x) := by
  constructor
  · rintro ⟨k, hk, e⟩
    obtain ⟨-, h1, h2⟩ := cellv_inv e
    have hr : ro n y - ro n x = drow k := by unfold ro; omega
    have hc : co n y - co n x = dcol k := by unfold co; omega
    rw [hr, hc]
    unfold stp
    obtain rfl | rfl | rfl | rfl | rfl | rfl : k = 0 ∨ k = 1 ∨ k = 2 ∨ k = 3 ∨ k = 4 ∨ k = 5 := by omega
    · decide
    · decide
    · decide
    · decide
    · decide
    · decide
  · intro h
    have key : ∀ k, k < 6 → ro n y - ro n x = drow k → co n y - co n x = dcol k → Adj n x y := by
      intro k hk h1 h2
      refine ⟨k, hk, ?_⟩
      unfold rnd
      refine (cellv_iff hy).mpr ⟨?_, ?_⟩
      · unfold ro at h1 ⊢; omega
      · unfold co at h2 ⊢; omega
    rcases h with ⟨h1, h2⟩ | ⟨h1, h2⟩ | ⟨h1, h2⟩ | ⟨h1, h2⟩ | ⟨h1, h2⟩ | ⟨h1, h2⟩
    · exact key 0 (by omega) h1 h2
    · exact key 1 (by omega) h1 h2
    · exact key 2 (by omega) h1 h2
    · exact key 3 (by omega) h1 h2
    · exact key 4 (by omega) h1 h2
    · exact key 5 (by omega) h1 h2
/-! ===== the far cells and their carriers ===== -/
def frow (j : Nat) : Int := match j with
  | 2 => 2
  | _ => 1
def fcol (j : Nat) : Int := match j with
  | 0 => -2
  | 1 => 1
  | _ => -1
def lrow (j : Nat) : Int := match j with
  | 2 => 1
  | _ => 0
def lcol (j : Nat) : Int := match j with
  | 1 => 1
  | _ => -1
def hrow (_ : Nat) : Int := 1
def hcol (j : Nat) : Int := match j with
  | 0 => -1
  | _ => 0
def far (n k j : Nat) : Int := cellv n (ro n k + frow j) (co n k + fcol j)
def lwc (n k j : Nat) : Int := cellv n (ro n k + lrow j) (co n k + lcol j)
def hic (n k j : Nat) : Int := cellv n (ro n k + hrow j) (co n k + hcol j)
/-- all of a far cell -/
theorem far_ok {n k i j : Nat} (hk : k < n * n) (hj : j < 3) (h : far n k j = (i : Int)) : k < i ∧ i < n * n ∧ ¬ Adj n k i ∧ ∃ l g : Nat, lwc n k j = (l : Int) ∧ hic n k j = (g : Int) ∧ l < g ∧ g < n * n ∧ ∀ x, x < n * n → (Adj n k x ∧ Adj n i x ↔ x = l ∨ x = g) := by
  obtain ⟨hi2, h1, h2⟩ := cellv_inv h
  have h1 : ro n i = ro n k + frow j := h1.symm
  have h2 : co n i = co n k + fcol j := h2.symm
  have rk := ro_rg hk
  have ck := co_rg hk
  have ri := ro_rg hi2
  have ci := co_rg hi2
  have hlo : ∃ l : Nat, lwc n k j = (l : Int) ∧ l < n * n ∧ ro n l = ro n k + lrow j ∧ co n l = co n k + lcol j := by
    have hb : 0 ≤ ro n k + lrow j ∧ ro n k + lrow j < (n : Int) ∧ 0 ≤ co n k + lcol j ∧ co n k + lcol j < (n : Int) := by
      obtain rfl | rfl | rfl : j = 0 ∨ j = 1 ∨ j = 2 := by omega
      · simp only [frow, fcol, lrow, lcol] at *; omega
      · simp only [frow, fcol, lrow, lcol] at *; omega
      · simp only [frow, fcol, lrow, lcol] at *; omega
    rcases cellv_rg n (ro n k + lrow j) (co n k + lcol j) with e | ⟨y, e, hy⟩
    · unfold cellv at e
      rw [if_pos hb] at e
      exfalso
      have h0 : 0 ≤ (n : Int) * (ro n k + lrow j) := Int.mul_nonneg (by omega) hb.1
      omega
    · have := (cellv_iff hy).mp e
      exact ⟨y, e, hy, this.1.symm, this.2.symm⟩
  have hhi : ∃ l : Nat, hic n k j = (l : Int) ∧ l < n * n ∧ ro n l = ro n k + hrow j ∧ co n l = co n k + hcol j := by
    have hb : 0 ≤ ro n k + hrow j ∧ ro n k + hrow j < (n : Int) ∧ 0 ≤ co n k + hcol j ∧ co n k + hcol j < (n : Int) := by
      obtain rfl | rfl | rfl : j = 0 ∨ j = 1 ∨ j = 2 := by omega
      · simp only [frow, fcol, hrow, hcol] at *; omega
      · simp only [frow, fcol, hrow, hcol] at *; omega
      · simp only [frow, fcol, hrow, hcol] at *; omega
    rcases cellv_rg n (ro n k + hrow j) (co n k + hcol j) with e | ⟨y, e, hy⟩
    · unfold cellv at e
      rw [if_pos hb] at e
      exfalso
      have h0 : 0 ≤ (n : Int) * (ro n k + hrow j) := Int.mul_nonneg (by omega) hb.1
      omega
    · have := (cellv_iff hy).mp e
      exact ⟨y, e, hy, this.1.symm, this.2.symm⟩
  obtain ⟨l, l0, l1, l2, l3⟩ := hlo
  obtain ⟨g, g0, g1, g2, g3⟩ := hhi
  refine ⟨cell_lt_iff hk hi2 (Or.inl ?_), hi2, fun hA => ?_, l, g, l0, g0, cell_lt_iff l1 g1 ?_, g1, fun x hx => ?_⟩
  · obtain rfl | rfl | rfl : j = 0 ∨ j = 1 ∨ j = 2 := by omega
    · simp only [frow] at h1; omega
    · simp only [frow] at h1; omega
    · simp only [frow] at h1; omega
  · have := (adj_iff hi2).mp hA
    unfold stp at this
    obtain rfl | rfl | rfl : j = 0 ∨ j = 1 ∨ j = 2 := by omega
    · simp only [frow, fcol] at h1 h2; omega
    · simp only [frow, fcol] at h1 h2; omega
    · simp only [frow, fcol] at h1 h2; omega
  · obtain rfl | rfl | rfl : j = 0 ∨ j = 1 ∨ j = 2 := by omega
    · simp only [lrow, lcol, hrow, hcol] at *; omega
    · simp only [lrow, lcol, hrow, hcol] at *; omega
    · simp only [lrow, lcol, hrow, hcol] at *; omega
  · rw [adj_iff hx, adj_iff hx]
    constructor
    · rintro ⟨a1, a2⟩
      unfold stp at a1 a2
      have hor : (ro n x = ro n l ∧ co n x = co n l) ∨ (ro n x = ro n g ∧ co n x = co n g) := by
        obtain rfl | rfl | rfl : j = 0 ∨ j = 1 ∨ j = 2 := by omega
        · simp only [frow, fcol, lrow, lcol, hrow, hcol] at *; omega
        · simp only [frow, fcol, lrow, lcol, hrow, hcol] at *; omega
        · simp only [frow, fcol, lrow, lcol, hrow, hcol] at *; omega
      exact hor.imp (fun q => cell_ext hx l1 q.1 q.2) (fun q => cell_ext hx g1 q.1 q.2)
    · intro q
      unfold stp
      rcases q with rfl | rfl
      · obtain rfl | rfl | rfl : j = 0 ∨ j = 1 ∨ j = 2 := by omega
        · simp only [frow, fcol, lrow, lcol, hrow, hcol] at *; omega
        · simp only [frow, fcol, lrow, lcol, hrow, hcol] at *; omega
        · simp only [frow, fcol, lrow, lcol, hrow, hcol] at *; omega
      · obtain rfl | rfl | rfl : j = 0 ∨ j = 1 ∨ j = 2 := by omega
        · simp only [frow, fcol, lrow, lcol, hrow, hcol] at *; omega
        · simp only [frow, fcol, lrow, lcol, hrow, hcol] at *; omega
        · simp only [frow, fcol, lrow, lcol, hrow, hcol] at *; omega
/-- two shared neighbours: a far cell -/
theorem far_of {n k i a b : Nat} (hk : k < n * n) (hi2 : i < n * n) (hki : k < i) (hA : ¬ Adj n k i) (ha : a < n * n) (hb : b < n * n) (hab : a ≠ b) (a1 : Adj n k a) (a2 : Adj n i a) (b1 : Adj n k b) (b2 : Adj n i b) : ∃ j, j < 3 ∧ far n k j = (i : Int) := by
  rw [adj_iff ha] at a1 a2
  rw [adj_iff hb] at b1 b2
  rw [adj_iff hi2] at hA
  unfold stp at *
  have hne : ¬ (ro n a = ro n b ∧ co n a = co n b) := fun q => hab (cell_ext ha hb q.1 q.2)
  have hlt : ro n k < ro n i ∨ (ro n k = ro n i ∧ co n k < co n i) := by
    by_cases h1 : ro n k < ro n i
    · exact Or.inl h1
    · by_cases h2 : ro n k = ro n i
      · by_cases h3 : co n k < co n i
        · exact Or.inr ⟨h2, h3⟩
        · by_cases h4 : co n k = co n i
          · have := cell_ext hk hi2 h2 h4; omega
          · have := cell_lt_iff hi2 hk (Or.inr ⟨h2.symm, by omega⟩); omega
      · have := cell_lt_iff hi2 hk (Or.inl (by omega)); omega
  have hor : (ro n i = ro n k + 1 ∧ co n i = co n k + -2) ∨ (ro n i = ro n k + 1 ∧ co n i = co n k + 1) ∨ (ro n i = ro n k + 2 ∧ co n i = co n k + -1) := by omega
  rcases hor with ⟨e1, e2⟩ | ⟨e1, e2⟩ | ⟨e1, e2⟩
  · exact ⟨0, by omega, (cellv_iff hi2).mpr ⟨e1.symm, e2.symm⟩⟩
  · exact ⟨1, by omega, (cellv_iff hi2).mpr ⟨e1.symm, e2.symm⟩⟩
  · exact ⟨2, by omega, (cellv_iff hi2).mpr ⟨e1.symm, e2.symm⟩⟩
theorem far_mono {n k j j' i i' : Nat} (h : far n k j = (i : Int)) (h' : far n k j' = (i' : Int)) (hj : j < j') (hj3 : j' < 3) : i < i' := by
  obtain ⟨hi1, a1, a2⟩ := cellv_inv h
  obtain ⟨hi2, b1, b2⟩ := cellv_inv h'
  have a1 : ro n i = ro n k + frow j := a1.symm
  have a2 : co n i = co n k + fcol j := a2.symm
  have b1 : ro n i' = ro n k + frow j' := b1.symm
  have b2 : co n i' = co n k + fcol j' := b2.symm
  refine cell_lt_iff hi1 hi2 ?_
  obtain ⟨rfl, rfl⟩ | ⟨rfl, rfl⟩ | ⟨rfl, rfl⟩ : (j = 0 ∧ j' = 1) ∨ (j = 0 ∧ j' = 2) ∨ (j = 1 ∧ j' = 2) := by omega
  · simp only [frow, fcol] at *; omega
  · simp only [frow, fcol] at *; omega
  · simp only [frow, fcol] at *; omega
theorem far_rg (n k j : Nat) : far n k j = -1 ∨ ∃ y : Nat, far n k j = (y : Int) ∧ y < n * n := cellv_rg n _ _
/-! two that count -/
theorem cnt_two {p : Nat → Prop} {N l g : Nat} (hl : l < g) (hg : g < N) (h : ∀ x, x < N → (p x ↔ x = l ∨ x = g)) : cnt p N = 2 := by
  have e0 : cnt (fun _ => False) N = 0 := cnt_zero fun _ _ q => q
  have e1 : cnt (fun x => x = l) N = cnt (fun _ => False) N + 1 := cnt_add (p := fun _ => False) (q := fun x => x = l) (j := l) (fun q => q) rfl (by omega) (fun i _ hne => ⟨fun q => q.elim, fun q => absurd q hne⟩)
  have e2 : cnt (fun x => x = l ∨ x = g) N = cnt (fun x => x = l) N + 1 := cnt_add (p := fun x => x = l) (q := fun x => x = l ∨ x = g) (j := g) (by omega) (Or.inr rfl) hg (fun i _ hne => ⟨Or.inl, fun q => q.elim id fun k => absurd k hne⟩)
  have e3 : cnt p N = cnt (fun x => x = l ∨ x = g) N := cnt_congr fun i hi => h i hi
  omega
theorem cnt_upto {p : Nat → Prop} : ∀ {N M : Nat}, M ≤ N → cnt p M ≤ cnt p N
  | 0, M, h => by
    have : M = 0 := by omega
    subst this; exact Nat.le_refl _
  | N + 1, M, h => by
    by_cases e : M = N + 1
    · subst e; exact Nat.le_refl _
    · have ih := cnt_upto (p := p) (N := N) (M := M) (by omega)
      by_cases hp : p N
      · rw [cnt_t hp]; omega
      · rw [cnt_f hp]; exact ih
/-! six places, none of them counting if it is not on the board -/
def fo {σ : Type} (F : σ → Int → σ) (a : Nat → Int) (s0 : σ) : Nat → σ
  | 0 => s0
  | j + 1 => F (fo F a s0 j) (a j)
theorem fo_list {σ : Type} (F : σ → Int → σ) (a : Nat → Int) (s0 : σ) : ∀ N, fo F a s0 N = ((List.range N).map a).foldl F s0
  | 0 => rfl
  | N + 1 => by
    rw [List.range_succ, List.map_append, List.foldl_append, ← fo_list F a s0 N]
    rfl
theorem foldl_skip {σ : Type} {F : σ → Int → σ} (h : ∀ s, F s (-1) = s) : ∀ (l : List Int) (s0 : σ), (l.filter (fun x => decide (x ≠ -1))).foldl F s0 = l.foldl F s0
  | [], _ => rfl
  | x :: l, s0 => by
    by_cases e : x = -1
    · subst e
      rw [List.filter_cons_of_neg (by simp), List.foldl_cons, h]
      exact foldl_skip h l s0
    · rw [List.filter_cons_of_pos (by simp [e]), List.foldl_cons, List.foldl_cons]
      exact foldl_skip h l _
theorem fo_upto {σ : Type} {F : σ → Int → σ} (h : ∀ s, F s (-1) = s) (l : List Int) (s0 : σ) : ∀ N, l.length ≤ N → fo F (fun j => (l[j]?).getD (-1)) s0 N = l.foldl F s0 := by
  have key : ∀ N, fo F (fun j => (l[j]?).getD (-1)) s0 N = (l.take N).foldl F s0 := by
    intro N
    induction N with
    | zero => rfl
    | succ N ih =>
      show F (fo F (fun j => (l[j]?).getD (-1)) s0 N) ((l[N]?).getD (-1)) = _
      rw [ih, List.take_succ, List.foldl_append]
      cases hl : l[N]? with
      | none => exact h _
      | some v => rfl
  intro N hN
  rw [key N, List.take_of_length_le hN]
theorem fo_nb {σ : Type} {F : σ → Int → σ} (h : ∀ s, F s (-1) = s) (n c : Nat) (s0 : σ) : fo F (nbj n c) s0 6 = fo F (rnd n c) s0 6 := by
  have e1 : fo F (nbj n c) s0 6 = (nbl n c).foldl F s0 := fo_upto h (nbl n c) s0 6 (nbl_len n c)
  rw [e1, fo_list]
  exact foldl_skip h _ s0


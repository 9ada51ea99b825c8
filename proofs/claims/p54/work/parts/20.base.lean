/-! ===== the models' logic ===== -/
def okP {α : Type} (m : Option α) (Q : α → Prop) : Prop := ∃ v, m = some v ∧ Q v
section OKP
variable {α β : Type}
theorem okP_some {v : α} {Q : α → Prop} (h : Q v) : okP (some v) Q := ⟨v, rfl, h⟩
theorem okP_eq {m : Option α} {v : α} {Q : α → Prop} (e : m = some v) (h : Q v) : okP m Q := ⟨v, e, h⟩
theorem okP_mono {m : Option α} {Q Q' : α → Prop} (h : okP m Q) (k : ∀ v, Q v → Q' v) : okP m Q' := by
  obtain ⟨v, e, q⟩ := h
  exact ⟨v, e, k v q⟩
theorem okP_bnd {m : Option α} {f : α → Option β} {P : α → Prop} {Q : β → Prop} (h : okP m P) (k : ∀ v, m = some v → P v → okP (f v) Q) : okP (bnd m f) Q := by
  obtain ⟨v, e, q⟩ := h
  have h2 := k v e q
  rw [e]
  exact h2
theorem okP_bnd2 {m : Option (α × Sg)} {f : α → Sg → Option β} {P : α × Sg → Prop} {Q : β → Prop} (h : okP m P) (k : ∀ v s, m = some (v, s) → P (v, s) → okP (f v s) Q) : okP (bnd2 m f) Q := by
  obtain ⟨⟨v, s⟩, e, q⟩ := h
  have h2 := k v s e q
  rw [e]
  exact h2
theorem okP_bndx {m : Option ((Nat ⊕ α) × Sg)} {f : α → Sg → Option ((Nat ⊕ β) × Sg)} {P : (Nat ⊕ α) × Sg → Prop} {Q : (Nat ⊕ β) × Sg → Prop} (h : okP m P) (k : ∀ v s, m = some (.inr v, s) → P (.inr v, s) → okP (f v s) Q) (kx : ∀ e s, m = some (.inl e, s) → P (.inl e, s) → Q (.inl e, s)) : okP (bndx m f) Q := by
  obtain ⟨⟨v, s⟩, e, q⟩ := h
  cases v with
  | inl v =>
    rw [e]
    exact ⟨_, rfl, kx v s e q⟩
  | inr v =>
    have h2 := k v s e q
    rw [e]
    exact h2
theorem okP_grd {p : Prop} {x : Option α} {Q : α → Prop} (h : p) (k : okP x Q) : okP (grd p x) Q := by
  rw [grd_t h]
  exact k
theorem okP_ifLt {x y : Int} {A B : Option α} {Q : α → Prop} (hx : R x) (hy : R y) (k1 : x < y → okP A Q) (k2 : ¬ x < y → okP B Q) : okP (ifLt x y A B) Q := by
  rw [ifLt_eq _ _ hx hy]
  split
  · exact k1 ‹_›
  · exact k2 ‹_›
theorem okP_ifEq {x y : Int} {A B : Option α} {Q : α → Prop} (hx : R x) (hy : R y) (k1 : x = y → okP A Q) (k2 : ¬ x = y → okP B Q) : okP (ifEq x y A B) Q := by
  rw [ifEq_eq _ _ hx hy]
  split
  · exact k1 ‹_›
  · exact k2 ‹_›
theorem okP_lett {x : α} {f : α → Option β} {Q : β → Prop} (k : okP (f x) Q) : okP (lett x f) Q := k
/-- a loop that counts up to N -/
theorem whl_for {σ ρ τ : Type} {f : σ → Option (σ ⊕ ρ)} (e : Nat → τ → σ) (N : Nat) (I : Nat → τ → Prop) {Q : ρ → Prop} {i0 : Nat} {t0 : τ} (hi0 : i0 ≤ N) (h0 : I i0 t0)
    (hs : ∀ i t, i < N → I i t → okP (f (e i t)) (fun o => (∃ t', o = .inl (e (i + 1) t') ∧ I (i + 1) t') ∨ ∃ r, o = .inr r ∧ Q r))
    (he : ∀ t, I N t → okP (f (e N t)) (fun o => ∃ r, o = .inr r ∧ Q r)) : okP (whl f (e i0 t0)) Q := by
  have key : ∀ d i t, N - i = d → i ≤ N → I i t → ∃ n r, itr f n (e i t) = some r ∧ Q r := by
    intro d
    induction d with
    | zero =>
      intro i t h1 h2 h3
      have h4 : i = N := by omega
      subst h4
      obtain ⟨o, ho, r, rfl, hr⟩ := he t h3
      exact ⟨1, r, by unfold itr; rw [ho], hr⟩
    | succ d ih =>
      intro i t h1 h2 h3
      obtain ⟨o, ho, h4⟩ := hs i t (by omega) h3
      rcases h4 with ⟨t', rfl, h5⟩ | ⟨r, rfl, hr⟩
      · obtain ⟨n, r, h6, h7⟩ := ih (i + 1) t' (by omega) (by omega) h5
        exact ⟨n + 1, r, by unfold itr; rw [ho]; exact h6, h7⟩
      · exact ⟨1, r, by unfold itr; rw [ho], hr⟩
  obtain ⟨n, r, h1, h2⟩ := key _ i0 t0 rfl hi0 h0
  exact ⟨r, whl_iff.mpr ⟨n, h1⟩, h2⟩
theorem okP_whl {σ ρ : Type} {f : σ → Option (σ ⊕ ρ)} (I : σ → Prop) (μ : σ → Nat) {Q : ρ → Prop} {s0 : σ} (h0 : I s0) (hi : ∀ s, I s → okP (f s) (fun o => (∃ s', o = .inl s' ∧ I s' ∧ μ s' < μ s) ∨ ∃ r, o = .inr r ∧ Q r)) : okP (whl f s0) Q := by
  refine whl_t I μ h0 fun s hs => ?_
  obtain ⟨o, ho, h⟩ := hi s hs
  refine ⟨o, ho, fun s' e => ?_, fun r e => ?_⟩
  · rcases h with ⟨s2, e2, h2⟩ | ⟨r, e2, -⟩
    · rw [e] at e2; cases e2; exact h2
    · rw [e] at e2; cases e2
  · rcases h with ⟨s2, e2, -⟩ | ⟨r2, e2, h2⟩
    · rw [e] at e2; cases e2
    · rw [e] at e2; cases e2; exact h2
end OKP
/-! ===== what is changed ===== -/
/-- a place's key: its object; the fields of the reference each by itself -/
def ky (o k : Nat) : Nat := if o = 80 then 8000 + k else o
theorem ky_o {o k : Nat} (h : o ≠ 80) : ky o k = o := if_neg h
theorem ky_80 (k : Nat) : ky 80 k = 8000 + k := if_pos rfl
/-- only the places with these keys may differ -/
def Ch (L : List Nat) (s s' : Sg) : Prop := (∀ o k, ky o k ∉ L → gi s' o k = gi s o k) ∧ s'.2 = s.2
theorem Ch.rf (L : List Nat) (s : Sg) : Ch L s s := ⟨fun _ _ _ => rfl, rfl⟩
theorem Ch.tr {L : List Nat} {s s1 s2 : Sg} (h1 : Ch L s s1) (h2 : Ch L s1 s2) : Ch L s s2 := ⟨fun o k ho => (h2.1 o k ho).trans (h1.1 o k ho), h2.2.trans h1.2⟩
theorem Ch.mo {L M : List Nat} {s s' : Sg} (h : Ch L s s') (hm : ∀ x ∈ L, x ∈ M) : Ch M s s' := ⟨fun o k ho => h.1 o k (fun q => ho (hm _ q)), h.2⟩
theorem Ch.s8 {L : List Nat} {s : Sg} {k : Nat} {v : Int} (h : 8000 + k ∈ L) : Ch L s (si s 80 k v) := ⟨fun b j hb => by
  rw [gi_si, if_neg]
  rintro ⟨rfl, rfl⟩
  rw [ky_80] at hb
  exact hb h, rfl⟩
theorem Ch.si {L : List Nat} {s : Sg} {o k : Nat} {v : Int} (h : o ∈ L) (h8 : o ≠ 80 := by decide) : Ch L s (si s o k v) := ⟨fun b j hb => by
  rw [gi_si, if_neg]
  rintro ⟨rfl, rfl⟩
  rw [ky_o h8] at hb
  exact hb h, rfl⟩
theorem Ch.g {L : List Nat} {s s' : Sg} (h : Ch L s s') (o : Nat) {k : Nat} (ho : o ∉ L := by decide) (h8 : o ≠ 80 := by decide) : gi s' o k = gi s o k := h.1 o k (by rw [ky_o h8]; exact ho)
theorem Ch.g8 {L : List Nat} {s s' : Sg} (h : Ch L s s') (k : Nat) (ho : 8000 + k ∉ L := by decide) : gi s' 80 k = gi s 80 k := h.1 80 k (by rw [ky_80]; exact ho)
theorem ne80 {r : Nat} (h : alen r = 81) : r ≠ 80 := by
  rintro rfl
  exact absurd h (by decide +kernel)
theorem ne80' {r : Nat} (h : 0 < alen r) : r ≠ 80 := by
  rintro rfl
  exact absurd h (by decide +kernel)
theorem gi_si_s (s : Sg) (o k : Nat) (v : Int) : gi (si s o k v) o k = v := by rw [gi_si, if_pos ⟨rfl, rfl⟩]
theorem gi_si_o (s : Sg) {o b : Nat} (k j : Nat) (v : Int) (h : b ≠ o) : gi (si s o k v) b j = gi s b j := by rw [gi_si, if_neg (fun e => h e.1)]
theorem gi_si_k (s : Sg) (o : Nat) {k j : Nat} (v : Int) (h : j ≠ k) : gi (si s o k v) o j = gi s o j := by rw [gi_si, if_neg (fun e => h e.2)]
theorem gi_si_r (s : Sg) (o k j : Nat) (v : Int) : gi (si s o k v) o j = if j = k then v else gi s o j := by
  rw [gi_si]
  by_cases h : j = k
  · rw [if_pos ⟨rfl, h⟩, if_pos h]
  · rw [if_neg (fun e => h e.2), if_neg h]
/-! ===== rows ===== -/
def atv (s : Sg) (r : Nat) (x : Int) : Int := if 0 ≤ x ∧ x < (alen r : Int) then gi s r x.toNat else -1
def setv (s : Sg) (r : Nat) (x v : Int) : Sg := if 0 ≤ x ∧ x < (alen r : Int) then si s r x.toNat v else s
theorem R_alen (r : Nat) : R (alen r : Int) := by
  have := alen_le r
  unfold R; omega
theorem R_n1 : R (-1) := by unfold R; omega
theorem R_nat {n : Nat} (h : n ≤ 2147483647) : R (n : Int) := by unfold R; omega
theorem Hx_at_eq {r : Nat} {x : Int} {s : Sg} (hx : R x) : Hx_at r x s = some (atv s r x) := by
  unfold Hx_at Hx_at_b10 atv
  rw [ifLt_eq _ _ hx R0, ifLt_eq _ _ hx (R_alen r)]
  by_cases h1 : x < 0
  · rw [if_pos h1, if_neg (by omega)]
  · rw [if_neg h1]
    by_cases h2 : x < (alen r : Int)
    · rw [if_pos h2, if_pos ⟨by omega, h2⟩, grd_t ⟨by omega, h2⟩]
    · rw [if_neg h2, if_neg (by omega)]
theorem Hx_set_eq {r : Nat} {x v : Int} {s : Sg} (hx : R x) : Hx_set r x v s = some (setv s r x v) := by
  unfold Hx_set setv
  rw [ifLt_eq _ _ hx R0, ifLt_eq _ _ hx (R_alen r)]
  by_cases h1 : x < 0
  · rw [if_pos h1, if_neg (by omega)]
  · rw [if_neg h1]
    by_cases h2 : x < (alen r : Int)
    · rw [if_pos h2, if_pos ⟨by omega, h2⟩, grd_t ⟨by omega, h2⟩]
      rfl
    · rw [if_neg h2, if_neg (by omega)]
theorem atv_n {s : Sg} {r c : Nat} (h : c < alen r) : atv s r (c : Int) = gi s r c := by
  unfold atv
  rw [if_pos ⟨by omega, by omega⟩]
  rfl
theorem atv_m {s : Sg} {r : Nat} {x : Int} (h : x < 0) : atv s r x = -1 := by
  unfold atv
  rw [if_neg (by omega)]
theorem setv_n {s : Sg} {r c : Nat} {v : Int} (h : c < alen r) : setv s r (c : Int) v = si s r c v := by
  unfold setv
  rw [if_pos ⟨by omega, by omega⟩]
  rfl
theorem Hx_at_n {s : Sg} {r c : Nat} (h : c < alen r) : Hx_at r (c : Int) s = some (gi s r c) := by
  rw [Hx_at_eq (by have := alen_le r; unfold R; omega), atv_n h]
theorem Hx_set_n {s : Sg} {r c : Nat} {v : Int} (h : c < alen r) : Hx_set r (c : Int) v s = some (si s r c v) := by
  rw [Hx_set_eq (by have := alen_le r; unfold R; omega), setv_n h]
theorem Hx_at_m {s : Sg} {r : Nat} : Hx_at r (-1) s = some (-1) := by
  rw [Hx_at_eq R_n1, atv_m (by omega)]
/-! ===== the board's geometry ===== -/
def drow (k : Nat) : Int := match k with
  | 0 => -1
  | 1 => -1
  | 4 => 1
  | 5 => 1
  | _ => 0
def dcol (k : Nat) : Int := match k with
  | 1 => 1
  | 2 => -1
  | 3 => 1
  | 4 => -1
  | _ => 0
def cellv (n : Nat) (r q : Int) : Int := if 0 ≤ r ∧ r < (n : Int) ∧ 0 ≤ q ∧ q < (n : Int) then (n : Int) * r + q else -1
/-- the six places round a cell -/
def rnd (n c k : Nat) : Int := cellv n (((c / n : Nat) : Int) + drow k) (((c % n : Nat) : Int) + dcol k)
def nbl (n c : Nat) : List Int := ((List.range 6).map (rnd n c)).filter (fun x => decide (x ≠ -1))
def nbj (n c j : Nat) : Int := ((nbl n c)[j]?).getD (-1)
def Adj (n x y : Nat) : Prop := ∃ k, k < 6 ∧ rnd n x k = (y : Int)
def edgeOf (n l : Nat) : Int := if l = 0 then 1 else if l = n - 1 then 2 else 0
/-- the edges of a side at which a cell is -/
def edg (n : Nat) (sd : Int) (c : Nat) : Int := if sd = 0 then edgeOf n (c / n) else edgeOf n (c % n)
theorem cell_lt {n r q : Nat} (hr : r < n) (hq : q < n) : n * r + q < n * n := by
  have h1 : n * (r + 1) ≤ n * n := Nat.mul_le_mul_left n hr
  have h2 : n * (r + 1) = n * r + n := Nat.mul_succ n r
  omega
theorem cell_div {n r q : Nat} (hq : q < n) : (n * r + q) / n = r := by
  have hn : 0 < n := by omega
  rw [Nat.mul_add_div hn, Nat.div_eq_of_lt hq]; rfl
theorem cell_mod {n r q : Nat} (hq : q < n) : (n * r + q) % n = q := by
  rw [Nat.mul_add_mod, Nat.mod_eq_of_lt hq]
theorem cellv_nat {n r q : Nat} (hr : r < n) (hq : q < n) : cellv n (r : Int) (q : Int) = ((n * r + q : Nat) : Int) := by
  unfold cellv
  rw [if_pos ⟨by omega, by omega, by omega, by omega⟩]
  simp
theorem cellv_inv {n : Nat} {r q : Int} {y : Nat} (h : cellv n r q = (y : Int)) : y < n * n ∧ r = ((y / n : Nat) : Int) ∧ q = ((y % n : Nat) : Int) := by
  unfold cellv at h
  by_cases hc : 0 ≤ r ∧ r < (n : Int) ∧ 0 ≤ q ∧ q < (n : Int)
  · rw [if_pos hc] at h
    obtain ⟨h1, h2, h3, h4⟩ := hc
    obtain ⟨r', rfl⟩ := Int.eq_ofNat_of_zero_le h1
    obtain ⟨q', rfl⟩ := Int.eq_ofNat_of_zero_le h3
    have hr : r' < n := by omega
    have hq : q' < n := by omega
    have hy : y = n * r' + q' := by
      have h9 : ((n * r' + q' : Nat) : Int) = (y : Int) := by rw [← h]; simp
      exact (Int.ofNat.inj h9).symm
    subst hy
    exact ⟨cell_lt hr hq, by rw [cell_div hq], by rw [cell_mod hq]⟩
  · rw [if_neg hc] at h
    omega
theorem cellv_rg (n : Nat) (r q : Int) : cellv n r q = -1 ∨ ∃ y : Nat, cellv n r q = (y : Int) ∧ y < n * n := by
  unfold cellv
  by_cases hc : 0 ≤ r ∧ r < (n : Int) ∧ 0 ≤ q ∧ q < (n : Int)
  · rw [if_pos hc]
    obtain ⟨h1, h2, h3, h4⟩ := hc
    obtain ⟨r', rfl⟩ := Int.eq_ofNat_of_zero_le h1
    obtain ⟨q', rfl⟩ := Int.eq_ofNat_of_zero_le h3
    exact Or.inr ⟨n * r' + q', by simp, cell_lt (by omega) (by omega)⟩
  · rw [if_neg hc]; exact Or.inl rfl
theorem rnd_rg (n c k : Nat) : rnd n c k = -1 ∨ ∃ y : Nat, rnd n c k = (y : Int) ∧ y < n * n := cellv_rg n _ _
theorem adj_lt {n x y : Nat} (h : Adj n x y) : y < n * n := by
  obtain ⟨k, -, e⟩ := h
  exact (cellv_inv e).1
theorem adj_symm {n x y : Nat} (hx : x < n * n) (h : Adj n x y) : Adj n y x := by
  obtain ⟨k, hk, e⟩ := h
  obtain ⟨h1, h2, h3⟩ := cellv_inv e
  have hn : 0 < n := by
    rcases Nat.eq_zero_or_pos n with h | h
    · subst h; simp at hx
    · exact h
  refine ⟨5 - k, by omega, ?_⟩
  unfold rnd
  have hd : drow (5 - k) = - drow k ∧ dcol (5 - k) = - dcol k := by
    have : ∀ k, k < 6 → drow (5 - k) = - drow k ∧ dcol (5 - k) = - dcol k := by decide
    exact this k hk
  rw [hd.1, hd.2]
  have e1 : ((y / n : Nat) : Int) + - drow k = ((x / n : Nat) : Int) := by omega
  have e2 : ((y % n : Nat) : Int) + - dcol k = ((x % n : Nat) : Int) := by omega
  rw [e1, e2, cellv_nat (Nat.div_lt_of_lt_mul hx) (Nat.mod_lt _ hn), Nat.div_add_mod]
theorem nbl_mem {n c : Nat} {v : Int} : v ∈ nbl n c ↔ v ≠ -1 ∧ ∃ k, k < 6 ∧ rnd n c k = v := by
  unfold nbl
  simp only [List.mem_filter, List.mem_map, List.mem_range, decide_eq_true_eq]
  exact And.comm
theorem nbl_len (n c : Nat) : (nbl n c).length ≤ 6 := by
  unfold nbl
  refine Nat.le_trans (List.length_filter_le _ _) ?_
  simp
/-- the row of neighbours and the six places hold the same cells -/
theorem nbj_rg (n c j : Nat) : nbj n c j = -1 ∨ ∃ y : Nat, nbj n c j = (y : Int) ∧ y < n * n ∧ Adj n c y := by
  unfold nbj
  cases h : (nbl n c)[j]? with
  | none => exact Or.inl rfl
  | some v =>
    obtain ⟨h1, k, hk, h2⟩ := nbl_mem.mp (List.mem_of_getElem? h)
    rcases rnd_rg n c k with h3 | ⟨y, h3, h4⟩
    · exact absurd (h2.symm.trans h3) h1
    · exact Or.inr ⟨y, by show v = _; rw [← h2, h3], h4, k, hk, h3⟩
theorem nbj_of {n c y : Nat} (h : Adj n c y) : ∃ j, j < 6 ∧ nbj n c j = (y : Int) := by
  obtain ⟨k, hk, e⟩ := h
  have hm : (y : Int) ∈ nbl n c := nbl_mem.mpr ⟨by omega, k, hk, e⟩
  obtain ⟨j, hj⟩ := List.mem_iff_getElem?.mp hm
  have hl := (List.getElem?_eq_some_iff.mp hj).1
  have := nbl_len n c
  exact ⟨j, by omega, by unfold nbj; rw [hj]; rfl⟩
/-- the grid fits the board -/
def GridOK (s : Sg) (n : Nat) : Prop := 2 ≤ n ∧ n ≤ 9 ∧ gi s 1 3 = (n : Int) ∧ gi s 1 4 = ((n * n : Nat) : Int) ∧
  (∀ c, c < n * n → gi s 3 c = edgeOf n (c / n)) ∧ (∀ c, c < n * n → gi s 4 c = edgeOf n (c % n)) ∧ ∀ c, c < n * n → ∀ j, j < 6 → gi s 2 (c * 6 + j) = nbj n c j
theorem nn_le {n : Nat} (h : n ≤ 9) : n * n ≤ 81 := Nat.mul_le_mul h h
theorem GridOK.ch {s s' : Sg} {n : Nat} {L : List Nat} (h : GridOK s n) (hc : Ch L s s') (h1 : 1 ∉ L) (h2 : 2 ∉ L) (h3 : 3 ∉ L) (h4 : 4 ∉ L) : GridOK s' n := by
  obtain ⟨a1, a2, a3, a4, a5, a6, a7⟩ := h
  exact ⟨a1, a2, by rw [hc.g 1 h1]; exact a3, by rw [hc.g 1 h1]; exact a4, fun c hc' => by rw [hc.g 3 h3]; exact a5 c hc', fun c hc' => by rw [hc.g 4 h4]; exact a6 c hc', fun c hc' j hj => by rw [hc.g 2 h2]; exact a7 c hc' j hj⟩
theorem edgeOf_rg (n l : Nat) : edgeOf n l = 0 ∨ edgeOf n l = 1 ∨ edgeOf n l = 2 := by
  unfold edgeOf
  split
  · exact Or.inr (Or.inl rfl)
  · split
    · exact Or.inr (Or.inr rfl)
    · exact Or.inl rfl
theorem edg_rg (n : Nat) (sd : Int) (c : Nat) : edg n sd c = 0 ∨ edg n sd c = 1 ∨ edg n sd c = 2 := by
  unfold edg
  split <;> exact edgeOf_rg _ _
theorem Gr_near_eq {s : Sg} {n c j : Nat} (h : GridOK s n) (hc : c < n * n) (hj : j < 6) : Gr_near (c : Int) (j : Int) s = some (nbj n c j) := by
  have h81 := nn_le h.2.1
  unfold Gr_near Gr_near_b30 Gr_near_b35
  rw [lett_eq, ifLt_eq _ _ (R_nat (by omega)) R0, if_neg (by omega), ifLt_eq _ _ (R_nat (by omega)) (by unfold R; omega), if_pos (by omega), ifLt_eq _ _ (by unfold R; omega) R0, if_neg (by omega), ifLt_eq _ _ (by unfold R; omega) (by unfold R; omega), if_pos (by omega), ifEq_eq _ _ R0 R0, if_pos rfl, grd_t ⟨by omega, by omega⟩]
  have e : ((c : Int) * 6 + (j : Int)).toNat = c * 6 + j := by omega
  rw [e, h.2.2.2.2.2.2 c hc j hj]
theorem Gr_edges_eq {s : Sg} {n c : Nat} {sd : Int} (h : GridOK s n) (hc : c < n * n) (hsd : sd = 0 ∨ sd = 1) : Gr_edges (c : Int) sd s = some (edg n sd c) := by
  have h81 := nn_le h.2.1
  have a3 : alen 3 = 81 := rfl
  have a4 : alen 4 = 81 := rfl
  unfold Gr_edges Gr_edges_b15 Gr_edges_b26 edg
  rw [ifEq_eq _ _ (by unfold R; omega) R0]
  rcases hsd with rfl | rfl
  · rw [if_pos rfl, if_pos rfl, ifLt_eq _ _ (R_nat (by omega)) R0, if_neg (by omega), ifLt_eq _ _ (R_nat (by omega)) (R_alen 3), if_pos (by rw [a3]; omega), grd_t ⟨by omega, by rw [a3]; omega⟩]
    show some (gi s 3 c) = _
    rw [h.2.2.2.2.1 c hc]
  · rw [if_neg (by omega), if_neg (by omega), ifLt_eq _ _ (R_nat (by omega)) R0, if_neg (by omega), ifLt_eq _ _ (R_nat (by omega)) (R_alen 4), if_pos (by rw [a4]; omega), grd_t ⟨by omega, by rw [a4]; omega⟩]
    show some (gi s 4 c) = _
    rw [h.2.2.2.2.2.1 c hc]
theorem Gr_edges_m {s : Sg} {sd : Int} (hsd : sd = 0 ∨ sd = 1) : Gr_edges (-1) sd s = some 0 := by
  unfold Gr_edges Gr_edges_b15 Gr_edges_b26
  rw [ifEq_eq _ _ (by unfold R; omega) R0]
  split <;> rw [ifLt_eq _ _ R_n1 R0, if_pos (by omega)]
theorem Hx_otherSide_eq {x : Int} {s : Sg} (h : x = 0 ∨ x = 1) : Hx_otherSide x s = some (1 - x) := by
  unfold Hx_otherSide
  rw [ifEq_eq _ _ (by unfold R; omega) R0]
  rcases h with rfl | rfl <;> rfl
theorem Gr_row_eq {s : Sg} {n c : Nat} (h : gi s 1 3 = (n : Int)) (hn : 0 < n ∧ n ≤ 9) (hc : c ≤ 1000) : Gr_row (c : Int) s = some ((c / n : Nat) : Int) := by
  unfold Gr_row
  rw [h, ifEq_eq _ _ (R_nat (by omega)) R0, if_neg (by omega), grd_t ⟨⟨by omega, R_nat (by omega)⟩, by omega, R_nat (by omega)⟩]
  simp
theorem Gr_column_eq {s : Sg} {n c : Nat} (h : gi s 1 3 = (n : Int)) (hn : 0 < n ∧ n ≤ 9) (hc : c ≤ 1000) : Gr_column (c : Int) s = some ((c % n : Nat) : Int) := by
  unfold Gr_column
  rw [h, ifEq_eq _ _ (R_nat (by omega)) R0, if_neg (by omega), grd_t ⟨⟨by omega, R_nat (by omega)⟩, by omega, R_nat (by omega)⟩]
  simp
theorem Gr_cellAt_eq {s : Sg} {n : Nat} {r q : Int} (h : gi s 1 3 = (n : Int)) (hn : n ≤ 9) (hr : R r) (hq : R q) : Gr_cellAt r q s = some (cellv n r q) := by
  unfold Gr_cellAt Gr_cellAt_b24 Gr_cellAt_b29 cellv
  have hnR : R (n : Int) := R_nat (by omega)
  rw [h, ifLt_eq _ _ hr R0, ifLt_eq _ _ hr hnR, ifLt_eq _ _ hq R0, ifLt_eq _ _ hq hnR, ifEq_eq _ _ (by unfold R; omega) R0, ifEq_eq _ _ R0 R0, if_neg (show ¬ (1 : Int) = 0 by omega), if_pos (show (0 : Int) = 0 from rfl)]
  by_cases h1 : r < 0
  · rw [if_pos h1, if_neg (by omega)]
  · rw [if_neg h1]
    by_cases h2 : r < (n : Int)
    · rw [if_pos h2]
      by_cases h3 : q < 0
      · rw [if_pos h3, if_neg (by omega)]
      · rw [if_neg h3]
        by_cases h4 : q < (n : Int)
        · rw [if_pos h4, if_pos ⟨by omega, h2, by omega, h4⟩]
        · rw [if_neg h4, if_neg (by omega)]
    · rw [if_neg h2, if_neg (by omega)]
theorem b01_0 : b01 0 := Or.inl rfl
theorem b01_1 : b01 1 := Or.inr rfl


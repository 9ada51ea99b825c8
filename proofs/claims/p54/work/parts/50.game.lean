/-! ===== the end of the game ===== -/
noncomputable def Fc (n : Nat) (f : Nat → Int) : Nat := cnt (fun c => f c = -1) (n * n)
noncomputable def vlu (n : Nat) : Nat → (Nat → Int) → Int → Int
  | 0, _, _ => -1
  | k + 1, f, p => if jnd n f = -1 then @ite _ (∃ c, c < n * n ∧ f c = -1 ∧ vlu n k (ups f c p) (1 - p) = p) (Classical.propDecidable _) p (1 - p) else jnd n f
noncomputable def cv (n : Nat) : Nat → (Nat → Int) → Int → Int
  | 0, f, _ => @ite _ (Jn n f 0) (Classical.propDecidable _) 0 1
  | k + 1, f, p => @ite _ (∃ c, c < n * n ∧ f c = -1 ∧ cv n k (ups f c p) (1 - p) = p) (Classical.propDecidable _) p (1 - p)
section GAME
variable {n : Nat} {f : Nat → Int} {p : Int}
theorem jnd_cases (n : Nat) (f : Nat → Int) : (jnd n f = 0 ∧ Jn n f 0) ∨ (jnd n f = 1 ∧ ¬ Jn n f 0 ∧ Jn n f 1) ∨ (jnd n f = -1 ∧ ¬ Jn n f 0 ∧ ¬ Jn n f 1) := by
  unfold jnd
  by_cases h0 : Jn n f 0
  · rw [bI_t h0, if_pos rfl]; exact Or.inl ⟨rfl, h0⟩
  · rw [bI_f h0, if_neg (by omega)]
    by_cases h1 : Jn n f 1
    · rw [bI_t h1, if_pos rfl]; exact Or.inr (Or.inl ⟨rfl, h0, h1⟩)
    · rw [bI_f h1, if_neg (by omega)]; exact Or.inr (Or.inr ⟨rfl, h0, h1⟩)
theorem Fc_ups {c : Nat} (hc : c < n * n) (fc : f c = -1) (hp : p ≠ -1) : Fc n f = Fc n (ups f c p) + 1 :=
  cnt_add (p := fun x => ups f c p x = -1) (q := fun x => f x = -1) (by show ¬ ups f c p c = -1; rw [ups_s]; exact hp) fc hc (fun i _ hi => by show ups f c p i = -1 ↔ f i = -1; rw [ups_o hi])
theorem Fc_pos (h : Fc n f ≠ 0) : ∃ c, c < n * n ∧ f c = -1 := by
  apply Classical.byContradiction
  intro hno
  exact h (cnt_zero fun i hi q => hno ⟨i, hi, q⟩)
theorem Fc_zero (hfr : FR n f) (h : Fc n f = 0) : Full n f := by
  intro c hc
  rcases hfr c hc with k | k | k
  · have := cnt_pos (p := fun x => f x = -1) hc k
    unfold Fc at h
    omega
  · exact Or.inl k
  · exact Or.inr k
theorem jnd_ups {c : Nat} (hn : 2 ≤ n) (hfr : FR n f) (hp : p = 0 ∨ p = 1) (fc : f c = -1) (h : jnd n f ≠ -1) : jnd n (ups f c p) = jnd n f := by
  have hfr2 : FR n (ups f c p) := hfr.ups (Or.inr hp)
  have mo : ∀ sd : Int, sd ≠ -1 → Jn n f sd → Jn n (ups f c p) sd := fun sd hs hj => Jn_mono hs (fun x _ hx => by
    rw [ups_o (fun e => by subst e; omega)]; exact hx) hj
  rcases jnd_cases n f with ⟨e, h0⟩ | ⟨e, h0, h1⟩ | ⟨e, -, -⟩
  · rw [e]
    rcases jnd_cases n (ups f c p) with ⟨e', -⟩ | ⟨-, k0, -⟩ | ⟨-, k0, -⟩
    · exact e'
    · exact absurd (mo 0 (by omega) h0) k0
    · exact absurd (mo 0 (by omega) h0) k0
  · rw [e]
    have k1 := mo 1 (by omega) h1
    rcases jnd_cases n (ups f c p) with ⟨-, k0⟩ | ⟨e', -, -⟩ | ⟨-, -, k⟩
    · exact absurd k1 (hex_both hn hfr2 k0)
    · exact e'
    · exact absurd k1 k
  · exact absurd e h
theorem cv_j (hn : 2 ≤ n) : ∀ (k : Nat) (f : Nat → Int) (p : Int), FR n f → (p = 0 ∨ p = 1) → Fc n f = k → jnd n f ≠ -1 → cv n k f p = jnd n f
  | 0, f, p, hfr, hp, hk, h => by
    unfold cv
    rcases jnd_cases n f with ⟨e, h0⟩ | ⟨e, h0, -⟩ | ⟨e, -, -⟩
    · rw [if_pos h0, e]
    · rw [if_neg h0, e]
    · exact absurd e h
  | k + 1, f, p, hfr, hp, hk, h => by
    have h1p : 1 - p = 0 ∨ 1 - p = 1 := by omega
    have hch : ∀ c, c < n * n → f c = -1 → cv n k (ups f c p) (1 - p) = jnd n f := by
      intro c hc fc
      have h1 := Fc_ups hc fc (p := p) (by omega)
      have h2 := jnd_ups hn hfr hp fc h
      rw [cv_j hn k (ups f c p) (1 - p) (hfr.ups (Or.inr hp)) h1p (by omega) (by rw [h2]; exact h), h2]
    obtain ⟨c, hc, fc⟩ := Fc_pos (n := n) (f := f) (by omega)
    have hj : jnd n f = 0 ∨ jnd n f = 1 := by
      rcases jnd_cases n f with ⟨e, -⟩ | ⟨e, -, -⟩ | ⟨e, -, -⟩
      · exact Or.inl e
      · exact Or.inr e
      · exact absurd e h
    unfold cv
    by_cases e : jnd n f = p
    · rw [if_pos ⟨c, hc, fc, (hch c hc fc).trans e⟩, e]
    · rw [if_neg (fun ⟨c', hc', fc', q⟩ => e ((hch c' hc' fc').symm.trans q))]
      omega
theorem vl_cv (hn : 2 ≤ n) : ∀ (K k : Nat) (f : Nat → Int) (p : Int), FR n f → (p = 0 ∨ p = 1) → Fc n f = k → k < K → vlu n K f p = cv n k f p
  | 0, k, f, p, _, _, _, h => absurd h (Nat.not_lt_zero k)
  | K + 1, k, f, p, hfr, hp, hk, h => by
    have h1p : 1 - p = 0 ∨ 1 - p = 1 := by omega
    unfold vlu
    by_cases hj : jnd n f = -1
    · rw [if_pos hj]
      match k, hk, h with
      | 0, hk, _ =>
        have hF := Fc_zero hfr hk
        rcases jnd_cases n f with ⟨e, -⟩ | ⟨e, -, -⟩ | ⟨-, h0, h1⟩
        · omega
        · omega
        · rcases hex_some hn hF with q | q
          · exact absurd q h0
          · exact absurd q h1
      | k + 1, hk, h =>
        have hch : ∀ c, c < n * n → f c = -1 → vlu n K (ups f c p) (1 - p) = cv n k (ups f c p) (1 - p) := by
          intro c hc fc
          have h1 := Fc_ups hc fc (p := p) (by omega)
          exact vl_cv hn K k (ups f c p) (1 - p) (hfr.ups (Or.inr hp)) h1p (by omega) (by omega)
        show _ = @ite _ (∃ c, c < n * n ∧ f c = -1 ∧ cv n k (ups f c p) (1 - p) = p) (Classical.propDecidable _) p (1 - p)
        by_cases e : ∃ c, c < n * n ∧ f c = -1 ∧ cv n k (ups f c p) (1 - p) = p
        · obtain ⟨c, hc, fc, q⟩ := e
          rw [if_pos ⟨c, hc, fc, (hch c hc fc).trans q⟩, if_pos ⟨c, hc, fc, q⟩]
        · rw [if_neg e, if_neg (fun ⟨c, hc, fc, q⟩ => e ⟨c, hc, fc, (hch c hc fc).symm.trans q⟩)]
    · rw [if_neg hj, cv_j hn k f p hfr hp hk hj]
theorem cv_rg (hp : p = 0 ∨ p = 1) : ∀ (k : Nat) (f : Nat → Int), cv n k f p = 0 ∨ cv n k f p = 1
  | 0, f => by
    unfold cv
    split
    · exact Or.inl rfl
    · exact Or.inr rfl
  | k + 1, f => by
    unfold cv
    split
    · exact hp
    · omega
theorem vl_rg (hp : p = 0 ∨ p = 1) (K : Nat) (f : Nat → Int) : vlu n K f p = -1 ∨ vlu n K f p = 0 ∨ vlu n K f p = 1 := by
  cases K with
  | zero => exact Or.inl rfl
  | succ K =>
    unfold vlu
    split
    · split
      · exact Or.inr hp
      · omega
    · exact jnd_rg n f
/-! the reference -/
end GAME
/-- a move that wins -/
def gud (n : Nat) (f : Nat → Int) (t : Int) (c : Nat) : Prop := f c = -1 ∧ cv n (Fc n f - 1) (ups f c t) (1 - t) = t
noncomputable def sol (b : Bd) : Int := if wnr b.n b.f b.g = -1 then (if 6 < Fc b.n b.f then -1 else cv b.n (Fc b.n b.f) b.f b.t) else wnr b.n b.f b.g
noncomputable def gdm (b : Bd) : Int := if wnr b.n b.f b.g = -1 then (if 6 < Fc b.n b.f then -1 else (cnt (gud b.n b.f b.t) (b.n * b.n) : Int)) else 0
noncomputable def bsm (b : Bd) : Int := if wnr b.n b.f b.g = -1 then (if 6 < Fc b.n b.f then -1 else nth (gud b.n b.f b.t) 0 (b.n * b.n)) else -1
section GAMEM
variable {s : Sg} {b : Bd}
abbrev Mg : List Nat := [8000, 87]
end GAMEM


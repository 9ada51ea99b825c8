/-! ===== threats ===== -/
/-- a board with one cell set -/
def ups (f : Nat → Int) (x : Nat) (v : Int) : Nat → Int := fun c => if c = x then v else f c
theorem ups_s (f : Nat → Int) (x : Nat) (v : Int) : ups f x v x = v := if_pos rfl
theorem ups_o {f : Nat → Int} {x c : Nat} {v : Int} (h : c ≠ x) : ups f x v c = f c := if_neg h
theorem ups_id {f : Nat → Int} {x : Nat} {v w : Int} (h : f x = w) (c : Nat) : ups (ups f x v) x w c = f c := by
  by_cases e : c = x
  · subst e; rw [ups_s, h]
  · rw [ups_o e, ups_o e]
theorem FR.ups {n : Nat} {f : Nat → Int} (h : FR n f) {x : Nat} {v : Int} (hv : v = -1 ∨ v = 0 ∨ v = 1) : FR n (ups f x v) := by
  intro c hc
  by_cases e : c = x
  · subst e; rw [ups_s]; exact hv
  · rw [ups_o e]; exact h c hc
/-- back to what stood there -/
theorem ch_undo {L : List Nat} {s t : Sg} {o k : Nat} {v w : Int} (h : Ch L (si s o k v) t) (hw : gi s o k = w) : Ch L s (si t o k w) := by
  refine ⟨fun b j hb => ?_, h.2⟩
  by_cases e : b = o ∧ j = k
  · obtain ⟨rfl, rfl⟩ := e
    rw [gi_si_s, hw]
  · rw [gi_si, if_neg e, h.1 b j hb, gi_si, if_neg e]
theorem MB.ups {s : Sg} {n : Nat} {f : Nat → Int} (h : MB s n f) (x : Nat) (v : Int) : MB (si s 81 (5 + x) v) n (ups f x v) := by
  refine ⟨⟨h.1.1, h.1.2.1, by rw [gi_si_k _ _ _ (by omega)]; exact h.1.2.2⟩, fun c hc => ?_⟩
  by_cases e : c = x
  · subst e; rw [gi_si_s, ups_s]
  · rw [gi_si_k _ _ _ (by omega), ups_o e]; exact h.2 c hc
theorem MB.congr {s : Sg} {n : Nat} {f g : Nat → Int} (h : MB s n f) (e : ∀ c, c < n * n → f c = g c) : MB s n g := ⟨h.1, fun c hc => (h.2 c hc).trans (e c hc)⟩
theorem CB.ups {s : Sg} {n r : Nat} {f : Nat → Int} (h : CB s n r f) (x : Nat) (v : Int) : CB (si s r x v) n r (ups f x v) := by
  intro c hc
  by_cases e : c = x
  · subst e; rw [gi_si_s, ups_s]
  · rw [gi_si_k _ _ _ e, ups_o e]; exact h c hc
theorem CB.ch {s s' : Sg} {n r : Nat} {f : Nat → Int} {L : List Nat} (h : CB s n r f) (hc : Ch L s s') (h1 : r ∉ L := by decide) (h8 : r ≠ 80 := by decide) : CB s' n r f := fun c k => by rw [hc.g r h1 h8]; exact h c k
section ORS
theorem ors_t (P Q : Prop) (p q : Nat → Prop) (i : Nat) : ev (P ∨ ∃ c, c < i + 1 ∧ p c) (Q ∨ ∃ c, c < i + 1 ∧ q c) = iorI (ev (P ∨ ∃ c, c < i ∧ p c) (Q ∨ ∃ c, c < i ∧ q c)) (ev (p i) (q i)) := by
  rw [ev_or]
  exact ev_congr (by rw [exs_s, or_assoc]) (by rw [exs_s, or_assoc])
theorem ors_f (P Q : Prop) (p q : Nat → Prop) (i : Nat) (h1 : ¬ p i) (h2 : ¬ q i) : ev (P ∨ ∃ c, c < i + 1 ∧ p c) (Q ∨ ∃ c, c < i + 1 ∧ q c) = ev (P ∨ ∃ c, c < i ∧ p c) (Q ∨ ∃ c, c < i ∧ q c) := by
  refine ev_congr ?_ ?_
  · rw [exs_s]
    exact ⟨fun h => h.elim Or.inl fun h => h.elim Or.inr fun h => absurd h h1, fun h => h.imp id Or.inl⟩
  · rw [exs_s]
    exact ⟨fun h => h.elim Or.inl fun h => h.elim Or.inr fun h => absurd h h2, fun h => h.imp id Or.inl⟩
theorem ors_0 (P Q : Prop) (p q : Nat → Prop) : ev (P ∨ ∃ c, c < 0 ∧ p c) (Q ∨ ∃ c, c < 0 ∧ q c) = ev P Q :=
  ev_congr ⟨fun h => h.elim id fun ⟨c, hc, _⟩ => absurd hc (Nat.not_lt_zero c), Or.inl⟩ ⟨fun h => h.elim id fun ⟨c, hc, _⟩ => absurd hc (Nat.not_lt_zero c), Or.inl⟩
end ORS
/-- an edge that a stone placed on x would be linked with -/
def TE (n : Nat) (f : Nat → Int) (sd : Int) (x : Nat) (e : Int) : Prop := edg n sd x = e ∨ ∃ j, j < 6 ∧ ∃ y : Nat, nbj n x j = (y : Int) ∧ f y = sd ∧ ∃ z, Rch (Eb n f) y z ∧ edg n sd z = e
theorem Eb_upd {n : Nat} {f : Nat → Int} {x : Nat} {sd : Int} (hx : f x = -1) {u v : Nat} (h : Eb n f u v) : Eb n (ups f x sd) u v := by
  have hu : u ≠ x := fun e => h.2.2.2.1 (e ▸ hx)
  have hv : v ≠ x := fun e => h.2.2.2.1 (h.2.2.1.trans (e ▸ hx))
  exact ⟨h.1, h.2.1, by rw [ups_o hu, ups_o hv]; exact h.2.2.1, by rw [ups_o hu]; exact h.2.2.2.1, h.2.2.2.2⟩
theorem Eb_dnu {n : Nat} {f : Nat → Int} {x : Nat} {sd : Int} {u v : Nat} (hu : u ≠ x) (hv : v ≠ x) (h : Eb n (ups f x sd) u v) : Eb n f u v := by
  have h3 := h.2.2.1
  have h4 := h.2.2.2.1
  rw [ups_o hu, ups_o hv] at h3
  rw [ups_o hu] at h4
  exact ⟨h.1, h.2.1, h3, h4, h.2.2.2.2⟩
theorem thr_iff {n : Nat} {f : Nat → Int} {sd : Int} {x : Nat} (hx : x < n * n) (fx : f x = -1) (hsd : sd ≠ -1) (hno : ¬ Jn n f sd) : Jn n (ups f x sd) sd ↔ TE n f sd x 1 ∧ TE n f sd x 2 := by
  have hsy : ∀ u v, Eb n (ups f x sd) u v → Eb n (ups f x sd) v u := Eb_sy
  -- what the placed stone reaches
  have hP : ∀ z, Rch (Eb n (ups f x sd)) x z → z = x ∨ ∃ y, Adj n x y ∧ f y = sd ∧ Rch (Eb n f) y z := by
    intro z h
    refine h (fun z => z = x ∨ ∃ y, Adj n x y ∧ f y = sd ∧ Rch (Eb n f) y z) (Or.inl rfl) ?_
    intro u v hu e
    by_cases hv : v = x
    · exact Or.inl hv
    · by_cases hux : u = x
      · subst hux
        have h3 := e.2.2.1
        rw [ups_s, ups_o hv] at h3
        exact Or.inr ⟨v, e.2.2.2.2, h3.symm, Rch.rf _ _⟩
      · rcases hu with hu | ⟨y, h1, h2, h3⟩
        · exact absurd hu hux
        · exact Or.inr ⟨y, h1, h2, h3.st (Eb_dnu hux hv e)⟩
  have hT : ∀ e, TE n f sd x e ↔ ∃ z, Rch (Eb n (ups f x sd)) x z ∧ edg n sd z = e := by
    intro e
    constructor
    · rintro (h | ⟨j, hj, y, hy, fy, z, hr, he⟩)
      · exact ⟨x, Rch.rf _ _, h⟩
      · have hA : Adj n x y ∧ y < n * n := by
          rcases nbj_rg n x j with e9 | ⟨y', e9, hl, hA⟩
          · omega
          · have : y' = y := by omega
            exact this ▸ ⟨hA, hl⟩
        have hyx : y ≠ x := fun q => by rw [q, fx] at fy; exact hsd fy.symm
        refine ⟨z, (Rch.one (E := Eb n (ups f x sd)) (x := x) (y := y) ⟨hx, hA.2, by rw [ups_s, ups_o hyx, fy], by rw [ups_s]; exact hsd, hA.1⟩).tr (hr.mono fun u v => Eb_upd fx), he⟩
    · rintro ⟨z, hr, he⟩
      rcases hP z hr with h | ⟨y, hA, fy, h3⟩
      · exact Or.inl (h ▸ he)
      · obtain ⟨j, hj, e9⟩ := nbj_of hA
        exact Or.inr ⟨j, hj, y, e9, fy, z, h3, he⟩
  rw [hT 1, hT 2]
  constructor
  · rintro ⟨a, b, ha, fa, e1, hr, e2⟩
    have hq : Rch (Eb n (ups f x sd)) x b := by
      by_cases hax : a = x
      · exact hax ▸ hr
      · rw [ups_o hax] at fa
        have h9 := hr (fun z => Rch (Eb n (ups f x sd)) x z ∨ (z ≠ x ∧ Rch (Eb n f) a z)) (Or.inr ⟨hax, Rch.rf _ _⟩) (by
          intro u v hu e
          by_cases hv : v = x
          · exact Or.inl (hv ▸ Rch.rf _ _)
          · rcases hu with hu | ⟨h1, h2⟩
            · exact Or.inl (hu.st e)
            · exact Or.inr ⟨hv, h2.st (Eb_dnu h1 hv e)⟩)
        rcases h9 with h9 | ⟨-, h9⟩
        · exact h9
        · exact absurd ⟨a, b, ha, fa, e1, h9, e2⟩ hno
    exact ⟨⟨a, hq.tr (hr.sy hsy), e1⟩, ⟨b, hq, e2⟩⟩
  · rintro ⟨⟨a, ha, e1⟩, ⟨b, hb, e2⟩⟩
    have hin := Eb_in hx ha
    exact ⟨a, b, hin.1, hin.2.trans (ups_s f x sd), e1, (ha.sy hsy).tr hb, e2⟩
/-- a threat -/
def Th (n : Nat) (f : Nat → Int) (sd : Int) (x : Nat) : Prop := f x = -1 ∧ Jn n (ups f x sd) sd
noncomputable def thc (n : Nat) (f : Nat → Int) (sd : Int) : Nat := @ite _ (Jn n f sd) (Classical.propDecidable _) 0 (cnt (Th n f sd) (n * n))
/-- the one with k before it -/
noncomputable def nth (p : Nat → Prop) (k : Int) (N : Nat) : Int := if fst1 (fun c => p c ∧ (cnt p c : Int) = k) N < N then ((fst1 (fun c => p c ∧ (cnt p c : Int) = k) N : Nat) : Int) else -1
noncomputable def tho (n : Nat) (f : Nat → Int) (sd k : Int) : Int := @ite _ (Jn n f sd) (Classical.propDecidable _) (-1) (nth (Th n f sd) k (n * n))
theorem nth_k {p : Nat → Prop} {k : Int} {N c : Nat} (hc : c < N) (hp : p c) (hk : (cnt p c : Int) = k) (hn : ∀ j, j < c → ¬ (p j ∧ (cnt p j : Int) = k)) : nth p k N = (c : Int) := by
  unfold nth
  rw [fst1_k hc ⟨hp, hk⟩ hn, if_pos hc]
theorem nth_no {p : Nat → Prop} {k : Int} {N : Nat} (hn : ∀ j, j < N → ¬ (p j ∧ (cnt p j : Int) = k)) : nth p k N = -1 := by
  unfold nth
  rw [fst1_no hn, if_neg (Nat.lt_irrefl N)]
theorem nth_rg (p : Nat → Prop) (k : Int) (N : Nat) : nth p k N = -1 ∨ ∃ c : Nat, nth p k N = (c : Int) ∧ c < N ∧ p c := by
  by_cases h : ∃ c, c < N ∧ (p c ∧ (cnt p c : Int) = k)
  · obtain ⟨c, hc, hp⟩ := h
    obtain ⟨m, hm, hq, hn⟩ := least_ex (p := fun c => p c ∧ (cnt p c : Int) = k) hp
    exact Or.inr ⟨m, nth_k (by omega) hq.1 hq.2 hn, by omega, hq.1⟩
  · exact Or.inl (nth_no fun j hj hq => h ⟨j, hj, hq⟩)
theorem cnt_hit {p : Nat → Prop} {k : Nat} : ∀ {N : Nat}, k < cnt p N → ∃ c, c < N ∧ p c ∧ cnt p c = k
  | 0, h => absurd h (Nat.not_lt_zero k)
  | N + 1, h => by
    by_cases hp : p N
    · rw [cnt_t hp] at h
      by_cases e : k = cnt p N
      · exact ⟨N, by omega, hp, e.symm⟩
      · obtain ⟨c, h1, h2, h3⟩ := cnt_hit (p := p) (k := k) (N := N) (by omega)
        exact ⟨c, by omega, h2, h3⟩
    · rw [cnt_f hp] at h
      obtain ⟨c, h1, h2, h3⟩ := cnt_hit (p := p) (k := k) (N := N) h
      exact ⟨c, by omega, h2, h3⟩
theorem nth_iff {p : Nat → Prop} {k N : Nat} : nth p (k : Int) N = -1 ↔ cnt p N ≤ k := by
  constructor
  · intro h
    apply Classical.byContradiction
    intro hk
    obtain ⟨c, h1, h2, h3⟩ := cnt_hit (p := p) (k := k) (N := N) (by omega)
    obtain ⟨m, hm, hq, hn⟩ := least_ex (p := fun c => p c ∧ (cnt p c : Int) = (k : Int)) (i := c) ⟨h2, by omega⟩
    have h9 := nth_k (N := N) (by omega) hq.1 hq.2 hn
    omega
  · intro h
    refine nth_no fun j hj hq => ?_
    have h1 := cnt_t hq.1
    have h2 := cnt_upto (p := p) (N := N) (M := j + 1) (by omega)
    omega
theorem tho_rg (n : Nat) (f : Nat → Int) (sd k : Int) : tho n f sd k = -1 ∨ ∃ c : Nat, tho n f sd k = (c : Int) ∧ c < n * n ∧ f c = -1 := by
  unfold tho
  split
  · exact Or.inl rfl
  · rcases nth_rg (Th n f sd) k (n * n) with h | ⟨c, h1, h2, h3⟩
    · exact Or.inl h
    · exact Or.inr ⟨c, h1, h2, h3.1⟩
theorem tho_iff {n : Nat} {f : Nat → Int} {sd : Int} {k : Nat} : tho n f sd (k : Int) = -1 ↔ thc n f sd ≤ k := by
  unfold tho thc
  by_cases h : Jn n f sd
  · rw [if_pos h, if_pos h]
    exact ⟨fun _ => Nat.zero_le k, fun _ => rfl⟩
  · rw [if_neg h, if_neg h]; exact nth_iff
theorem thc_le (n : Nat) (f : Nat → Int) (sd : Int) : thc n f sd ≤ n * n := by
  unfold thc
  split
  · exact Nat.zero_le _
  · exact cnt_le _ _


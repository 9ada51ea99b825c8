/-! ===== loops with a known course ===== -/
section UP
variable {σ ρ : Type} {f : σ → Option (σ ⊕ ρ)}
theorem whl_up (N : Nat) (g : Nat → σ) (r : ρ) (h1 : ∀ i, i < N → f (g i) = some (.inl (g (i + 1)))) (h2 : f (g N) = some (.inr r)) : whl f (g 0) = some r := by
  have key : ∀ d i, N - i = d → i ≤ N → itr f (d + 1) (g i) = some r := by
    intro d
    induction d with
    | zero =>
      intro i e1 e2
      have e : i = N := by omega
      subst e
      unfold itr
      rw [h2]
    | succ d ih =>
      intro i e1 e2
      unfold itr
      rw [h1 i (by omega)]
      exact ih (i + 1) (by omega) (by omega)
  exact whl_iff.mpr ⟨_, key _ 0 rfl (Nat.zero_le _)⟩
theorem whl_up' (N : Nat) (g : Nat → σ) (r : ρ) {s0 : σ} (h0 : g 0 = s0) (h1 : ∀ i, i < N → f (g i) = some (.inl (g (i + 1)))) (h2 : f (g N) = some (.inr r)) : whl f s0 = some r := h0 ▸ whl_up N g r h1 h2
theorem least_ex {p : Nat → Prop} : ∀ {i : Nat}, p i → ∃ k, k ≤ i ∧ p k ∧ ∀ j, j < k → ¬ p j := by
  intro i
  induction i using Nat.strongRecOn with
  | ind i ih =>
    intro hp
    by_cases h : ∃ j, j < i ∧ p j
    · obtain ⟨j, hj, hpj⟩ := h
      obtain ⟨k, k1, k2, k3⟩ := ih j hj hpj
      exact ⟨k, by omega, k2, k3⟩
    · exact ⟨i, Nat.le_refl i, hp, fun j hj q => h ⟨j, hj, q⟩⟩
/-- a search: the first place of N where p holds -/
theorem whl_find (e : Nat → σ) (N : Nat) (p : Nat → Prop) (a : Nat → ρ) (b : ρ) (h1 : ∀ i, i < N → p i → f (e i) = some (.inr (a i))) (h2 : ∀ i, i < N → ¬ p i → f (e i) = some (.inl (e (i + 1)))) (h3 : f (e N) = some (.inr b)) :
    (∃ k, k < N ∧ p k ∧ (∀ j, j < k → ¬ p j) ∧ whl f (e 0) = some (a k)) ∨ ((∀ i, i < N → ¬ p i) ∧ whl f (e 0) = some b) := by
  by_cases h : ∃ i, i < N ∧ p i
  · obtain ⟨i, hi, hp⟩ := h
    obtain ⟨k, k1, k2, k3⟩ := least_ex hp
    exact Or.inl ⟨k, by omega, k2, k3, whl_up k e (a k) (fun j hj => h2 j (by omega) (k3 j hj)) (h1 k (by omega) k2)⟩
  · exact Or.inr ⟨fun i hi q => h ⟨i, hi, q⟩, whl_up N e b (fun j hj => h2 j hj fun q => h ⟨j, hj, q⟩) h3⟩
end UP
theorem nnI (n : Nat) : (n : Int) * (n : Int) = ((n * n : Nat) : Int) := by simp
theorem R1 : R 1 := by unfold R; omega
theorem R2 : R 2 := by unfold R; omega
theorem R3 : R 3 := by unfold R; omega
theorem R6 : R 6 := by unfold R; omega
theorem R81 : R 81 := by unfold R; omega
theorem exs_s (p : Nat → Prop) (i : Nat) : (∃ c, c < i + 1 ∧ p c) ↔ (∃ c, c < i ∧ p c) ∨ p i := by
  constructor
  · rintro ⟨c, hc, h⟩
    by_cases e : c = i
    · subst e; exact Or.inr h
    · exact Or.inl ⟨c, by omega, h⟩
  · rintro (⟨c, hc, h⟩ | h)
    · exact ⟨c, by omega, h⟩
    · exact ⟨i, by omega, h⟩
theorem ev_s (p q : Nat → Prop) (i : Nat) : ev (∃ c, c < i + 1 ∧ p c) (∃ c, c < i + 1 ∧ q c) = iorI (ev (∃ c, c < i ∧ p c) (∃ c, c < i ∧ q c)) (ev (p i) (q i)) := by
  rw [ev_or]
  exact ev_congr (exs_s p i) (exs_s q i)
theorem ev_s0 {p q : Nat → Prop} {i : Nat} (hp : ¬ p i) (hq : ¬ q i) : ev (∃ c, c < i + 1 ∧ p c) (∃ c, c < i + 1 ∧ q c) = ev (∃ c, c < i ∧ p c) (∃ c, c < i ∧ q c) :=
  ev_congr ((exs_s p i).trans ⟨fun h => h.elim id fun k => absurd k hp, Or.inl⟩) ((exs_s q i).trans ⟨fun h => h.elim id fun k => absurd k hq, Or.inl⟩)
theorem ev_0 (p q : Nat → Prop) : ev (∃ c, c < 0 ∧ p c) (∃ c, c < 0 ∧ q c) = 0 :=
  (ev_congr ⟨fun ⟨c, h, _⟩ => absurd h (Nat.not_lt_zero c), fun q => q.elim⟩ ⟨fun ⟨c, h, _⟩ => absurd h (Nat.not_lt_zero c), fun q => q.elim⟩).trans ev_ff
theorem R_ev (p q : Prop) : R (ev p q) := by have := ev_rg p q; unfold R; omega
theorem R_edg (n : Nat) (sd : Int) (c : Nat) : R (edg n sd c) := by rcases edg_rg n sd c with h | h | h <;> rw [h] <;> unfold R <;> omega
/-! ===== the boards ===== -/
def FR (n : Nat) (f : Nat → Int) : Prop := ∀ c, c < n * n → f c = -1 ∨ f c = 0 ∨ f c = 1
theorem FR.r {n : Nat} {f : Nat → Int} (h : FR n f) {c : Nat} (hc : c < n * n) : R (f c) := by rcases h c hc with e | e | e <;> rw [e] <;> unfold R <;> omega
/-- a row of stones of the class -/
def CB (s : Sg) (n r : Nat) (f : Nat → Int) : Prop := ∀ c, c < n * n → gi s r c = f c
/-- the reference's board -/
def MB (s : Sg) (n : Nat) (f : Nat → Int) : Prop := MoN s n ∧ ∀ c, c < n * n → gi s 81 (5 + c) = f c
theorem MB.ch {s s' : Sg} {n : Nat} {f : Nat → Int} {L : List Nat} (h : MB s n f) (hc : Ch L s s') (h1 : 81 ∉ L := by decide) : MB s' n f := ⟨h.1.ch hc h1, fun c k => by rw [hc.g 81 h1]; exact h.2 c k⟩
theorem Po_count_eq {s : Sg} {p n : Nat} {f : Nat → Int} {w : Int} (hn : n ≤ 9) (h2 : gi s p 2 = (n : Int)) (ha : alen (p + 1) = 81) (hf : CB s n (p + 1) f) (hfr : FR n f) (hw : R w) : Po_count p w s = some ((cnt (fun c => f c = w) (n * n) : Nat) : Int) := by
  have h81 := nn_le hn
  unfold Po_count Po_count_l4
  have key : whl (fun σ : Int × Int => Po_count_t4 p w σ.1 σ.2 s) (0, 0) = some ((cnt (fun c => f c = w) (n * n) : Nat) : Int) := by
    refine whl_up (n * n) (fun i => (((cnt (fun c => f c = w) i : Nat) : Int), (i : Int))) _ (fun i hi => ?_) ?_
    · show Po_count_t4 p w ((cnt (fun c => f c = w) i : Nat) : Int) (i : Int) s = _
      unfold Po_count_t4 Po_count_b29 Po_stone
      rw [h2, nnI, ifLt_eq _ _ (R_nat (by omega)) (R_nat (by omega)), if_pos (by omega), Hx_at_n (by omega), bnd_some, bnd_some, hf i hi, ifEq_eq _ _ (hfr.r hi) hw]
      by_cases e : f i = w
      · rw [if_pos e, cnt_t (p := fun c => f c = w) e]; rfl
      · rw [if_neg e, cnt_f (p := fun c => f c = w) e]; rfl
    · show Po_count_t4 p w _ ((n * n : Nat) : Int) s = _
      unfold Po_count_t4
      rw [h2, nnI, ifLt_eq _ _ (R_nat (by omega)) (R_nat (by omega)), if_neg (by omega)]
  rw [key]; rfl
/-! ===== joined ===== -/
/-- a side has joined -/
def Jn (n : Nat) (f : Nat → Int) (sd : Int) : Prop := ∃ x y, x < n * n ∧ f x = sd ∧ edg n sd x = 1 ∧ Rch (Eb n f) x y ∧ edg n sd y = 2
/-- the edges that the cells reached from k have -/
noncomputable def evR (n : Nat) (E : Nat → Nat → Prop) (sd : Int) (k : Nat) : Int := ev (∃ x, Rch E k x ∧ edg n sd x = 1) (∃ x, Rch E k x ∧ edg n sd x = 2)
theorem R_evR (n : Nat) (E : Nat → Nat → Prop) (sd : Int) (k : Nat) : R (evR n E sd k) := R_ev _ _
theorem Jn_iff {n : Nat} {f : Nat → Int} {sd : Int} : Jn n f sd ↔ ∃ k, k < n * n ∧ f k = sd ∧ lab (Eb n f) k = k ∧ evR n (Eb n f) sd k = 3 := by
  constructor
  · rintro ⟨x, y, hx, hfx, e1, hr, e2⟩
    have h1 := (lab_r (Eb n f) x).sy Eb_sy
    exact ⟨lab (Eb n f) x, (Eb_in hx (lab_r _ x)).1, (Eb_in hx (lab_r _ x)).2.trans hfx, lab_id Eb_sy x, (ev3 _ _).mpr ⟨⟨x, h1, e1⟩, ⟨y, h1.tr hr, e2⟩⟩⟩
  · rintro ⟨k, hk, hf, hl, he⟩
    obtain ⟨⟨x, hx, e1⟩, ⟨y, hy, e2⟩⟩ := (ev3 _ _).mp he
    exact ⟨x, y, (Eb_in hk hx).1, (Eb_in hk hx).2.trans hf, e1, (hx.sy Eb_sy).tr hy, e2⟩
theorem Jn_congr {n : Nat} {f g : Nat → Int} {sd : Int} (h : ∀ c, c < n * n → f c = g c) : Jn n f sd ↔ Jn n g sd := by
  constructor
  · rintro ⟨x, y, hx, hfx, e1, hr, e2⟩
    exact ⟨x, y, hx, by rw [← h x hx]; exact hfx, e1, hr.mono (Eb_congr h), e2⟩
  · rintro ⟨x, y, hx, hfx, e1, hr, e2⟩
    exact ⟨x, y, hx, by rw [h x hx]; exact hfx, e1, hr.mono (Eb_congr fun c hc => (h c hc).symm), e2⟩
theorem LinksOK.top {s : Sg} {n : Nat} {f : Nat → Int} {sd : Int} (hL : LinksOK s n f sd) {c : Nat} (hc : c < n * n) (hn : n ≤ 9) : Li_top (c : Int) s = some (gi s 6 c) := by
  have h81 := nn_le hn
  have a6 : alen 6 = 81 := rfl
  unfold Li_top
  rw [Hx_at_n (by omega), bnd_some]
theorem LinksOK.tR {s : Sg} {n : Nat} {f : Nat → Int} {sd : Int} (hL : LinksOK s n f sd) {c : Nat} (hc : c < 81) : R (gi s 6 c) := by
  by_cases h : c < n * n ∧ f c = sd
  · rw [(hL.2.1 c hc).1 h.1 h.2]
    have := lab_le (Eb n f) c
    exact R_nat (by omega)
  · rw [(hL.2.1 c hc).2 h]; exact R_n1
/-- a stone's mark is its own cell just if it is the lowest of its group -/
theorem LinksOK.self {s : Sg} {n : Nat} {f : Nat → Int} {sd : Int} (hL : LinksOK s n f sd) {c : Nat} (hc : c < 81) : gi s 6 c = (c : Int) ↔ c < n * n ∧ f c = sd ∧ lab (Eb n f) c = c := by
  by_cases h : c < n * n ∧ f c = sd
  · rw [(hL.2.1 c hc).1 h.1 h.2]
    constructor
    · intro e; exact ⟨h.1, h.2, by omega⟩
    · rintro ⟨-, -, e⟩; rw [e]
  · rw [(hL.2.1 c hc).2 h]
    constructor
    · intro e; omega
    · rintro ⟨h1, h2, -⟩; exact absurd ⟨h1, h2⟩ h
theorem Li_joined_eq {s : Sg} {n : Nat} {f : Nat → Int} {sd : Int} (hG : GridOK s n) (hL : LinksOK s n f sd) : Li_joined s = some (bI (Jn n f sd)) := by
  have h81 := nn_le hG.2.1
  have a7 : alen 7 = 81 := rfl
  unfold Li_joined Li_joined_l2
  have s1 : ∀ i : Nat, i < n * n → (f i = sd ∧ lab (Eb n f) i = i ∧ evR n (Eb n f) sd i = 3) → Li_joined_t2 (i : Int) s = some (.inr (.inl ())) := by
    intro i hi hp
    show Li_joined_t2 (i : Int) s = _
    unfold Li_joined_t2
    rw [hG.2.2.2.1, ifLt_eq _ _ (R_nat (by omega)) (R_nat (by omega)), if_pos (by omega), hL.top hi hG.2.1, bnd_some, ifEq_eq _ _ (hL.tR (by omega)) (R_nat (by omega)), if_pos ((hL.self (by omega)).mpr ⟨hi, hp.1, hp.2.1⟩), Hx_at_n (by omega), bnd_some, (hL.2.2 i hi hp.1 hp.2.1).2]
    show ifEq (evR n (Eb n f) sd i) 3 _ _ = _
    rw [ifEq_eq _ _ (R_evR _ _ _ _) R3, if_pos hp.2.2]
  have s2 : ∀ i : Nat, i < n * n → ¬ (f i = sd ∧ lab (Eb n f) i = i ∧ evR n (Eb n f) sd i = 3) → Li_joined_t2 (i : Int) s = some (.inl ((i + 1 : Nat) : Int)) := by
    intro i hi hp
    show Li_joined_t2 (i : Int) s = _
    unfold Li_joined_t2 Li_joined_b36
    rw [hG.2.2.2.1, ifLt_eq _ _ (R_nat (by omega)) (R_nat (by omega)), if_pos (by omega), hL.top hi hG.2.1, bnd_some, ifEq_eq _ _ (hL.tR (by omega)) (R_nat (by omega))]
    by_cases ht : gi s 6 i = (i : Int)
    · obtain ⟨-, h1, h2⟩ := (hL.self (by omega)).mp ht
      rw [if_pos ht, Hx_at_n (by omega), bnd_some, (hL.2.2 i hi h1 h2).2]
      show ifEq (evR n (Eb n f) sd i) 3 _ _ = _
      rw [ifEq_eq _ _ (R_evR _ _ _ _) R3, if_neg (fun q => hp ⟨h1, h2, q⟩)]; rfl
    · rw [if_neg ht]; rfl
  have s3 : Li_joined_t2 ((n * n : Nat) : Int) s = some (.inr (.inr ())) := by
    show Li_joined_t2 ((n * n : Nat) : Int) s = _
    unfold Li_joined_t2
    rw [hG.2.2.2.1, ifLt_eq _ _ (R_nat (by omega)) (R_nat (by omega)), if_neg (by omega)]
  rcases whl_find (f := fun σ : Int => Li_joined_t2 σ s) (fun i => (i : Int)) (n * n) (fun i => f i = sd ∧ lab (Eb n f) i = i ∧ evR n (Eb n f) sd i = 3) (fun _ => .inl ()) (.inr ()) s1 s2 s3 with ⟨k, hk, hp, -, e⟩ | ⟨hno, e⟩
  · have e' : whl (fun σ : Int => Li_joined_t2 σ s) 0 = some (.inl ()) := e
    rw [e', bI_t (Jn_iff.mpr ⟨k, hk, hp⟩)]; rfl
  · have e' : whl (fun σ : Int => Li_joined_t2 σ s) 0 = some (.inr ()) := e
    rw [e', bI_f (fun h => by obtain ⟨k, hk, hp⟩ := Jn_iff.mp h; exact hno k hk hp)]; rfl
/-- the reference's marks -/
def Gm (s : Sg) (r n : Nat) (E : Nat → Nat → Prop) : Prop := ∀ c, c < n * n → gi s r c = ((lab E c : Nat) : Int)
theorem Gm.r {s : Sg} {r n : Nat} {E : Nat → Nat → Prop} (h : Gm s r n E) {c : Nat} (hc : c < n * n) (hn : n ≤ 9) : R (gi s r c) := by
  have h81 := nn_le hn
  rw [h c hc]
  have := lab_le E c
  exact R_nat (by omega)
theorem grp_ev {n : Nat} {f : Nat → Int} {sd : Int} {k : Nat} (hk : k < n * n) (hf : f k = sd) (hl : lab (Eb n f) k = k) : ev (∃ c, c < n * n ∧ f c = sd ∧ lab (Eb n f) c = k ∧ edg n sd c = 1) (∃ c, c < n * n ∧ f c = sd ∧ lab (Eb n f) c = k ∧ edg n sd c = 2) = evR n (Eb n f) sd k := by
  have h : ∀ v : Int, (∃ c, c < n * n ∧ f c = sd ∧ lab (Eb n f) c = k ∧ edg n sd c = v) ↔ ∃ x, Rch (Eb n f) k x ∧ edg n sd x = v := by
    intro v
    constructor
    · rintro ⟨c, hc, h1, h2, h3⟩
      exact ⟨c, (lab_iff Eb_sy).mp (hl.trans h2.symm), h3⟩
    · rintro ⟨x, hx, h3⟩
      exact ⟨x, (Eb_in hk hx).1, (Eb_in hk hx).2.trans hf, by rw [← lab_eq Eb_sy hx]; exact hl, h3⟩
  exact ev_congr (h 1) (h 2)
/-! ===== who has joined, who has won ===== -/
noncomputable def jnd (n : Nat) (f : Nat → Int) : Int := if bI (Jn n f 0) = 1 then 0 else if bI (Jn n f 1) = 1 then 1 else -1
noncomputable def wnr (n : Nat) (f : Nat → Int) (g : Int) : Int := if jnd n f = -1 then (if g = -1 then -1 else 1 - g) else jnd n f
theorem jnd_rg (n : Nat) (f : Nat → Int) : jnd n f = -1 ∨ jnd n f = 0 ∨ jnd n f = 1 := by
  unfold jnd
  split
  · exact Or.inr (Or.inl rfl)
  · split
    · exact Or.inr (Or.inr rfl)
    · exact Or.inl rfl
theorem wnr_rg {n : Nat} {f : Nat → Int} {g : Int} (hg : g = -1 ∨ g = 0 ∨ g = 1) : wnr n f g = -1 ∨ wnr n f g = 0 ∨ wnr n f g = 1 := by
  unfold wnr
  split
  · split
    · exact Or.inl rfl
    · omega
  · exact jnd_rg n f
theorem jnd_congr {n : Nat} {f g : Nat → Int} (h : ∀ c, c < n * n → f c = g c) : jnd n f = jnd n g := by
  have h0 : bI (Jn n f 0) = bI (Jn n g 0) := congrArg bI (propext (Jn_congr h))
  have h1 : bI (Jn n f 1) = bI (Jn n g 1) := congrArg bI (propext (Jn_congr h))
  unfold jnd
  rw [h0, h1]
theorem R_bI (p : Prop) : R (bI p) := by rcases bI_rg p with h | h <;> rw [h] <;> unfold R <;> omega
theorem R_tri {x : Int} (h : x = -1 ∨ x = 0 ∨ x = 1) : R x := by unfold R; omega
theorem Po_winner_ok {s : Sg} {p n : Nat} {f : Nat → Int} {g : Int} (hG : GridOK s n) (hp : alen (p + 1) = 81 ∧ p + 1 ∉ [5, 6, 7, 8, 9] ∧ p ∉ [5, 6, 7, 8, 9] ∧ p ≠ 80) (hf : CB s n (p + 1) f) (hfr : FR n f) (hg : gi s p 6 = g) (hg3 : g = -1 ∨ g = 0 ∨ g = 1) :
    okP (Po_winner p s) (fun o => Ch [5, 6, 7, 8, 9] s o.2 ∧ o.1 = wnr n f g) := by
  unfold Po_winner Po_winner_l2
  refine okP_bnd (P := fun o => (∃ (t : Sg) (sd : Int), o = .inl (sd, t) ∧ Ch [5, 6, 7, 8, 9] s t ∧ jnd n f = sd ∧ sd ≠ -1) ∨ ∃ t : Sg, o = .inr t ∧ Ch [5, 6, 7, 8, 9] s t ∧ jnd n f = -1)
    (whl_for (fun (i : Nat) (t : Sg) => ((i : Int), t)) 2 (fun i t => Ch [5, 6, 7, 8, 9] s t ∧ ∀ j : Nat, j < i → bI (Jn n f (j : Int)) = 0) (t0 := s) (Nat.zero_le 2) ⟨Ch.rf _ _, fun j hj => absurd hj (Nat.not_lt_zero j)⟩ ?_ ?_) ?_
  · rintro i t hi ⟨hC, hj⟩
    show okP (Po_winner_t2 p (i : Int) t) _
    unfold Po_winner_t2
    have hft : ∀ c, c < n * n → gi t (p + 1) c = f c := fun c hc => by rw [hC.g (p + 1) hp.2.1 (ne80 hp.1)]; exact hf c hc
    have hGt : GridOK t n := hG.ch hC (by decide) (by decide) (by decide) (by decide)
    have hsd : (i : Int) = 0 ∨ (i : Int) = 1 := by omega
    rw [ifLt_eq _ _ R1 (R_nat (by omega)), if_neg (by omega)]
    refine okP_bnd (gather_ok hGt ⟨hp.1, hp.2.1⟩ hft hfr hsd) ?_
    rintro u - ⟨hC2, hL⟩
    have hGu : GridOK u n := hGt.ch hC2 (by decide) (by decide) (by decide) (by decide)
    rw [Li_joined_eq hGu hL, bnd_some, ifEq_eq _ _ (R_bI _) R0]
    by_cases e : bI (Jn n f (i : Int)) = 0
    · rw [if_pos e]
      refine okP_some (Or.inl ⟨u, rfl, hC.tr hC2, fun j hj2 => ?_⟩)
      by_cases ej : j = i
      · subst ej; exact e
      · exact hj j (by omega)
    · rw [if_neg e]
      have e1 : bI (Jn n f (i : Int)) = 1 := (bI_rg _).resolve_left e
      refine okP_some (Or.inr ⟨_, rfl, Or.inl ⟨u, (i : Int), rfl, hC.tr hC2, ?_, by omega⟩⟩)
      unfold jnd
      obtain rfl | rfl : i = 0 ∨ i = 1 := by omega
      · rw [if_pos (show bI (Jn n f 0) = 1 from e1)]; rfl
      · have e0 : bI (Jn n f 0) = 0 := hj 0 (by omega)
        have e1' : bI (Jn n f 1) = 1 := e1
        rw [if_neg (by rw [e0]; omega), if_pos e1']; rfl
  · rintro t ⟨hC, hj⟩
    show okP (Po_winner_t2 p ((2 : Nat) : Int) t) _
    unfold Po_winner_t2
    rw [ifLt_eq _ _ R1 (R_nat (by omega)), if_pos (by omega)]
    refine okP_some ⟨_, rfl, Or.inr ⟨t, rfl, hC, ?_⟩⟩
    have e0 : bI (Jn n f 0) = 0 := hj 0 (by omega)
    have e1 : bI (Jn n f 1) = 0 := hj 1 (by omega)
    unfold jnd
    rw [if_neg (by rw [e0]; omega), if_neg (by rw [e1]; omega)]
  · rintro o - (⟨t, sd, rfl, hC, e, hne⟩ | ⟨t, rfl, hC, e⟩)
    · refine okP_some ⟨hC, ?_⟩
      unfold wnr
      rw [if_neg (by rw [e]; exact hne), e]
    · show okP (ifEq (gi t p 6) (-1) _ _) _
      have hgt : gi t p 6 = g := by rw [hC.g p hp.2.2.1 hp.2.2.2]; exact hg
      rw [hgt, ifEq_eq _ _ (R_tri hg3) R_n1]
      unfold wnr
      rw [if_pos e]
      by_cases e2 : g = -1
      · rw [if_pos e2, if_pos e2]
        exact okP_some ⟨hC, rfl⟩
      · rw [if_neg e2, if_neg e2, Hx_otherSide_eq (by omega), bnd_some]
        exact okP_some ⟨hC, rfl⟩

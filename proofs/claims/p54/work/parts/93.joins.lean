/-! ===== distance nought, distance one ===== -/
section JNS
variable {n : Nat} {f g : Nat → Int} {sd e : Int}
theorem lsw_at : ∀ (i : Nat), lsw n f sd i ≠ -1 → ∃ c, c < i ∧ pco n f sd c = lsw n f sd i
  | 0, h => absurd rfl h
  | i + 1, h => by
    have ih := lsw_at i
    unfold lsw at h ⊢
    by_cases q : pco n f sd i = -1
    · rw [if_pos q] at h ⊢
      obtain ⟨c, h1, h2⟩ := ih h
      exact ⟨c, by omega, h2⟩
    · rw [if_neg q] at h ⊢
      by_cases q2 : lsw n f sd i = -1 ∨ pco n f sd i < lsw n f sd i
      · rw [if_pos q2]
        exact ⟨i, by omega, rfl⟩
      · rw [if_neg q2] at h ⊢
        obtain ⟨c, h1, h2⟩ := ih h
        exact ⟨c, by omega, h2⟩
theorem pco_v {c v1 v2 : Nat} (h1 : Wk n f sd 1 c v1) (h2 : Wk n f sd 2 c v2) : pco n f sd c ≠ -1 ∧ pco n f sd c ≤ (v1 : Int) + (v2 : Int) - (cst f sd c : Int) := by
  obtain ⟨w1, d1, k1, l1, -⟩ := dst_w h1
  obtain ⟨w2, d2, k2, l2, -⟩ := dst_w h2
  have hi1 := k1.i.2.2
  unfold pco
  rw [d1, d2, if_neg (by omega)]
  omega
/-- along own stones nothing is paid -/
theorem wk_own {x y w : Nat} (hw : Wk n f sd e x w) (hf : f x = sd) (h : Rch (Eb n f) x y) : Wk n f sd e y w ∧ f y = sd := by
  refine h (fun y => Wk n f sd e y w ∧ f y = sd) ⟨hw, hf⟩ ?_
  rintro u v ⟨h1, h2⟩ ⟨e1, e2, e3, e4, e5⟩
  have hv : f v = sd := e3.symm.trans h2
  have hc : cst f sd v = 0 := if_pos hv
  have h9 := h1.st e2 e5 (Or.inl hv)
  rw [hc] at h9
  exact ⟨h9, hv⟩
theorem jn_lsw (h : Jn n f sd) : lsw n f sd (n * n) = 0 := by
  obtain ⟨x, y, hx, hfx, he1, hr, he2⟩ := h
  have hcx : cst f sd x = 0 := if_pos hfx
  have h1 := Wk.b hx (Or.inl hfx) he1
  rw [hcx] at h1
  obtain ⟨h1y, hfy⟩ := wk_own h1 hfx hr
  have hcy : cst f sd y = 0 := if_pos hfy
  have h2y := Wk.b h1y.i.1 (Or.inl hfy) he2
  rw [hcy] at h2y
  obtain ⟨p1, p2⟩ := pco_v h1y h2y
  obtain ⟨q1, q2⟩ := lsw_le (n * n) y h1y.i.1 p1
  rcases lsw_rg n f sd (n * n) with e | ⟨e, -⟩
  · exact absurd e q1
  · omega
/-- from the edge e by stones of g to c -/
def Jt (n : Nat) (g : Nat → Int) (sd e : Int) (c : Nat) : Prop := g c = sd ∧ ∃ x, x < n * n ∧ g x = sd ∧ edg n sd x = e ∧ Rch (Eb n g) x c
theorem Jt_Jn {c : Nat} (h1 : Jt n g sd 1 c) (h2 : Jt n g sd 2 c) : Jn n g sd := by
  obtain ⟨-, x, hx, hgx, ex, rx⟩ := h1
  obtain ⟨-, y, hy, hgy, ey, ry⟩ := h2
  exact ⟨x, y, hx, hgx, ex, rx.tr (ry.sy Eb_sy), ey⟩
theorem Jt_up (hs : sd ≠ -1) {a c : Nat} (ha : f a = -1) (h : Jt n f sd e c) : Jt n (ups f a sd) sd e c := by
  obtain ⟨h1, x, hx, hfx, ex, rx⟩ := h
  have ne : ∀ z, f z ≠ -1 → z ≠ a := fun z hz q => hz (by rw [q]; exact ha)
  have e1 : ∀ z, f z ≠ -1 → ups f a sd z = f z := fun z hz => ups_o (ne z hz)
  refine ⟨by rw [e1 c (by omega)]; exact h1, x, hx, by rw [e1 x (by omega)]; exact hfx, ex, rx.mono fun u v ⟨k1, k2, k3, k4, k5⟩ => ?_⟩
  have kv : f v ≠ -1 := by rw [← k3]; exact k4
  exact ⟨k1, k2, by rw [e1 u k4, e1 v kv]; exact k3, by rw [e1 u k4]; exact k4, k5⟩
theorem Jt_st {u v : Nat} (hs : sd ≠ -1) (h : Jt n g sd e u) (hu : u < n * n) (hv : v < n * n) (hA : Adj n u v) (hg : g v = sd) : Jt n g sd e v := by
  obtain ⟨h1, x, hx, hgx, ex, rx⟩ := h
  exact ⟨hg, x, hx, hgx, ex, rx.st ⟨hu, hv, h1.trans hg.symm, by rw [h1]; exact hs, hA⟩⟩
/-- a way that costs at most one -/
theorem wk_low (hs : sd ≠ -1) {c w : Nat} (h : Wk n f sd e c w) : Ub f sd c ∧ (w = 0 → Jt n f sd e c) ∧ (w = 1 → (f c = -1 → Jt n (ups f c sd) sd e c) ∧ (f c = sd → ∃ a, a < n * n ∧ f a = -1 ∧ Jt n (ups f a sd) sd e c)) := by
  refine h (fun c w => Ub f sd c ∧ (w = 0 → Jt n f sd e c) ∧ (w = 1 → (f c = -1 → Jt n (ups f c sd) sd e c) ∧ (f c = sd → ∃ a, a < n * n ∧ f a = -1 ∧ Jt n (ups f a sd) sd e c))) ?_ ?_
  · intro x hx hu hex
    refine ⟨hu, ?_⟩
    unfold cst
    by_cases q : f x = sd
    · rw [if_pos q]
      exact ⟨fun _ => ⟨q, x, hx, q, hex, Rch.rf _ _⟩, fun z => absurd z (by decide)⟩
    · rw [if_neg q]
      exact ⟨fun z => absurd z (by decide), fun _ => ⟨fun _ => ⟨ups_s _ _ _, x, hx, ups_s _ _ _, hex, Rch.rf _ _⟩, fun z => absurd z q⟩⟩
  · intro u v y hP hu hy hA hub
    obtain ⟨huu, hP0, hP1⟩ := hP
    refine ⟨hub, ?_⟩
    unfold cst
    by_cases q : f y = sd
    · rw [if_pos q]
      refine ⟨fun z => Jt_st hs (hP0 (by omega)) hu hy hA q, fun z => ⟨fun z2 => absurd (q.symm.trans z2) hs, fun _ => ?_⟩⟩
      have hk := hP1 (by omega)
      have hyn : ∀ a, f a = -1 → y ≠ a := fun a ha z3 => hs (by rw [← q, z3]; exact ha)
      rcases huu with qu | qu
      · obtain ⟨a, ha, hfa, h9⟩ := hk.2 qu
        exact ⟨a, ha, hfa, Jt_st hs h9 hu hy hA ((ups_o (hyn a hfa)).trans q)⟩
      · exact ⟨u, hu, qu, Jt_st hs (hk.1 qu) hu hy hA ((ups_o (hyn u qu)).trans q)⟩
    · rw [if_neg q]
      have hy1 : f y = -1 := hub.resolve_left q
      refine ⟨fun z => absurd z (by omega), fun z => ⟨fun _ => ?_, fun z2 => absurd z2 q⟩⟩
      exact Jt_st hs (Jt_up hs hy1 (hP0 (by omega))) hu hy hA (ups_s _ _ _)
/-- a cell through which the least goes -/
theorem pco_at {c : Nat} (h : pco n f sd c ≠ -1) : ∃ v1 v2 : Nat, Wk n f sd 1 c v1 ∧ Wk n f sd 2 c v2 ∧ pco n f sd c = (v1 : Int) + (v2 : Int) - (cst f sd c : Int) := by
  unfold pco at h ⊢
  rcases dst_cases n f sd 1 c with ⟨d1, -⟩ | ⟨v1, d1, k1, -⟩
  · rw [if_pos (Or.inl d1)] at h
    exact absurd rfl h
  · rcases dst_cases n f sd 2 c with ⟨d2, -⟩ | ⟨v2, d2, k2, -⟩
    · rw [if_pos (Or.inr d2)] at h
      exact absurd rfl h
    · exact ⟨v1, v2, k1, k2, by rw [d1, d2, if_neg (by omega)]⟩
theorem lsw_jn (hs : sd ≠ -1) (h : lsw n f sd (n * n) = 0) : Jn n f sd := by
  obtain ⟨c, hc, hp⟩ := lsw_at (n * n) (by rw [h]; decide)
  rw [h] at hp
  obtain ⟨v1, v2, k1, k2, e⟩ := pco_at (n := n) (f := f) (sd := sd) (c := c) (by rw [hp]; decide)
  have h1 := k1.i.2.2
  have h2 := k2.i.2.2
  rw [hp] at e
  exact Jt_Jn ((wk_low hs k1).2.1 (by omega)) ((wk_low hs k2).2.1 (by omega))
theorem jn_iff_lsw (hs : sd ≠ -1) : Jn n f sd ↔ lsw n f sd (n * n) = 0 := ⟨jn_lsw, lsw_jn hs⟩
/-- from an edge by stones of the board with a on it: the way pays for a alone -/
theorem wk_one (hs : sd ≠ -1) {a x z : Nat} (ha : f a = -1) (hx : x < n * n) (hgx : ups f a sd x = sd) (hex : edg n sd x = e) (h : Rch (Eb n (ups f a sd)) x z) : Wk n f sd e a 1 ∨ (f z = sd ∧ Wk n f sd e z 0) := by
  have ca : cst f sd a = 1 := if_neg (fun q => hs (q.symm.trans ha))
  have own : ∀ y, ups f a sd y = sd → y ≠ a → f y = sd := fun y hy hya => by rw [← ups_o (f := f) (v := sd) hya]; exact hy
  refine (h (fun z => ups f a sd z = sd ∧ (Wk n f sd e a 1 ∨ (f z = sd ∧ Wk n f sd e z 0))) ⟨hgx, ?_⟩ ?_).2
  · by_cases q : x = a
    · have h9 := Wk.b (n := n) (f := f) (sd := sd) hx (Or.inr (by rw [q]; exact ha)) hex
      rw [q, ca] at h9
      exact Or.inl h9
    · have hfx := own x hgx q
      have h9 := Wk.b (n := n) (f := f) (sd := sd) hx (Or.inl hfx) hex
      rw [show cst f sd x = 0 from if_pos hfx] at h9
      exact Or.inr ⟨hfx, h9⟩
  · rintro u v ⟨h1, h2⟩ ⟨e1, e2, e3, e4, e5⟩
    have hgv : ups f a sd v = sd := e3.symm.trans h1
    refine ⟨hgv, ?_⟩
    rcases h2 with h2 | ⟨h2, h3⟩
    · exact Or.inl h2
    · by_cases q : v = a
      · have h9 := h3.st e2 e5 (Or.inr (by rw [q]; exact ha))
        rw [q, ca] at h9
        exact Or.inl h9
      · have hfv := own v hgv q
        have h9 := h3.st e2 e5 (Or.inl hfv)
        rw [show cst f sd v = 0 from if_pos hfv] at h9
        exact Or.inr ⟨hfv, h9⟩
theorem th_lsw (hs : sd ≠ -1) (hj : ¬ Jn n f sd) {a : Nat} (han : a < n * n) (h : Th n f sd a) : lsw n f sd (n * n) = 1 := by
  obtain ⟨ha, x, y, hx, hgx, hex, hr, hey⟩ := h
  have ca : cst f sd a = 1 := if_neg (fun q => hs (q.symm.trans ha))
  have hy := Eb_in hx hr
  have n0 : lsw n f sd (n * n) ≠ 0 := fun z => hj (lsw_jn hs z)
  have fin : ∀ c, c < n * n → ∀ v1 v2 : Nat, Wk n f sd 1 c v1 → Wk n f sd 2 c v2 → (v1 : Int) + v2 - (cst f sd c : Int) ≤ 1 → lsw n f sd (n * n) = 1 := fun c hc v1 v2 k1 k2 hv => by
    obtain ⟨p1, p2⟩ := pco_v k1 k2
    obtain ⟨q1, q2⟩ := lsw_le (n * n) c hc p1
    rcases lsw_rg n f sd (n * n) with e | ⟨e, -⟩
    · exact absurd e q1
    · omega
  rcases wk_one hs ha hx hgx hex hr with h1 | ⟨h1, h2⟩
  · have hgy : ups f a sd y = sd := hy.2.trans hgx
    rcases wk_one hs ha hy.1 hgy hey (hr.sy Eb_sy) with k1 | ⟨k1, k2⟩
    · exact fin a han 1 1 h1 k1 (by rw [ca]; decide)
    · have h9 := Wk.b (n := n) (f := f) (sd := sd) hx (Or.inl k1) hex
      have c0 : cst f sd x = 0 := if_pos k1
      rw [c0] at h9
      exact fin x hx 0 0 h9 k2 (by rw [c0]; decide)
  · have h9 := Wk.b (n := n) (f := f) (sd := sd) hy.1 (Or.inl h1) hey
    have c0 : cst f sd y = 0 := if_pos h1
    rw [c0] at h9
    exact fin y hy.1 0 0 h2 h9 (by rw [c0]; decide)
theorem lsw_th (hs : sd ≠ -1) (h : lsw n f sd (n * n) = 1) : ∃ a, a < n * n ∧ Th n f sd a := by
  obtain ⟨c, hc, hp⟩ := lsw_at (n * n) (by rw [h]; decide)
  rw [h] at hp
  obtain ⟨v1, v2, k1, k2, e⟩ := pco_at (n := n) (f := f) (sd := sd) (c := c) (by rw [hp]; decide)
  have h1 := k1.i.2.2
  have h2 := k2.i.2.2
  rw [hp] at e
  obtain ⟨hu, a0, a1⟩ := wk_low hs k1
  obtain ⟨-, b0, b1⟩ := wk_low hs k2
  by_cases q : f c = sd
  · have c0 : cst f sd c = 0 := if_pos q
    rw [c0] at e h1 h2
    by_cases z : v1 = 0
    · obtain ⟨a, ha, hfa, h9⟩ := (b1 (by omega)).2 q
      exact ⟨a, ha, hfa, Jt_Jn (Jt_up hs hfa (a0 z)) h9⟩
    · obtain ⟨a, ha, hfa, h9⟩ := (a1 (by omega)).2 q
      exact ⟨a, ha, hfa, Jt_Jn h9 (Jt_up hs hfa (b0 (by omega)))⟩
  · have c0 : cst f sd c = 1 := if_neg q
    have hm : f c = -1 := hu.resolve_left q
    rw [c0] at e h1 h2
    exact ⟨c, hc, hm, Jt_Jn ((a1 (by omega)).1 hm) ((b1 (by omega)).1 hm)⟩
/-- one more step to go just where a cell would join -/
theorem lsw_one (hs : sd ≠ -1) (hj : ¬ Jn n f sd) : lsw n f sd (n * n) = 1 ↔ 0 < thc n f sd := by
  unfold thc
  rw [if_neg hj]
  constructor
  · intro h
    obtain ⟨a, ha, h9⟩ := lsw_th hs h
    exact cnt_pos ha h9
  · intro h
    obtain ⟨a, ha, h9, -⟩ := cnt_hit (p := Th n f sd) (k := 0) h
    exact th_lsw hs hj ha h9
end JNS

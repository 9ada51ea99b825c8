/-! ===== the moves that can be taken back ===== -/
/-- what is remembered: how many boards, the oldest first -/
def HC (s : Sg) (h : Nat) (H : Nat → Bd) : Prop := gi s 16 2 = (h : Int) ∧ h ≤ 8 ∧ ∃ a : Nat, gi s 16 1 = (a : Int) ∧ a < 8 ∧ ∀ i, i < h → CP s (18 + 3 * ((a + i) % 8)) (H i)
def rec' (g : Nat → Int) (b : Bd) : Prop := (2 ≤ b.n ∧ b.n ≤ 9) ∧ g 0 = (b.n : Int) ∧ (∀ c, c < b.n * b.n → g (5 + c) = b.f c) ∧ g 1 = b.w ∧ g 2 = b.t ∧ g 3 = b.g ∧ g 4 = (b.m : Int) ∧ ∀ i, i < b.m → g (86 + i) = b.mv i
def HM (s : Sg) (h : Nat) (H : Nat → Bd) : Prop := gi s 80 6 = (h : Int) ∧ h ≤ 8 ∧ ∀ i, i < h → rec' (fun k => gi s 85 (286 * i + k)) (H i)
def psh (h : Nat) (H : Nat → Bd) (b : Bd) : Nat × (Nat → Bd) := if h = 8 then (8, fun i => if i < 7 then H (i + 1) else b) else (h + 1, fun i => if i = h then b else H i)
section HIS
variable {s : Sg} {b : Bd} {h : Nat} {H : Nat → Bd}
theorem MP_rec : MP s b ↔ rec' (fun k => gi s 81 k) b :=
  ⟨fun ⟨p1, p2, p3, p4, p5, p6⟩ => ⟨⟨p1.1.1, p1.1.2.1⟩, p1.1.2.2, p1.2, p2, p3, p4, p5, p6⟩, fun ⟨q1, q2, q3, q4, q5, q6, q7, q8⟩ => ⟨⟨⟨q1.1, q1.2, q2⟩, q3⟩, q4, q5, q6, q7, q8⟩⟩
theorem rec_congr {g g' : Nat → Int} (hb : BdOK b) (e : ∀ k, k < 286 → g' k = g k) (r : rec' g b) : rec' g' b := by
  have h81 := nn_le hb.1.2
  have hm : b.m ≤ 200 := hb.2.2.2.2.2.1
  obtain ⟨q1, q2, q3, q4, q5, q6, q7, q8⟩ := r
  exact ⟨q1, by rw [e 0 (by omega)]; exact q2, fun c hc => by rw [e _ (by omega)]; exact q3 c hc, by rw [e 1 (by omega)]; exact q4, by rw [e 2 (by omega)]; exact q5, by rw [e 3 (by omega)]; exact q6, by rw [e 4 (by omega)]; exact q7, fun i hi' => by rw [e _ (by omega)]; exact q8 i hi'⟩
abbrev Ch' : List Nat := [16, 18, 19, 20, 21, 22, 23, 24, 25, 26, 27, 28, 29, 30, 31, 32, 33, 34, 35, 36, 37, 38, 39, 40, 41]
theorem slot_in {j : Nat} (hj : j < 8) : ∀ x ∈ [18 + 3 * j, 18 + 3 * j + 1, 18 + 3 * j + 2], x ∈ Ch' := by
  have : ∀ j, j < 8 → ∀ x ∈ [18 + 3 * j, 18 + 3 * j + 1, 18 + 3 * j + 2], x ∈ Ch' := by decide
  exact this j hj
theorem Hi_latest_eq {a x : Nat} (ha : gi s 16 1 = (a : Int)) (h1 : a < 8) (h2 : x ≤ 8) : Hi_latest (x : Int) s = some (18 + 3 * ((a + x) % 8)) := by
  have e : ((a : Int) + (x : Int)) % 8 = (((a + x) % 8 : Nat) : Int) := by omega
  unfold Hi_latest
  rw [ha, grd_t ⟨⟨by omega, by unfold R; omega⟩, by omega, by unfold R; omega⟩, lett_eq, e, ifLt_eq _ _ (R_nat (by omega)) R0, if_neg (by omega), ifLt_eq _ _ (R_nat (by omega)) (by unfold R; omega), if_pos (by omega), grd_t ⟨by omega, by omega⟩]
  rfl
theorem CP.slot {t : Sg} {j j' : Nat} (hj : j < 8) (hj' : j' < 8) (hne : j' ≠ j) {b' : Bd} (hc : Ch [18 + 3 * j, 18 + 3 * j + 1, 18 + 3 * j + 2] s t) (k : CP s (18 + 3 * j') b') : CP t (18 + 3 * j') b' :=
  k.ch hc (by simp; omega) (by simp; omega) (by simp; omega) (by omega)
theorem remember_low (hb : BdOK b) (hC : CP s 10 b) (hH : HC s h H) (hh : h < 8) : okP (Hi_remember_b32 10 s) (fun t => Ch Ch' s t ∧ HC t (h + 1) (fun i => if i = h then b else H i)) := by
  obtain ⟨e1, e2, a, e3, e4, e5⟩ := hH
  have hj : (a + h) % 8 < 8 := Nat.mod_lt _ (by omega)
  unfold Hi_remember_b32
  rw [e1, Hi_latest_eq e3 e4 (by omega), bnd_some]
  refine okP_bnd (Po_copy_ok (p := 18 + 3 * ((a + h) % 8)) (q := 10) hb hC (by omega) (by omega)) ?_
  rintro t - ⟨h1, h2⟩
  have h16 : ∀ k, gi t 16 k = gi s 16 k := fun k => h1.g 16 (by simp; omega)
  rw [lett_eq, h16, e1]
  have hch : Ch [16] t (si t 16 2 ((h : Int) + 1)) := Ch.si (by decide)
  refine okP_some ⟨(h1.mo (slot_in hj)).tr (hch.mo (by decide)), by rw [gi_si_s]; rfl, by omega, a, by rw [gi_si_k _ _ _ (by omega), h16]; exact e3, e4, fun i hi' => ?_⟩
  have hi8 : (a + i) % 8 < 8 := Nat.mod_lt _ (by omega)
  show CP _ _ (if i = h then b else H i)
  by_cases q : i = h
  · subst q
    rw [if_pos rfl]
    exact h2.ch hch (by simp; omega) (by simp; omega) (by simp; omega) (by omega)
  · rw [if_neg q]
    have hne : (a + i) % 8 ≠ (a + h) % 8 := by omega
    exact (CP.slot hj hi8 hne h1 (e5 i (by omega))).ch hch (by simp; omega) (by simp; omega) (by simp; omega) (by omega)
theorem remember_ok (hb : BdOK b) (hC : CP s 10 b) (hH : HC s h H) : okP (Hi_remember 10 s) (fun t => Ch Ch' s t ∧ HC t (psh h H b).1 (psh h H b).2) := by
  have hH' := hH
  obtain ⟨e1, e2, a, e3, e4, e5⟩ := hH'
  unfold Hi_remember psh
  rw [e1, ifEq_eq _ _ (R_nat (by omega)) (by unfold R; omega)]
  by_cases q : h = 8
  · rw [if_pos (by omega), if_pos q, e3, grd_t ⟨⟨by omega, by unfold R; omega⟩, by omega, by unfold R; omega⟩, lett_eq, gi_si_k _ _ _ (show (2 : Nat) ≠ 1 by omega), e1, lett_eq]
    have c1 : Ch [16] s (si (si s 16 1 (((a : Int) + 1) % 8)) 16 2 ((h : Int) - 1)) := (Ch.si (by decide)).tr (Ch.si (by decide))
    have hC1 := hC.ch c1
    have hH1 : HC (si (si s 16 1 (((a : Int) + 1) % 8)) 16 2 ((h : Int) - 1)) 7 (fun i => H (i + 1)) := by
      refine ⟨by rw [gi_si_s]; omega, by omega, (a + 1) % 8, ?_, Nat.mod_lt _ (by omega), fun i hi' => ?_⟩
      · rw [gi_si_k _ _ _ (by omega), gi_si_s]; omega
      · have k := e5 (i + 1) (by omega)
        have e : (a + (i + 1)) % 8 = ((a + 1) % 8 + i) % 8 := by omega
        have hj : (a + (i + 1)) % 8 < 8 := Nat.mod_lt _ (by omega)
        rw [← e]
        exact k.ch c1 (by simp; omega) (by simp; omega) (by simp; omega) (by omega)
    refine okP_mono (remember_low hb hC1 hH1 (by omega)) ?_
    rintro t ⟨k1, k2⟩
    refine ⟨(c1.mo (by decide)).tr k1, ?_⟩
    obtain ⟨l1, l2, a', l3, l4, l5⟩ := k2
    refine ⟨l1, l2, a', l3, l4, fun i hi' => ?_⟩
    have k : CP t (18 + 3 * ((a' + i) % 8)) (if i = 7 then b else H (i + 1)) := l5 i hi'
    show CP _ _ (if i < 7 then H (i + 1) else b)
    by_cases z : i = 7
    · rw [if_neg (by omega)]
      rw [if_pos z] at k
      exact k
    · rw [if_pos (by omega)]
      rw [if_neg z] at k
      exact k
  · rw [if_neg (by omega), if_neg q]
    exact remember_low hb hC hH (by omega)
end HIS


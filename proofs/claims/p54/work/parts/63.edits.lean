/-! ===== a board is edited ===== -/
def pst (b : Bd) (c : Nat) (v : Int) : Bd := Bd.mk b.n (ups b.f c v) b.w b.t b.g b.m b.mv
def ptn (b : Bd) (t : Int) : Bd := Bd.mk b.n b.f b.w t b.g b.m b.mv
def pgv (b : Bd) (g : Int) : Bd := Bd.mk b.n b.f b.w b.t g b.m b.mv
section EDT
variable {s : Sg} {b : Bd}
theorem pst_ok {c : Nat} {v : Int} (hb : BdOK b) (hv : v = -1 ∨ v = 0 ∨ v = 1) : BdOK (pst b c v) := ⟨hb.1, hb.2.1.ups hv, hb.2.2⟩
theorem ptn_ok {t : Int} (hb : BdOK b) (ht : t = 0 ∨ t = 1) : BdOK (ptn b t) := ⟨hb.1, hb.2.1, hb.2.2.1, ht, hb.2.2.2.2⟩
theorem pgv_ok {g : Int} (hb : BdOK b) (hg : g = -1 ∨ g = 0 ∨ g = 1) : BdOK (pgv b g) := ⟨hb.1, hb.2.1, hb.2.2.1, hb.2.2.2.1, hg, hb.2.2.2.2.2⟩
theorem CP_pst (h : CP s 10 b) (c : Nat) (v : Int) : CP (si s 11 c v) 10 (pst b c v) := by
  obtain ⟨p1, p2, p3, p4, p5, p6, p7⟩ := h
  have o : ∀ k, gi (si s 11 c v) 10 k = gi s 10 k := fun k => gi_si_o _ _ _ _ (by omega)
  exact ⟨(o 2).trans p1, (o 3).trans p2, (o 4).trans p3, (o 5).trans p4, (o 6).trans p5, CB.ups (show CB s b.n 11 b.f from p6) c v, fun i hi' => (gi_si_o s (o := 11) (b := 12) c i v (by omega)).trans (p7 i hi')⟩
theorem CP_ptn (h : CP s 10 b) (t : Int) : CP (si s 10 5 t) 10 (ptn b t) := by
  obtain ⟨p1, p2, p3, p4, p5, p6, p7⟩ := h
  have o : ∀ k, k ≠ 5 → gi (si s 10 5 t) 10 k = gi s 10 k := fun k hk => gi_si_k _ _ _ hk
  exact ⟨(o 2 (by omega)).trans p1, (o 3 (by omega)).trans p2, (o 4 (by omega)).trans p3, gi_si_s _ _ _ _, (o 6 (by omega)).trans p5, fun c hc => (gi_si_o s (o := 10) (b := 11) 5 c t (by omega)).trans (p6 c hc), fun i hi' => (gi_si_o s (o := 10) (b := 12) 5 i t (by omega)).trans (p7 i hi')⟩
theorem CP_pgv (h : CP s 10 b) (g : Int) : CP (si s 10 6 g) 10 (pgv b g) := by
  obtain ⟨p1, p2, p3, p4, p5, p6, p7⟩ := h
  have o : ∀ k, k ≠ 6 → gi (si s 10 6 g) 10 k = gi s 10 k := fun k hk => gi_si_k _ _ _ hk
  exact ⟨(o 2 (by omega)).trans p1, (o 3 (by omega)).trans p2, (o 4 (by omega)).trans p3, (o 5 (by omega)).trans p4, gi_si_s _ _ _ _, fun c hc => (gi_si_o s (o := 10) (b := 11) 6 c g (by omega)).trans (p6 c hc), fun i hi' => (gi_si_o s (o := 10) (b := 12) 6 i g (by omega)).trans (p7 i hi')⟩
theorem MP_pst {c : Nat} (hb : BdOK b) (h : MP s b) (hc : c < b.n * b.n) (v : Int) : MP (si s 81 (5 + c) v) (pst b c v) := by
  have h81 := nn_le hb.1.2
  obtain ⟨p1, p2, p3, p4, p5, p6⟩ := h
  have o : ∀ k, k ≠ 5 + c → gi (si s 81 (5 + c) v) 81 k = gi s 81 k := fun k hk => gi_si_k _ _ _ hk
  exact ⟨p1.ups c v, (o 1 (by omega)).trans p2, (o 2 (by omega)).trans p3, (o 3 (by omega)).trans p4, (o 4 (by omega)).trans p5, fun i hi' => (o (86 + i) (by omega)).trans (p6 i hi')⟩
theorem MP_ptn (h : MP s b) (t : Int) : MP (si s 81 2 t) (ptn b t) := by
  obtain ⟨p1, p2, p3, p4, p5, p6⟩ := h
  have o : ∀ k, k ≠ 2 → gi (si s 81 2 t) 81 k = gi s 81 k := fun k hk => gi_si_k _ _ _ hk
  exact ⟨⟨⟨p1.1.1, p1.1.2.1, (o 0 (by omega)).trans p1.1.2.2⟩, fun c hc => (o (5 + c) (by omega)).trans (p1.2 c hc)⟩, (o 1 (by omega)).trans p2, gi_si_s _ _ _ _, (o 3 (by omega)).trans p4, (o 4 (by omega)).trans p5, fun i hi' => (o (86 + i) (by omega)).trans (p6 i hi')⟩
theorem MP_pgv (h : MP s b) (g : Int) : MP (si s 81 3 g) (pgv b g) := by
  obtain ⟨p1, p2, p3, p4, p5, p6⟩ := h
  have o : ∀ k, k ≠ 3 → gi (si s 81 3 g) 81 k = gi s 81 k := fun k hk => gi_si_k _ _ _ hk
  exact ⟨⟨⟨p1.1.1, p1.1.2.1, (o 0 (by omega)).trans p1.1.2.2⟩, fun c hc => (o (5 + c) (by omega)).trans (p1.2 c hc)⟩, (o 1 (by omega)).trans p2, (o 2 (by omega)).trans p3, gi_si_s _ _ _ _, (o 4 (by omega)).trans p5, fun i hi' => (o (86 + i) (by omega)).trans (p6 i hi')⟩
end EDT


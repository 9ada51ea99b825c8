/-! ===== one cell of the text is read ===== -/
def Cs (s : Sg) (L : Nat) (B : Nat → Int) (b : Bd) (p : Nat) : Prop := InC s L B ∧ p ≤ L ∧ Tok s L B (sk L B p) ∧ gi s 52 8 = 0 ∧ GridOK s b.n ∧ CP s 53 b
def CRf (s t : Sg) : Prop := Ch [5, 6, 7, 8, 9, 52, 53, 54, 55] s t ∧ gi t 52 10 = gi s 52 10
def Ms (s : Sg) (L : Nat) (B : Nat → Int) (b : Bd) (p : Nat) : Prop := InM s L B ∧ p ≤ L ∧ gi s 80 9 = (p : Int) ∧ MP s b
abbrev Mk9 : List Nat := [81, 87, 8009, 8010, 8011, 8012, 8013, 8016]
abbrev Mks : List Nat := [81, 87, 8009, 8010, 8011, 8016]
/-- a fault at a place -/
def CFl (s t : Sg) (e : Int) (pl : Nat) : Prop := CRf s t ∧ gi t 52 8 = e ∧ gi t 52 9 = (pl : Int)
def MFl (s : Sg) (r : Int × Sg) (e : Int) (pl : Nat) : Prop := Ch Mk9 s r.2 ∧ r.1 = 0 ∧ gi r.2 80 12 = e ∧ gi r.2 80 13 = (pl : Int)
def nbd (mv side : Int) (b : Bd) (c : Nat) : Bd := if mv = 1 then ply b c else pst b c side
section CLS
variable {L : Nat} {B : Nat → Int} {s t : Sg} {b : Bd}
theorem CRf.rf (s : Sg) : CRf s s := ⟨Ch.rf _ _, rfl⟩
theorem CRf.tr {u : Sg} (h1 : CRf s t) (h2 : CRf t u) : CRf s u := ⟨h1.1.tr h2.1, h2.2.trans h1.2⟩
theorem AF.cr (h : AF s t) : CRf s t := ⟨h.1.mo (by decide), h.2 10 (by omega)⟩
theorem Ch.cr {M : List Nat} (h : Ch M s t) (hM : ∀ x ∈ M, x ∈ [5, 6, 7, 8, 9, 53, 54, 55] := by decide) : CRf s t := ⟨h.mo (fun x hx => by
  have := hM x hx
  simp only [List.mem_cons, List.not_mem_nil, or_false] at this ⊢
  omega), h.g 52 (fun w => by have := hM 52 w; revert this; decide)⟩
theorem fl_cr (e : Int) (pl : Nat) : CFl s (si (si s 52 8 e) 52 9 (pl : Int)) e pl := ⟨⟨(Ch.si (by decide)).tr (Ch.si (by decide)), by rw [gi_si_k _ _ _ (by omega), gi_si_k _ _ _ (by omega)]⟩, by rw [gi_si_k _ _ _ (by omega)]; exact gi_si_s _ _ _ _, gi_si_s _ _ _ _⟩
theorem CFl.tr {u : Sg} {e : Int} {pl : Nat} (h1 : CRf s t) (h2 : CFl t u e pl) : CFl s u e pl := ⟨h1.tr h2.1, h2.2⟩
theorem Tok.ch {M : List Nat} {q : Nat} (h : Tok s L B q) (hc : Ch M s t) (hM : 52 ∉ M := by decide) : Tok t L B q := by
  have g : ∀ k, gi t 52 k = gi s 52 k := fun k => hc.g 52 hM
  unfold Tok
  rw [g 5, g 4, g 6, g 7]
  exact h
theorem Tok.k1 {q : Nat} (h : Tok s L B q) (z : ¬ ltr L B q) : R (gi s 52 4) ∧ gi s 52 4 ≠ 1 := by
  obtain ⟨t5, t1, t2, t3, t4, t6⟩ := h
  by_cases a : L ≤ q
  · rw [(t3 a).1]; exact ⟨R0, by omega⟩
  · by_cases d : dgt L B q
    · rw [(t2 d).1]; exact ⟨by unfold R; omega, by omega⟩
    · by_cases e : B q = 59
      · rw [(t4 (by omega) z d e).1]; exact ⟨by unfold R; omega, by omega⟩
      · rw [(t6 (by omega) z d e).1]; exact ⟨by unfold R; omega, by omega⟩
theorem Tok.k2 {q : Nat} (h : Tok s L B q) (z : ¬ dgt L B q) : R (gi s 52 4) ∧ gi s 52 4 ≠ 2 := by
  obtain ⟨t5, t1, t2, t3, t4, t6⟩ := h
  by_cases a : L ≤ q
  · rw [(t3 a).1]; exact ⟨R0, by omega⟩
  · by_cases d : ltr L B q
    · rw [(t1 d).1]; exact ⟨by unfold R; omega, by omega⟩
    · by_cases e : B q = 59
      · rw [(t4 (by omega) d z e).1]; exact ⟨by unfold R; omega, by omega⟩
      · rw [(t6 (by omega) d z e).1]; exact ⟨by unfold R; omega, by omega⟩
theorem rcA {q : Nat} {t0 : Int} (hT : Tok s L B q) (hq : q ≤ L) (hL : L ≤ 400) (h : ¬ (ltr L B q ∧ rE L B 97 122 q = q + 1)) : Re_readColumn t0 s = some (-1, si (si s 52 8 1) 52 9 (q : Int)) := by
  have e4 : rE L B 97 122 q ≤ L := rE_le hq
  unfold Re_readColumn Re_readColumn_b21
  by_cases z : ltr L B q
  · obtain ⟨k1, k2⟩ := hT.2.1 z
    have hne : rE L B 97 122 q ≠ q + 1 := fun w => h ⟨z, w⟩
    rw [k1, ifEq_t R1 R1 rfl, k2, hT.1, ifEq_f (by unfold R; omega) R1 (by omega)]
    rfl
  · have k := hT.k1 z
    rw [ifEq_f k.1 R1 k.2, hT.1]
    rfl
theorem rcB {q : Nat} {t0 : Int} (hI : InC s L B) (hT : Tok s L B q) (hn : b.n ≤ 9) (hP : CP s 53 b) (hl : ltr L B q) (he : rE L B 97 122 q = q + 1) (hc : ¬ B q - 97 < (b.n : Int)) : Re_readColumn t0 s = some (-1, si (si s 52 8 2) 52 9 (q : Int)) := by
  have h4 := hI.2.1
  obtain ⟨k1, k2⟩ := hT.2.1 hl
  have hb : byt L B q = B q := if_pos hl.1
  have hl' := hl.2
  have hq := hl.1
  unfold Re_readColumn
  rw [k1, ifEq_t R1 R1 rfl, k2, hT.1, he, ifEq_t (by unfold R; omega) R1 (by omega), get_eq hI (by omega), bnd_some, hb, lett_eq, hP.1, ifLt_eq _ _ (by unfold R; omega) (R_nat (by omega)), if_neg hc]
  rfl
theorem rcC {q : Nat} (hI : InC s L B) (hT : Tok s L B q) (hn : b.n ≤ 9) (hP : CP s 53 b) (hl : ltr L B q) (he : rE L B 97 122 q = q + 1) (hc : B q - 97 < (b.n : Int)) : Re_readColumn 1 s = some (-1, si (si s 52 8 4) 52 9 (q : Int)) := by
  have h4 := hI.2.1
  obtain ⟨k1, k2⟩ := hT.2.1 hl
  have hb : byt L B q = B q := if_pos hl.1
  have hl' := hl.2
  have hq := hl.1
  unfold Re_readColumn
  rw [k1, ifEq_t R1 R1 rfl, k2, hT.1, he, ifEq_t (by unfold R; omega) R1 (by omega), get_eq hI (by omega), bnd_some, hb, lett_eq, hP.1, ifLt_eq _ _ (by unfold R; omega) (R_nat (by omega)), if_pos hc, ifEq_f R1 R0 (by omega)]
  rfl
theorem rcD {q : Nat} (hI : InC s L B) (hT : Tok s L B q) (hn : b.n ≤ 9) (hP : CP s 53 b) (hl : ltr L B q) (he : rE L B 97 122 q = q + 1) (hc : B q - 97 < (b.n : Int)) : okP (Re_readColumn 0 s) (fun o => AF s o.2 ∧ Tok o.2 L B (sk L B (q + 1)) ∧ o.1 = B q - 97) := by
  have h4 := hI.2.1
  obtain ⟨k1, k2⟩ := hT.2.1 hl
  have hb : byt L B q = B q := if_pos hl.1
  have hl' := hl.2
  have hq := hl.1
  unfold Re_readColumn
  rw [k1, ifEq_t R1 R1 rfl, k2, hT.1, he, ifEq_t (by unfold R; omega) R1 (by omega), get_eq hI (by omega), bnd_some, hb, lett_eq, hP.1, ifLt_eq _ _ (by unfold R; omega) (R_nat (by omega)), if_pos hc, ifEq_t R0 R0 rfl]
  refine okP_bnd (advance_ok hI (p := q + 1) (by omega) (by rw [k2, he])) ?_
  rintro t - ⟨m1, m2⟩
  exact okP_some ⟨m1, m2, rfl⟩
theorem rrA {r : Nat} (hT : Tok s L B r) (h : ¬ dgt L B r) : Re_readRow s = some (-1, si (si s 52 8 1) 52 9 (r : Int)) := by
  have k := hT.k2 h
  unfold Re_readRow
  rw [ifEq_f k.1 (by unfold R; omega) k.2, hT.1]
  rfl
theorem rrB {r : Nat} (hT : Tok s L B r) (hn : b.n ≤ 9) (hP : CP s 53 b) (h : dgt L B r) (hr : ¬ (1 ≤ num L B r ∧ num L B r ≤ (b.n : Int))) : Re_readRow s = some (-1, si (si s 52 8 2) 52 9 (r : Int)) := by
  obtain ⟨k1, k2, k3⟩ := hT.2.2.1 h
  have hv := num_rg (L := L) (B := B) r
  have hR : R (num L B r) := by unfold R; omega
  unfold Re_readRow Re_readRow_b41
  rw [k1, ifEq_t (by unfold R; omega) (by unfold R; omega) rfl, k3, ifLt_eq _ _ hR R1]
  by_cases z : num L B r < 1
  · rw [if_pos z, hT.1]
    rfl
  · rw [if_neg z, hP.1, ifLt_eq _ _ (R_nat (by omega)) hR, if_pos (by omega), hT.1]
    rfl
theorem rrC {r : Nat} (hI : InC s L B) (hT : Tok s L B r) (hrl : r ≤ L) (hn : b.n ≤ 9) (hP : CP s 53 b) (h : dgt L B r) (hr : 1 ≤ num L B r ∧ num L B r ≤ (b.n : Int)) : okP (Re_readRow s) (fun o => AF s o.2 ∧ Tok o.2 L B (sk L B (rE L B 48 57 r)) ∧ o.1 = num L B r - 1) := by
  obtain ⟨k1, k2, k3⟩ := hT.2.2.1 h
  have hv := num_rg (L := L) (B := B) r
  have hR : R (num L B r) := by unfold R; omega
  unfold Re_readRow
  rw [k1, ifEq_t (by unfold R; omega) (by unfold R; omega) rfl, k3, ifLt_eq _ _ hR R1, if_neg (by omega), hP.1, ifLt_eq _ _ (R_nat (by omega)) hR, if_neg (by omega), lett_eq]
  refine okP_bnd (advance_ok hI (rE_le hrl) k2) ?_
  rintro t - ⟨m1, m2⟩
  exact okP_some ⟨m1, m2, rfl⟩
theorem CP_pst53 (h : CP s 53 b) (c : Nat) (v : Int) : CP (si s 54 c v) 53 (pst b c v) := by
  obtain ⟨p1, p2, p3, p4, p5, p6, p7⟩ := h
  have o : ∀ k, gi (si s 54 c v) 53 k = gi s 53 k := fun k => gi_si_o _ _ _ _ (by omega)
  exact ⟨(o 2).trans p1, (o 3).trans p2, (o 4).trans p3, (o 5).trans p4, (o 6).trans p5, CB.ups (show CB s b.n 54 b.f from p6) c v, fun i hi' => (gi_si_o s (o := 54) (b := 55) c i v (by omega)).trans (p7 i hi')⟩
/-- the class, behind the question whether the game is over -/
theorem b29A {mv side over q3 : Int} {q : Nat} (hT : Tok s L B q) (hq : q ≤ L) (hL : L ≤ 400) (h : ¬ (ltr L B q ∧ rE L B 97 122 q = q + 1)) : okP (Re_readCell_b29 mv side q3 over s) (fun t => CFl s t 1 q) := by
  unfold Re_readCell_b29 Re_readCell_b54
  have f := fl_cr (s := s) 1 q
  rw [rcA hT hq hL h, bnd2_some, f.2.1, ifEq_f R1 R0 (by omega), ifEq_f R1 R0 (by omega)]
  exact okP_some f
theorem b29B {mv side over q3 : Int} {q : Nat} (hI : InC s L B) (hT : Tok s L B q) (hn : b.n ≤ 9) (hP : CP s 53 b) (hl : ltr L B q) (he : rE L B 97 122 q = q + 1) (hc : ¬ B q - 97 < (b.n : Int)) : okP (Re_readCell_b29 mv side q3 over s) (fun t => CFl s t 2 q) := by
  have R2' : R 2 := by unfold R; omega
  unfold Re_readCell_b29 Re_readCell_b54
  have f := fl_cr (s := s) 2 q
  rw [rcB hI hT hn hP hl he hc, bnd2_some, f.2.1, ifEq_f R2' R0 (by omega), ifEq_f R2' R0 (by omega)]
  exact okP_some f
theorem b29C {mv side q3 : Int} {q : Nat} (hI : InC s L B) (hT : Tok s L B q) (hn : b.n ≤ 9) (hP : CP s 53 b) (hl : ltr L B q) (he : rE L B 97 122 q = q + 1) (hc : B q - 97 < (b.n : Int)) : okP (Re_readCell_b29 mv side q3 1 s) (fun t => CFl s t 4 q) := by
  have R4' : R 4 := by unfold R; omega
  unfold Re_readCell_b29 Re_readCell_b54
  have f := fl_cr (s := s) 4 q
  rw [rcC hI hT hn hP hl he hc, bnd2_some, f.2.1, ifEq_f R4' R0 (by omega), ifEq_f R4' R0 (by omega)]
  exact okP_some f
theorem b29D {mv side q3 : Int} {q : Nat} {Q : Sg → Prop} (hI : InC s L B) (hT : Tok s L B q) (hn : b.n ≤ 9) (hP : CP s 53 b) (h8 : gi s 52 8 = 0) (hl : ltr L B q) (he : rE L B 97 122 q = q + 1) (hc : B q - 97 < (b.n : Int)) (k : ∀ t, AF s t → Tok t L B (sk L B (q + 1)) → okP (bnd2 (Re_readRow t) fun y12 s13 => Re_readCell_b54 mv side q3 (B q - 97) y12 s13) Q) : okP (Re_readCell_b29 mv side q3 0 s) Q := by
  unfold Re_readCell_b29
  refine okP_bnd2 (rcD hI hT hn hP hl he hc) ?_
  rintro y t - ⟨m1, m2, m3⟩
  have m1 : AF s t := m1
  have m3 : y = B q - 97 := m3
  have e8 : gi t 52 8 = 0 := (m1.2 8 (by omega)).trans h8
  rw [e8, ifEq_t R0 R0 rfl, m3]
  exact k t m1 m2
end CLS


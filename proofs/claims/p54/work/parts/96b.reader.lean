/-! ===== the text that start builds is read without a fault ===== -/
section POS
variable {L : Nat} {B : Nat → Int} {q p : Nat}
/-- the text has w at q -/
def At (L : Nat) (B : Nat → Int) (q : Nat) (w : List Int) : Prop := q + w.length ≤ L ∧ ∀ i, i < w.length → B (q + i) = w.getD i 0
theorem At.l {u v : List Int} (h : At L B q (u ++ v)) : At L B q u := by
  have e : (u ++ v).length = u.length + v.length := List.length_append
  refine ⟨by have := h.1; omega, fun i hi => ?_⟩
  rw [h.2 i (by omega), List.getD_eq_getElem?_getD, List.getD_eq_getElem?_getD, List.getElem?_append_left hi]
theorem At.r {u v : List Int} (h : At L B q (u ++ v)) : At L B (q + u.length) v := by
  have e : (u ++ v).length = u.length + v.length := List.length_append
  refine ⟨by have := h.1; omega, fun i hi => ?_⟩
  have h2 := h.2 (u.length + i) (by omega)
  rw [show q + u.length + i = q + (u.length + i) by omega, h2, List.getD_eq_getElem?_getD, List.getD_eq_getElem?_getD, List.getElem?_append_right (by omega), show u.length + i - u.length = i by omega]
theorem At.hd {x : Int} {v : List Int} (h : At L B q (x :: v)) : q < L ∧ B q = x := by
  have h1 := h.1
  have h2 := h.2 0 (by simp)
  simp at h1
  exact ⟨by omega, h2⟩
theorem At.tl {x : Int} {v : List Int} (h : At L B q (x :: v)) : At L B (q + 1) v := At.r (u := [x]) h
theorem At.wl {w : Nat} {v : List Int} (h : At L B q (wl_ w ++ v)) : ∀ i, i < wlen w → q + i < L ∧ B (q + i) = wch w i := fun i hi => by
  have h1 := h.l
  have e := wlX_len w
  exact ⟨by have := h1.1; omega, by rw [h1.2 i (by omega), wlX_getD w i hi]⟩
theorem sk_no (h : ¬ (q < L ∧ B q = 32)) : sk L B q = q := rE_u ⟨Nat.le_refl _, fun i h1 h2 => by omega, fun z => h ⟨z.1, by omega⟩⟩
theorem sk_sp (h1 : q < L ∧ B q = 32) (h2 : ¬ (q + 1 < L ∧ B (q + 1) = 32)) : sk L B q = q + 1 := rE_u ⟨by omega, fun i k1 k2 => by
  have e : i = q := by omega
  rw [e]
  omega, fun z => h2 ⟨z.1, by omega⟩⟩
/-- a word stands there, and no letter follows -/
theorem wd_at {w : Nat} (hw : w < 6) (h0 : 0 < wlen w) (h : ∀ i, i < wlen w → q + i < L ∧ B (q + i) = wch w i) (hn : ¬ ltr L B (q + wlen w)) : wd L B w q := by
  have hl := (wlen6 w hw).2.2
  have hlt : ∀ i, i < wlen w → q + i < L ∧ 97 ≤ B (q + i) ∧ B (q + i) ≤ 122 := fun i hi => by
    have := hl i hi
    have h2 := h i hi
    rw [h2.2]
    exact ⟨h2.1, this.2⟩
  refine ⟨hlt 0 h0, rE_u ⟨by omega, fun i k1 k2 => ?_, hn⟩, fun i hi => (h i hi).2⟩
  have := hlt (i - q) (by omega)
  rw [show q + (i - q) = i by omega] at this
  exact this
theorem wd_e {w : Nat} (h : wd L B w q) : rE L B 97 122 q = q + wlen w := h.2.1
theorem num_at (h1 : q < L ∧ 48 ≤ B q ∧ B q ≤ 57) (h2 : ¬ (q + 1 < L ∧ 48 ≤ B (q + 1) ∧ B (q + 1) ≤ 57)) : rE L B 48 57 q = q + 1 ∧ num L B q = B q - 48 := by
  have e : rE L B 48 57 q = q + 1 := rE_u ⟨by omega, fun i k1 k2 => by
    have e : i = q := by omega
    rw [e]
    exact h1, h2⟩
  refine ⟨e, ?_⟩
  unfold num
  rw [e, show q + 1 - q = 0 + 1 by omega]
  show min 1000 (10 * 0 + B (q + 0) - 48) = _
  rw [Nat.add_zero]
  omega
end POS
section RDR
variable {L : Nat} {B : Nat → Int} {s : Sg} {b : Bd} {p : Nat}
/-- one cell of a list -/
theorem cell_go (hb : BdOK b) (hC : Cs s L B b p) {side : Int} {q : Nat} (hq : q < b.n * b.n) (hfq : b.f q = -1) (hp : p + 3 < L) (h0 : B p = 32) (h1 : B (p + 1) = 97 + ((q % b.n : Nat) : Int)) (h2 : B (p + 2) = 48 + (((q / b.n : Nat) : Int) + 1)) (h3 : B (p + 3) = 32 ∨ B (p + 3) = 59) : okP (Re_readCell 0 side s) (fun t => CRf s t ∧ Cs t L B (pst b q side) (p + 3)) := by
  have hn2 := hb.1.1
  have hn9 := hb.1.2
  have h81 := nn_le hn9
  have hdiv : q / b.n < b.n := Nat.div_lt_of_lt_mul hq
  have hmod : q % b.n < b.n := Nat.mod_lt _ (by omega)
  have hdm : b.n * (q / b.n) + q % b.n = q := Nat.div_add_mod q b.n
  generalize hrr : q / b.n = rr at *
  generalize hcl : q % b.n = cl at *
  have esk : sk L B p = p + 1 := sk_sp ⟨by omega, h0⟩ (fun z => by omega)
  have hl : ltr L B (p + 1) := ⟨by omega, by omega, by omega⟩
  have he : rE L B 97 122 (p + 1) = p + 1 + 1 := rE_u ⟨by omega, fun i k1 k2 => by
    have e : i = p + 1 := by omega
    rw [e]
    exact hl, fun z => by
    have e : p + 1 + 1 = p + 2 := by omega
    rw [e] at z
    omega⟩
  have esk2 : sk L B (p + 1 + 1) = p + 2 := by
    rw [show p + 1 + 1 = p + 2 by omega]
    exact sk_no fun z => by omega
  have hd : dgt L B (p + 2) := ⟨by omega, by omega, by omega⟩
  obtain ⟨e48, enum⟩ := num_at (L := L) (B := B) (q := p + 2) hd (fun z => by
    have e : p + 2 + 1 = p + 3 := by omega
    rw [e] at z
    omega)
  have e48 : rE L B 48 57 (p + 2) = p + 3 := e48
  have esk3 : p + 3 ≤ L := by omega
  have a54 : alen 54 = 81 := rfl
  refine readC_free hb hC (Or.inl rfl) fun s' g1 g2 => ?_
  obtain ⟨i1, i2, i3, i4, i5, i6⟩ := g2
  rw [esk] at i3 ⊢
  refine b29D i1 i3 hn9 i6 i4 hl he (by omega) fun t m1 m2 => ?_
  rw [esk2] at m2
  have it := i1.ch m1.1
  have pt : CP t 53 b := i6.ch m1.1
  have rgn : 1 ≤ num L B (p + 2) ∧ num L B (p + 2) ≤ (b.n : Int) := by omega
  refine okP_bnd2 (rrC it m2 (by omega) hn9 pt hd rgn) ?_
  rintro y u - ⟨n1, n2, n3⟩
  have n1 : AF t u := n1
  have n2 : Tok u L B (sk L B (rE L B 48 57 (p + 2))) := n2
  have n3 : y = num L B (p + 2) - 1 := n3
  rw [e48] at n2
  have e8 : gi u 52 8 = 0 := ((n1.2 8 (by omega)).trans (m1.2 8 (by omega))).trans i4
  have gu : GridOK u b.n := (i5.c m1.1).c n1.1
  have pu : CP u 53 b := pt.ch n1.1
  have est : Po_stone 53 ((q : Nat) : Int) u = some (b.f q) := by
    unfold Po_stone
    show bnd (Hx_at 54 ((q : Nat) : Int) u) _ = _
    rw [Hx_at_n (by omega), bnd_some, show gi u 54 q = b.f q from pu.2.2.2.2.2.1 _ hq]
  have epl : Po_place 53 ((q : Nat) : Int) side u = some (si u 54 q side) := by
    unfold Po_place
    show bnd (Hx_set 54 ((q : Nat) : Int) side u) _ = _
    rw [Hx_set_n (by omega), bnd_some]
  have c1 : Ch [54] u (si u 54 q side) := Ch.si (by decide)
  unfold Re_readCell_b54
  rw [e8, ifEq_t R0 R0 rfl, n3, enum, h1, h2, show (48 : Int) + ((rr : Int) + 1) - 48 - 1 = (rr : Int) by omega, show (97 : Int) + (cl : Int) - 97 = (cl : Int) by omega, Gr_cellAt_eq gu.2.2.1 hn9 (R_nat (by omega)) (R_nat (by omega)), bnd_some, cellv_nat (by omega) (by omega), hdm, est, bnd_some, hfq, ifEq_t R_n1 R_n1 rfl, ifEq_t R0 R0 rfl, epl, bnd_some]
  exact okP_some ⟨((g1.cr.tr m1.cr).tr n1.cr).tr c1.cr, (it.ch n1.1).ch c1, esk3, n2.ch c1, (c1.g 52).trans e8, gu.c c1, CP_pst53 pu _ _⟩
/-- a cell's text -/
def clT (z q : Nat) : List Int := [32, 97 + ((q % z : Nat) : Int), 48 + (((q / z : Nat) : Int) + 1)]
def clTs (z : Nat) : List Nat → List Int
  | [] => []
  | q :: t => clT z q ++ clTs z t
theorem clTs_len (z : Nat) : ∀ cs : List Nat, (clTs z cs).length = 3 * cs.length
  | [] => rfl
  | q :: t => by
    show (clT z q ++ clTs z t).length = 3 * (t.length + 1)
    rw [List.length_append, clTs_len z t]
    show 3 + _ = _
    omega
/-- stones of a side on the board -/
def pstL (side : Int) : Bd → List Nat → Bd
  | b, [] => b
  | b, q :: t => pstL side (pst b q side) t
/-- what is held of a board that is being read: what isn't drawn yet is free -/
def GB (z : Nat) (hd : Nat → Int) (b : Bd) : Prop := BdOK b ∧ b.n = z ∧ ∀ q, q < z * z → hd q = 0 → b.f q = -1
/-- a list of cells -/
theorem cells_go {z : Nat} {side : Int} (hs : side = 0 ∨ side = 1) : ∀ (cs : List Nat) (b : Bd) (p : Nat) (s : Sg) (x : Nat), BdOK b → (b.n = z ∧ b.m = 0) → Cs s L B b p → At L B p (clTs z cs ++ [59]) → cs.Nodup → (∀ q, q ∈ cs → q < z * z ∧ b.f q = -1) → (x = 0 → cs ≠ []) → x + cs.length ≤ 81 →
    okP (whl (f58 0 side) ((x : Int), s)) (fun t => CRf s t ∧ ∃ b', BdOK b' ∧ (b'.n = z ∧ b'.m = 0) ∧ (∀ q, q ∉ cs → b'.f q = b.f q) ∧ Cs t L B b' (p + 3 * cs.length))
  | [], b, p, s, x, hb, hn, hC, hA, _, _, hx, h81 => by
    obtain ⟨hL, h59⟩ := At.hd hA
    have esk : sk L B p = p := sk_no fun z => by omega
    obtain ⟨i1, i2, i3, i4, i5, i6⟩ := id hC
    rw [esk] at i3
    have k4 : gi s 52 4 = 3 := (i3.2.2.2.2.1 hL (fun z => by have := z.2; omega) (fun z => by have := z.2; omega) h59).1
    refine whl_inr (f58_end (R_nat (by omega)) (by rw [i4]; exact R0) (Or.inr ⟨i4, fun z => hx (by omega) rfl, by rw [k4]; exact R3, by rw [k4]; omega⟩)) ⟨CRf.rf s, b, hb, hn, fun _ _ => rfl, ?_⟩
    exact hC
  | q :: t, b, p, s, x, hb, hn, hC, hA, hnd, hfr, hx, h81 => by
    have hA : At L B p ((clT z q ++ clTs z t) ++ [59]) := hA
    rw [List.append_assoc] at hA
    have a0 := At.hd (x := 32) hA
    have a1 := At.hd (x := 97 + ((q % z : Nat) : Int)) (At.tl hA)
    have a2 := At.hd (x := 48 + (((q / z : Nat) : Int) + 1)) (At.tl (At.tl hA))
    have hAr : At L B (p + 3) (clTs z t ++ [59]) := At.r (u := clT z q) hA
    have hnx : p + 3 < L ∧ (B (p + 3) = 32 ∨ B (p + 3) = 59) := by
      cases t with
      | nil =>
        obtain ⟨h1, h2⟩ := At.hd (x := 59) hAr
        exact ⟨h1, Or.inr h2⟩
      | cons q' t' =>
        obtain ⟨h1, h2⟩ := At.hd (x := 32) (v := [97 + ((q' % z : Nat) : Int), 48 + (((q' / z : Nat) : Int) + 1)] ++ clTs z t' ++ [59]) hAr
        exact ⟨h1, Or.inl h2⟩
    obtain ⟨hq, hfq⟩ := hfr q (List.mem_cons_self ..)
    have hl81 : x + (t.length + 1) ≤ 81 := h81
    have hq' : q < b.n * b.n := by rw [hn.1]; exact hq
    have esk : sk L B p = p + 1 := sk_sp ⟨a0.1, a0.2⟩ (fun w => by
      have := a1.2
      omega)
    have hg := f58_go (mv := 0) (side := side) (s := s) (x := (x : Int)) (R_nat (by omega)) (by omega) hC.2.2.2.1 (by
      by_cases hx0 : x = 0
      · exact Or.inl (by omega)
      · right
        have i3 := hC.2.2.1
        rw [esk] at i3
        have hmod : q % z < z := Nat.mod_lt _ (by
          have := hb.1.1
          omega)
        have hz9 := hb.1.2
        exact (i3.2.1 ⟨a1.1, by have := a1.2; omega, by have := a1.2; omega⟩).1)
    have hcell := cell_go (side := side) hb hC hq' hfq hnx.1 a0.2 (by rw [hn.1]; exact a1.2) (by rw [hn.1]; exact a2.2) hnx.2
    refine whl_rd ?_
    rw [hg]
    refine okP_bnd hcell ?_
    rintro u - ⟨u1, u2⟩
    refine okP_some (Or.inl ⟨((x : Int) + 1, u), rfl, ?_⟩)
    have hnd2 := List.nodup_cons.mp hnd
    have hb2 : BdOK (pst b q side) := pst_ok hb (Or.inr hs)
    have ih := cells_go hs t (pst b q side) (p + 3) u (x + 1) hb2 hn u2 hAr hnd2.2 (fun q' hq' => by
      have h9 := hfr q' (List.mem_cons_of_mem _ hq')
      refine ⟨h9.1, ?_⟩
      show (if q' = q then side else b.f q') = -1
      have hqq : q' ≠ q := fun e => hnd2.1 (by rw [← e]; exact hq')
      rw [if_neg hqq]
      exact h9.2) (fun w => absurd w (by omega)) (by omega)
    rw [show (((x + 1 : Nat) : Nat) : Int) = (x : Int) + 1 by omega] at ih
    refine okP_mono ih ?_
    rintro v ⟨v1, b', b1, b2, b3, b4⟩
    refine ⟨u1.tr v1, b', b1, b2, fun q' hq' => ?_, ?_⟩
    · have h9 : q' ≠ q ∧ q' ∉ t := ⟨fun e => hq' (e ▸ List.mem_cons_self ..), fun e => hq' (List.mem_cons_of_mem _ e)⟩
      rw [b3 q' h9.2]
      show (if q' = q then side else b.f q') = b.f q'
      rw [if_neg h9.1]
    · rw [show p + 3 * (q :: t).length = p + 3 + 3 * t.length by show p + 3 * (t.length + 1) = _; omega]
      exact b4
/-- behind a semicolon: the next statement -/
theorem stmt_go (hC : Cs s L B b p) (h59 : p < L ∧ B p = 59) {x : Int} (hx : R x) (hx4 : x < 400) {Q : Sg → Prop} (k : ∀ t, Ch [52] s t → Cs t L B b (p + 1) → okP (Re_readStatement t) (fun u => okP (whl f25 (x + 1, u)) Q)) : okP (whl f25 (x, s)) Q := by
  have R400 : R 400 := by unfold R; omega
  have esk : sk L B p = p := sk_no fun z => by omega
  obtain ⟨i1, i2, i3, i4, i5, i6⟩ := id hC
  rw [esk] at i3
  obtain ⟨k4, k6⟩ := i3.2.2.2.2.1 h59.1 (fun z => by have := z.2; omega) (fun z => by have := z.2; omega) h59.2
  have d1 : Ch [52] s (si s 52 10 ((gi s 52 10) + 1)) := Ch.si (by decide)
  have e6 : gi (si s 52 10 ((gi s 52 10) + 1)) 52 6 = ((p + 1 : Nat) : Int) := by rw [gi_si_k _ _ _ (by omega)]; exact k6
  refine whl_rd ?_
  show okP (Re_read_t25 x s) _
  unfold Re_read_t25
  rw [ifLt_eq _ _ hx R400, if_pos hx4, i4, ifEq_t R0 R0 rfl, k4, ifEq_t R3 R3 rfl, lett_eq]
  refine okP_bnd (advance_ok (i1.ch d1) (show p + 1 ≤ L by omega) e6) ?_
  rintro t - ⟨t1, t2⟩
  have ct : Ch [52] s t := d1.tr t1.1
  have hCt : Cs t L B b (p + 1) := ⟨i1.ch ct, by omega, t2, (t1.2 8 (by omega)).trans (by rw [gi_si_k _ _ _ (by omega)]; exact i4), i5.c ct, i6.ch ct⟩
  refine okP_bnd (k t ct hCt) ?_
  rintro u - hu
  exact okP_some (Or.inl ⟨(x + 1, u), rfl, hu⟩)
/-- which statement it is -/
theorem which_go (hC : Cs s L B b p) {y1 y2 y3 : Int} (h1 : y1 = bI (wd L B 2 (sk L B p))) (h2 : y2 = bI (wd L B 3 (sk L B p))) (h3 : y3 = sdw L B (sk L B p)) (hne : ¬ (y1 = 0 ∧ y2 = 0 ∧ y3 = -1)) {Q : Sg → Prop} (k : okP (Re_readStatement_b42 y1 y2 y3 s) Q) : okP (Re_readStatement s) Q := by
  obtain ⟨i1, i2, i3, i4, i5, i6⟩ := hC
  have hq : sk L B p ≤ L := sk_le i2
  have hsd : sdw L B (sk L B p) = -1 ∨ sdw L B (sk L B p) = 0 ∨ sdw L B (sk L B p) = 1 := by
    unfold sdw
    split
    · exact Or.inr (Or.inl rfl)
    · split
      · exact Or.inr (Or.inr rfl)
      · exact Or.inl rfl
  unfold Re_readStatement
  rw [isWord_eq (by omega) i1 i3 hq, bnd_some, isWord_eq (by omega) i1 i3 hq, bnd_some, sideWord_eq i1 i3 hq, bnd_some, ← h1, ← h2, ← h3, ifEq_eq _ _ (by rw [h1]; exact R_bI _) R0, ifEq_eq _ _ (by rw [h2]; exact R_bI _) R0, ifEq_eq _ _ (by rw [h3]; exact R_tri hsd) R_n1]
  by_cases z1 : y1 = 0
  · rw [if_pos z1]
    by_cases z2 : y2 = 0
    · rw [if_pos z2, if_neg (fun z3 => hne ⟨z1, z2, z3⟩)]
      exact k
    · rw [if_neg z2]
      exact k
  · rw [if_neg z1]
    exact k
theorem sdw_4 {q : Nat} (h : wd L B 4 q) : sdw L B q = 0 := if_pos h
theorem sdw_5 {q : Nat} (h : wd L B 5 q) : sdw L B q = 1 := by
  unfold sdw
  rw [if_neg (wd_ne (by omega) (by omega) (by omega) h), if_pos h]
theorem sdw_w {v : Int} {w q : Nat} (hv : (w = 4 ∧ v = 0) ∨ (w = 5 ∧ v = 1)) (h : wd L B w q) : sdw L B q = v := by
  rcases hv with ⟨rfl, rfl⟩ | ⟨rfl, rfl⟩
  · exact sdw_4 h
  · exact sdw_5 h
/-- a side's cells: the statement, the word at p + 1 -/
theorem side_go {z : Nat} {side : Int} {w : Nat} (hv : (w = 4 ∧ side = 0) ∨ (w = 5 ∧ side = 1)) {cs : List Nat} (hb : BdOK b) (hn : b.n = z ∧ b.m = 0) (hC : Cs s L B b p) (hA : At L B p (wl_ w ++ (clTs z cs ++ [59]))) (hne : cs ≠ []) (hnd : cs.Nodup) (hfr : ∀ q, q ∈ cs → q < z * z ∧ b.f q = -1) (h81 : cs.length ≤ 81) : okP (Re_readStatement s) (fun t => CRf s t ∧ ∃ b', BdOK b' ∧ (b'.n = z ∧ b'.m = 0) ∧ (∀ q, q ∉ cs → b'.f q = b.f q) ∧ Cs t L B b' (p + wlen w + 3 * cs.length)) := by
  have hw6 : w < 6 := by omega
  have hw0 : 0 < wlen w := by rcases hv with ⟨rfl, -⟩ | ⟨rfl, -⟩ <;> decide
  have hwc := At.wl hA
  have hAr : At L B (p + wlen w) (clTs z cs ++ [59]) := by
    have h9 := At.r hA
    rw [wlX_len] at h9
    exact h9
  have hsp : p + wlen w < L ∧ B (p + wlen w) = 32 := by
    cases cs with
    | nil => exact absurd rfl hne
    | cons q t =>
      have hA2 : At L B (p + wlen w) ((clT z q ++ clTs z t) ++ [59]) := hAr
      rw [List.append_assoc] at hA2
      exact At.hd (x := 32) hA2
  have hwd : wd L B w p := wd_at hw6 hw0 hwc fun z => by
    have := z.2
    omega
  have hl := hwd.1
  have esk : sk L B p = p := sk_no fun z => by
    have := hl.2
    omega
  have n2 : ¬ wd L B 2 p := wd_ne hw6 (by omega) (by omega) hwd
  have n3 : ¬ wd L B 3 p := wd_ne hw6 (by omega) (by omega) hwd
  have hs : side = 0 ∨ side = 1 := by omega
  refine which_go hC (y1 := 0) (y2 := 0) (y3 := side) (by rw [esk]; exact (bI_f n2).symm) (by rw [esk]; exact (bI_f n3).symm) (by rw [esk]; exact (sdw_w hv hwd).symm) (by omega) ?_
  unfold Re_readStatement_b42
  refine okP_bnd (next_ok hC (w := w) (by rw [esk]; exact hwd)) ?_
  rintro t - ⟨t1, t2⟩
  rw [esk, wd_e hwd] at t2
  rw [ifEq_t R0 R0 rfl]
  unfold Re_readStatement_l58
  refine okP_bnd (P := fun u => CRf t u ∧ ∃ b', BdOK b' ∧ (b'.n = z ∧ b'.m = 0) ∧ (∀ q, q ∉ cs → b'.f q = b.f q) ∧ Cs u L B b' (p + wlen w + 3 * cs.length)) (cells_go hs cs b (p + wlen w) t 0 hb hn t2 hAr hnd hfr (fun _ => hne) (by omega)) ?_
  rintro u - ⟨u1, u2⟩
  exact okP_some ⟨t1.tr u1, u2⟩
/-- whose turn it is: the last statement -/
theorem turn_go {side : Int} {w : Nat} (hv : (w = 4 ∧ side = 0) ∨ (w = 5 ∧ side = 1)) (hb : BdOK b) (hC : Cs s L B b p) (hA : At L B p (wl_ 3 ++ ([32] ++ wl_ w))) (hend : p + wlen 3 + 1 + wlen w = L) : okP (Re_readStatement s) (fun t => CRf s t ∧ BdOK (ptn b side) ∧ ((ptn b side).n = b.n ∧ (ptn b side).m = b.m) ∧ Cs t L B (ptn b side) L) := by
  have hw6 : w < 6 := by omega
  have hw0 : 0 < wlen w := by rcases hv with ⟨rfl, -⟩ | ⟨rfl, -⟩ <;> decide
  have hs : side = 0 ∨ side = 1 := by omega
  have hwc := At.wl hA
  have hAr := At.r hA
  rw [wlX_len] at hAr
  have hsp := At.hd (x := 32) hAr
  have hAw : At L B (p + wlen 3 + 1) (wl_ w ++ []) := by
    rw [List.append_nil]
    exact At.r (u := [32]) hAr
  have hwc2 := At.wl hAw
  have hwd : wd L B 3 p := wd_at (by omega) (by decide) hwc fun z => by
    have := z.2
    omega
  have hwd2 : wd L B w (p + wlen 3 + 1) := wd_at hw6 hw0 hwc2 fun z => by
    have := z.1
    omega
  have esk : sk L B p = p := sk_no fun z => by
    have := hwd.1.2
    omega
  have esk2 : sk L B (p + wlen 3) = p + wlen 3 + 1 := sk_sp hsp fun z => by
    have := hwd2.1.2
    omega
  have n2 : ¬ wd L B 2 p := wd_ne (by omega) (by omega) (by omega) hwd
  have n4 : ¬ wd L B 4 p := wd_ne (by omega) (by omega) (by omega) hwd
  have n5 : ¬ wd L B 5 p := wd_ne (by omega) (by omega) (by omega) hwd
  have esd : sdw L B p = -1 := by
    unfold sdw
    rw [if_neg n4, if_neg n5]
  refine which_go hC (y1 := 0) (y2 := 1) (y3 := -1) (by rw [esk]; exact (bI_f n2).symm) (by rw [esk]; exact (bI_t hwd).symm) (by rw [esk]; exact esd.symm) (by omega) ?_
  unfold Re_readStatement_b42
  refine okP_bnd (next_ok hC (w := 3) (by rw [esk]; exact hwd)) ?_
  rintro t - ⟨t1, t2⟩
  rw [esk, wd_e hwd] at t2
  rw [ifEq_f R1 R0 (by omega)]
  obtain ⟨i1, i2, i3, i4, i5, i6⟩ := id t2
  have c1 : Ch [53] t (si t 53 5 side) := Ch.si (by decide)
  have hC1 : Cs (si t 53 5 side) L B (ptn b side) (p + wlen 3) := ⟨i1.ch c1, i2, i3.ch c1, (c1.g 52).trans i4, i5.c c1, CP_ptn53 i6 side⟩
  unfold Re_readTurn
  rw [sideWord_eq i1 i3 (sk_le i2), bnd_some, esk2, sdw_w hv hwd2, ifEq_f (R_01 hs) R_n1 (by omega), lett_eq]
  have hnx := next_ok hC1 (w := w) (by rw [esk2]; exact hwd2)
  refine okP_bnd (P := fun u => CRf t u ∧ Cs u L B (ptn b side) L) ?_ ?_
  · refine okP_bnd hnx ?_
    rintro u - ⟨u1, u2⟩
    rw [esk2, wd_e hwd2, hend] at u2
    exact okP_some ⟨c1.cr.tr u1, u2⟩
  · rintro u - ⟨u1, u2⟩
    exact okP_some ⟨t1.tr u1, ptn_ok hb hs, ⟨rfl, rfl⟩, u2⟩
end RDR

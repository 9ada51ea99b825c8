/-! ===== the whole text is read; the load ===== -/
section RDA
variable {L : Nat} {B : Nat → Int} {s : Sg} {b : Bd} {p : Nat}
/-- a side's statement, if it has stones -/
theorem side_st {z sd : Nat} (hsd : sd = 0 ∨ sd = 1) {cs : List Nat} {rest : List Int} {x : Nat} (hx : x < 300) (hb : BdOK b) (hn : b.n = z ∧ b.m = 0) (hC : Cs s L B b p) (hA : At L B p (stS z sd cs ++ (59 :: rest))) (hpL : p + (stS z sd cs ++ (59 :: rest)).length = L) (hnd : cs.Nodup) (hfr : ∀ q, q ∈ cs → q < z * z ∧ b.f q = -1) (h81 : cs.length ≤ 81) {Q : Sg → Prop}
    (k : ∀ t b' p' x', Ch Crl s t → BdOK b' → (b'.n = z ∧ b'.m = 0) → (∀ q, q ∉ cs → b'.f q = b.f q) → Cs t L B b' p' → At L B p' (59 :: rest) → p' + (59 :: rest).length = L → x' ≤ x + 1 → okP (whl f25 (((x' : Nat) : Int), t)) Q) : okP (whl f25 (((x : Nat) : Int), s)) Q := by
  by_cases hcs : cs = []
  · have e : stS z sd cs = [] := if_pos hcs
    rw [e] at hA hpL
    exact k s b p x (Ch.rf _ _) hb hn (fun _ _ => rfl) hC hA hpL (by omega)
  · have e : stS z sd cs = stW sd ++ clTs z cs := if_neg hcs
    rw [e] at hA hpL
    obtain ⟨w, side, hv, hs, ew⟩ : ∃ (w : Nat) (side : Int), ((w = 4 ∧ side = 0) ∨ (w = 5 ∧ side = 1)) ∧ (side = 0 ∨ side = 1) ∧ stW sd = 59 :: wl_ w := by
      rcases hsd with rfl | rfl
      · exact ⟨4, 0, Or.inl ⟨rfl, rfl⟩, Or.inl rfl, by decide⟩
      · exact ⟨5, 1, Or.inr ⟨rfl, rfl⟩, Or.inr rfl, by decide⟩
    rw [ew] at hA hpL
    have hA2 : At L B p (59 :: (wl_ w ++ ((clTs z cs ++ [59]) ++ rest))) := by
      have e2 : 59 :: wl_ w ++ clTs z cs ++ 59 :: rest = 59 :: (wl_ w ++ ((clTs z cs ++ [59]) ++ rest)) := by simp
      rw [e2] at hA
      exact hA
    refine stmt_go hC (At.hd hA2) (R_nat (by omega)) (by omega) fun t t1 t2 => ?_
    have hA3 : At L B (p + 1) ((wl_ w ++ (clTs z cs ++ [59])) ++ rest) := by
      rw [List.append_assoc]
      exact At.tl hA2
    refine okP_mono (side_go (w := w) (side := side) (z := z) (cs := cs) hv hb hn t2 (At.l hA3) hcs hnd hfr h81) ?_
    rintro u ⟨u1, b', b1, b2, b3, b4⟩
    have hA4 : At L B (p + 1 + wlen w + 3 * cs.length) (59 :: rest) := by
      have h9 : At L B (p + 1) (wl_ w ++ (clTs z cs ++ (59 :: rest))) := by
        have e3 : wl_ w ++ (clTs z cs ++ [59]) ++ rest = wl_ w ++ (clTs z cs ++ (59 :: rest)) := by simp
        rw [e3] at hA3
        exact hA3
      have h8 := At.r h9
      rw [wlX_len] at h8
      have h7 := At.r h8
      rw [clTs_len] at h7
      exact h7
    have hlen : p + 1 + wlen w + 3 * cs.length + (59 :: rest).length = L := by
      rw [List.length_append, List.length_append, List.length_cons, wlX_len, clTs_len] at hpL
      omega
    rw [show ((x : Nat) : Int) + 1 = ((x + 1 : Nat) : Int) by omega]
    exact k u b' _ (x + 1) ((t1.mo (by decide)).tr u1.1) b1 b2 b3 b4 hA4 hlen (Nat.le_refl _)
/-- the last statement -/
theorem turn_st {x : Nat} (hx : x < 300) {w : Nat} (hw : w = 4 ∨ w = 5) (hb : BdOK b) (hC : Cs s L B b p) (hA : At L B p (59 :: (wl_ 3 ++ ([32] ++ wl_ w)))) (hpL : p + (59 :: (wl_ 3 ++ ([32] ++ wl_ w))).length = L) : okP (whl f25 (((x : Nat) : Int), s)) (fun u => Ch Crl s u ∧ ∃ b', BdOK b' ∧ (b'.n = b.n ∧ b'.m = b.m) ∧ Cs u L B b' L) := by
  have hv : ∃ side : Int, (w = 4 ∧ side = 0) ∨ (w = 5 ∧ side = 1) := by
    rcases hw with e | e
    · exact ⟨0, Or.inl ⟨e, rfl⟩⟩
    · exact ⟨1, Or.inr ⟨e, rfl⟩⟩
  obtain ⟨side, hv⟩ := hv
  have hend : p + 1 + wlen 3 + 1 + wlen w = L := by
    rw [List.length_cons, List.length_append, List.length_append, wlX_len, wlX_len] at hpL
    have : ([32] : List Int).length = 1 := rfl
    omega
  refine stmt_go hC (At.hd hA) (R_nat (by omega)) (by omega) fun t t1 t2 => ?_
  refine okP_mono (turn_go hv hb t2 (At.tl hA) hend) ?_
  rintro u ⟨u1, u2, u3, u4⟩
  obtain ⟨i1, i2, i3, i4, i5, i6⟩ := id u4
  have esk : sk L B L = L := sk_no fun z => by omega
  rw [esk] at i3
  have hk := (i3.2.2.2.1 (Nat.le_refl _)).1
  exact whl_inr (f25_end (by unfold R; omega) (by rw [i4]; exact R0) (by rw [hk]; exact R0) (Or.inr (by rw [hk]; omega))) ⟨(t1.mo (by decide)).tr u1.1, _, u2, u3, u4⟩
theorem end_ok (hC : Cs s L B b L) : Re_read_b71 s = some (1, s) := by
  obtain ⟨i1, i2, i3, i4, i5, i6⟩ := hC
  have esk : sk L B L = L := sk_no fun z => by omega
  rw [esk] at i3
  have hk := (i3.2.2.2.1 (Nat.le_refl _)).1
  unfold Re_read_b71 Re_read_b94
  rw [i4, ifEq_t R0 R0 rfl, hk, ifEq_t R0 R0 rfl, ifEq_t R0 R0 rfl]
/-- the board's statement -/
theorem board_go {n p2 p3 : Nat} (hn : 2 ≤ n ∧ n ≤ 9) (z0 : wd L B 0 (sk L B 0)) (dg : dgt L B (sk L B (rE L B 97 122 (sk L B 0)))) (en : num L B (sk L B (rE L B 97 122 (sk L B 0))) = (n : Int)) (hp2' : rE L B 48 57 (sk L B (rE L B 97 122 (sk L B 0))) = p2) (hp2 : p2 ≤ L) (hw : (wd L B 1 (sk L B p2) ∧ rE L B 97 122 (sk L B p2) = p3 ∧ p3 ≤ L) ∨ (¬ wd L B 1 (sk L B p2) ∧ sk L B p2 = p3))
    (hI : InC s L B) (hS : Stat s) {n0 : Nat} (hg : GridOK s n0) {Q : Int × Sg → Prop} (k : ∀ t b, Ch Crg s t → BdOK b → (b.n = n ∧ b.m = 0) → (∀ q, b.f q = -1) → Cs t L B b p3 → okP (Re_read_l25 0 t) Q) : okP (Re_read s) Q := by
  have hq : sk L B 0 ≤ L := sk_le (Nat.zero_le _)
  have hp1 : rE L B 97 122 (sk L B 0) ≤ L := rE_le hq
  have R9' : R 9 := by unfold R; omega
  have R2' : R 2 := by unfold R; omega
  have hu : sk L B p2 ≤ L := sk_le hp2
  have d1 : Ch [52] s (si (si (si s 52 8 0) 52 10 0) 52 6 0) := ((Ch.si (by decide)).tr (Ch.si (by decide))).tr (Ch.si (by decide))
  unfold Re_read
  rw [lett_eq, lett_eq, lett_eq]
  refine okP_bnd (advance_ok (p := 0) (hI.ch d1) (Nat.zero_le _) (gi_si_s _ _ _ _)) ?_
  rintro t - ⟨t1, t2⟩
  have d2 := d1.tr t1.1
  have a1 : InC t L B := hI.ch d2
  have a2 : Stat t := hS.ch d2 (by decide)
  have a3 : GridOK t n0 := hg.c d2
  have a4 : gi t 52 8 = 0 := (t1.2 8 (by omega)).trans (by rw [gi_si_k _ _ _ (by omega), gi_si_k _ _ _ (by omega)]; exact gi_si_s _ _ _ _)
  have hb0 : okP (Re_readBoard t) (fun u => ∃ b, Ch Crg s u ∧ BdOK b ∧ (b.n = n ∧ b.m = 0) ∧ (∀ q, b.f q = -1) ∧ Cs u L B b p3) := by
    obtain ⟨u, eu, u1, u2⟩ := advance_ok a1 hp1 (t2.2.1 z0.1).2
    have cu : Ch [52] s u := d2.tr u1.1
    have b1 : InC u L B := a1.ch u1.1
    have b2 : Stat u := a2.ch u1.1 (by decide)
    have b3 : GridOK u n0 := a3.c u1.1
    have b4 : gi u 52 8 = 0 := (u1.2 8 (by omega)).trans a4
    obtain ⟨k4, k6, k7⟩ := u2.2.2.1 dg
    obtain ⟨v, ev, v1, v2⟩ := begin_ok (p := 53) (s := u) (Or.inr rfl) hn
    have v1 : Ch [53, 54] u v := v1
    have e13 : gi v 1 3 = (n0 : Int) := (v1.g 1).trans b3.2.2.1
    obtain ⟨w, ew, w1, w2⟩ := fit_ok hn (b2.ch v1 (by decide)) (fun e => by
      have : n0 = n := by omega
      rw [← this]
      exact b3.c v1) (by rw [e13]; exact R_nat (by have := b3.2.1; omega))
    have i2 := (b1.ch v1).ch w1
    have h6 : gi w 52 6 = ((p2 : Nat) : Int) := by rw [w1.g 52, v1.g 52, k6, hp2']
    obtain ⟨x, ex, x1, x2⟩ := advance_ok i2 hp2 h6
    have hc : Ch Crg s x := (((cu.mo (by decide)).tr (v1.mo (by decide))).tr (w1.mo (by decide))).tr (x1.1.mo (by decide))
    have hCx : Cs x L B (bgn n) p2 := ⟨i2.ch x1.1, hp2, x2, by rw [x1.2 8 (by omega), w1.g 52, v1.g 52]; exact b4, w2.c x1.1, (v2.ch w1).ch x1.1⟩
    have hnR : R ((n : Nat) : Int) := R_nat (by omega)
    have fin : okP (bnd (Re_isWord 1 x) fun y12 => ifEq y12 0 (some x) (lett (si x 53 3 1) fun s13 => bnd (Re_advance s13) fun s15 => some s15)) (fun u => ∃ b, Ch Crg s u ∧ BdOK b ∧ (b.n = n ∧ b.m = 0) ∧ (∀ q, b.f q = -1) ∧ Cs u L B b p3) := by
      rcases hw with ⟨zw, e3, hp3⟩ | ⟨zw, e3⟩
      · obtain ⟨i1, i2', i3, i4, i5, i6⟩ := hCx
        have d1 : Ch [53] x (si x 53 3 1) := Ch.si (by decide)
        obtain ⟨p1, p2', p3', p4, p5, p6, p7⟩ := i6
        have o : ∀ k, k ≠ 3 → gi (si x 53 3 1) 53 k = gi x 53 k := fun k hk => gi_si_k _ _ _ hk
        have hP : CP (si x 53 3 1) 53 (bsw n) := ⟨(o 2 (by omega)).trans p1, gi_si_s _ _ _ _, (o 4 (by omega)).trans p3', (o 5 (by omega)).trans p4, (o 6 (by omega)).trans p5, fun c hc => (gi_si_o x (o := 53) (b := 54) 3 c 1 (by omega)).trans (p6 c hc), fun i hi' => absurd hi' (Nat.not_lt_zero i)⟩
        have h6 : gi (si x 53 3 1) 52 6 = ((p3 : Nat) : Int) := by rw [d1.g 52, (i3.2.1 zw.1).2, e3]
        obtain ⟨y, ey, y1, y2⟩ := advance_ok (i1.ch d1) hp3 h6
        have hCy : Cs y L B (bsw n) p3 := ⟨(i1.ch d1).ch y1.1, hp3, y2, by rw [y1.2 8 (by omega), d1.g 52]; exact i4, (i5.c d1).c y1.1, hP.ch y1.1⟩
        rw [isWord_eq (by omega) i1 i3 hu, bnd_some, bI_t zw, ifEq_f R1 R0 (by omega), lett_eq, ey, bnd_some]
        exact okP_some ⟨bsw n, (hc.tr (d1.mo (by decide))).tr (y1.1.mo (by decide)), bsw_ok hn, ⟨rfl, rfl⟩, fun _ => rfl, hCy⟩
      · rw [isWord_eq (by omega) hCx.1 hCx.2.2.1 hu, bnd_some, bI_f zw, ifEq_t R0 R0 rfl]
        refine okP_some ⟨bgn n, hc, bgn_ok hn, ⟨rfl, rfl⟩, fun _ => rfl, ?_⟩
        rw [← e3]
        exact hCx.sk
    unfold Re_readBoard
    rw [isWord_eq (by omega) a1 t2 hq, bnd_some, bI_t z0, ifEq_f R1 R0 (by omega), eu, bnd_some, k4, ifEq_t R2' R2' rfl, k7, en, ifLt_eq _ _ hnR R2', if_neg (by omega), ifLt_eq _ _ R9' hnR, if_neg (by omega)]
    rw [show Po_begin 53 ((n : Nat) : Int) u = some v from ev, bnd_some, show gi v 52 7 = (n : Int) from by rw [v1.g 52, k7, en]]
    rw [show Gr_fit ((n : Nat) : Int) v = some w from ew, bnd_some, ex, bnd_some]
    exact fin
  refine okP_bnd hb0 ?_
  rintro u - ⟨b, u1, u2, u3, u4, u5⟩
  exact k u b u1 u2 u3 u4 u5
/-- the text of start is read -/
theorem read_ok {c : Int → Int} {z : Nat} (hz : 2 ≤ z ∧ z ≤ 6) {B : Nat → Int} {L : Nat} (hL : L = (txE c z).length) (hB : B = fun i => (txE c z).getD i 0) (hI : InC s L B) (hS : Stat s) {n0 : Nat} (hg : GridOK s n0) : okP (Re_read s) (fun o => ∃ b', BdOK b' ∧ b'.m = 0 ∧ CG2 s o b') := by
  obtain ⟨cs0, cs1, ⟨l0, l1⟩, ⟨nd0, nd1⟩, q0, q1, e⟩ := txE_sp c (z := z) (by omega)
  obtain ⟨wt, hwt, ewt⟩ : ∃ w : Nat, (w = 4 ∨ w = 5) ∧ wl_ (if c 21 % 2 = 0 then 25 else 26) = 59 :: (wl_ 3 ++ ([32] ++ wl_ w)) := by
    split
    · exact ⟨4, Or.inl rfl, by decide⟩
    · exact ⟨5, Or.inr rfl, by decide⟩
  rw [ewt] at e
  have hA0 : At L B 0 (txE c z) := ⟨by omega, fun i hi => by rw [hB, Nat.zero_add]⟩
  have hlen : 0 + (txE c z).length = L := by omega
  generalize txE c z = E at *
  subst e
  have hT : ∃ r0, stS z 0 cs0 ++ (stS z 1 cs1 ++ 59 :: (wl_ 3 ++ ([32] ++ wl_ wt))) = 59 :: r0 := by
    unfold stS
    split
    · split
      · exact ⟨_, rfl⟩
      · exact ⟨wl_ 5 ++ clTs z cs1 ++ 59 :: (wl_ 3 ++ ([32] ++ wl_ wt)), by
          rw [show stW 1 = 59 :: wl_ 5 by decide]
          simp⟩
    · refine ⟨wl_ 4 ++ clTs z cs0 ++ ((if cs1 = [] then [] else stW 1 ++ clTs z cs1) ++ 59 :: (wl_ 3 ++ ([32] ++ wl_ wt))), ?_⟩
      rw [show stW 0 = 59 :: wl_ 4 by decide]
      simp
  -- the board's statement, as it stands there
  have hAr : At L B (tx0 c z).length (stS z 0 cs0 ++ (stS z 1 cs1 ++ 59 :: (wl_ 3 ++ ([32] ++ wl_ wt)))) := by
    have h9 := At.r hA0
    rw [Nat.zero_add] at h9
    exact h9
  have h59 : (tx0 c z).length < L ∧ B (tx0 c z).length = 59 := by
    obtain ⟨r0, er⟩ := hT
    rw [er] at hAr
    exact At.hd hAr
  have hAl := At.l hA0
  have hlr : (tx0 c z).length + (stS z 0 cs0 ++ (stS z 1 cs1 ++ 59 :: (wl_ 3 ++ ([32] ++ wl_ wt)))).length = L := by
    rw [List.length_append] at hlen
    omega
  have e20 : wl_ 20 = wl_ 0 ++ [32] := by decide
  have hw0 : wlen 0 = 5 := by decide
  have h20 : (wl_ 20).length = 6 := by decide
  unfold tx0 at hAl
  have g1 : At L B 0 (wl_ 0 ++ [32]) := by
    rw [← e20]
    exact At.l (At.l hAl)
  have g2 := At.hd (x := 32) (v := []) (by
    have h9 := At.r g1
    rw [wlX_len, hw0] at h9
    exact h9)
  have g2 : 5 < L ∧ B 5 = 32 := g2
  have g3 : 6 < L ∧ B 6 = 48 + (z : Int) := by
    have h9 := At.r (At.l hAl)
    rw [h20] at h9
    exact At.hd (v := []) h9
  have g4 : At L B 7 (wl_ (if c 1 % 2 = 0 then 21 else 22)) := by
    have h9 := At.r hAl
    rw [List.length_append, h20] at h9
    exact h9
  have hwd0 : wd L B 0 0 := wd_at (by omega) (by decide) (At.wl (v := [32]) g1) fun w => by
    have h9 := w.2
    have h8 : B (0 + wlen 0) = 32 := by rw [hw0]; exact g2.2
    omega
  have esk0 : sk L B 0 = 0 := sk_no fun w => by
    have := hwd0.1.2
    omega
  have e5 : rE L B 97 122 0 = 5 := by rw [wd_e hwd0, hw0]
  have esk5 : sk L B 5 = 6 := sk_sp g2 fun w => by
    have h9 : B 6 = 32 := w.2
    omega
  have hdg : dgt L B 6 := ⟨g3.1, by omega, by omega⟩
  have hlen0 : (tx0 c z).length = 7 + wlen (if c 1 % 2 = 0 then 21 else 22) := by
    unfold tx0
    rw [List.length_append, List.length_append, h20, wlX_len]
    rfl
  have key : ∀ {Q : Int × Sg → Prop}, (∀ t b, Ch Crg s t → BdOK b → (b.n = z ∧ b.m = 0) → (∀ q, b.f q = -1) → Cs t L B b (tx0 c z).length → okP (Re_read_l25 0 t) Q) → okP (Re_read s) Q := by
    intro Q k
    by_cases hc1 : c 1 % 2 = 0
    · rw [if_pos hc1] at g4 hlen0
      have w21 : wlen 21 = 5 := by decide
      have w1 : wlen 1 = 4 := by decide
      have e21 : wl_ 21 = 32 :: (wl_ 1 ++ []) := by decide
      rw [e21] at g4
      have g5 := At.hd g4
      have g6 := At.wl (At.tl g4)
      rw [w21] at hlen0
      have hwd1 : wd L B 1 8 := wd_at (by omega) (by decide) g6 fun w => by
        have h9 := w.2
        rw [w1, show 8 + 4 = (tx0 c z).length by omega, h59.2] at h9
        omega
      have n6 := num_at (L := L) (B := B) (q := 6) hdg fun w => by
        have h9 : 48 ≤ B 7 ∧ B 7 ≤ 57 := w.2
        have := g5.2
        omega
      have esk7 : sk L B 7 = 8 := sk_sp g5 fun w => by
        have h9 : B 8 = 32 := w.2
        have := hwd1.1.2
        omega
      refine board_go (n := z) (p2 := 7) (p3 := (tx0 c z).length) (by omega) (by rw [esk0]; exact hwd0) (by rw [esk0, e5, esk5]; exact hdg) (by rw [esk0, e5, esk5, n6.2]; omega) (by rw [esk0, e5, esk5]; exact n6.1) (by omega) (Or.inl ⟨by rw [esk7]; exact hwd1, by rw [esk7, wd_e hwd1, w1]; omega, by omega⟩) hI hS hg k
    · rw [if_neg hc1] at g4 hlen0
      have w22 : wlen 22 = 0 := by decide
      rw [w22] at hlen0
      have h7 : (tx0 c z).length = 7 := by omega
      have b7 : 7 < L ∧ B 7 = 59 := by
        rw [h7] at h59
        exact h59
      have n6 := num_at (L := L) (B := B) (q := 6) hdg fun w => by
        have h9 : 48 ≤ B 7 ∧ B 7 ≤ 57 := w.2
        omega
      have esk7 : sk L B 7 = 7 := sk_no fun w => by omega
      refine board_go (n := z) (p2 := 7) (p3 := (tx0 c z).length) (by omega) (by rw [esk0]; exact hwd0) (by rw [esk0, e5, esk5]; exact hdg) (by rw [esk0, e5, esk5, n6.2]; omega) (by rw [esk0, e5, esk5]; exact n6.1) (by omega) (Or.inr ⟨fun w => by
        rw [esk7] at w
        have := w.1.2
        omega, by rw [esk7, h7]⟩) hI hS hg k
  obtain ⟨r1, er⟩ : ∃ r1, stS z 1 cs1 ++ 59 :: (wl_ 3 ++ ([32] ++ wl_ wt)) = 59 :: r1 := by
    unfold stS
    split
    · exact ⟨_, rfl⟩
    · exact ⟨wl_ 5 ++ clTs z cs1 ++ 59 :: (wl_ 3 ++ ([32] ++ wl_ wt)), by
        rw [show stW 1 = 59 :: wl_ 5 by decide]
        simp⟩
  rw [er] at hAr hlr
  refine key fun t b t1 t2 t3 t4 t5 => ?_
  unfold Re_read_l25
  refine okP_bnd (P := fun u => Ch Crl t u ∧ ∃ b', BdOK b' ∧ (b'.n = z ∧ b'.m = 0) ∧ Cs u L B b' L) ?_ ?_
  · show okP (whl f25 (((0 : Nat) : Int), t)) _
    refine side_st (sd := 0) (Or.inl rfl) (by omega) t2 t3 t5 hAr hlr nd0 (fun q hq => ⟨q0 q hq, t4 q⟩) (by omega) ?_
    intro t' b' p' x' c1 c2 c3 c4 c5 c6 c7 c8
    rw [← er] at c6 c7
    refine side_st (sd := 1) (Or.inr rfl) (by omega) c2 c3 c5 c6 c7 nd1 (fun q hq => ⟨(q1 q hq).1, (c4 q (q1 q hq).2).trans (t4 q)⟩) (by omega) ?_
    intro t'' b'' p'' x'' d1 d2 d3 d4 d5 d6 d7 d8
    refine okP_mono (turn_st (x := x'') (by omega) hwt d2 d5 d6 d7) ?_
    rintro v ⟨v1, b3, v2, v3, v4⟩
    exact ⟨(c1.tr d1).tr v1, b3, v2, ⟨v3.1.trans d3.1, v3.2.trans d3.2⟩, v4⟩
  · rintro u - ⟨u1, b', b1, b2, b3⟩
    rw [end_ok b3]
    obtain ⟨i1, i2, i3, i4, i5, i6⟩ := b3
    exact okP_some ⟨b', b1, b2.2, rfl, t1.tr (u1.mo (by decide)), i4, i6, i5⟩
end RDA
section LDA
variable {X : Xs} {s s0 : Sg}
/-- the load of a text that start builds -/
theorem load_ok (hX : XsOK X) (hC : CI X s) {c : Int → Int} {z : Nat} (hz : 2 ≤ z ∧ z ≤ 6) (hI : InC s (txE c z).length (fun i => (txE c z).getD i 0)) : okP (Hx_load s) (fun o => ∃ Y, XsOK Y ∧ Y.h ≤ 8 ∧ Xm Y 0 ∧ CI Y o.2 ∧ CF s o.2 ∧ 0 ≤ o.1 ∧ R o.1) := by
  unfold Hx_load
  refine okP_bnd2 (read_ok hz rfl rfl hI hC.1.2.1 hC.G) ?_
  rintro y t - ⟨b', hb', hm0, k1, k2, k3, k4, k5⟩
  have k1 : y = 1 := k1
  have k2 : Ch Crg s t := k2
  have k3 : gi t 52 8 = 0 := k3
  have k4 : CP t 53 b' := k4
  have k5 : GridOK t b'.n := k5
  have hb1 := hb'.1.1
  have hb9 := hb'.1.2
  have d1 : Ch [48] t (si t 48 1 0) := Ch.si (by decide)
  have hSt : Stat (si t 48 1 0) := (hC.1.2.1.ch k2 (by decide)).ch d1 (by decide)
  obtain ⟨u, eu, u1, u2⟩ := Po_copy_ok (p := 10) (q := 53) hb' (k4.ch d1) (by omega) (by omega)
  have u1 : Ch [10, 11, 12] (si t 48 1 0) u := u1
  have g5 : GridOK u b'.n := (k5.c d1).c u1
  obtain ⟨v, ev, v1, v2⟩ := fit_ok hb'.1 (hSt.ch u1 (by decide)) (fun _ => g5) (by rw [g5.2.2.1]; exact R_nat (by omega))
  have c0 : Ch [1, 2, 3, 4, 5, 6, 7, 8, 9, 48, 52, 53, 54, 55, 10, 11, 12] s v := (((k2.mo (by decide)).tr (d1.mo (by decide))).tr (u1.mo (by decide))).tr (v1.mo (by decide))
  obtain ⟨e16, hH⟩ := clearC (hC.2.1.ch c0 (by decide) (by decide))
  have l1 : Ch [16] v (si v 16 2 0) := Ch.si (by decide)
  have hc : Ch [1, 2, 3, 4, 5, 6, 7, 8, 9, 48, 52, 53, 54, 55, 10, 11, 12, 16] s (si v 16 2 0) := (c0.mo (by decide)).tr (l1.mo (by decide))
  have hP : CP (si v 16 2 0) 10 b' := (u2.ch v1).ch l1
  have hcf : CF s (si v 16 2 0) := hc.cf
  rw [show By_clear 48 t = some (si t 48 1 0) from rfl, bnd_some, k1, ifEq_f R1 R0 (by omega), eu, bnd_some, u2.1, ev, bnd_some, e16, bnd_some]
  refine okP_some ⟨X.wl b' 0 0 (-1), hX.wl hb' (fun i hi' => absurd hi' (Nat.not_lt_zero i)) (by omega) (by omega), Nat.zero_le 8, ⟨Nat.le_of_eq hm0, fun i hi' => absurd hi' (Nat.not_lt_zero i)⟩, hC.wl hc ⟨v2.c l1, ((hSt.ch u1 (by decide)).ch v1 (by decide)).ch l1 (by decide), hP⟩ hH ?_ ?_ (fun _ => rfl) (fun w => absurd rfl w), hcf, ?_, ?_⟩
  · show gi (si v 16 2 0) 48 1 = 0
    rw [l1.g 48, v1.g 48, u1.g 48]; exact gi_si_s _ _ _ _
  · show gi (si v 16 2 0) 52 8 = 0
    rw [l1.g 52, v1.g 52, u1.g 52, d1.g 52]; exact k3
  · show 0 ≤ gi (si v 16 2 0) 10 2
    rw [hP.1]; omega
  · show R (gi (si v 16 2 0) 10 2)
    rw [hP.1]; exact R_nat (by omega)
/-- from the start's state: the text, appended and loaded -/
theorem loads_ok {c : Int → Int} {z a n : Nat} (hz : 2 ≤ z ∧ z ≤ 6) (ha : 80 ≤ a) (hC0 : CI X0 s0) (hn : n ≤ 2) (hf : FrX n s0 s) (hT : Txt s a (txE c z)) : okP (La_load a (txE c z) s) (fun o => ∃ Y, XsOK Y ∧ Y.h ≤ 8 ∧ Xm Y 0 ∧ CI Y o.2 ∧ CF s o.2 ∧ 0 ≤ o.1 ∧ R o.1) := by
  obtain ⟨hlen, hr⟩ := txE_ok c hz
  have hC : CI X0 s := by
    refine CI.eq (s := (s.1, s0.2)) (hC0.mf ⟨fun o k ho => ?_, fun _ _ _ => rfl, rfl⟩) rfl
    exact congrFun (hf o (by omega)).1 k
  have hi0 : gi s 48 1 = ((0 : Nat) : Int) := hC.2.2.2.1.1
  have hl := ldw_ok ha (by omega) hr (txE c z) 0 0 s rfl (Nat.le_refl _) (Nat.zero_le _) (fun _ => rfl) (fun _ => rfl) hT hi0 (fun i hi => absurd hi (Nat.not_lt_zero i))
  have hl : okP (La_ldw a (txE c z) (txE c z) 0 0 s) _ := hl
  unfold La_load
  refine okP_bnd hl ?_
  rintro t - ⟨t1, t2, t3⟩
  have f1 : CF s t := t1.cf
  have hX1 : XsOK (X0.wi (txE c z).length (fun i => (txE c z).getD i 0)) := X0_ok.wi (by omega) fun i hi => by
    have := hr i hi
    omega
  have hC1 : CI (X0.wi (txE c z).length (fun i => (txE c z).getD i 0)) t := hC.inp t1 t2 t3
  refine okP_mono (load_ok hX1 hC1 hz ⟨t2, by omega, t3, fun i hi => by
    have := hr i hi
    show 1 ≤ (txE c z).getD i 0 ∧ (txE c z).getD i 0 ≤ 255
    omega⟩) ?_
  rintro o ⟨Y, y1, y2, ym, y3, y4, y5⟩
  exact ⟨Y, y1, y2, ym, y3, f1.tr y4, y5⟩
end LDA

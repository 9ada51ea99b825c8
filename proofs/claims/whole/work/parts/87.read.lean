/-! ===== both read a text alike ===== -/
def bsw (n : Nat) : Bd := Bd.mk n (fun _ => -1) 1 0 (-1) 0 (fun _ => 0)
section RD
variable {L : Nat} {B : Nat → Int} {s : Sg}
abbrev Crg : List Nat := [1, 2, 3, 4, 5, 6, 7, 8, 9, 52, 53, 54, 55]
def CE2 (s : Sg) (o : Int × Sg) (e : Int) (pl st : Nat) : Prop := o.1 = 0 ∧ Ch Crg s o.2 ∧ gi o.2 52 8 = e ∧ gi o.2 52 9 = (pl : Int) ∧ gi o.2 52 10 = (st : Int) ∧ ∃ n, GridOK o.2 n
def CG2 (s : Sg) (o : Int × Sg) (b : Bd) : Prop := o.1 = 1 ∧ Ch Crg s o.2 ∧ gi o.2 52 8 = 0 ∧ CP o.2 53 b ∧ GridOK o.2 b.n
theorem bsw_ok {n : Nat} (hn : 2 ≤ n ∧ n ≤ 9) : BdOK (bsw n) := ⟨hn, fun c hc => Or.inl rfl, Or.inr rfl, Or.inl rfl, Or.inl rfl, Nat.zero_le _, fun i hi' => absurd hi' (Nat.not_lt_zero i)⟩
theorem bgn_F (n : Nat) : (bgn n).m + Fc (bgn n).n (bgn n).f ≤ (bgn n).n * (bgn n).n := by
  have := cnt_le (fun c => (bgn n).f c = -1) ((bgn n).n * (bgn n).n)
  show 0 + cnt (fun c => (bgn n).f c = -1) ((bgn n).n * (bgn n).n) ≤ _
  omega
theorem bsw_F (n : Nat) : (bsw n).m + Fc (bsw n).n (bsw n).f ≤ (bsw n).n * (bsw n).n := by
  have := cnt_le (fun c => (bsw n).f c = -1) ((bsw n).n * (bsw n).n)
  show 0 + cnt (fun c => (bsw n).f c = -1) ((bsw n).n * (bsw n).n) ≤ _
  omega
/-- behind the first statement, a fault: nothing is read any more -/
theorem after_flC {t : Sg} {e : Int} {pl n : Nat} (h : gi t 52 8 = e) (he : 1 ≤ e ∧ e ≤ 4) (h9 : gi t 52 9 = (pl : Int)) (h10 : gi t 52 10 = 0) (hc : Ch Crg s t) (hg : GridOK t n) : okP (Re_read_l25 0 t) (fun o => CE2 s o e pl 0) := by
  have hf : f25 (0, t) = some (.inr t) := by
    show Re_read_t25 0 t = _
    unfold Re_read_t25
    rw [ifLt_eq _ _ R0 (by unfold R; omega), if_pos (by omega), h, ifEq_f (by unfold R; omega) R0 (by omega)]
  unfold Re_read_l25
  refine okP_bnd (P := fun u => u = t) (whl_inr hf rfl) ?_
  rintro u - rfl
  rw [b71_err h (by omega) (by unfold R; omega)]
  exact okP_some ⟨rfl, hc, h, h9, h10, n, hg⟩
theorem after_flM {r : Int × Sg} {e : Int} {pl : Nat} (hr : MFl s r e pl) (h14 : gi s 80 14 = 0) : okP (go10 (ifEq r.1 0 (some (.inr (.inl r.2))) (aft r.2))) (fun r => MEr s r e pl 0) := by
  obtain ⟨r1, r2, r3, r4⟩ := hr
  rw [r2, ifEq_t R0 R0 rfl]
  show okP (some ((0 : Int), r.2)) _
  exact okP_some ⟨rfl, r1.mo (by decide), r3, r4, (r1.g8 14).trans h14⟩
theorem read_pair (hB : ∀ i, i < L → 1 ≤ B i ∧ B i ≤ 255) (hL : L ≤ 400) :
    (∃ e pl st, (1 ≤ e ∧ e ≤ 4) ∧ pl ≤ L ∧ st ≤ L ∧ (∀ s, InC s L B → Stat s → (∃ n, GridOK s n) → okP (Re_read s) (fun o => CE2 s o e pl st)) ∧ ∀ s, InM s L B → gi s 80 12 = 0 → okP (Mo_readAll s) (fun r => MEr s r e pl st)) ∨
    ∃ b', BdOK b' ∧ (∀ s, InC s L B → Stat s → (∃ n, GridOK s n) → okP (Re_read s) (fun o => CG2 s o b')) ∧ ∀ s, InM s L B → gi s 80 12 = 0 → okP (Mo_readAll s) (fun r => MGd s r b') := by
  have hq : sk L B 0 ≤ L := sk_le (Nat.zero_le _)
  have R9' : R 9 := by unfold R; omega
  have R2' : R 2 := by unfold R; omega
  -- the class: the first token
  have c0 : ∀ {Q : Int × Sg → Prop} (s : Sg), InC s L B → Stat s → (∃ n, GridOK s n) → (∀ t n, Ch [52] s t → InC t L B → Stat t → GridOK t n → Tok t L B (sk L B 0) → gi t 52 8 = 0 → gi t 52 10 = 0 → okP (bnd (Re_readBoard t) fun s7 => Re_read_l25 0 s7) Q) → okP (Re_read s) Q := by
    intro Q s hI hS hg k
    obtain ⟨n, hg⟩ := hg
    have d1 : Ch [52] s (si (si (si s 52 8 0) 52 10 0) 52 6 0) := ((Ch.si (by decide)).tr (Ch.si (by decide))).tr (Ch.si (by decide))
    unfold Re_read
    rw [lett_eq, lett_eq, lett_eq]
    refine okP_bnd (advance_ok (p := 0) (hI.ch d1) (Nat.zero_le _) (gi_si_s _ _ _ _)) ?_
    rintro t - ⟨t1, t2⟩
    have d2 := d1.tr t1.1
    exact k t n d2 (hI.ch d2) (hS.ch d2 (by decide)) (hg.c d2) t2 ((t1.2 8 (by omega)).trans (by rw [gi_si_k _ _ _ (by omega), gi_si_k _ _ _ (by omega)]; exact gi_si_s _ _ _ _)) ((t1.2 10 (by omega)).trans (by rw [gi_si_k _ _ _ (by omega)]; exact gi_si_s _ _ _ _))
  -- the reference: the first statement
  have m0 : ∀ {Q : Int × Sg → Prop} (s : Sg), InM s L B → (∀ t, Ch [8009, 8014] s t → InM t L B → gi t 80 9 = ((0 : Nat) : Int) → gi t 80 14 = 0 → okP (go10 (bnd2 (bnd2 (Mo_takes (0 + 10) t) fun y24 s25 => ifEq y24 0 (bnd2 (Mo_fails 1 (gi s25 80 10) s25) fun y26 s27 => grd (b01 y26) <| some (y26, s27)) (bnd2 (Mo_readBoard s25) fun y29 s30 => grd (b01 y29) <| some (y29, s30))) fun y3 s4 => ifEq y3 0 (some (.inr (.inl s4))) (aft s4))) Q) → okP (Mo_readAll s) Q := by
    intro Q s hI k
    have d1 : Ch [8009, 8014] s (si (si s 80 9 0) 80 14 0) := (Ch.s8 (by decide)).tr (Ch.s8 (by decide))
    have e14 : gi (si (si s 80 9 0) 80 14 0) 80 14 = 0 := gi_si_s _ _ _ _
    have kk := k _ d1 (hI.ch d1) (by rw [gi_si_k _ _ _ (by omega)]; exact gi_si_s _ _ _ _) e14
    have ef : f10 (si (si s 80 9 0) 80 14 0) = bnd2 (bnd2 (Mo_takes (0 + 10) (si (si s 80 9 0) 80 14 0)) fun y24 s25 => ifEq y24 0 (bnd2 (Mo_fails 1 (gi s25 80 10) s25) fun y26 s27 => grd (b01 y26) <| some (y26, s27)) (bnd2 (Mo_readBoard s25) fun y29 s30 => grd (b01 y29) <| some (y29, s30))) fun y3 s4 => ifEq y3 0 (some (.inr (.inl s4))) (aft s4) := by
      show Mo_readAll_t10 _ = _
      unfold Mo_readAll_t10 Mo_readStatement
      rw [e14, ifEq_t R0 R0 rfl]
      rfl
    rw [← ef] at kk
    have k3 := go10_w _ kk
    unfold Mo_readAll
    rw [lett_eq, lett_eq]
    exact k3
  by_cases z0 : wd L B 0 (sk L B 0)
  · have hp1 : rE L B 97 122 (sk L B 0) ≤ L := rE_le hq
    have hr : sk L B (rE L B 97 122 (sk L B 0)) ≤ L := sk_le hp1
    -- the class: the number
    have c1 : ∀ {Q : Int × Sg → Prop} (s : Sg), InC s L B → Stat s → (∃ n, GridOK s n) → (∀ t n, Ch [52] s t → InC t L B → Stat t → GridOK t n → Tok t L B (sk L B (rE L B 97 122 (sk L B 0))) → gi t 52 8 = 0 → gi t 52 10 = 0 → okP (bnd (ifEq (gi t 52 4) 2
      (ifLt (gi t 52 7) 2
        (Re_readBoard_b58 t)
        (ifLt 9 (gi t 52 7)
          (Re_readBoard_b58 t)
          (bnd (Po_begin 53 (gi t 52 7) t) fun s7 =>
          bnd (Gr_fit (gi s7 52 7) s7) fun s9 =>
          bnd (Re_advance s9) fun s11 =>
          bnd (Re_isWord 1 s11) fun y12 =>
          ifEq y12 0
            (some s11)
            (lett (si s11 53 3 1) fun s13 =>
            bnd (Re_advance s13) fun s15 =>
            some s15))))
      (bnd (Re_fail 1 (gi t 52 5) t) fun s17 =>
      some s17)) fun s7 => Re_read_l25 0 s7) Q) → okP (Re_read s) Q := by
      intro Q s hI hS hg k
      refine c0 s hI hS hg fun t n t1 t2 t3 t4 t5 t6 t7 => ?_
      obtain ⟨u, eu, u1, u2⟩ := advance_ok t2 hp1 (t5.2.1 z0.1).2
      have kk := k u n (t1.tr u1.1) (t2.ch u1.1) (t3.ch u1.1 (by decide)) (t4.c u1.1) u2 ((u1.2 8 (by omega)).trans t6) ((u1.2 10 (by omega)).trans t7)
      unfold Re_readBoard
      rw [isWord_eq (by omega) t2 t5 hq, bnd_some, bI_t z0, ifEq_f R1 R0 (by omega), eu, bnd_some]
      exact kk
    have m1 : ∀ {Q : Int × Sg → Prop} (s : Sg), InM s L B → (∀ t, Ch [8009, 8010, 8014] s t → InM t L B → gi t 80 9 = ((rE L B 97 122 (sk L B 0) : Nat) : Int) → gi t 80 14 = 0 → okP (go10 (bnd2 (bnd2 (Mo_readBoard t) fun y29 s30 => grd (b01 y29) <| some (y29, s30)) fun y3 s4 => ifEq y3 0 (some (.inr (.inl s4))) (aft s4))) Q) → okP (Mo_readAll s) Q := by
      intro Q s hI k
      refine m0 s hI fun t t1 t2 t3 t4 => ?_
      obtain ⟨⟨y, u⟩, eu, k1, k2, k3, k4, k5⟩ := takesM (w := 0) (by omega) t2 (Nat.zero_le _) t3
      have k1 : Ch [8009, 8010] t u := k1
      have k3 : y = bI (wd L B 0 (sk L B 0)) := k3
      have k4 : wd L B 0 (sk L B 0) → gi u 80 9 = ((rE L B 97 122 (sk L B 0) : Nat) : Int) := k4
      rw [eu, bnd2_some, k3, bI_t z0, ifEq_f R1 R0 (by omega)]
      exact k u ((t1.mo (by decide)).tr (k1.mo (by decide))) (t2.ch k1) (k4 z0) ((k1.g8 14).trans t4)
    by_cases dg : dgt L B (sk L B (rE L B 97 122 (sk L B 0)))
    · have hnum := num_rg (L := L) (B := B) (sk L B (rE L B 97 122 (sk L B 0)))
      have hnR : R (num L B (sk L B (rE L B 97 122 (sk L B 0)))) := by unfold R; omega
      by_cases rg : 2 ≤ num L B (sk L B (rE L B 97 122 (sk L B 0))) ∧ num L B (sk L B (rE L B 97 122 (sk L B 0))) ≤ 9
      · obtain ⟨n, en⟩ := Int.eq_ofNat_of_zero_le hnum.1
        have hn : 2 ≤ n ∧ n ≤ 9 := by omega
        have hp2 : rE L B 48 57 (sk L B (rE L B 97 122 (sk L B 0))) ≤ L := rE_le hr
        generalize hp2' : rE L B 48 57 (sk L B (rE L B 97 122 (sk L B 0))) = p2 at hp2
        have hu : sk L B p2 ≤ L := sk_le hp2
        -- the class: the board begins
        have c2 : ∀ {Q : Int × Sg → Prop} (s : Sg), InC s L B → Stat s → (∃ n, GridOK s n) → (∀ t, Ch Crg s t → Cs t L B (bgn n) p2 → gi t 52 10 = 0 → okP (bnd (bnd (Re_isWord 1 t) fun y12 => ifEq y12 0 (some t) (lett (si t 53 3 1) fun s13 => bnd (Re_advance s13) fun s15 => some s15)) fun s7 => Re_read_l25 0 s7) Q) → okP (Re_read s) Q := by
          intro Q s hI hS hg k
          refine c1 s hI hS hg fun t n0 t1 t2 t3 t4 t5 t6 t7 => ?_
          obtain ⟨k4, k6, k7⟩ := t5.2.2.1 dg
          obtain ⟨v, ev, v1, v2⟩ := begin_ok (p := 53) (s := t) (Or.inr rfl) hn
          have v1 : Ch [53, 54] t v := v1
          have e13 : gi v 1 3 = (n0 : Int) := (v1.g 1).trans t4.2.2.1
          obtain ⟨w, ew, w1, w2⟩ := fit_ok hn (t3.ch v1 (by decide)) (fun e => by
            have : n0 = n := by omega
            rw [← this]
            exact t4.c v1) (by rw [e13]; exact R_nat (by have := t4.2.1; omega))
          have i2 := (t2.ch v1).ch w1
          have h6 : gi w 52 6 = ((p2 : Nat) : Int) := by rw [w1.g 52, v1.g 52, k6, hp2']
          obtain ⟨x, ex, x1, x2⟩ := advance_ok i2 hp2 h6
          have hc : Ch Crg s x := (((t1.mo (by decide)).tr (v1.mo (by decide))).tr (w1.mo (by decide))).tr (x1.1.mo (by decide))
          have hCx : Cs x L B (bgn n) p2 := ⟨i2.ch x1.1, hp2, x2, by rw [x1.2 8 (by omega), w1.g 52, v1.g 52]; exact t6, w2.c x1.1, (v2.ch w1).ch x1.1⟩
          have kk := k x hc hCx (by rw [x1.2 10 (by omega), w1.g 52, v1.g 52]; exact t7)
          rw [k4, ifEq_t R2' R2' rfl, k7, ifLt_eq _ _ hnR R2', if_neg (by omega), ifLt_eq _ _ R9' hnR, if_neg (by omega), en]
          rw [show Po_begin 53 ((n : Nat) : Int) t = some v from ev, bnd_some, show gi v 52 7 = (n : Int) from by rw [v1.g 52, k7, en]]
          rw [show Gr_fit ((n : Nat) : Int) v = some w from ew, bnd_some, ex, bnd_some]
          exact kk
        have m2 : ∀ {Q : Int × Sg → Prop} (s : Sg), InM s L B → (∀ t, Ch [81, 8009, 8010, 8011, 8014] s t → Ms t L B (bgn n) p2 → gi t 80 14 = 0 → okP (go10 (bnd2 (bnd2 (bnd2 (Mo_isLetterNext t) fun y5 s6 =>
    ifEq y5 0
      (some (1, s6))
      (bnd2 (Mo_takes (1 + 10) s6) fun y7 s8 =>
      ifEq y7 0
        (bnd2 (Mo_fails 1 (gi s8 80 10) s8) fun y11 s12 =>
        grd (b01 y11) <|
        some (y11, s12))
        (grd (0 ≤ 1 ∧ 1 < 286) <|
        lett (si s8 81 1 1) fun s10 =>
        some (1, s10)))) fun y29 s30 => grd (b01 y29) <| some (y29, s30)) fun y3 s4 => ifEq y3 0 (some (.inr (.inl s4))) (aft s4))) Q) → okP (Mo_readAll s) Q := by
          intro Q s hI k
          refine m1 s hI fun t t1 t2 t3 t4 => ?_
          obtain ⟨⟨y, u⟩, eu, -, -, k3⟩ := readsM (lo := 2) (hi' := 9) t2 hp1 t3 (by omega) (by omega)
          obtain ⟨u1, u2, u3, u4⟩ := k3 dg rg
          have u1 : Ch [8009, 8010, 8011] t u := u1
          have u2 : y = 1 := u2
          have u3 : gi u 80 9 = ((rE L B 48 57 (sk L B (rE L B 97 122 (sk L B 0))) : Nat) : Int) := u3
          have u4 : gi u 80 11 = num L B (sk L B (rE L B 97 122 (sk L B 0))) := u4
          rw [hp2'] at u3
          obtain ⟨v, ev, v1, v2⟩ := Mo_begins_ok (s := u) hn
          have hc : Ch [81, 8009, 8010, 8011, 8014] s v := ((t1.mo (by decide)).tr (u1.mo (by decide))).tr (v1.mo (by decide))
          have kk := k v hc ⟨(t2.ch u1).ch v1, hp2, (v1.g8 9).trans u3, v2⟩ (by rw [v1.g8 14, u1.g8 14]; exact t4)
          unfold Mo_readBoard
          rw [eu, bnd2_some, u2, ifEq_f R1 R0 (by omega), u4, en, show Mo_begins ((n : Nat) : Int) u = some v from ev, bnd_some]
          exact kk
        by_cases zl : ltr L B (sk L B p2)
        · by_cases zw : wd L B 1 (sk L B p2)
          · have hp3 : rE L B 97 122 (sk L B p2) ≤ L := rE_le hu
            generalize hp3' : rE L B 97 122 (sk L B p2) = p3 at hp3
            -- with the word
            have c3 : ∀ {Q : Int × Sg → Prop} (s : Sg), InC s L B → Stat s → (∃ n, GridOK s n) → (∀ t, Ch Crg s t → Cs t L B (bsw n) p3 → gi t 52 10 = 0 → okP (Re_read_l25 0 t) Q) → okP (Re_read s) Q := by
              intro Q s hI hS hg k
              refine c2 s hI hS hg fun t t1 t2 t3 => ?_
              obtain ⟨i1, i2, i3, i4, i5, i6⟩ := t2
              have d1 : Ch [53] t (si t 53 3 1) := Ch.si (by decide)
              obtain ⟨p1, p2', p3', p4, p5, p6, p7⟩ := i6
              have o : ∀ k, k ≠ 3 → gi (si t 53 3 1) 53 k = gi t 53 k := fun k hk => gi_si_k _ _ _ hk
              have hP : CP (si t 53 3 1) 53 (bsw n) := ⟨(o 2 (by omega)).trans p1, gi_si_s _ _ _ _, (o 4 (by omega)).trans p3', (o 5 (by omega)).trans p4, (o 6 (by omega)).trans p5, fun c hc => (gi_si_o t (o := 53) (b := 54) 3 c 1 (by omega)).trans (p6 c hc), fun i hi' => absurd hi' (Nat.not_lt_zero i)⟩
              have h6 : gi (si t 53 3 1) 52 6 = ((p3 : Nat) : Int) := by rw [d1.g 52, (i3.2.1 zl).2, hp3']
              obtain ⟨x, ex, x1, x2⟩ := advance_ok (i1.ch d1) hp3 h6
              have hCx : Cs x L B (bsw n) p3 := ⟨(i1.ch d1).ch x1.1, hp3, x2, by rw [x1.2 8 (by omega), d1.g 52]; exact i4, (i5.c d1).c x1.1, hP.ch x1.1⟩
              rw [isWord_eq (by omega) i1 i3 hu, bnd_some, bI_t zw, ifEq_f R1 R0 (by omega), lett_eq, ex, bnd_some, bnd_some]
              exact k x ((t1.tr (d1.mo (by decide))).tr (x1.1.mo (by decide))) hCx (by rw [x1.2 10 (by omega), d1.g 52]; exact t3)
            have m3 : ∀ {Q : Int × Sg → Prop} (s : Sg), InM s L B → (∀ t, Ch [81, 8009, 8010, 8011, 8014] s t → Ms t L B (bsw n) p3 → gi t 80 14 = ((0 : Nat) : Int) → okP (go10 (aft t)) Q) → okP (Mo_readAll s) Q := by
              intro Q s hI k
              refine m2 s hI fun t t1 t2 t3 => ?_
              obtain ⟨i1, i2, i3, i4⟩ := t2
              obtain ⟨⟨y, u⟩, eu, u1, u2, -, u4⟩ := letterM i1 i2 i3
              have u1 : Ch [8009, 8010] t u := u1
              have u2 : gi u 80 9 = ((sk L B p2 : Nat) : Int) := u2
              have u4 : y = bI (ltr L B (sk L B p2)) := u4
              obtain ⟨⟨y', v⟩, ev, v1, -, v3, v4, -⟩ := takesM (w := 1) (by omega) (i1.ch u1) hu u2
              have v1 : Ch [8009, 8010] u v := v1
              have v3 : y' = bI (wd L B 1 (sk L B (sk L B p2))) := v3
              have v4 : wd L B 1 (sk L B (sk L B p2)) → gi v 80 9 = ((rE L B 97 122 (sk L B (sk L B p2)) : Nat) : Int) := v4
              rw [sk_sk] at v3 v4
              rw [hp3'] at v4
              have hPv := (i4.ch u1).ch v1
              obtain ⟨q1, q2, q3, q4, q5, q6⟩ := hPv
              have d1 : Ch [81] v (si v 81 1 1) := Ch.si (by decide)
              have o : ∀ k, k ≠ 1 → gi (si v 81 1 1) 81 k = gi v 81 k := fun k hk => gi_si_k _ _ _ hk
              have hP : MP (si v 81 1 1) (bsw n) := ⟨⟨⟨q1.1.1, q1.1.2.1, (o 0 (by omega)).trans q1.1.2.2⟩, fun c hc => (o (5 + c) (by omega)).trans (q1.2 c hc)⟩, gi_si_s _ _ _ _, (o 2 (by omega)).trans q3, (o 3 (by omega)).trans q4, (o 4 (by omega)).trans q5, fun i hi' => absurd hi' (Nat.not_lt_zero i)⟩
              rw [eu, bnd2_some, u4, bI_t zl, ifEq_f R1 R0 (by omega), ev, bnd2_some, v3, bI_t zw, ifEq_f R1 R0 (by omega), grd_t ⟨by omega, by omega⟩, lett_eq, bnd2_some, grd_t (show b01 1 from Or.inr rfl), bnd2_some, ifEq_f R1 R0 (by omega)]
              exact k _ (((t1.tr (u1.mo (by decide))).tr (v1.mo (by decide))).tr (d1.mo (by decide))) ⟨((i1.ch u1).ch v1).ch d1, hp3, (d1.g8 9).trans (v4 zw), hP⟩ (by rw [d1.g8 14, v1.g8 14, u1.g8 14]; exact t3)
            rcases all_pair hB hL (L - p3) (bsw n) p3 0 (Nat.le_refl _) (bsw_ok hn) (bsw_F n) hp3 (Nat.zero_le _) with ⟨e, pl, st, he, hpl, hst, kC, kM⟩ | ⟨b', hb', hbn, kC, kM⟩
            · refine Or.inl ⟨e, pl, st, he, hpl, hst, fun s hI hS hg => c3 s hI hS hg fun t t1 t2 t3 => ?_, fun s hI h12 => m3 s hI fun t t1 t2 t3 => ?_⟩
              · exact okP_mono (kC t 0 t2 t3 (by omega) (by omega)) fun o ⟨o1, o2, o3, o4, o5⟩ => ⟨o1, t1.tr (o2.mo (by decide)), o3, o4, o5, _, t2.2.2.2.2.1.c o2⟩
              · exact okP_mono (kM t t2 t3) fun o ⟨o1, o2, o3⟩ => ⟨o1, (t1.mo (by decide)).tr o2, o3⟩
            · refine Or.inr ⟨b', hb', fun s hI hS hg => c3 s hI hS hg fun t t1 t2 t3 => ?_, fun s hI h12 => m3 s hI fun t t1 t2 t3 => ?_⟩
              · exact okP_mono (kC t 0 t2 t3 (by omega) (by omega)) fun o ⟨o1, o2, o3, o4⟩ => ⟨o1, t1.tr (o2.mo (by decide)), o3, o4, by rw [hbn]; exact t2.2.2.2.2.1.c o2⟩
              · exact okP_mono (kM t t2 t3) fun o ⟨o1, o2, o3⟩ => ⟨o1, (t1.mo (by decide)).tr o2, o3⟩
          · -- another word: a fault at it
            refine Or.inl ⟨1, sk L B p2, 0, by omega, hu, Nat.zero_le _, fun s hI hS hg => c2 s hI hS hg fun t t1 t2 t3 => ?_, fun s hI h12 => m2 s hI fun t t1 t2 t3 => ?_⟩
            · obtain ⟨i1, i2, i3, i4, i5, i6⟩ := t2
              have hql := zl.1
              rw [isWord_eq (by omega) i1 i3 hu, bnd_some, bI_f zw, ifEq_t R0 R0 rfl, bnd_some]
              unfold Re_read_l25
              refine okP_bnd (P := fun u => u = t) (whl_inr (f25_end R0 (by rw [i4]; exact R0) i3.kR (Or.inr (by rw [(i3.2.1 zl).1]; omega))) rfl) ?_
              rintro u - rfl
              unfold Re_read_b71
              have f := fl_cr (s := u) 1 (sk L B p2)
              rw [i4, ifEq_t R0 R0 rfl, ifEq_f i3.kR R0 (i3.k0 hql), i3.1]
              show okP (Re_read_b94 (si (si u 52 8 1) 52 9 ((sk L B p2 : Nat) : Int))) _
              unfold Re_read_b94
              rw [f.2.1, ifEq_f R1 R0 (by omega)]
              exact okP_some ⟨rfl, t1.tr (f.1.1.mo (by decide)), f.2.1, f.2.2, f.1.2.trans t3, _, i5.c f.1.1⟩
            · obtain ⟨i1, i2, i3, i4⟩ := t2
              obtain ⟨⟨y, u⟩, eu, u1, u2, -, u4⟩ := letterM i1 i2 i3
              have u1 : Ch [8009, 8010] t u := u1
              have u2 : gi u 80 9 = ((sk L B p2 : Nat) : Int) := u2
              have u4 : y = bI (ltr L B (sk L B p2)) := u4
              obtain ⟨⟨y', v⟩, ev, v1, v2, v3, -, -⟩ := takesM (w := 1) (by omega) (i1.ch u1) hu u2
              have v1 : Ch [8009, 8010] u v := v1
              have v2 : gi v 80 10 = ((sk L B (sk L B p2) : Nat) : Int) := v2
              have v3 : y' = bI (wd L B 1 (sk L B (sk L B p2))) := v3
              rw [sk_sk] at v2 v3
              have m := mfl (s := t) ((u1.tr v1).mo (M := Mks) (by decide)) 1 (sk L B p2)
              rw [eu, bnd2_some, u4, bI_t zl, ifEq_f R1 R0 (by omega), ev, bnd2_some, v3, bI_f zw, ifEq_t R0 R0 rfl, fails_eq, bnd2_some, grd_t (show b01 0 from Or.inl rfl), bnd2_some, grd_t (show b01 0 from Or.inl rfl), bnd2_some, v2]
              refine okP_mono (after_flM m t3) fun r ⟨r1, r2, r3⟩ => ⟨r1, (t1.mo (by decide)).tr r2, r3⟩
        · -- no word
          have hnw : ¬ wd L B 1 (sk L B p2) := fun z => zl z.1
          have m3 : ∀ {Q : Int × Sg → Prop} (s : Sg), InM s L B → (∀ t, Ch [81, 8009, 8010, 8011, 8014] s t → Ms t L B (bgn n) (sk L B p2) → gi t 80 14 = ((0 : Nat) : Int) → okP (go10 (aft t)) Q) → okP (Mo_readAll s) Q := by
            intro Q s hI k
            refine m2 s hI fun t t1 t2 t3 => ?_
            obtain ⟨i1, i2, i3, i4⟩ := t2
            obtain ⟨⟨y, u⟩, eu, u1, u2, -, u4⟩ := letterM i1 i2 i3
            have u1 : Ch [8009, 8010] t u := u1
            have u2 : gi u 80 9 = ((sk L B p2 : Nat) : Int) := u2
            have u4 : y = bI (ltr L B (sk L B p2)) := u4
            rw [eu, bnd2_some, u4, bI_f zl, ifEq_t R0 R0 rfl, bnd2_some, grd_t (show b01 1 from Or.inr rfl), bnd2_some, ifEq_f R1 R0 (by omega)]
            exact k u (t1.tr (u1.mo (by decide))) ⟨i1.ch u1, hu, u2, i4.ch u1⟩ (by rw [u1.g8 14]; exact t3)
          have c3 : ∀ {Q : Int × Sg → Prop} (s : Sg), InC s L B → Stat s → (∃ n, GridOK s n) → (∀ t, Ch Crg s t → Cs t L B (bgn n) (sk L B p2) → gi t 52 10 = 0 → okP (Re_read_l25 0 t) Q) → okP (Re_read s) Q := by
            intro Q s hI hS hg k
            refine c2 s hI hS hg fun t t1 t2 t3 => ?_
            rw [isWord_eq (by omega) t2.1 t2.2.2.1 hu, bnd_some, bI_f hnw, ifEq_t R0 R0 rfl, bnd_some]
            exact k t t1 t2.sk t3
          rcases all_pair hB hL (L - sk L B p2) (bgn n) (sk L B p2) 0 (Nat.le_refl _) (bgn_ok hn) (bgn_F n) hu (Nat.zero_le _) with ⟨e, pl, st, he, hpl, hst, kC, kM⟩ | ⟨b', hb', hbn, kC, kM⟩
          · refine Or.inl ⟨e, pl, st, he, hpl, hst, fun s hI hS hg => c3 s hI hS hg fun t t1 t2 t3 => ?_, fun s hI h12 => m3 s hI fun t t1 t2 t3 => ?_⟩
            · exact okP_mono (kC t 0 t2 t3 (by omega) (by omega)) fun o ⟨o1, o2, o3, o4, o5⟩ => ⟨o1, t1.tr (o2.mo (by decide)), o3, o4, o5, _, t2.2.2.2.2.1.c o2⟩
            · exact okP_mono (kM t t2 t3) fun o ⟨o1, o2, o3⟩ => ⟨o1, (t1.mo (by decide)).tr o2, o3⟩
          · refine Or.inr ⟨b', hb', fun s hI hS hg => c3 s hI hS hg fun t t1 t2 t3 => ?_, fun s hI h12 => m3 s hI fun t t1 t2 t3 => ?_⟩
            · exact okP_mono (kC t 0 t2 t3 (by omega) (by omega)) fun o ⟨o1, o2, o3, o4⟩ => ⟨o1, t1.tr (o2.mo (by decide)), o3, o4, by rw [hbn]; exact t2.2.2.2.2.1.c o2⟩
            · exact okP_mono (kM t t2 t3) fun o ⟨o1, o2, o3⟩ => ⟨o1, (t1.mo (by decide)).tr o2, o3⟩
      · refine Or.inl ⟨2, sk L B (rE L B 97 122 (sk L B 0)), 0, by omega, hr, Nat.zero_le _, fun s hI hS hg => c1 s hI hS hg fun t n t1 t2 t3 t4 t5 t6 t7 => ?_, fun s hI h12 => m1 s hI fun t t1 t2 t3 t4 => ?_⟩
        · obtain ⟨k4, k6, k7⟩ := t5.2.2.1 dg
          have f := fl_cr (s := t) 2 (sk L B (rE L B 97 122 (sk L B 0)))
          have fin : okP (bnd (Re_readBoard_b58 t) fun s7 => Re_read_l25 0 s7) (fun o => CE2 s o 2 (sk L B (rE L B 97 122 (sk L B 0))) 0) := by
            unfold Re_readBoard_b58
            rw [t5.1]
            show okP (Re_read_l25 0 (si (si t 52 8 2) 52 9 ((sk L B (rE L B 97 122 (sk L B 0)) : Nat) : Int))) _
            exact after_flC f.2.1 (by omega) f.2.2 (f.1.2.trans t7) ((t1.mo (by decide)).tr (f.1.1.mo (by decide))) (t4.c f.1.1)
          rw [k4, ifEq_t R2' R2' rfl, k7, ifLt_eq _ _ hnR R2']
          by_cases x : num L B (sk L B (rE L B 97 122 (sk L B 0))) < 2
          · rw [if_pos x]; exact fin
          · rw [if_neg x, ifLt_eq _ _ R9' hnR, if_pos (by omega)]; exact fin
        · obtain ⟨⟨y, u⟩, eu, -, k2, -⟩ := readsM (lo := 2) (hi' := 9) t2 hp1 t3 (by omega) (by omega)
          obtain ⟨u1, u2, u3, u4⟩ := k2 dg rg
          have u1 : Ch [8009, 8010, 8012, 8013] t u := u1
          have u2 : y = 0 := u2
          unfold Mo_readBoard
          rw [eu, bnd2_some, u2, ifEq_t R0 R0 rfl, bnd2_some, grd_t (show b01 0 from Or.inl rfl), bnd2_some]
          refine okP_mono (after_flM (r := (0, u)) ⟨u1.mo (by decide), rfl, u3, u4⟩ t4) fun r ⟨r1, r2, r3⟩ => ⟨r1, (t1.mo (by decide)).tr r2, r3⟩
    · refine Or.inl ⟨1, sk L B (rE L B 97 122 (sk L B 0)), 0, by omega, hr, Nat.zero_le _, fun s hI hS hg => c1 s hI hS hg fun t n t1 t2 t3 t4 t5 t6 t7 => ?_, fun s hI h12 => m1 s hI fun t t1 t2 t3 t4 => ?_⟩
      · have k4 := t5.k2 dg
        have f := fl_cr (s := t) 1 (sk L B (rE L B 97 122 (sk L B 0)))
        rw [ifEq_f k4.1 R2' k4.2, t5.1]
        show okP (Re_read_l25 0 (si (si t 52 8 1) 52 9 ((sk L B (rE L B 97 122 (sk L B 0)) : Nat) : Int))) _
        exact after_flC f.2.1 (by omega) f.2.2 (f.1.2.trans t7) ((t1.mo (by decide)).tr (f.1.1.mo (by decide))) (t4.c f.1.1)
      · obtain ⟨⟨y, u⟩, eu, k1, -, -⟩ := readsM (lo := 2) (hi' := 9) t2 hp1 t3 (by omega) (by omega)
        obtain ⟨u1, u2, u3, u4⟩ := k1 dg
        have u1 : Ch [8009, 8010, 8012, 8013] t u := u1
        have u2 : y = 0 := u2
        unfold Mo_readBoard
        rw [eu, bnd2_some, u2, ifEq_t R0 R0 rfl, bnd2_some, grd_t (show b01 0 from Or.inl rfl), bnd2_some]
        refine okP_mono (after_flM (r := (0, u)) ⟨u1.mo (by decide), rfl, u3, u4⟩ t4) fun r ⟨r1, r2, r3⟩ => ⟨r1, (t1.mo (by decide)).tr r2, r3⟩
  · refine Or.inl ⟨1, sk L B 0, 0, by omega, hq, Nat.zero_le _, fun s hI hS hg => c0 s hI hS hg fun t n t1 t2 t3 t4 t5 t6 t7 => ?_, fun s hI h12 => m0 s hI fun t t1 t2 t3 t4 => ?_⟩
    · have f := fl_cr (s := t) 1 (sk L B 0)
      unfold Re_readBoard
      rw [isWord_eq (by omega) t2 t5 hq, bnd_some, bI_f z0, ifEq_t R0 R0 rfl, t5.1]
      show okP (Re_read_l25 0 (si (si t 52 8 1) 52 9 ((sk L B 0 : Nat) : Int))) _
      exact after_flC f.2.1 (by omega) f.2.2 (f.1.2.trans t7) ((t1.mo (by decide)).tr (f.1.1.mo (by decide))) (t4.c f.1.1)
    · obtain ⟨⟨y, u⟩, eu, k1, k2, k3, -, -⟩ := takesM (w := 0) (by omega) t2 (Nat.zero_le _) t3
      have k1 : Ch [8009, 8010] t u := k1
      have k2 : gi u 80 10 = ((sk L B 0 : Nat) : Int) := k2
      have k3 : y = bI (wd L B 0 (sk L B 0)) := k3
      have m := mfl (s := t) (k1.mo (M := Mks) (by decide)) 1 (sk L B 0)
      rw [eu, bnd2_some, k3, bI_f z0, ifEq_t R0 R0 rfl, fails_eq, bnd2_some, grd_t (show b01 0 from Or.inl rfl), bnd2_some, k2]
      refine okP_mono (after_flM m t4) fun r ⟨r1, r2, r3⟩ => ⟨r1, (t1.mo (by decide)).tr r2, r3⟩
end RD

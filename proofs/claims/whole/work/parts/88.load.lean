/-! ===== a text is loaded ===== -/
section LOD
variable {X : Xs} {s t : Sg}
/-- behind a load: no input is left -/
def Xs.wl (X : Xs) (b : Bd) (h : Nat) (er sm : Int) : Xs := Xs.mk b h X.H X.S 0 X.ib X.ol X.ob er sm
theorem XsOK.wl (hX : XsOK X) {b : Bd} {h : Nat} {er sm : Int} (hb : BdOK b) (hH : ∀ i, i < h → BdOK (X.H i) ∧ (X.H i).n = b.n) (he : 0 ≤ er ∧ er ≤ 1000) (hm : -1 ≤ sm ∧ sm ≤ 1000) : XsOK (X.wl b h er sm) :=
  ⟨hb, hH, hX.2.2.1, Nat.zero_le _, fun i hi' => absurd hi' (Nat.not_lt_zero i), hX.2.2.2.2.2.1, hX.2.2.2.2.2.2.1, he, hm⟩
theorem CI.wl {b : Bd} {h : Nat} {er sm : Int} {L : List Nat} (hC : CI X s) (hc : Ch L s t) (hQ : CQ t b) (hH : HC t h X.H) (h48 : gi t 48 1 = 0) (h8 : gi t 52 8 = er) (h0 : er = 0 → sm = -1) (h10 : er ≠ 0 → gi t 52 10 = sm) (hL : ∀ x ∈ [42, 43, 44, 45, 46, 47, 50, 51], x ∉ L := by decide) : CI (X.wl b h er sm) t := by
  obtain ⟨-, ⟨a3, a4⟩, -⟩ := hC.2.2.2
  exact ⟨hQ, hH, hC.2.2.1.ch hc (fun x hx => hL x (by revert x; decide)), ⟨h48, fun i hi' => absurd hi' (Nat.not_lt_zero i)⟩, ⟨(hc.g 50 (hL 50 (by decide))).trans a3, fun i hi' => (hc.g 51 (hL 51 (by decide))).trans (a4 i hi')⟩, h8, h0, h10⟩
theorem MI.wl {b : Bd} {h : Nat} {er sm : Int} {L : List Nat} (hX : XsOK X) (hM : MI X s) (hc : Ch L s t) (hQ : MP t b) (hH : HM t h X.H) (h8 : gi t 80 8 = 0) (h12 : gi t 80 12 = er) (h15 : gi t 80 15 = sm) (hL : ∀ x ∈ [83, 84, 99, 8035], x ∉ L := by decide) : MI (X.wl b h er sm) t := by
  obtain ⟨-, ⟨a3, a4⟩, -⟩ := hM.2.2.2
  exact ⟨hQ, hH, hM.2.2.1.ch hX.2.2.1 hc (hL 83 (by decide)) (hL 84 (by decide)), ⟨h8, fun i hi' => absurd hi' (Nat.not_lt_zero i)⟩, ⟨(hc.g8 35 (hL 8035 (by decide))).trans a3, fun i hi' => (hc.g 99 (hL 99 (by decide))).trans (a4 i hi')⟩, h12, h15⟩
theorem on_load (hX : XsOK X) : OpN X Hx_load Mo_load := by
  have hB := hX.2.2.2.2.1
  have hL := hX.2.2.2.1
  have hn9 := hX.n9
  have inC : ∀ s, CI X s → InC s X.il X.ib := fun s hC => ⟨hC.2.2.2.1.1, hL, hC.2.2.2.1.2, hB⟩
  -- the reference up to the reading
  have m0 : ∀ {Q : Int × Sg → Prop} (s : Sg), MI X s → (∀ t, Ch [8000, 8012, 8015, 82] s t → InM t X.il X.ib → MP t X.b → gi t 80 0 = 0 → gi t 80 12 = 0 → gi t 80 15 = -1 → (∀ k, k < 286 → gi t 82 k = gi t 81 k) → okP (bnd2 (Mo_readAll t) fun y6 s7 => lett (si s7 80 8 0) fun s8 => ifEq y6 0 (lett (si s8 80 15 (gi s8 80 14)) fun s11 => bnd2 (Mo_comesBack ((-100) - (gi s11 80 13)) s11) fun y12 s13 => some (y12, s13)) (lett (si s8 80 6 0) fun s9 => grd (0 ≤ 0 ∧ 0 < 286) <| some ((gi s9 81 0), s9))) Q) → okP (Mo_load s) Q := by
    intro Q s hM k
    have d1 : Ch [8000, 8012, 8015] s (si (si (si s 80 0 0) 80 12 0) 80 15 (-1)) := ((Ch.s8 (by decide)).tr (Ch.s8 (by decide))).tr (Ch.s8 (by decide))
    have hI : InM s X.il X.ib := ⟨hM.2.2.2.1.1, hL, hM.2.2.2.1.2, hB⟩
    unfold Mo_load
    rw [lett_eq, lett_eq, lett_eq]
    refine okP_bnd (goesAside_ok _) ?_
    rintro t - ⟨t1, t2⟩
    have d2 : Ch [8000, 8012, 8015, 82] s t := (d1.mo (by decide)).tr (t1.mo (by decide))
    refine k t d2 (hI.ch d2) (hM.1.ch d2) ?_ ?_ ?_ (fun k hk => by rw [t2 k hk, t1.g 81])
    · rw [t1.g8 0, gi_si_k _ _ _ (by omega), gi_si_k _ _ _ (by omega)]; exact gi_si_s _ _ _ _
    · rw [t1.g8 12, gi_si_k _ _ _ (by omega)]; exact gi_si_s _ _ _ _
    · rw [t1.g8 15]; exact gi_si_s _ _ _ _
  rcases read_pair hB hL with ⟨e, pl, st, he, hpl, hst, kC, kM⟩ | ⟨b', hb', kC, kM⟩
  · refine ⟨-100 - (pl : Int), X.wl X.b X.h e (st : Int), by unfold R; omega, hX.wl hX.1 hX.2.1 (by omega) (by omega), fun s hC => ?_, fun s hM => ?_⟩
    · unfold Hx_load
      refine okP_bnd2 (kC s (inC s hC) hC.1.2.1 ⟨_, hC.G⟩) ?_
      rintro y t - ⟨k1, k2, k3, k4, k5, n, k6⟩
      have k1 : y = 0 := k1
      have k2 : Ch Crg s t := k2
      have k3 : gi t 52 8 = e := k3
      have k4 : gi t 52 9 = (pl : Int) := k4
      have k5 : gi t 52 10 = (st : Int) := k5
      have k6 : GridOK t n := k6
      have d1 : Ch [48] t (si t 48 1 0) := Ch.si (by decide)
      have e10 : gi (si t 48 1 0) 10 2 = (X.b.n : Int) := by rw [d1.g 10, k2.g 10]; exact hC.1.2.2.1
      have e13 : gi (si t 48 1 0) 1 3 = (n : Int) := by rw [d1.g 1]; exact k6.2.2.1
      have hSt : Stat (si t 48 1 0) := (hC.1.2.1.ch k2 (by decide)).ch d1 (by decide)
      obtain ⟨u, eu, u1, u2⟩ := fit_ok (n := X.b.n) hX.1.1 hSt (fun w => by
        have : n = X.b.n := by omega
        rw [← this]
        exact k6.c d1) (by rw [e13]; exact R_nat (by have := k6.2.1; omega))
      have e9 : gi u 52 9 = (pl : Int) := by rw [u1.g 52, d1.g 52]; exact k4
      have hc : Ch [1, 2, 3, 4, 5, 6, 7, 8, 9, 48, 52, 53, 54, 55] s u := ((k2.mo (by decide)).tr (d1.mo (by decide))).tr (u1.mo (by decide))
      rw [show By_clear 48 t = some (si t 48 1 0) from rfl, bnd_some, k1, ifEq_t R0 R0 rfl, e10, eu, bnd_some, e9]
      refine okP_some ⟨hc.cf, hC.wl hc ⟨u2, hSt.ch u1 (by decide), hC.1.2.2.ch hc⟩ (hC.2.1.ch hc (by decide) (by decide)) ?_ ?_ (fun w => absurd w (by omega)) (fun _ => ?_), rfl⟩
      · show gi u 48 1 = 0
        rw [u1.g 48]; exact gi_si_s _ _ _ _
      · show gi u 52 8 = e
        rw [u1.g 52, d1.g 52]; exact k3
      · show gi u 52 10 = (st : Int)
        rw [u1.g 52, d1.g 52]; exact k5
    · refine m0 s hM fun t t1 t2 t3 t4 t5 t6 t7 => ?_
      refine okP_bnd2 (kM t t2 t5) ?_
      rintro y u - ⟨k1, k2, k3, k4, k5⟩
      have k1 : y = 0 := k1
      have k2 : Ch Mrl t u := k2
      have k3 : gi u 80 12 = e := k3
      have k4 : gi u 80 13 = (pl : Int) := k4
      have k5 : gi u 80 14 = (st : Int) := k5
      have d1 : Ch [8008] u (si u 80 8 0) := Ch.s8 (by decide)
      have d2 : Ch [8015] (si u 80 8 0) (si (si u 80 8 0) 80 15 (st : Int)) := Ch.s8 (by decide)
      have e14 : gi (si u 80 8 0) 80 14 = (st : Int) := by rw [d1.g8 14]; exact k5
      have e13 : gi (si (si u 80 8 0) 80 15 (st : Int)) 80 13 = (pl : Int) := by rw [d2.g8 13, d1.g8 13]; exact k4
      rw [lett_eq, k1, ifEq_t R0 R0 rfl, e14, lett_eq, e13]
      refine okP_bnd2 (comesBack_ok (-100 - (pl : Int)) (si (si u 80 8 0) 80 15 (st : Int))) ?_
      rintro z v - ⟨l1, l2, l3⟩
      have l1 : Ch [81] (si (si u 80 8 0) 80 15 (st : Int)) v := l1
      have l2 : z = -100 - (pl : Int) := l2
      have l3 : ∀ k, k < 286 → gi v 81 k = gi (si (si u 80 8 0) 80 15 (st : Int)) 82 k := l3
      have hc : Ch [8000, 8012, 8015, 82, 81, 87, 8009, 8010, 8011, 8013, 8014, 8016, 8008] s v := (((t1.mo (by decide)).tr (k2.mo (by decide))).tr (d1.mo (by decide))).tr ((d2.mo (by decide)).tr (l1.mo (by decide)))
      have hP : MP v X.b := MP_rec.mpr (rec_congr hX.1 (fun k hk => by
        show gi v 81 k = gi t 81 k
        rw [l3 k hk, d2.g 82, d1.g 82, k2.g 82]
        exact t7 k hk) (MP_rec.mp t3))
      refine okP_some ⟨hc.mf, hM.wl hX hc hP (hM.2.1.ch (fun i hi' => (hX.2.1 i hi').1) hc (by decide) (by decide)) ?_ ?_ ?_, ?_, fun _ => l2⟩
      · rw [l1.g8 8, d2.g8 8]; exact gi_si_s _ _ _ _
      · rw [l1.g8 12, d2.g8 12, d1.g8 12]; exact k3
      · rw [l1.g8 15]; exact gi_si_s _ _ _ _
      · show gi v 80 0 = 0
        rw [l1.g8 0, d2.g8 0, d1.g8 0, k2.g8 0]; exact t4
  · have hb1 := hb'.1.1
    have hb9 := hb'.1.2
    refine ⟨(b'.n : Int), X.wl b' 0 0 (-1), R_nat (by omega), hX.wl hb' (fun i hi' => absurd hi' (Nat.not_lt_zero i)) (by omega) (by omega), fun s hC => ?_, fun s hM => ?_⟩
    · unfold Hx_load
      refine okP_bnd2 (kC s (inC s hC) hC.1.2.1 ⟨_, hC.G⟩) ?_
      rintro y t - ⟨k1, k2, k3, k4, k5⟩
      have k1 : y = 1 := k1
      have k2 : Ch Crg s t := k2
      have k3 : gi t 52 8 = 0 := k3
      have k4 : CP t 53 b' := k4
      have k5 : GridOK t b'.n := k5
      have d1 : Ch [48] t (si t 48 1 0) := Ch.si (by decide)
      have hSt : Stat (si t 48 1 0) := (hC.1.2.1.ch k2 (by decide)).ch d1 (by decide)
      obtain ⟨u, eu, u1, u2⟩ := Po_copy_ok (p := 10) (q := 53) hb' (k4.ch d1) (by omega) (by omega)
      have u1 : Ch [10, 11, 12] (si t 48 1 0) u := u1
      have g5 : GridOK u b'.n := (k5.c d1).c u1
      obtain ⟨v, ev, v1, v2⟩ := fit_ok hb'.1 (hSt.ch u1 (by decide)) (fun _ => g5) (by rw [g5.2.2.1]; exact R_nat (by omega))
      have c0 : Ch [1, 2, 3, 4, 5, 6, 7, 8, 9, 48, 52, 53, 54, 55, 10, 11, 12] s v := (((k2.mo (by decide)).tr (d1.mo (by decide))).tr (u1.mo (by decide))).tr (v1.mo (by decide))
      obtain ⟨e16, hH⟩ := clearC (hC.2.1.ch c0 (by decide) (by decide))
      have l1 : Ch [16] v (si v 16 2 0) := Ch.si (by decide)
      have hc : Ch [1, 2, 3, 4, 5, 6, 7, 8, 9, 48, 52, 53, 54, 55, 10, 11, 12, 16] s (si v 16 2 0) := (c0.mo (by decide)).tr (l1.mo (by decide))
      have hP : CP (si v 16 2 0) 10 b' := (u2.ch v1).ch l1
      rw [show By_clear 48 t = some (si t 48 1 0) from rfl, bnd_some, k1, ifEq_f R1 R0 (by omega), eu, bnd_some, u2.1, ev, bnd_some, e16, bnd_some]
      refine okP_some ⟨hc.cf, hC.wl hc ⟨v2.c l1, ((hSt.ch u1 (by decide)).ch v1 (by decide)).ch l1 (by decide), hP⟩ hH ?_ ?_ (fun _ => rfl) (fun w => absurd rfl w), hP.1⟩
      · show gi (si v 16 2 0) 48 1 = 0
        rw [l1.g 48, v1.g 48, u1.g 48]; exact gi_si_s _ _ _ _
      · show gi (si v 16 2 0) 52 8 = 0
        rw [l1.g 52, v1.g 52, u1.g 52, d1.g 52]; exact k3
    · refine m0 s hM fun t t1 t2 t3 t4 t5 t6 t7 => ?_
      refine okP_bnd2 (kM t t2 t5) ?_
      rintro y u - ⟨k1, k2, k3⟩
      have k1 : y = 1 := k1
      have k2 : Ch Mrs' t u := k2
      have k3 : MP u b' := k3
      have d1 : Ch [8008] u (si u 80 8 0) := Ch.s8 (by decide)
      have d2 : Ch [8006] (si u 80 8 0) (si (si u 80 8 0) 80 6 0) := Ch.s8 (by decide)
      have hc : Ch [8000, 8012, 8015, 82, 81, 87, 8009, 8010, 8011, 8014, 8016, 8008, 8006] s (si (si u 80 8 0) 80 6 0) := ((t1.mo (by decide)).tr (k2.mo (by decide))).tr ((d1.mo (by decide)).tr (d2.mo (by decide)))
      have hP : MP (si (si u 80 8 0) 80 6 0) b' := (k3.ch d1).ch d2
      rw [lett_eq, k1, ifEq_f R1 R0 (by omega), lett_eq, grd_t ⟨by omega, by omega⟩]
      refine okP_some ⟨hc.mf, hM.wl hX hc hP ⟨gi_si_s _ _ _ _, by omega, fun i hi' => absurd hi' (Nat.not_lt_zero i)⟩ ?_ ?_ ?_, ?_, fun _ => hP.1.1.2.2⟩
      · rw [d2.g8 8]; exact gi_si_s _ _ _ _
      · rw [d2.g8 12, d1.g8 12, k2.g8 12]; exact t5
      · rw [d2.g8 15, d1.g8 15, k2.g8 15]; exact t6
      · show gi (si (si u 80 8 0) 80 6 0) 80 0 = 0
        rw [d2.g8 0, d1.g8 0, k2.g8 0]; exact t4
end LOD
/-! ===== the start ===== -/
def X0 : Xs := Xs.mk (bgn 2) 0 (fun _ => bgn 2) (fun _ => none) 0 (fun _ => 0) 0 (fun _ => 0) 0 (-1)
theorem X0_ok : XsOK X0 := ⟨bgn_ok (by omega), fun i hi' => absurd hi' (Nat.not_lt_zero i), fun j b e => (nomatch (show (none : Option Bd) = some b from e)), Nat.zero_le _, fun i hi' => absurd hi' (Nat.not_lt_zero i), Nat.zero_le _, fun i hi' => absurd hi' (Nat.not_lt_zero i), ⟨Int.le_refl _, by decide⟩, ⟨Int.le_refl _, by decide⟩⟩
def LInv (s : Sg) : Prop := ∃ X, XsOK X ∧ X.h ≤ 8 ∧ CI X s ∧ MI X s ∧ ∀ k, R (gi s 1200 k)
section STA
variable {L : Nat} {xs : Nat → Int32} {z : Int32}
theorem S_z {a : Nat} (h : a < 1000) (k : Nat) : gi (sgS L xs z) a k = 0 := if_pos h
theorem S_r {a : Nat} (h : 1000 ≤ a ∧ a ≤ 1007) (k : Nat) : gi (sgS L xs z) a k = ((((rowV[a - 1000]?).getD [])[k]?).getD 0).toInt := by
  show (if a < 1000 then 0 else (oldV L xs z a k).toInt) = _
  rw [if_neg (by omega)]
  unfold oldV
  rw [if_neg (by omega), if_neg (by omega), if_pos (by omega)]
theorem S_stat : Stat (sgS L xs z) := by
  refine ⟨fun j hj => ?_, fun j hj => ?_⟩
  · have k : ∀ j, j < 6 → ((((rowV[0]?).getD [])[j]?).getD 0).toInt = drow j ∧ ((((rowV[1]?).getD [])[j]?).getD 0).toInt = dcol j := by decide
    exact ⟨(S_r (by omega) j).trans (k j hj).1, (S_r (by omega) j).trans (k j hj).2⟩
  · have k : ∀ j, j < 3 → ((((rowV[2]?).getD [])[j]?).getD 0).toInt = frow j ∧ ((((rowV[3]?).getD [])[j]?).getD 0).toInt = fcol j ∧ ((((rowV[4]?).getD [])[j]?).getD 0).toInt = lrow j ∧ ((((rowV[5]?).getD [])[j]?).getD 0).toInt = lcol j ∧ ((((rowV[6]?).getD [])[j]?).getD 0).toInt = hrow j ∧ ((((rowV[7]?).getD [])[j]?).getD 0).toInt = hcol j := by decide
    exact ⟨(S_r (by omega) j).trans (k j hj).1, (S_r (by omega) j).trans (k j hj).2.1, (S_r (by omega) j).trans (k j hj).2.2.1, (S_r (by omega) j).trans (k j hj).2.2.2.1, (S_r (by omega) j).trans (k j hj).2.2.2.2.1, (S_r (by omega) j).trans (k j hj).2.2.2.2.2⟩
theorem S_sc (k : Nat) : R (gi (sgS L xs z) 1200 k) := by
  show R (if 1200 < 1000 then 0 else (oldV L xs z 1200 k).toInt)
  rw [if_neg (by omega)]
  have h1 := (oldV L xs z 1200 k).le_toInt
  have h2 := (oldV L xs z 1200 k).toInt_lt
  unfold R
  omega
theorem starts_ok : okP (bnd (Hx_starts (sgS L xs z)) fun s1 => Mo_starts s1) LInv := by
  unfold Hx_starts
  obtain ⟨u, eu, u1, u2⟩ := fit_ok (s := sgS L xs z) (n := 2) (by omega) S_stat (fun e => absurd ((S_z (by omega) 3).symm.trans e) (by decide)) (by rw [S_z (by omega) 3]; exact R0)
  obtain ⟨v, ev, v1, v2⟩ := begin_ok (p := 10) (s := u) (n := 2) (Or.inl rfl) (by omega)
  have v1 : Ch [10, 11] u v := v1
  have hc : Ch [1, 2, 3, 4, 10, 11] (sgS L xs z) v := (u1.mo (by decide)).tr (v1.mo (by decide))
  have zz : ∀ a k, a < 1000 → a ∉ [1, 2, 3, 4, 10, 11] → a ≠ 80 → gi v a k = 0 := fun a k h1 h2 h3 => (hc.g a h2 h3).trans (S_z h1 k)
  have hC : CI X0 v := by
    refine ⟨⟨u2.c v1, (S_stat.ch u1 (by decide)).ch v1 (by decide), v2⟩, ⟨zz 16 2 (by omega) (by decide) (by omega), by decide, 0, zz 16 1 (by omega) (by decide) (by omega), by omega, fun i hi' => absurd hi' (Nat.not_lt_zero i)⟩, fun j hj => ⟨fun _ => ?_, fun b e => (nomatch (show (none : Option Bd) = some b from e))⟩, ⟨zz 48 1 (by omega) (by decide) (by omega), fun i hi' => absurd hi' (Nat.not_lt_zero i)⟩, ⟨zz 50 1 (by omega) (by decide) (by omega), fun i hi' => absurd hi' (Nat.not_lt_zero i)⟩, zz 52 8 (by omega) (by decide) (by omega), fun _ => rfl, fun w => absurd rfl w⟩
    have : j = 0 ∨ j = 1 := by omega
    rcases this with rfl | rfl
    · exact zz 42 2 (by omega) (by decide) (by omega)
    · exact zz 45 2 (by omega) (by decide) (by omega)
  have d1 : Ch [8015] v (si v 80 15 (-1)) := Ch.s8 (by decide)
  obtain ⟨w, ew, w1, w2⟩ := Mo_begins_ok (s := si v 80 15 (-1)) (n := 2) (by omega)
  have g80 : ∀ k, k ≠ 15 → gi w 80 k = 0 := fun k hk => by
    rw [w1.g8 k (by
      intro q
      rcases List.mem_singleton.mp q with e
      omega), gi_si_k _ _ _ hk, hc.g8 k (by
      intro q
      simp only [List.mem_cons, List.not_mem_nil, or_false] at q
      omega)]
    exact S_z (by omega) k
  have hM : MI X0 w := by
    refine ⟨w2, ⟨g80 6 (by omega), by decide, fun i hi' => absurd hi' (Nat.not_lt_zero i)⟩, fun j hj => ⟨fun _ => ?_, fun b e => (nomatch (show (none : Option Bd) = some b from e))⟩, ⟨g80 8 (by omega), fun i hi' => absurd hi' (Nat.not_lt_zero i)⟩, ⟨g80 35 (by omega), fun i hi' => absurd hi' (Nat.not_lt_zero i)⟩, g80 12 (by omega), ?_⟩
    · rw [w1.g 84, d1.g 84]
      exact zz 84 j (by omega) (by decide) (by omega)
    · rw [w1.g8 15]
      exact gi_si_s _ _ _ _
  have hf : MF v w := (d1.mf).tr w1.mf
  have eu2 : Gr_fit 2 (sgS L xs z) = some u := eu
  have ev2 : Po_begin 10 2 u = some v := ev
  have ew2 : Mo_begins 2 (si v 80 15 (-1)) = some w := ew
  rw [eu2, bnd_some, ev2, bnd_some, bnd_some]
  unfold Mo_starts
  rw [ew2, bnd_some]
  refine okP_some ⟨X0, X0_ok, by decide, hC.mf hf, hM, fun k => ?_⟩
  rw [hf.1 1200 k (by omega), hc.g 1200]
  exact S_sc k
end STA

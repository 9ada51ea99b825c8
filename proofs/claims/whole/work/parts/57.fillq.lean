/-! ===== the reference: filled, fillings, idle ===== -/
section FILQ
variable {n : Nat} {f : Nat → Int} {x : Int} {s : Sg}
abbrev Mi : List Nat := [81, 82, 87]
/-- the whole board stands as before -/
def Same (s t : Sg) : Prop := ∀ k, k < 286 → gi t 81 k = gi s 81 k
theorem filledM_ok (hM : MB s n f) (hfr : FR n f) (hxr : 0 ≤ x ∧ x < 2147483648) : okP (bnd (Mo_goesAside (sl s 80 33 x)) fun s6 => bnd (Mo_fills s6) fun s8 => bnd2 (Mo_joined s8) fun y9 s10 => bnd2 (Mo_comesBack y9 s10) fun y11 s12 => some (y11, s12)) (fun o => Cl Mi s o.2 ∧ Same s o.2 ∧ o.1 = fow n (fil n x f (n * n)).2) := by
  have hM1 : MB (sl s 80 33 x) n f := hM
  refine okP_bnd (goesAside_ok _) ?_
  rintro t - ⟨h1, h2⟩
  have hMt : MB t n f := hM1.ch h1
  have hgl : gl t 80 33 = x := by rw [h1.l, gl_sl, if_pos ⟨rfl, rfl⟩]
  refine okP_bnd (fills_ok hMt hfr hgl hxr) ?_
  rintro u - ⟨k1, k2, -⟩
  have hfull := fil_full (x := x) hfr
  refine okP_bnd2 (Mo_joined_ok k2 hfull.fr) ?_
  rintro y w - ⟨l1, l2⟩
  have l1 : Ch [87] u w := l1
  have l2 : y = jnd n (fil n x f (n * n)).2 := l2
  refine okP_bnd2 (comesBack_ok y w) ?_
  rintro z v - ⟨m1, m2, m3⟩
  have m1 : Ch [81] w v := m1
  have m2 : z = y := m2
  have m3 : ∀ k, k < 286 → gi v 81 k = gi w 82 k := m3
  refine okP_some ⟨((((Cl.sl Mi s x).tr (h1.cl.mo (by decide))).tr (k1.mo (by decide))).tr (l1.cl.mo (by decide))).tr (m1.cl.mo (by decide)), fun k hk => ?_, ?_⟩
  · show gi v 81 k = gi s 81 k
    rw [m3 k hk, l1.g 82, k1.g 82, h2 k hk]; rfl
  · show z = _
    rw [m2, l2, fow_jnd hM.1.1 hfull]
theorem fillingsM_ok {sd : Int} {k : Nat} (hM : MB s n f) (hfr : FR n f) (hsd : sd = 0 ∨ sd = 1) (hk : k ≤ 100) (hxr : 0 ≤ x ∧ x < 2147483648) : okP (bnd (Mo_goesAside (sl s 80 33 x)) fun s7 => Mo_fillings_l53 sd (k : Int) 0 0 s7) (fun o => Cl Mi s o.2 ∧ Same s o.2 ∧ o.1 = (flc n x f sd k : Int)) := by
  have hM1 : MB (sl s 80 33 x) n f := hM
  refine okP_bnd (goesAside_ok _) ?_
  rintro t - ⟨h1, h2⟩
  have hgl : gl t 80 33 = x := by rw [h1.l, gl_sl, if_pos ⟨rfl, rfl⟩]
  have hst : Cl Mi s t := (Cl.sl Mi s x).tr (h1.cl.mo (by decide))
  have hsame : Same s t := fun j _ => by rw [h1.g 81]; rfl
  have h82 : ∀ j, j < 286 → gi t 82 j = gi s 81 j := fun j hj => h2 j hj
  unfold Mo_fillings_l53
  refine okP_bnd (P := fun r => Cl Mi s r.2 ∧ Same s r.2 ∧ r.1 = (flc n x f sd k : Int)) (whl_for (fun (j : Nat) (u : Int × Sg) => (u.1, (j : Int), u.2)) k (fun j u => Cl Mi s u.2 ∧ Same s u.2 ∧ (∀ i, i < 286 → gi u.2 82 i = gi s 81 i) ∧ gl u.2 80 33 = sds n x f j ∧ u.1 = (flc n x f sd j : Int)) (i0 := 0) (t0 := (0, t)) (Nat.zero_le _) ⟨hst, hsame, h82, hgl, rfl⟩ ?_ ?_) ?_
  · rintro j ⟨a, u⟩ hj ⟨k1, k2, k3, k4, k5⟩
    have k1 : Cl Mi s u := k1
    have k2 : Same s u := k2
    have k3 : ∀ i, i < 286 → gi u 82 i = gi s 81 i := k3
    have k4 : gl u 80 33 = sds n x f j := k4
    have k5 : a = (flc n x f sd j : Int) := k5
    have hMu : MB u n f := hM.same k2
    have hfull := fil_full (x := sds n x f j) hfr
    show okP (Mo_fillings_t53 sd (k : Int) a (j : Int) u) _
    unfold Mo_fillings_t53
    rw [ifLt_eq _ _ (R_nat (by omega)) (R_nat (by omega)), if_pos (by omega)]
    refine okP_bnd (fills_ok hMu hfr k4 (sds_rg hxr j)) ?_
    rintro w - ⟨l1, l2, l3⟩
    refine okP_bnd2 (Mo_hasJoined_ok l2 hfull.fr hsd) ?_
    rintro y v - ⟨m1, m2⟩
    have m1 : Ch [87] w v := m1
    have m2 : y = bI (Jn n (fil n (sds n x f j) f (n * n)).2 sd) := m2
    have hiff := fow_iff hM.1.1 hfull hsd
    have fin : ∀ b : Int, a + b = (flc n x f sd (j + 1) : Int) → okP (Mo_fillings_b78 sd (k : Int) (j : Int) a b v) (fun o => (∃ t' : Int × Sg, o = .inl (t'.1, ((j + 1 : Nat) : Int), t'.2) ∧ Cl Mi s t'.2 ∧ Same s t'.2 ∧ (∀ i, i < 286 → gi t'.2 82 i = gi s 81 i) ∧ gl t'.2 80 33 = sds n x f (j + 1) ∧ t'.1 = (flc n x f sd (j + 1) : Int)) ∨ ∃ r, o = .inr r ∧ Cl Mi s r.2 ∧ Same s r.2 ∧ r.1 = (flc n x f sd k : Int)) := by
      intro b hb
      unfold Mo_fillings_b78
      rw [lett_eq]
      refine okP_bnd2 (comesBack_ok 0 v) ?_
      rintro z q - ⟨n1, -, n3⟩
      have n1 : Ch [81] v q := n1
      have n3 : ∀ k, k < 286 → gi q 81 k = gi v 82 k := n3
      have hv82 : ∀ i, i < 286 → gi v 82 i = gi s 81 i := fun i hi' => by rw [m1.g 82, l1.g 82]; exact k3 i hi'
      refine okP_some (Or.inl ⟨(a + b, q), rfl, ((k1.tr (l1.mo (by decide))).tr (m1.cl.mo (by decide))).tr (n1.cl.mo (by decide)), fun i hi' => ?_, fun i hi' => ?_, ?_, hb⟩)
      · show gi q 81 i = _
        rw [n3 i hi']; exact hv82 i hi'
      · show gi q 82 i = _
        rw [n1.g 82]; exact hv82 i hi'
      · show gl q 80 33 = _
        rw [n1.l, m1.l]; exact l3
    rw [m2, ifEq_eq _ _ (R_bI _) R0]
    by_cases q : Jn n (fil n (sds n x f j) f (n * n)).2 sd
    · rw [bI_t q, if_neg (by omega)]
      refine fin 1 ?_
      unfold flc at k5 ⊢
      rw [cnt_t (p := fun j => fow n (fil n (sds n x f j) f (n * n)).2 = sd) (hiff.mpr q), k5]; rfl
    · rw [bI_f q, if_pos rfl]
      refine fin 0 ?_
      unfold flc at k5 ⊢
      rw [cnt_f (p := fun j => fow n (fil n (sds n x f j) f (n * n)).2 = sd) (fun z => q (hiff.mp z)), k5]
      exact Int.add_zero _
  · rintro ⟨a, u⟩ ⟨k1, k2, k3, k4, k5⟩
    show okP (Mo_fillings_t53 sd (k : Int) a (k : Int) u) _
    unfold Mo_fillings_t53
    rw [ifLt_eq _ _ (R_nat (by omega)) (R_nat (by omega)), if_neg (by omega)]
    exact okP_some ⟨(a, u), rfl, k1, k2, k5⟩
  · rintro ⟨a, u⟩ - h
    exact okP_some h
theorem idleM_ok (hM : MB s n f) (hfr : FR n f) (hxr : 0 ≤ x ∧ x < 2147483648) : okP (bnd (Mo_goesAside (sl s 80 33 x)) fun s6 => bnd (Mo_fills s6) fun s8 => bnd2 (Mo_joined s8) fun y9 s10 => Mo_idle_l42 y9 0 0 s10) (fun o => Cl Mi s o.2 ∧ Same s o.2 ∧ o.1 = (cnt (idl n f (fil n x f (n * n)).2) (n * n) : Int)) := by
  have h81 := nn_le hM.1.2.1
  have hM1 : MB (sl s 80 33 x) n f := hM
  refine okP_bnd (goesAside_ok _) ?_
  rintro t - ⟨h1, h2⟩
  have hMt : MB t n f := hM1.ch h1
  have hgl : gl t 80 33 = x := by rw [h1.l, gl_sl, if_pos ⟨rfl, rfl⟩]
  refine okP_bnd (fills_ok hMt hfr hgl hxr) ?_
  rintro u - ⟨k1, k2, -⟩
  have hfull := fil_full (x := x) hfr
  generalize hge : (fil n x f (n * n)).2 = g at k2 hfull ⊢
  have hw := fow_rg n g
  refine okP_bnd2 (Mo_joined_ok k2 hfull.fr) ?_
  rintro y w - ⟨l1, l2⟩
  have l1 : Ch [87] u w := l1
  have l2 : y = jnd n g := l2
  have hMw : MB w n g := k2.ch l1
  have h82 : ∀ j, j < 286 → gi w 82 j = gi s 81 j := fun j hj => by rw [l1.g 82, k1.g 82, h2 j hj]; rfl
  rw [l2, fow_jnd hM.1.1 hfull]
  unfold Mo_idle_l42
  refine okP_bnd (P := fun r => Ch [87] w r.2 ∧ r.1 = (cnt (idl n f g) (n * n) : Int)) (whl_for (fun (i : Nat) (v : Int × Sg) => (v.1, (i : Int), v.2)) (n * n) (fun i v => Ch [87] w v.2 ∧ v.1 = (cnt (idl n f g) i : Int)) (i0 := 0) (t0 := (0, w)) (Nat.zero_le _) ⟨Ch.rf _ _, rfl⟩ ?_ ?_) ?_
  · rintro i ⟨a, v⟩ hi' ⟨m1, m2⟩
    have m1 : Ch [87] w v := m1
    have m2 : a = (cnt (idl n f g) i : Int) := m2
    have hMv : MB v n g := hMw.ch m1
    have e5 : (5 + (i : Int)).toNat = 5 + i := by omega
    have hf82 : gi v 82 (5 + i) = f i := by rw [m1.g 82, h82 _ (by omega)]; exact hM.2 i hi'
    have hgi := hfull i hi'
    show okP (Mo_idle_t42 (fow n g) a (i : Int) v) _
    unfold Mo_idle_t42 Mo_idle_b123
    rw [Mo_cells_eq hMv.1, bnd_some, ifLt_eq _ _ (R_nat (by omega)) (R_nat (by omega)), if_pos (by omega), grd_t ⟨by omega, by omega⟩, e5, hf82, ifEq_eq _ _ (hfr.r hi') R_n1]
    by_cases q : f i = -1
    · rw [if_pos q, grd_t ⟨by omega, by omega⟩, grd_t ⟨by omega, by omega⟩, lett_eq, hMv.2 i hi']
      have hfl : Full n (ups g i (1 - g i)) := flip_full hfull (by omega)
      refine okP_bnd2 (Mo_joined_ok (hMv.ups i (1 - g i)) hfl.fr) ?_
      rintro y2 z - ⟨n1, n2⟩
      have n1 : Ch [87] (si v 81 (5 + i) (1 - g i)) z := n1
      have n2 : y2 = jnd n (ups g i (1 - g i)) := n2
      have hback : gi z 81 (5 + i) = 1 - g i := by rw [n1.g 81, gi_si_s]
      have e1 : 1 - (1 - g i) = g i := by omega
      have hCz : Ch [87] v (si z 81 (5 + i) (g i)) := ch_undo n1 (hMv.2 i hi')
      have fin : ∀ b : Int, a + b = (cnt (idl n f g) (i + 1) : Int) → okP (Mo_idle_b101 (fow n g) (i : Int) a b z) (fun o => (∃ t' : Int × Sg, o = .inl (t'.1, ((i + 1 : Nat) : Int), t'.2) ∧ Ch [87] w t'.2 ∧ t'.1 = (cnt (idl n f g) (i + 1) : Int)) ∨ ∃ r, o = .inr r ∧ Ch [87] w r.2 ∧ r.1 = (cnt (idl n f g) (n * n) : Int)) := by
        intro b hb
        unfold Mo_idle_b101 Mo_idle_b123
        rw [lett_eq, grd_t ⟨by omega, by omega⟩, grd_t ⟨by omega, by omega⟩, lett_eq, e5, hback, e1]
        exact okP_some (Or.inl ⟨(a + b, si z 81 (5 + i) (g i)), rfl, m1.tr hCz, hb⟩)
      rw [n2, fow_jnd hM.1.1 hfl, ifEq_eq _ _ (R_01 (fow_rg _ _)) (R_01 hw)]
      by_cases q2 : fow n (ups g i (1 - g i)) = fow n g
      · rw [if_pos q2]
        exact fin 1 (by rw [cnt_t (p := idl n f g) ⟨q, q2⟩, m2]; rfl)
      · rw [if_neg q2]
        exact fin 0 (by rw [cnt_f (p := idl n f g) (fun k => q2 k.2), m2]; exact Int.add_zero _)
    · rw [if_neg q]
      exact okP_some (Or.inl ⟨(a, v), rfl, m1, by rw [cnt_f (p := idl n f g) (fun k => q k.1)]; exact m2⟩)
  · rintro ⟨a, v⟩ ⟨m1, m2⟩
    have m1 : Ch [87] w v := m1
    have hMv : MB v n g := hMw.ch m1
    show okP (Mo_idle_t42 (fow n g) a ((n * n : Nat) : Int) v) _
    unfold Mo_idle_t42
    rw [Mo_cells_eq hMv.1, bnd_some, ifLt_eq _ _ (R_nat (by omega)) (R_nat (by omega)), if_neg (by omega)]
    exact okP_some ⟨(a, v), rfl, m1, m2⟩
  · rintro ⟨a, v⟩ - ⟨m1, m2⟩
    have m1 : Ch [87] w v := m1
    have m2 : a = (cnt (idl n f g) (n * n) : Int) := m2
    refine okP_bnd2 (comesBack_ok a v) ?_
    rintro z q - ⟨n1, n2, n3⟩
    have n1 : Ch [81] v q := n1
    have n2 : z = a := n2
    have n3 : ∀ k, k < 286 → gi q 81 k = gi v 82 k := n3
    refine okP_some ⟨(((((Cl.sl Mi s x).tr (h1.cl.mo (by decide))).tr (k1.mo (by decide))).tr (l1.cl.mo (by decide))).tr (m1.cl.mo (by decide))).tr (n1.cl.mo (by decide)), fun k hk => ?_, n2.trans m2⟩
    show gi q 81 k = gi s 81 k
    rw [n3 k hk, m1.g 82]; exact h82 k hk
end FILQ

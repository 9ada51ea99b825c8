/-! ===== the law's models: what it comes to where nothing is found amiss ===== -/
/-- a number out of the script: its length lies at 1201, its ints at 1200 -/
def clv (s : Sg) (x : Int) : Int := if gi s 1201 0 = 0 then 0 else (((gi s 1200 (x % gi s 1201 0).toNat).tmod 100000).natAbs : Int)
noncomputable def La_cell (x1 : Int) (s : Sg) : Option Int :=
  grd (0 ≤ x1 ∧ x1 ≤ 100000) <|
  grd (0 ≤ gi s 1201 0 ∧ gi s 1201 0 ≤ 260) <|
  grd (∀ j, R (gi s 1200 j)) <|
  some (clv s x1)
noncomputable def La_step (x2 : Int) (s : Sg) : Option (Sg) :=
  bnd (La_cell (x2 + 1) s) fun y1 =>
  bnd (La_cell (x2 + 2) s) fun y2 =>
  bndr (Hx_size 0 s) fun y3 s4 =>
  bndr (Hx_size 0 s4) fun y5 s6 =>
  lett (y3 * y5) fun x5_7 =>
  bnd (La_cell x2 s6) fun y8 =>
  grd ((0 ≤ y8 ∧ R y8) ∧ (0 < 12 ∧ R 12)) <|
  ifEq (y8 % 12) 0
    (grd ((0 ≤ y1 ∧ R y1) ∧ (0 < x5_7 ∧ R x5_7)) <|
    bndr (Hx_move (y1 % x5_7) s6) fun y11 s12 =>
    some s12)
    (ifEq (y8 % 12) 1
      (grd ((0 ≤ y1 ∧ R y1) ∧ (0 < x5_7 ∧ R x5_7)) <|
      bndr (Hx_move (y1 % x5_7) s6) fun y16 s17 =>
      some s17)
      (ifEq (y8 % 12) 2
        (grd ((0 ≤ y1 ∧ R y1) ∧ (0 < x5_7 ∧ R x5_7)) <|
        bndr (Hx_move (y1 % x5_7) s6) fun y21 s22 =>
        some s22)
        (ifEq (y8 % 12) 3
          (grd ((0 ≤ y1 ∧ R y1) ∧ (0 < x5_7 ∧ R x5_7)) <|
          bndr (Hx_move (y1 % x5_7) s6) fun y26 s27 =>
          some s27)
          (ifEq (y8 % 12) 4
            (grd ((0 ≤ y1 ∧ R y1) ∧ (0 < x5_7 ∧ R x5_7)) <|
            bndr (Hx_move (y1 % x5_7) s6) fun y31 s32 =>
            some s32)
            (ifEq (y8 % 12) 5
              (grd ((0 ≤ y1 ∧ R y1) ∧ (0 < x5_7 ∧ R x5_7)) <|
              grd ((0 ≤ y2 ∧ R y2) ∧ (0 < 3 ∧ R 3)) <|
              bndr (Hx_put (y1 % x5_7) ((y2 % 3) - 1) s6) fun y37 s38 =>
              some s38)
              (ifEq (y8 % 12) 6
                (grd ((0 ≤ y2 ∧ R y2) ∧ (0 < 2 ∧ R 2)) <|
                bndr (Hx_setTurn (y2 % 2) s6) fun y42 s43 =>
                some s43)
                (ifEq (y8 % 12) 7
                  (bnd2 (Hx_swap s6) fun y46 s47 =>
                  some s47)
                  (ifEq (y8 % 12) 8
                    (bnd2 (Hx_turnOver s6) fun y50 s51 =>
                    some s51)
                    (ifEq (y8 % 12) 9
                      (grd ((0 ≤ y2 ∧ R y2) ∧ (0 < 3 ∧ R 3)) <|
                      bndr (Hx_playForced (1 + (y2 % 3)) s6) fun y55 s56 =>
                      some s56)
                      (ifEq (y8 % 12) 10
                        (grd ((0 ≤ y2 ∧ R y2) ∧ (0 < 5 ∧ R 5)) <|
                        ifEq (y2 % 5) 0
                          (bnd2 (Hx_giveUp s6) fun y63 s64 =>
                          some s64)
                          (grd ((0 ≤ y2 ∧ R y2) ∧ (0 < x5_7 ∧ R x5_7)) <|
                          bndr (Hx_move (y2 % x5_7) s6) fun y61 s62 =>
                          some s62))
                        (bnd2 (Hx_undo s6) fun y67 s68 =>
                        some s68)))))))))))
noncomputable def La_whole_t9 (x1 : Int) (x3 : Int) (s : Sg) : Option (((Int × Int × Sg) ⊕ (Int × Sg))) :=
  ifLt 8 x3
    (some (.inr (x1, s)))
    (bndr (Hx_size x3 s) fun y3 s4 =>
    grd (R y3) <|
    lett ((31 * x1) + y3) fun x1_6 =>
    some (.inl (x1_6, (x3 + 1), s4)))
noncomputable def La_whole_t36 (x1 : Int) (x3 : Int) (s : Sg) : Option (((Int × Int × Sg) ⊕ (Int × Sg))) :=
  bndr (Hx_size 0 s) fun y9 s10 =>
  bndr (Hx_size 0 s10) fun y11 s12 =>
  ifLt x3 (y9 * y11)
    (bndr (Hx_cell x3 s12) fun y13 s14 =>
    grd (R y13) <|
    lett ((31 * x1) + y13) fun x1_16 =>
    some (.inl (x1_16, (x3 + 1), s14)))
    (some (.inr (x1, s12)))
noncomputable def La_whole_t72 (x1 : Int) (x3 : Int) (s : Sg) : Option (((Int × Int × Sg) ⊕ (Int × Sg))) :=
  bndr (Hx_size 4 s) fun y19 s20 =>
  ifLt x3 y19
    (bnd (Hx_moveAt x3 s20) fun y21 =>
    grd (R y21) <|
    lett ((31 * x1) + y21) fun x1_23 =>
    some (.inl (x1_23, (x3 + 1), s20)))
    (some (.inr (x1, s20)))
noncomputable def La_whole_l72 (x1 : Int) (x3 : Int) (s : Sg) : Option (Int × Sg) :=
  bnd (whl (fun σ : Int × Int × Sg => La_whole_t72 σ.1 σ.2.1 σ.2.2) (x1, x3, s)) fun ρ72 =>
    some (ρ72.1, ρ72.2)
noncomputable def La_whole_l36 (x1 : Int) (x3 : Int) (s : Sg) : Option (Int × Sg) :=
  bnd (whl (fun σ : Int × Int × Sg => La_whole_t36 σ.1 σ.2.1 σ.2.2) (x1, x3, s)) fun ρ36 =>
    La_whole_l72 ρ36.1 0 ρ36.2
noncomputable def La_whole_l9 (x1 : Int) (x3 : Int) (s : Sg) : Option (Int × Sg) :=
  bnd (whl (fun σ : Int × Int × Sg => La_whole_t9 σ.1 σ.2.1 σ.2.2) (x1, x3, s)) fun ρ9 =>
    La_whole_l36 ρ9.1 0 ρ9.2
noncomputable def La_whole  (s : Sg) : Option (Int × Sg) :=
  bnd (Hx_moveAt 0 s) fun y1 =>
  grd (R y1) <|
  La_whole_l9 y1 0 s
noncomputable def La_groups_b195 (x1 : Int) (x2 : Int) (x3 : Int) (x4 : Int) (x5 : Int) (x6 : Int) (x7 : Int) (x8 : Int) (x9 : Int) (x10 : Int) (x11 : Int) (s : Sg) : Option (((Int × Sg) ⊕ (Sg))) :=
  some (.inl ((x11 + 1), s))
noncomputable def La_groups_t148 (x1 : Int) (x2 : Int) (x3 : Int) (x4 : Int) (x5 : Int) (x6 : Int) (x7 : Int) (x8 : Int) (x9 : Int) (x10 : Int) (x11 : Int) (s : Sg) : Option (((Int × Sg) ⊕ (Sg))) :=
  bndr (Hx_neighbour x9 x11 s) fun y25 s26 =>
  ifLt y25 0
    (some (.inr s26))
    (bndr (Hx_neighbour x9 x11 s26) fun y27 s28 =>
    bndr (Hx_cell y27 s28) fun y29 s30 =>
    ifEq y29 x1
      (bndr (Hx_neighbour x9 x11 s30) fun y31 s32 =>
      bndr (Hx_group y31 0 s32) fun y33 s34 =>
      ifEq y33 x10
        (La_groups_b195 x1 x2 x3 x4 x5 x6 x7 x8 x9 x10 x11 s34)
        (none))
      (La_groups_b195 x1 x2 x3 x4 x5 x6 x7 x8 x9 x10 x11 s30))
noncomputable def La_groups_b304 (x1 : Int) (x2 : Int) (x3 : Int) (x4 : Int) (x5 : Int) (x6 : Int) (x7 : Int) (x8 : Int) (x9 : Int) (s : Sg) : Option (((Int × Int × Int × Int × Int × Int × Int × Int × Sg) ⊕ (Int × Int × Int × Int × Int × Int × Int × Sg))) :=
  some (.inl (x2, x3, x4, x5, x6, x7, x8, (x9 + 1), s))
noncomputable def La_groups_b260 (x1 : Int) (x2 : Int) (x4 : Int) (x5 : Int) (x6 : Int) (x7 : Int) (x8 : Int) (x9 : Int) (t0 : Int) (t1 : Int) (s : Sg) : Option (((Int × Int × Int × Int × Int × Int × Int × Int × Sg) ⊕ (Int × Int × Int × Int × Int × Int × Int × Sg))) :=
  lett (t0 + t1) fun x3_36 =>
  bndr (Hx_chain x9 0 s) fun y37 s38 =>
  ifEq y37 x9
    (bndr (Hx_chain x9 1 s38) fun y39 s40 =>
    lett (x4 + y39) fun x4_41 =>
    bndr (Hx_chain x9 2 s40) fun y42 s43 =>
    lett (x6 + y42) fun x6_44 =>
    La_groups_b304 x1 x2 x3_36 x4_41 (x5 + 1) x6_44 x7 x8 x9 s43)
    (La_groups_b304 x1 x2 x3_36 x4 x5 x6 x7 x8 x9 s38)
noncomputable def La_groups_b245 (x1 : Int) (x2 : Int) (x3 : Int) (x4 : Int) (x5 : Int) (x6 : Int) (x7 : Int) (x9 : Int) (x10 : Int) (t0 : Int) (s : Sg) : Option (((Int × Int × Int × Int × Int × Int × Int × Int × Sg) ⊕ (Int × Int × Int × Int × Int × Int × Int × Sg))) :=
  ifEq x10 x9
    (La_groups_b260 x1 x2 x4 x5 x6 x7 t0 x9 x3 1 s)
    (La_groups_b260 x1 x2 x4 x5 x6 x7 t0 x9 x3 0 s)
noncomputable def La_groups_b240 (x1 : Int) (x2 : Int) (x3 : Int) (x4 : Int) (x5 : Int) (x6 : Int) (x7 : Int) (x9 : Int) (x10 : Int) (s : Sg) : Option (((Int × Int × Int × Int × Int × Int × Int × Int × Sg) ⊕ (Int × Int × Int × Int × Int × Int × Int × Sg))) :=
  La_groups_b245 x1 x2 x3 x4 x5 x6 x7 x9 x10 1 s
noncomputable def La_groups_b222 (x1 : Int) (x2 : Int) (x3 : Int) (x4 : Int) (x5 : Int) (x6 : Int) (x8 : Int) (x9 : Int) (x10 : Int) (t0 : Int) (s : Sg) : Option (((Int × Int × Int × Int × Int × Int × Int × Int × Sg) ⊕ (Int × Int × Int × Int × Int × Int × Int × Sg))) :=
  ifEq x8 0
    (bndr (Hx_chain x9 3 s) fun y45 s46 =>
    ifEq y45 3
      (La_groups_b240 x1 x2 x3 x4 x5 x6 t0 x9 x10 s46)
      (La_groups_b245 x1 x2 x3 x4 x5 x6 t0 x9 x10 0 s46))
    (La_groups_b240 x1 x2 x3 x4 x5 x6 t0 x9 x10 s)
noncomputable def La_groups_b217 (x1 : Int) (x2 : Int) (x3 : Int) (x4 : Int) (x5 : Int) (x6 : Int) (x8 : Int) (x9 : Int) (x10 : Int) (s : Sg) : Option (((Int × Int × Int × Int × Int × Int × Int × Int × Sg) ⊕ (Int × Int × Int × Int × Int × Int × Int × Sg))) :=
  La_groups_b222 x1 x2 x3 x4 x5 x6 x8 x9 x10 1 s
noncomputable def La_groups_l148 (x1 : Int) (x2 : Int) (x3 : Int) (x4 : Int) (x5 : Int) (x6 : Int) (x7 : Int) (x8 : Int) (x9 : Int) (x10 : Int) (x11 : Int) (s : Sg) : Option (((Int × Int × Int × Int × Int × Int × Int × Int × Sg) ⊕ (Int × Int × Int × Int × Int × Int × Int × Sg))) :=
  bnd (whl (fun σ : Int × Sg => La_groups_t148 x1 x2 x3 x4 x5 x6 x7 x8 x9 x10 σ.1 σ.2) (x11, s)) fun ρ148 =>
    ifEq x7 0
      (bndr (Hx_group x9 3 ρ148) fun y47 s48 =>
      ifEq y47 3
        (La_groups_b217 x1 x2 x3 x4 x5 x6 x8 x9 x10 s48)
        (La_groups_b222 x1 x2 x3 x4 x5 x6 x8 x9 x10 0 s48))
      (La_groups_b217 x1 x2 x3 x4 x5 x6 x8 x9 x10 ρ148)
noncomputable def La_groups_t22 (x1 : Int) (x2 : Int) (x3 : Int) (x4 : Int) (x5 : Int) (x6 : Int) (x7 : Int) (x8 : Int) (x9 : Int) (s : Sg) : Option (((Int × Int × Int × Int × Int × Int × Int × Int × Sg) ⊕ (Int × Int × Int × Int × Int × Int × Int × Sg))) :=
  bndr (Hx_size 0 s) fun y1 s2 =>
  bndr (Hx_size 0 s2) fun y3 s4 =>
  ifLt x9 (y1 * y3)
    (bndr (Hx_cell x9 s4) fun y5 s6 =>
    ifEq y5 x1
      (bndr (Hx_group x9 0 s6) fun y7 s8 =>
      ifLt x9 y7
        (none)
        (bndr (Hx_cell y7 s8) fun y9 s10 =>
        ifEq y9 x1
          (bndr (Hx_group y7 1 s10) fun y11 s12 =>
          bndr (Hx_group x9 1 s12) fun y13 s14 =>
          ifEq y11 y13
            (bndr (Hx_chain x9 0 s14) fun y15 s16 =>
            ifLt y7 y15
              (none)
              (bndr (Hx_chain x9 0 s16) fun y17 s18 =>
              bndr (Hx_chain y7 0 s18) fun y19 s20 =>
              ifEq y17 y19
                (bndr (Hx_chain x9 1 s20) fun y21 s22 =>
                bndr (Hx_group x9 1 s22) fun y23 s24 =>
                ifLt y21 y23
                  (none)
                  (La_groups_l148 x1 (x2 + 1) x3 x4 x5 x6 x7 x8 x9 y7 0 s24))
                (none)))
            (none))
          (none)))
      (La_groups_b304 x1 x2 x3 x4 x5 x6 x7 x8 x9 s6))
    (some (.inr (x2, x3, x4, x5, x6, x7, x8, s4)))
noncomputable def La_groups_b461 (t0 : Int) (t1 : Int) (s : Sg) : Option (Int × Sg) :=
  ifEq t0 t1
    (some (1, s))
    (none)
noncomputable def La_groups_b452 (x2 : Int) (t0 : Int) (s : Sg) : Option (Int × Sg) :=
  ifEq x2 0
    (La_groups_b461 t0 1 s)
    (La_groups_b461 t0 0 s)
noncomputable def La_groups_b434 (x1 : Int) (x2 : Int) (x7 : Int) (t0 : Int) (s : Sg) : Option (Int × Sg) :=
  ifEq t0 x7
    (bndr (Hx_largest x1 s) fun y69 s70 =>
    ifLt y69 0
      (La_groups_b452 x2 1 s70)
      (La_groups_b452 x2 0 s70))
    (none)
noncomputable def La_groups_b421 (x1 : Int) (x2 : Int) (x7 : Int) (s : Sg) : Option (Int × Sg) :=
  bndr (Hx_distance x1 s) fun y67 s68 =>
  ifEq y67 0
    (La_groups_b434 x1 x2 x7 1 s68)
    (La_groups_b434 x1 x2 x7 0 s68)
noncomputable def La_groups_b354 (x1 : Int) (x2 : Int) (x3 : Int) (x4 : Int) (x5 : Int) (x6 : Int) (x7 : Int) (x8 : Int) (s : Sg) : Option (Int × Sg) :=
  bndr (Hx_size (1 + x1) s) fun y57 s58 =>
  ifEq y57 x2
    (bndr (Hx_groups x1 s58) fun y59 s60 =>
    ifEq y59 x3
      (bndr (Hx_chains x1 s60) fun y61 s62 =>
      ifEq y61 x5
        (ifEq x4 x2
          (bndr (Hx_bridges x1 1 s62) fun y63 s64 =>
          ifEq y63 x6
            (bndr (Hx_isSafe x1 s64) fun y65 s66 =>
            ifEq y65 x8
              (ifEq x7 0
                (La_groups_b421 x1 x2 x7 s66)
                (ifEq x8 0
                  (none)
                  (La_groups_b421 x1 x2 x7 s66)))
              (none))
            (none))
          (none))
        (none))
      (none))
    (none)
noncomputable def La_groups_b325 (x1 : Int) (x2 : Int) (x3 : Int) (x4 : Int) (x5 : Int) (x6 : Int) (x7 : Int) (x8 : Int) (s : Sg) : Option (Int × Sg) :=
  ifEq x7 0
    (bndr (Hx_size 6 s) fun y71 s72 =>
    ifEq y71 x1
      (bndr (Hx_size 8 s72) fun y73 s74 =>
      ifEq y73 (1 - x1)
        (La_groups_b354 x1 x2 x3 x4 x5 x6 x7 x8 s74)
        (none))
      (La_groups_b354 x1 x2 x3 x4 x5 x6 x7 x8 s72))
    (La_groups_b354 x1 x2 x3 x4 x5 x6 x7 x8 s)
noncomputable def La_groups_l22 (x1 : Int) (x2 : Int) (x3 : Int) (x4 : Int) (x5 : Int) (x6 : Int) (x7 : Int) (x8 : Int) (x9 : Int) (s : Sg) : Option (Int × Sg) :=
  bnd (whl (fun σ : Int × Int × Int × Int × Int × Int × Int × Int × Sg => La_groups_t22 x1 σ.1 σ.2.1 σ.2.2.1 σ.2.2.2.1 σ.2.2.2.2.1 σ.2.2.2.2.2.1 σ.2.2.2.2.2.2.1 σ.2.2.2.2.2.2.2.1 σ.2.2.2.2.2.2.2.2) (x2, x3, x4, x5, x6, x7, x8, x9, s)) fun ρ22 =>
    ifEq ρ22.2.2.2.2.2.1 0
      (La_groups_b325 x1 ρ22.1 ρ22.2.1 ρ22.2.2.1 ρ22.2.2.2.1 ρ22.2.2.2.2.1 ρ22.2.2.2.2.2.1 ρ22.2.2.2.2.2.2.1 ρ22.2.2.2.2.2.2.2)
      (bndr (Hx_size 6 ρ22.2.2.2.2.2.2.2) fun y75 s76 =>
      ifEq y75 x1
        (La_groups_b325 x1 ρ22.1 ρ22.2.1 ρ22.2.2.1 ρ22.2.2.2.1 ρ22.2.2.2.2.1 ρ22.2.2.2.2.2.1 ρ22.2.2.2.2.2.2.1 s76)
        (none))
noncomputable def La_groups (x1 : Int) (s : Sg) : Option (Int × Sg) :=
  La_groups_l22 x1 0 0 0 0 0 0 0 0 s
noncomputable def La_bridges_b286 (x1 : Int) (r2 : Nat) (x3 : Int) (x4 : Int) (s : Sg) : Option (((Int × Sg) ⊕ (Sg))) :=
  some (.inl ((x4 + 1), s))
noncomputable def La_bridges_b262 (x1 : Int) (r2 : Nat) (x3 : Int) (x4 : Int) (x5 : Int) (x6 : Int) (s : Sg) : Option (((Int × Sg) ⊕ (Sg))) :=
  ifLt x6 0
    (La_bridges_b286 x1 r2 x3 x4 s)
    (bndr (Hx_chain x5 0 s) fun y28 s29 =>
    bndr (Hx_chain x6 0 s29) fun y30 s31 =>
    ifEq y28 y30
      (La_bridges_b286 x1 r2 x3 x4 s31)
      (none))
noncomputable def La_bridges_b204 (x1 : Int) (r2 : Nat) (x3 : Int) (x4 : Int) (x5 : Int) (x6 : Int) (x7 : Int) (x8 : Int) (x9 : Int) (t0 : Int) (s : Sg) : Option (((Int × Sg) ⊕ (Sg))) :=
  ifEq t0 x9
    (ifEq x9 0
      (La_bridges_b286 x1 r2 x3 x4 s)
      (grd (0 ≤ x7 ∧ x7 < 81) <|
      lett (si s r2 x7.toNat 1) fun s23 =>
      grd (0 ≤ x8 ∧ x8 < 81) <|
      lett (si s23 r2 x8.toNat 1) fun s25 =>
      bndr (Hx_size 5 s25) fun y26 s27 =>
      ifEq y26 x1
        (La_bridges_b262 x1 r2 x3 x4 x5 x6 s27)
        (bndr (Hx_answer x7 s27) fun y32 s33 =>
        ifEq y32 x8
          (bndr (Hx_answer x8 s33) fun y34 s35 =>
          ifEq y34 x7
            (La_bridges_b262 x1 r2 x3 x4 x5 x6 s35)
            (none))
          (none))))
    (none)
noncomputable def La_bridges_b185 (x1 : Int) (r2 : Nat) (x3 : Int) (x4 : Int) (x5 : Int) (x6 : Int) (x7 : Int) (x8 : Int) (t0 : Int) (s : Sg) : Option (((Int × Sg) ⊕ (Sg))) :=
  bndr (Hx_bridge x1 x4 4 s) fun y20 s21 =>
  ifEq y20 1
    (La_bridges_b204 x1 r2 x3 x4 x5 x6 x7 x8 t0 1 s21)
    (La_bridges_b204 x1 r2 x3 x4 x5 x6 x7 x8 t0 0 s21)
noncomputable def La_bridges_b184 (x1 : Int) (r2 : Nat) (x3 : Int) (x4 : Int) (x5 : Int) (x6 : Int) (x7 : Int) (x8 : Int) (s : Sg) : Option (((Int × Sg) ⊕ (Sg))) :=
  La_bridges_b185 x1 r2 x3 x4 x5 x6 x7 x8 0 s
noncomputable def La_bridges_b166 (x1 : Int) (r2 : Nat) (x3 : Int) (x4 : Int) (x5 : Int) (x6 : Int) (x7 : Int) (x8 : Int) (s : Sg) : Option (((Int × Sg) ⊕ (Sg))) :=
  grd (0 ≤ x7 ∧ x7 < 81) <|
  ifEq (gi s r2 x7.toNat) 0
    (grd (0 ≤ x8 ∧ x8 < 81) <|
    ifEq (gi s r2 x8.toNat) 0
      (La_bridges_b185 x1 r2 x3 x4 x5 x6 x7 x8 1 s)
      (La_bridges_b184 x1 r2 x3 x4 x5 x6 x7 x8 s))
    (La_bridges_b184 x1 r2 x3 x4 x5 x6 x7 x8 s)
noncomputable def La_bridges_t28 (x1 : Int) (r2 : Nat) (x3 : Int) (x4 : Int) (s : Sg) : Option (((Int × Sg) ⊕ (Sg))) :=
  ifLt x4 x3
    (bndr (Hx_bridge x1 x4 0 s) fun y5 s6 =>
    bndr (Hx_bridge x1 x4 1 s6) fun y7 s8 =>
    bndr (Hx_bridge x1 x4 2 s8) fun y9 s10 =>
    bndr (Hx_bridge x1 x4 3 s10) fun y11 s12 =>
    bndr (Hx_cell y5 s12) fun y13 s14 =>
    ifEq y13 x1
      (bndr (Hx_cell y9 s14) fun y15 s16 =>
      ifEq y15 (-1)
        (bndr (Hx_cell y11 s16) fun y17 s18 =>
        ifEq y17 (-1)
          (ifLt y9 y11
            (ifLt y7 0
              (La_bridges_b166 x1 r2 x3 x4 y5 y7 y9 y11 s18)
              (ifLt y5 y7
                (bndr (Hx_isBridge y7 y5 s18) fun y37 s38 =>
                ifEq y37 0
                  (none)
                  (bndr (Hx_group y5 0 s38) fun y39 s40 =>
                  bndr (Hx_group y7 0 s40) fun y41 s42 =>
                  ifEq y39 y41
                    (bndr (Hx_group y5 1 s42) fun y43 s44 =>
                    ifLt y43 3
                      (none)
                      (La_bridges_b166 x1 r2 x3 x4 y5 y7 y9 y11 s44))
                    (La_bridges_b166 x1 r2 x3 x4 y5 y7 y9 y11 s42)))
                (none)))
            (none))
          (none))
        (none))
      (none))
    (some (.inr s))
noncomputable def La_bridges_l28 (x1 : Int) (r2 : Nat) (x3 : Int) (x4 : Int) (s : Sg) : Option (Int × Sg) :=
  bnd (whl (fun σ : Int × Sg => La_bridges_t28 x1 r2 x3 σ.1 σ.2) (x4, s)) fun ρ28 =>
    some (1, ρ28)
noncomputable def La_bridges (x1 : Int) (r2 : Nat) (s : Sg) : Option (Int × Sg) :=
  bndr (Hx_bridges x1 0 s) fun y1 s2 =>
  bndr (Hx_bridge x1 y1 0 s2) fun y3 s4 =>
  ifEq y3 (-1)
    (La_bridges_l28 x1 r2 y1 0 s4)
    (none)
noncomputable def La_ways_b145 (x1 : Int) (x2 : Int) (x3 : Int) (x4 : Int) (s : Sg) : Option (((Int × Int × Sg) ⊕ ((Sg) ⊕ (Int × Sg)))) :=
  some (.inl (x3, (x4 + 1), s))
noncomputable def La_ways_b97 (x1 : Int) (x2 : Int) (x4 : Int) (t0 : Int) (t1 : Int) (s : Sg) : Option (((Int × Int × Sg) ⊕ ((Sg) ⊕ (Int × Sg)))) :=
  lett (t0 + t1) fun x3_13 =>
  bndr (Hx_potential x1 x4 9 s) fun y14 s15 =>
  bndr (Hx_cell x4 s15) fun y16 s17 =>
  ifEq y16 (1 - x1)
    (ifEq y14 (-1)
      (La_ways_b145 x1 x2 x3_13 x4 s17)
      (some (.inr (.inl s17))))
    (ifLt y14 0
      (none)
      (ifLt 1000000 y14
        (none)
        (La_ways_b145 x1 x2 x3_13 x4 s17)))
noncomputable def La_ways_b96 (x1 : Int) (x2 : Int) (x4 : Int) (t0 : Int) (s : Sg) : Option (((Int × Int × Sg) ⊕ ((Sg) ⊕ (Int × Sg)))) :=
  La_ways_b97 x1 x2 x4 t0 0 s
noncomputable def La_ways_b71 (x1 : Int) (x2 : Int) (x3 : Int) (x4 : Int) (x5 : Int) (s : Sg) : Option (((Int × Int × Sg) ⊕ ((Sg) ⊕ (Int × Sg)))) :=
  bndr (Hx_cell x4 s) fun y11 s12 =>
  ifEq y11 (-1)
    (ifLt x2 0
      (La_ways_b96 x1 x2 x4 x3 s12)
      (ifEq x5 x2
        (La_ways_b97 x1 x2 x4 x3 1 s12)
        (La_ways_b96 x1 x2 x4 x3 s12)))
    (La_ways_b96 x1 x2 x4 x3 s12)
noncomputable def La_ways_b51 (x1 : Int) (x2 : Int) (x3 : Int) (x4 : Int) (x5 : Int) (s : Sg) : Option (((Int × Int × Sg) ⊕ ((Sg) ⊕ (Int × Sg)))) :=
  bndr (Hx_cell x4 s) fun y9 s10 =>
  ifEq y9 (1 - x1)
    (ifEq x5 (-1)
      (La_ways_b71 x1 x2 x3 x4 x5 s10)
      (none))
    (La_ways_b71 x1 x2 x3 x4 x5 s10)
noncomputable def La_ways_t11 (x1 : Int) (x2 : Int) (x3 : Int) (x4 : Int) (s : Sg) : Option (((Int × Int × Sg) ⊕ ((Sg) ⊕ (Int × Sg)))) :=
  bndr (Hx_size 0 s) fun y3 s4 =>
  bndr (Hx_size 0 s4) fun y5 s6 =>
  ifLt x4 (y3 * y5)
    (bndr (Hx_through x1 x4 s6) fun y7 s8 =>
    ifLt y7 0
      (La_ways_b51 x1 x2 x3 x4 y7 s8)
      (ifLt x2 0
        (none)
        (ifLt y7 x2
          (none)
          (La_ways_b51 x1 x2 x3 x4 y7 s8))))
    (some (.inr (.inr (x3, s6))))
noncomputable def La_ways_b174  (s : Sg) : Option (Int × Sg) :=
  some (1, s)
noncomputable def La_ways_l11 (x1 : Int) (x2 : Int) (x3 : Int) (x4 : Int) (s : Sg) : Option (Int × Sg) :=
  bnd (whl (fun σ : Int × Int × Sg => La_ways_t11 x1 x2 σ.1 σ.2.1 σ.2.2) (x3, x4, s)) fun ρ11 => match ρ11 with
  | .inl ρ11 =>
      none
  | .inr ρ11 =>
      bndr (Hx_useful x1 ρ11.2) fun y21 s22 =>
      ifEq y21 ρ11.1
        (ifLt x2 0
          (bndr (Hx_distance (1 - x1) s22) fun y23 s24 =>
          ifLt y23 0
            (none)
            (La_ways_b174  s24))
          (La_ways_b174  s22))
        (none)
noncomputable def La_ways (x1 : Int) (s : Sg) : Option (Int × Sg) :=
  bndr (Hx_distance x1 s) fun y1 s2 =>
  La_ways_l11 x1 y1 0 0 s2
noncomputable def La_threats_b103 (x1 : Int) (x2 : Int) (x3 : Int) (x4 : Int) (t0 : Int) (t1 : Int) (s : Sg) : Option (((Int × Sg) ⊕ (Sg))) :=
  ifLt t1 t0
    (bndr (Hx_put x4 x1 s) fun y15 s16 =>
    ifEq y15 (-1)
      (bndr (Hx_distance x1 s16) fun y17 s18 =>
      ifEq y17 0
        (bndr (Hx_restoreSnapshot 0 s18) fun y19 s20 =>
        some (.inl ((x3 + 1), s20)))
        (none))
      (none))
    (none)
noncomputable def La_threats_t72 (x1 : Int) (x2 : Int) (x3 : Int) (s : Sg) : Option (((Int × Sg) ⊕ (Sg))) :=
  ifLt x3 x2
    (bndr (Hx_threat x1 x3 s) fun y11 s12 =>
    ifEq x3 0
      (La_threats_b103 x1 x2 x3 y11 y11 (-1) s12)
      (bndr (Hx_threat x1 (x3 - 1) s12) fun y13 s14 =>
      La_threats_b103 x1 x2 x3 y11 y11 y13 s14))
    (some (.inr s))
noncomputable def La_threats_l72 (x1 : Int) (x2 : Int) (x3 : Int) (s : Sg) : Option (Int × Sg) :=
  bnd (whl (fun σ : Int × Sg => La_threats_t72 x1 x2 σ.1 σ.2) (x3, s)) fun ρ72 =>
    some (1, ρ72)
noncomputable def La_threats_b59 (x1 : Int) (x2 : Int) (t0 : Int) (t1 : Int) (s : Sg) : Option (Int × Sg) :=
  ifEq t0 t1
    (bndr (Hx_saveSnapshot 0 s) fun y9 s10 =>
    La_threats_l72 x1 x2 0 s10)
    (none)
noncomputable def La_threats_b50 (x1 : Int) (x2 : Int) (t0 : Int) (s : Sg) : Option (Int × Sg) :=
  ifLt 0 x2
    (La_threats_b59 x1 x2 t0 1 s)
    (La_threats_b59 x1 x2 t0 0 s)
noncomputable def La_threats (x1 : Int) (s : Sg) : Option (Int × Sg) :=
  bndr (Hx_threats x1 s) fun y1 s2 =>
  bndr (Hx_threat x1 y1 s2) fun y3 s4 =>
  ifEq y3 (-1)
    (bndr (Hx_distance x1 s4) fun y5 s6 =>
    ifEq y5 0
      (ifEq y1 0
        (some (1, s6))
        (none))
      (bndr (Hx_distance x1 s6) fun y7 s8 =>
      ifEq y7 1
        (La_threats_b50 x1 y1 1 s8)
        (La_threats_b50 x1 y1 0 s8)))
    (none)
noncomputable def La_foresees_b362 (x3 : Int) (s : Sg) : Option (Int × Sg) :=
  bnd2 (La_whole s) fun y48 s49 =>
  grd (y48 = x3) <|
  ifEq 0 0
    (some (1, s49))
    (none)
noncomputable def La_foresees_b357 (x3 : Int) (t0 : Int) (t1 : Int) (s : Sg) : Option (Int × Sg) :=
  ifEq t0 t1
    (La_foresees_b362 x3 s)
    (none)
noncomputable def La_foresees_b323 (x3 : Int) (x10 : Int) (x11 : Int) (x12 : Int) (s : Sg) : Option (Int × Sg) :=
  bndr (Hx_size 6 s) fun y44 s45 =>
  ifEq x10 y44
    (ifEq x12 (-1)
      (bndr (Hx_size 6 s45) fun y46 s47 =>
      ifEq y46 (-1)
        (La_foresees_b357 x3 x11 (-1) s47)
        (La_foresees_b357 x3 x11 0 s47))
      (none))
    (none)
noncomputable def La_foresees_b314 (x3 : Int) (s : Sg) : Option (Int × Sg) :=
  bndr (Hx_restoreSnapshot 0 s) fun y55 s56 =>
  La_foresees_b362 x3 s56
noncomputable def La_foresees_b280 (x3 : Int) (x12 : Int) (x13 : Int) (t0 : Int) (t1 : Int) (s : Sg) : Option (Int × Sg) :=
  ifEq t0 t1
    (ifLt x12 0
      (La_foresees_b314 x3 s)
      (bndr (Hx_move x12 s) fun y57 s58 =>
      ifEq y57 (1 - x13)
        (none)
        (bnd2 (Hx_solved s58) fun y59 s60 =>
        ifEq y59 x13
          (La_foresees_b314 x3 s60)
          (none))))
    (none)
noncomputable def La_foresees_b270 (x3 : Int) (x11 : Int) (x12 : Int) (x13 : Int) (t0 : Int) (s : Sg) : Option (Int × Sg) :=
  ifLt 0 x11
    (La_foresees_b280 x3 x12 x13 t0 1 s)
    (La_foresees_b280 x3 x12 x13 t0 0 s)
noncomputable def La_foresees_b257 (x3 : Int) (x11 : Int) (x12 : Int) (x13 : Int) (t0 : Int) (t1 : Int) (s : Sg) : Option (Int × Sg) :=
  ifEq t0 t1
    (ifLt x12 0
      (La_foresees_b270 x3 x11 x12 x13 0 s)
      (La_foresees_b270 x3 x11 x12 x13 1 s))
    (none)
noncomputable def La_foresees_b247 (x3 : Int) (x11 : Int) (x12 : Int) (x13 : Int) (t0 : Int) (s : Sg) : Option (Int × Sg) :=
  ifLt 0 x11
    (La_foresees_b257 x3 x11 x12 x13 t0 1 s)
    (La_foresees_b257 x3 x11 x12 x13 t0 0 s)
noncomputable def La_foresees_b202 (x3 : Int) (x10 : Int) (x11 : Int) (x12 : Int) (s : Sg) : Option (Int × Sg) :=
  bndr (Hx_restoreSnapshot 0 s) fun y40 s41 =>
  bndr (Hx_size 6 s41) fun y42 s43 =>
  ifEq y42 (-1)
    (bndr (Hx_size 3 s43) fun y51 s52 =>
    ifLt 6 y51
      (La_foresees_b323 x3 x10 x11 x12 s52)
      (bndr (Hx_size 5 s52) fun y53 s54 =>
      ifEq x10 y53
        (La_foresees_b247 x3 x11 x12 y53 1 s54)
        (La_foresees_b247 x3 x11 x12 y53 0 s54)))
    (La_foresees_b323 x3 x10 x11 x12 s43)
noncomputable def La_foresees_b90 (x3 : Int) (x5 : Int) (x6 : Int) (x7 : Int) (x8 : Int) (x9 : Int) (x10 : Int) (x11 : Int) (x12 : Int) (t0 : Int) (t1 : Int) (s : Sg) : Option (Int × Sg) :=
  ifEq t0 t1
    (bndr (Hx_fillings 0 x5 x6 s) fun y22 s23 =>
    bndr (Hx_fillings 1 x5 x6 s23) fun y24 s25 =>
    ifEq (y22 + y24) x6
      (bndr (Hx_filled x5 s25) fun y26 s27 =>
      bndr (Hx_fillings y26 x5 1 s27) fun y28 s29 =>
      ifEq y28 1
        (bndr (Hx_idle x5 s29) fun y30 s31 =>
        bndr (Hx_size 3 s31) fun y32 s33 =>
        ifLt y32 y30
          (none)
          (bndr (Hx_saveSnapshot 0 s33) fun y34 s35 =>
          bndr (Hx_playForced 81 s35) fun y36 s37 =>
          ifEq y36 x8
            (bndr (Hx_size 6 s37) fun y38 s39 =>
            ifEq y38 x7
              (ifLt 0 x8
                (bndr (Hx_size 4 s39) fun y61 s62 =>
                bnd (Hx_moveAt (y61 - x8) s62) fun y63 =>
                ifEq y63 x9
                  (La_foresees_b202 x3 x10 x11 x12 s62)
                  (none))
                (La_foresees_b202 x3 x10 x11 x12 s39))
              (none))
            (none)))
        (none))
      (none))
    (none)
noncomputable def La_foresees_b80 (x3 : Int) (x5 : Int) (x6 : Int) (x7 : Int) (x8 : Int) (x9 : Int) (x10 : Int) (x11 : Int) (x12 : Int) (t0 : Int) (s : Sg) : Option (Int × Sg) :=
  ifLt x9 0
    (La_foresees_b90 x3 x5 x6 x7 x8 x9 x10 x11 x12 t0 0 s)
    (La_foresees_b90 x3 x5 x6 x7 x8 x9 x10 x11 x12 t0 1 s)
noncomputable def La_foresees (x2 : Int) (s : Sg) : Option (Int × Sg) :=
  bnd2 (La_whole s) fun y1 s2 =>
  bnd (La_cell x2 s2) fun y3 =>
  bnd (La_cell (x2 + 1) s2) fun y4 =>
  grd ((0 ≤ y4 ∧ R y4) ∧ (0 < 5 ∧ R 5)) <|
  lett (1 + (y4 % 5)) fun x6_6 =>
  bnd2 (Hx_forcedWinner s2) fun y7 s8 =>
  bnd2 (Hx_forcedRow s8) fun y9 s10 =>
  bnd2 (Hx_forced s10) fun y11 s12 =>
  bnd2 (Hx_solved s12) fun y13 s14 =>
  bnd2 (Hx_goodMoves s14) fun y15 s16 =>
  bnd2 (Hx_bestMove s16) fun y17 s18 =>
  bnd2 (La_whole s18) fun y19 s20 =>
  grd (y19 = y1) <|
  ifEq 0 0
    (ifLt 0 y9
      (La_foresees_b80 y1 y3 x6_6 y7 y9 y11 y13 y15 y17 1 s20)
      (La_foresees_b80 y1 y3 x6_6 y7 y9 y11 y13 y15 y17 0 s20))
    (none)

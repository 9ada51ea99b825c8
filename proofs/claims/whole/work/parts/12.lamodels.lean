/-! ===== the law's models ===== -/
/-- what a call with an exception does: as told -/
def hcat {α : Type} (m : Option ((Nat ⊕ α) × Sg)) (cI cX : Int) (f : α → Sg → Option (Int × Sg)) : Option (Int × Sg) := match m with
  | some r => (match r.1 with
    | .inr a => f a r.2
    | .inl e => if e = 0 then (if cI = 0 then none else some (cI, r.2)) else (if cX = 0 then none else some (cX, r.2)))
  | none => none
def dcmplI (x y : UInt64) : Int := (Op.cmpValue (FP.dcmp x y) .l).toInt
def fcmplI (x y : UInt32) : Int := (Op.cmpValue (FP.fcmp x y) .l).toInt
noncomputable def La_size (x1 : Int) (s : Sg) : Option (Int × Sg) :=
  hcat (Hx_size x1 s) 1 0 fun y1 s2 =>
  grd (R y1) <|
  grd (0 ≤ 0 ∧ 0 < 1) <|
  lett (sl s2 100 0 y1) fun s5 =>
  some (0, s5)
noncomputable def La_cell (x1 : Int) (s : Sg) : Option (Int × Sg) :=
  hcat (Hx_cell x1 s) 0 1 fun y1 s2 =>
  grd (R y1) <|
  grd (0 ≤ 0 ∧ 0 < 1) <|
  lett (sl s2 100 0 y1) fun s5 =>
  some (0, s5)
noncomputable def La_neighbour (x1 : Int) (x2 : Int) (s : Sg) : Option (Int × Sg) :=
  hcat (Hx_neighbour x1 x2 s) 0 1 fun y1 s2 =>
  grd (R y1) <|
  grd (0 ≤ 0 ∧ 0 < 1) <|
  lett (sl s2 100 0 y1) fun s5 =>
  some (0, s5)
noncomputable def La_group (x1 : Int) (x2 : Int) (s : Sg) : Option (Int × Sg) :=
  hcat (Hx_group x1 x2 s) 2 1 fun y1 s2 =>
  grd (R y1) <|
  grd (0 ≤ 0 ∧ 0 < 1) <|
  lett (sl s2 100 0 y1) fun s5 =>
  some (0, s5)
noncomputable def La_groups (x1 : Int) (s : Sg) : Option (Int × Sg) :=
  hcat (Hx_groups x1 s) 1 0 fun y1 s2 =>
  grd (R y1) <|
  grd (0 ≤ 0 ∧ 0 < 1) <|
  lett (sl s2 100 0 y1) fun s5 =>
  some (0, s5)
noncomputable def La_largest (x1 : Int) (s : Sg) : Option (Int × Sg) :=
  hcat (Hx_largest x1 s) 1 0 fun y1 s2 =>
  grd (R y1) <|
  grd (0 ≤ 0 ∧ 0 < 1) <|
  lett (sl s2 100 0 y1) fun s5 =>
  some (0, s5)
noncomputable def La_isBridge_b16 (t1 : Int) (t2 : Int) (s : Sg) : Option (Int × Sg) :=
  grd (0 ≤ t1 ∧ t1 < 1) <|
  lett (sl s 100 t1.toNat t2) fun s4 =>
  some (0, s4)
noncomputable def La_isBridge (x1 : Int) (x2 : Int) (s : Sg) : Option (Int × Sg) :=
  hcat (Hx_isBridge x1 x2 s) 0 1 fun y1 s2 =>
  ifEq y1 0
    (La_isBridge_b16 0 0 s2)
    (La_isBridge_b16 0 1 s2)
noncomputable def La_bridges (x1 : Int) (x2 : Int) (s : Sg) : Option (Int × Sg) :=
  hcat (Hx_bridges x1 x2 s) 1 0 fun y1 s2 =>
  grd (R y1) <|
  grd (0 ≤ 0 ∧ 0 < 1) <|
  lett (sl s2 100 0 y1) fun s5 =>
  some (0, s5)
noncomputable def La_bridge (x1 : Int) (x2 : Int) (x3 : Int) (s : Sg) : Option (Int × Sg) :=
  hcat (Hx_bridge x1 x2 x3 s) 1 0 fun y1 s2 =>
  grd (R y1) <|
  grd (0 ≤ 0 ∧ 0 < 1) <|
  lett (sl s2 100 0 y1) fun s5 =>
  some (0, s5)
noncomputable def La_chain (x1 : Int) (x2 : Int) (s : Sg) : Option (Int × Sg) :=
  hcat (Hx_chain x1 x2 s) 2 1 fun y1 s2 =>
  grd (R y1) <|
  grd (0 ≤ 0 ∧ 0 < 1) <|
  lett (sl s2 100 0 y1) fun s5 =>
  some (0, s5)
noncomputable def La_chains (x1 : Int) (s : Sg) : Option (Int × Sg) :=
  hcat (Hx_chains x1 s) 1 0 fun y1 s2 =>
  grd (R y1) <|
  grd (0 ≤ 0 ∧ 0 < 1) <|
  lett (sl s2 100 0 y1) fun s5 =>
  some (0, s5)
noncomputable def La_isSafe_b15 (t1 : Int) (t2 : Int) (s : Sg) : Option (Int × Sg) :=
  grd (0 ≤ t1 ∧ t1 < 1) <|
  lett (sl s 100 t1.toNat t2) fun s4 =>
  some (0, s4)
noncomputable def La_isSafe (x1 : Int) (s : Sg) : Option (Int × Sg) :=
  hcat (Hx_isSafe x1 s) 1 0 fun y1 s2 =>
  ifEq y1 0
    (La_isSafe_b15 0 0 s2)
    (La_isSafe_b15 0 1 s2)
noncomputable def La_answer (x1 : Int) (s : Sg) : Option (Int × Sg) :=
  hcat (Hx_answer x1 s) 0 1 fun y1 s2 =>
  grd (R y1) <|
  grd (0 ≤ 0 ∧ 0 < 1) <|
  lett (sl s2 100 0 y1) fun s5 =>
  some (0, s5)
noncomputable def La_threats (x1 : Int) (s : Sg) : Option (Int × Sg) :=
  hcat (Hx_threats x1 s) 1 0 fun y1 s2 =>
  grd (R y1) <|
  grd (0 ≤ 0 ∧ 0 < 1) <|
  lett (sl s2 100 0 y1) fun s5 =>
  some (0, s5)
noncomputable def La_threat (x1 : Int) (x2 : Int) (s : Sg) : Option (Int × Sg) :=
  hcat (Hx_threat x1 x2 s) 1 0 fun y1 s2 =>
  grd (R y1) <|
  grd (0 ≤ 0 ∧ 0 < 1) <|
  lett (sl s2 100 0 y1) fun s5 =>
  some (0, s5)
noncomputable def La_distance (x1 : Int) (s : Sg) : Option (Int × Sg) :=
  hcat (Hx_distance x1 s) 1 0 fun y1 s2 =>
  grd (R y1) <|
  grd (0 ≤ 0 ∧ 0 < 1) <|
  lett (sl s2 100 0 y1) fun s5 =>
  some (0, s5)
noncomputable def La_through (x1 : Int) (x2 : Int) (s : Sg) : Option (Int × Sg) :=
  hcat (Hx_through x1 x2 s) 1 2 fun y1 s2 =>
  grd (R y1) <|
  grd (0 ≤ 0 ∧ 0 < 1) <|
  lett (sl s2 100 0 y1) fun s5 =>
  some (0, s5)
noncomputable def La_useful (x1 : Int) (s : Sg) : Option (Int × Sg) :=
  hcat (Hx_useful x1 s) 1 0 fun y1 s2 =>
  grd (R y1) <|
  grd (0 ≤ 0 ∧ 0 < 1) <|
  lett (sl s2 100 0 y1) fun s5 =>
  some (0, s5)
noncomputable def La_potential (x1 : Int) (x2 : Int) (x3 : Int) (s : Sg) : Option (Int × Sg) :=
  hcat (Hx_potential x1 x2 x3 s) 1 2 fun y1 s2 =>
  grd (R y1) <|
  grd (0 ≤ 0 ∧ 0 < 1) <|
  lett (sl s2 100 0 y1) fun s5 =>
  some (0, s5)
noncomputable def La_current (x1 : Int) (x2 : Int) (s : Sg) : Option (Int × Sg) :=
  hcat (Hx_current x1 x2 s) 1 0 fun y1 s2 =>
  grd (R y1) <|
  grd (0 ≤ 0 ∧ 0 < 1) <|
  lett (sl s2 100 0 y1) fun s5 =>
  some (0, s5)
noncomputable def La_resistance (x1 : Int) (x2 : Int) (s : Sg) : Option (Int × Sg) :=
  hcat (Hx_resistance x1 x2 s) 1 0 fun y1 s2 =>
  grd (vf_n64 (FP.f2d y1)) <|
  grd (0 ≤ 0 ∧ 0 < 1) <|
  lett (sd s2 101 0 (FP.f2d y1)) fun s5 =>
  some (0, s5)
noncomputable def La_balance (x1 : Int) (s : Sg) : Option (Int × Sg) :=
  hcat (Hx_balance x1 s) 1 0 fun y1 s2 =>
  grd (0 ≤ 0 ∧ 0 < 1) <|
  lett (sd s2 101 0 y1) fun s4 =>
  some (0, s4)
noncomputable def La_filled (x1 : Int) (s : Sg) : Option (Int × Sg) :=
  hcat (Hx_filled x1 s) 1 0 fun y1 s2 =>
  grd (R y1) <|
  grd (0 ≤ 0 ∧ 0 < 1) <|
  lett (sl s2 100 0 y1) fun s5 =>
  some (0, s5)
noncomputable def La_fillings (x1 : Int) (x2 : Int) (x3 : Int) (s : Sg) : Option (Int × Sg) :=
  hcat (Hx_fillings x1 x2 x3 s) 1 0 fun y1 s2 =>
  grd (R y1) <|
  grd (0 ≤ 0 ∧ 0 < 1) <|
  lett (sl s2 100 0 y1) fun s5 =>
  some (0, s5)
noncomputable def La_idle (x1 : Int) (s : Sg) : Option (Int × Sg) :=
  hcat (Hx_idle x1 s) 1 0 fun y1 s2 =>
  grd (R y1) <|
  grd (0 ≤ 0 ∧ 0 < 1) <|
  lett (sl s2 100 0 y1) fun s5 =>
  some (0, s5)
noncomputable def La_move (x1 : Int) (s : Sg) : Option (Int × Sg) :=
  hcat (Hx_move x1 s) 0 1 fun y1 s2 =>
  grd (R y1) <|
  grd (0 ≤ 0 ∧ 0 < 1) <|
  lett (sl s2 100 0 y1) fun s5 =>
  some (0, s5)
noncomputable def La_put (x1 : Int) (x2 : Int) (s : Sg) : Option (Int × Sg) :=
  hcat (Hx_put x1 x2 s) 2 1 fun y1 s2 =>
  grd (R y1) <|
  grd (0 ≤ 0 ∧ 0 < 1) <|
  lett (sl s2 100 0 y1) fun s5 =>
  some (0, s5)
noncomputable def La_setTurn (x1 : Int) (s : Sg) : Option (Int × Sg) :=
  hcat (Hx_setTurn x1 s) 1 0 fun y1 s2 =>
  grd (R y1) <|
  grd (0 ≤ 0 ∧ 0 < 1) <|
  lett (sl s2 100 0 y1) fun s5 =>
  some (0, s5)
noncomputable def La_playForced (x1 : Int) (s : Sg) : Option (Int × Sg) :=
  hcat (Hx_playForced x1 s) 1 0 fun y1 s2 =>
  grd (R y1) <|
  grd (0 ≤ 0 ∧ 0 < 1) <|
  lett (sl s2 100 0 y1) fun s5 =>
  some (0, s5)
noncomputable def La_writeRow (x1 : Int) (s : Sg) : Option (Int × Sg) :=
  hcat (Hx_writeRow x1 s) 0 1 fun y1 s2 =>
  grd (R y1) <|
  grd (0 ≤ 0 ∧ 0 < 1) <|
  lett (sl s2 100 0 y1) fun s5 =>
  some (0, s5)
noncomputable def La_writeCell (x1 : Int) (s : Sg) : Option (Int × Sg) :=
  hcat (Hx_writeCell x1 s) 0 1 fun y1 s2 =>
  grd (R y1) <|
  grd (0 ≤ 0 ∧ 0 < 1) <|
  lett (sl s2 100 0 y1) fun s5 =>
  some (0, s5)
noncomputable def La_saveSnapshot (x1 : Int) (s : Sg) : Option (Int × Sg) :=
  hcat (Hx_saveSnapshot x1 s) 1 0 fun y1 s2 =>
  grd (R y1) <|
  grd (0 ≤ 0 ∧ 0 < 1) <|
  lett (sl s2 100 0 y1) fun s5 =>
  some (0, s5)
noncomputable def La_restoreSnapshot (x1 : Int) (s : Sg) : Option (Int × Sg) :=
  hcat (Hx_restoreSnapshot x1 s) 1 0 fun y1 s2 =>
  grd (R y1) <|
  grd (0 ≤ 0 ∧ 0 < 1) <|
  lett (sl s2 100 0 y1) fun s5 =>
  some (0, s5)
noncomputable def La_law_b2707 (L : Nat) (x5 : Int) (s : Sg) : Option (((Int × Sg) ⊕ (Sg))) :=
  some (.inl ((x5 + 4), s))
noncomputable def La_law_b264 (L : Nat) (x5 : Int) (s : Sg) : Option (((Int × Sg) ⊕ (Sg))) :=
  grd (0 ≤ (x5 + 1) ∧ (x5 + 1) < (L : Int)) <|
  grd (R (gi s 1200 (x5 + 1).toNat)) <|
  grd (0 ≤ (x5 + 2) ∧ (x5 + 2) < (L : Int)) <|
  grd (R (gi s 1200 (x5 + 2).toNat)) <|
  bnd2 (Hx_append (lorI (lshlI (gi s 1200 (x5 + 1).toNat) 32) (landI (gi s 1200 (x5 + 2).toNat) 4294967295)) s) fun y6 s7 =>
  grd (0 ≤ (x5 + 1) ∧ (x5 + 1) < (L : Int)) <|
  grd (R (gi s7 1200 (x5 + 1).toNat)) <|
  grd (0 ≤ (x5 + 2) ∧ (x5 + 2) < (L : Int)) <|
  grd (R (gi s7 1200 (x5 + 2).toNat)) <|
  bnd2 (Mo_append (lorI (lshlI (gi s7 1200 (x5 + 1).toNat) 32) (landI (gi s7 1200 (x5 + 2).toNat) 4294967295)) s7) fun y12 s13 =>
  ifEq y6 y12
    (La_law_b2707 L x5 s13)
    (none)
noncomputable def La_law_b321 (L : Nat) (x5 : Int) (s : Sg) : Option (((Int × Sg) ⊕ (Sg))) :=
  bnd2 (Hx_load s) fun y16 s17 =>
  bnd2 (Mo_load s17) fun y18 s19 =>
  ifEq y16 y18
    (La_law_b2707 L x5 s19)
    (none)
noncomputable def La_law_b334 (L : Nat) (x5 : Int) (s : Sg) : Option (((Int × Sg) ⊕ (Sg))) :=
  bnd (Hx_loadError s) fun y22 =>
  bnd2 (Mo_loadError s) fun y23 s24 =>
  ifEq y22 y23
    (La_law_b2707 L x5 s24)
    (none)
noncomputable def La_law_b347 (L : Nat) (x5 : Int) (s : Sg) : Option (((Int × Sg) ⊕ (Sg))) :=
  bnd (Hx_loadStatement s) fun y27 =>
  bnd2 (Mo_loadStatement s) fun y28 s29 =>
  ifEq y27 y28
    (La_law_b2707 L x5 s29)
    (none)
noncomputable def La_law_b413 (L : Nat) (x5 : Int) (s : Sg) : Option (((Int × Sg) ⊕ (Sg))) :=
  La_law_b2707 L x5 s
noncomputable def La_law_b360 (L : Nat) (x5 : Int) (s : Sg) : Option (((Int × Sg) ⊕ (Sg))) :=
  grd (0 ≤ (x5 + 1) ∧ (x5 + 1) < (L : Int)) <|
  bnd2 (La_size (gi s 1200 (x5 + 1).toNat) s) fun y33 s34 =>
  grd (0 ≤ (x5 + 1) ∧ (x5 + 1) < (L : Int)) <|
  bnd2 (Mo_size (gi s34 1200 (x5 + 1).toNat) s34) fun y36 s37 =>
  bnd (Mo_thrown s37) fun y38 =>
  ifEq y38 y33
    (ifEq y33 0
      (grd (0 ≤ 0 ∧ 0 < 1) <|
      grd (R y36) <|
      grd (RL64 (gl s37 100 0) ∧ RL64 y36) <|
      ifEq (lcmpI (gl s37 100 0) y36) 0
        (La_law_b413 L x5 s37)
        (none))
      (La_law_b413 L x5 s37))
    (none)
noncomputable def La_law_b469 (L : Nat) (x5 : Int) (s : Sg) : Option (((Int × Sg) ⊕ (Sg))) :=
  La_law_b2707 L x5 s
noncomputable def La_law_b416 (L : Nat) (x5 : Int) (s : Sg) : Option (((Int × Sg) ⊕ (Sg))) :=
  grd (0 ≤ (x5 + 1) ∧ (x5 + 1) < (L : Int)) <|
  bnd2 (La_cell (gi s 1200 (x5 + 1).toNat) s) fun y45 s46 =>
  grd (0 ≤ (x5 + 1) ∧ (x5 + 1) < (L : Int)) <|
  bnd2 (Mo_cell (gi s46 1200 (x5 + 1).toNat) s46) fun y48 s49 =>
  bnd (Mo_thrown s49) fun y50 =>
  ifEq y50 y45
    (ifEq y45 0
      (grd (0 ≤ 0 ∧ 0 < 1) <|
      grd (R y48) <|
      grd (RL64 (gl s49 100 0) ∧ RL64 y48) <|
      ifEq (lcmpI (gl s49 100 0) y48) 0
        (La_law_b469 L x5 s49)
        (none))
      (La_law_b469 L x5 s49))
    (none)
noncomputable def La_law_b537 (L : Nat) (x5 : Int) (s : Sg) : Option (((Int × Sg) ⊕ (Sg))) :=
  La_law_b2707 L x5 s
noncomputable def La_law_b472 (L : Nat) (x5 : Int) (s : Sg) : Option (((Int × Sg) ⊕ (Sg))) :=
  grd (0 ≤ (x5 + 1) ∧ (x5 + 1) < (L : Int)) <|
  grd (0 ≤ (x5 + 2) ∧ (x5 + 2) < (L : Int)) <|
  bnd2 (La_neighbour (gi s 1200 (x5 + 1).toNat) (gi s 1200 (x5 + 2).toNat) s) fun y58 s59 =>
  grd (0 ≤ (x5 + 1) ∧ (x5 + 1) < (L : Int)) <|
  grd (0 ≤ (x5 + 2) ∧ (x5 + 2) < (L : Int)) <|
  bnd2 (Mo_neighbour (gi s59 1200 (x5 + 1).toNat) (gi s59 1200 (x5 + 2).toNat) s59) fun y62 s63 =>
  bnd (Mo_thrown s63) fun y64 =>
  ifEq y64 y58
    (ifEq y58 0
      (grd (0 ≤ 0 ∧ 0 < 1) <|
      grd (R y62) <|
      grd (RL64 (gl s63 100 0) ∧ RL64 y62) <|
      ifEq (lcmpI (gl s63 100 0) y62) 0
        (La_law_b537 L x5 s63)
        (none))
      (La_law_b537 L x5 s63))
    (none)
noncomputable def La_law_b605 (L : Nat) (x5 : Int) (s : Sg) : Option (((Int × Sg) ⊕ (Sg))) :=
  La_law_b2707 L x5 s
noncomputable def La_law_b540 (L : Nat) (x5 : Int) (s : Sg) : Option (((Int × Sg) ⊕ (Sg))) :=
  grd (0 ≤ (x5 + 1) ∧ (x5 + 1) < (L : Int)) <|
  grd (0 ≤ (x5 + 2) ∧ (x5 + 2) < (L : Int)) <|
  bnd2 (La_group (gi s 1200 (x5 + 1).toNat) (gi s 1200 (x5 + 2).toNat) s) fun y72 s73 =>
  grd (0 ≤ (x5 + 1) ∧ (x5 + 1) < (L : Int)) <|
  grd (0 ≤ (x5 + 2) ∧ (x5 + 2) < (L : Int)) <|
  bnd2 (Mo_group (gi s73 1200 (x5 + 1).toNat) (gi s73 1200 (x5 + 2).toNat) s73) fun y76 s77 =>
  bnd (Mo_thrown s77) fun y78 =>
  ifEq y78 y72
    (ifEq y72 0
      (grd (0 ≤ 0 ∧ 0 < 1) <|
      grd (R y76) <|
      grd (RL64 (gl s77 100 0) ∧ RL64 y76) <|
      ifEq (lcmpI (gl s77 100 0) y76) 0
        (La_law_b605 L x5 s77)
        (none))
      (La_law_b605 L x5 s77))
    (none)
noncomputable def La_law_b661 (L : Nat) (x5 : Int) (s : Sg) : Option (((Int × Sg) ⊕ (Sg))) :=
  La_law_b2707 L x5 s
noncomputable def La_law_b608 (L : Nat) (x5 : Int) (s : Sg) : Option (((Int × Sg) ⊕ (Sg))) :=
  grd (0 ≤ (x5 + 1) ∧ (x5 + 1) < (L : Int)) <|
  bnd2 (La_groups (gi s 1200 (x5 + 1).toNat) s) fun y85 s86 =>
  grd (0 ≤ (x5 + 1) ∧ (x5 + 1) < (L : Int)) <|
  bnd2 (Mo_groups (gi s86 1200 (x5 + 1).toNat) s86) fun y88 s89 =>
  bnd (Mo_thrown s89) fun y90 =>
  ifEq y90 y85
    (ifEq y85 0
      (grd (0 ≤ 0 ∧ 0 < 1) <|
      grd (R y88) <|
      grd (RL64 (gl s89 100 0) ∧ RL64 y88) <|
      ifEq (lcmpI (gl s89 100 0) y88) 0
        (La_law_b661 L x5 s89)
        (none))
      (La_law_b661 L x5 s89))
    (none)
noncomputable def La_law_b717 (L : Nat) (x5 : Int) (s : Sg) : Option (((Int × Sg) ⊕ (Sg))) :=
  La_law_b2707 L x5 s
noncomputable def La_law_b664 (L : Nat) (x5 : Int) (s : Sg) : Option (((Int × Sg) ⊕ (Sg))) :=
  grd (0 ≤ (x5 + 1) ∧ (x5 + 1) < (L : Int)) <|
  bnd2 (La_largest (gi s 1200 (x5 + 1).toNat) s) fun y97 s98 =>
  grd (0 ≤ (x5 + 1) ∧ (x5 + 1) < (L : Int)) <|
  bnd2 (Mo_largest (gi s98 1200 (x5 + 1).toNat) s98) fun y100 s101 =>
  bnd (Mo_thrown s101) fun y102 =>
  ifEq y102 y97
    (ifEq y97 0
      (grd (0 ≤ 0 ∧ 0 < 1) <|
      grd (R y100) <|
      grd (RL64 (gl s101 100 0) ∧ RL64 y100) <|
      ifEq (lcmpI (gl s101 100 0) y100) 0
        (La_law_b717 L x5 s101)
        (none))
      (La_law_b717 L x5 s101))
    (none)
noncomputable def La_law_b792 (L : Nat) (x5 : Int) (s : Sg) : Option (((Int × Sg) ⊕ (Sg))) :=
  La_law_b2707 L x5 s
noncomputable def La_law_b786 (L : Nat) (x5 : Int) (t0 : Int) (t1 : Int) (s : Sg) : Option (((Int × Sg) ⊕ (Sg))) :=
  grd (RL64 t0 ∧ RL64 t1) <|
  ifEq (lcmpI t0 t1) 0
    (La_law_b792 L x5 s)
    (none)
noncomputable def La_law_b720 (L : Nat) (x5 : Int) (s : Sg) : Option (((Int × Sg) ⊕ (Sg))) :=
  grd (0 ≤ (x5 + 1) ∧ (x5 + 1) < (L : Int)) <|
  grd (0 ≤ (x5 + 2) ∧ (x5 + 2) < (L : Int)) <|
  bnd2 (La_isBridge (gi s 1200 (x5 + 1).toNat) (gi s 1200 (x5 + 2).toNat) s) fun y110 s111 =>
  grd (0 ≤ (x5 + 1) ∧ (x5 + 1) < (L : Int)) <|
  grd (0 ≤ (x5 + 2) ∧ (x5 + 2) < (L : Int)) <|
  bnd2 (Mo_isBridge (gi s111 1200 (x5 + 1).toNat) (gi s111 1200 (x5 + 2).toNat) s111) fun y114 s115 =>
  bnd (Mo_thrown s115) fun y116 =>
  ifEq y116 y110
    (ifEq y110 0
      (grd (0 ≤ 0 ∧ 0 < 1) <|
      ifEq y114 0
        (La_law_b786 L x5 (gl s115 100 0) 0 s115)
        (La_law_b786 L x5 (gl s115 100 0) 1 s115))
      (La_law_b792 L x5 s115))
    (none)
noncomputable def La_law_b876 (L : Nat) (x5 : Int) (s : Sg) : Option (((Int × Sg) ⊕ (Sg))) :=
  La_law_b2707 L x5 s
noncomputable def La_law_b843 (L : Nat) (x5 : Int) (x6 : Int) (t1 : Int) (t2 : Int) (s : Sg) : Option (((Int × Sg) ⊕ (Sg))) :=
  bnd2 (Mo_bridges t1 t2 s) fun y127 s128 =>
  bnd (Mo_thrown s128) fun y129 =>
  ifEq y129 x6
    (ifEq x6 0
      (grd (0 ≤ 0 ∧ 0 < 1) <|
      grd (R y127) <|
      grd (RL64 (gl s128 100 0) ∧ RL64 y127) <|
      ifEq (lcmpI (gl s128 100 0) y127) 0
        (La_law_b876 L x5 s128)
        (none))
      (La_law_b876 L x5 s128))
    (none)
noncomputable def La_law_b816 (L : Nat) (x5 : Int) (t1 : Int) (t2 : Int) (s : Sg) : Option (((Int × Sg) ⊕ (Sg))) :=
  bnd2 (La_bridges t1 t2 s) fun y123 s124 =>
  grd (0 ≤ (x5 + 1) ∧ (x5 + 1) < (L : Int)) <|
  grd (0 ≤ (x5 + 2) ∧ (x5 + 2) < (L : Int)) <|
  ifEq (gi s124 1200 (x5 + 2).toNat) 0
    (La_law_b843 L x5 y123 (gi s124 1200 (x5 + 1).toNat) 0 s124)
    (La_law_b843 L x5 y123 (gi s124 1200 (x5 + 1).toNat) 1 s124)
noncomputable def La_law_b795 (L : Nat) (x5 : Int) (s : Sg) : Option (((Int × Sg) ⊕ (Sg))) :=
  grd (0 ≤ (x5 + 1) ∧ (x5 + 1) < (L : Int)) <|
  grd (0 ≤ (x5 + 2) ∧ (x5 + 2) < (L : Int)) <|
  ifEq (gi s 1200 (x5 + 2).toNat) 0
    (La_law_b816 L x5 (gi s 1200 (x5 + 1).toNat) 0 s)
    (La_law_b816 L x5 (gi s 1200 (x5 + 1).toNat) 1 s)
noncomputable def La_law_b956 (L : Nat) (x5 : Int) (s : Sg) : Option (((Int × Sg) ⊕ (Sg))) :=
  La_law_b2707 L x5 s
noncomputable def La_law_b879 (L : Nat) (x5 : Int) (s : Sg) : Option (((Int × Sg) ⊕ (Sg))) :=
  grd (0 ≤ (x5 + 1) ∧ (x5 + 1) < (L : Int)) <|
  grd (0 ≤ (x5 + 2) ∧ (x5 + 2) < (L : Int)) <|
  grd (0 ≤ (x5 + 3) ∧ (x5 + 3) < (L : Int)) <|
  bnd2 (La_bridge (gi s 1200 (x5 + 1).toNat) (gi s 1200 (x5 + 2).toNat) (gi s 1200 (x5 + 3).toNat) s) fun y138 s139 =>
  grd (0 ≤ (x5 + 1) ∧ (x5 + 1) < (L : Int)) <|
  grd (0 ≤ (x5 + 2) ∧ (x5 + 2) < (L : Int)) <|
  grd (0 ≤ (x5 + 3) ∧ (x5 + 3) < (L : Int)) <|
  bnd2 (Mo_bridge (gi s139 1200 (x5 + 1).toNat) (gi s139 1200 (x5 + 2).toNat) (gi s139 1200 (x5 + 3).toNat) s139) fun y143 s144 =>
  bnd (Mo_thrown s144) fun y145 =>
  ifEq y145 y138
    (ifEq y138 0
      (grd (0 ≤ 0 ∧ 0 < 1) <|
      grd (R y143) <|
      grd (RL64 (gl s144 100 0) ∧ RL64 y143) <|
      ifEq (lcmpI (gl s144 100 0) y143) 0
        (La_law_b956 L x5 s144)
        (none))
      (La_law_b956 L x5 s144))
    (none)
noncomputable def La_law_b1024 (L : Nat) (x5 : Int) (s : Sg) : Option (((Int × Sg) ⊕ (Sg))) :=
  La_law_b2707 L x5 s
noncomputable def La_law_b959 (L : Nat) (x5 : Int) (s : Sg) : Option (((Int × Sg) ⊕ (Sg))) :=
  grd (0 ≤ (x5 + 1) ∧ (x5 + 1) < (L : Int)) <|
  grd (0 ≤ (x5 + 2) ∧ (x5 + 2) < (L : Int)) <|
  bnd2 (La_chain (gi s 1200 (x5 + 1).toNat) (gi s 1200 (x5 + 2).toNat) s) fun y153 s154 =>
  grd (0 ≤ (x5 + 1) ∧ (x5 + 1) < (L : Int)) <|
  grd (0 ≤ (x5 + 2) ∧ (x5 + 2) < (L : Int)) <|
  bnd2 (Mo_chain (gi s154 1200 (x5 + 1).toNat) (gi s154 1200 (x5 + 2).toNat) s154) fun y157 s158 =>
  bnd (Mo_thrown s158) fun y159 =>
  ifEq y159 y153
    (ifEq y153 0
      (grd (0 ≤ 0 ∧ 0 < 1) <|
      grd (R y157) <|
      grd (RL64 (gl s158 100 0) ∧ RL64 y157) <|
      ifEq (lcmpI (gl s158 100 0) y157) 0
        (La_law_b1024 L x5 s158)
        (none))
      (La_law_b1024 L x5 s158))
    (none)
noncomputable def La_law_b1080 (L : Nat) (x5 : Int) (s : Sg) : Option (((Int × Sg) ⊕ (Sg))) :=
  La_law_b2707 L x5 s
noncomputable def La_law_b1027 (L : Nat) (x5 : Int) (s : Sg) : Option (((Int × Sg) ⊕ (Sg))) :=
  grd (0 ≤ (x5 + 1) ∧ (x5 + 1) < (L : Int)) <|
  bnd2 (La_chains (gi s 1200 (x5 + 1).toNat) s) fun y166 s167 =>
  grd (0 ≤ (x5 + 1) ∧ (x5 + 1) < (L : Int)) <|
  bnd2 (Mo_chains (gi s167 1200 (x5 + 1).toNat) s167) fun y169 s170 =>
  bnd (Mo_thrown s170) fun y171 =>
  ifEq y171 y166
    (ifEq y166 0
      (grd (0 ≤ 0 ∧ 0 < 1) <|
      grd (R y169) <|
      grd (RL64 (gl s170 100 0) ∧ RL64 y169) <|
      ifEq (lcmpI (gl s170 100 0) y169) 0
        (La_law_b1080 L x5 s170)
        (none))
      (La_law_b1080 L x5 s170))
    (none)
noncomputable def La_law_b1143 (L : Nat) (x5 : Int) (s : Sg) : Option (((Int × Sg) ⊕ (Sg))) :=
  La_law_b2707 L x5 s
noncomputable def La_law_b1137 (L : Nat) (x5 : Int) (t0 : Int) (t1 : Int) (s : Sg) : Option (((Int × Sg) ⊕ (Sg))) :=
  grd (RL64 t0 ∧ RL64 t1) <|
  ifEq (lcmpI t0 t1) 0
    (La_law_b1143 L x5 s)
    (none)
noncomputable def La_law_b1083 (L : Nat) (x5 : Int) (s : Sg) : Option (((Int × Sg) ⊕ (Sg))) :=
  grd (0 ≤ (x5 + 1) ∧ (x5 + 1) < (L : Int)) <|
  bnd2 (La_isSafe (gi s 1200 (x5 + 1).toNat) s) fun y178 s179 =>
  grd (0 ≤ (x5 + 1) ∧ (x5 + 1) < (L : Int)) <|
  bnd2 (Mo_isSafe (gi s179 1200 (x5 + 1).toNat) s179) fun y181 s182 =>
  bnd (Mo_thrown s182) fun y183 =>
  ifEq y183 y178
    (ifEq y178 0
      (grd (0 ≤ 0 ∧ 0 < 1) <|
      ifEq y181 0
        (La_law_b1137 L x5 (gl s182 100 0) 0 s182)
        (La_law_b1137 L x5 (gl s182 100 0) 1 s182))
      (La_law_b1143 L x5 s182))
    (none)
noncomputable def La_law_b1199 (L : Nat) (x5 : Int) (s : Sg) : Option (((Int × Sg) ⊕ (Sg))) :=
  La_law_b2707 L x5 s
noncomputable def La_law_b1146 (L : Nat) (x5 : Int) (s : Sg) : Option (((Int × Sg) ⊕ (Sg))) :=
  grd (0 ≤ (x5 + 1) ∧ (x5 + 1) < (L : Int)) <|
  bnd2 (La_answer (gi s 1200 (x5 + 1).toNat) s) fun y189 s190 =>
  grd (0 ≤ (x5 + 1) ∧ (x5 + 1) < (L : Int)) <|
  bnd2 (Mo_answer (gi s190 1200 (x5 + 1).toNat) s190) fun y192 s193 =>
  bnd (Mo_thrown s193) fun y194 =>
  ifEq y194 y189
    (ifEq y189 0
      (grd (0 ≤ 0 ∧ 0 < 1) <|
      grd (R y192) <|
      grd (RL64 (gl s193 100 0) ∧ RL64 y192) <|
      ifEq (lcmpI (gl s193 100 0) y192) 0
        (La_law_b1199 L x5 s193)
        (none))
      (La_law_b1199 L x5 s193))
    (none)
noncomputable def La_law_b1255 (L : Nat) (x5 : Int) (s : Sg) : Option (((Int × Sg) ⊕ (Sg))) :=
  La_law_b2707 L x5 s
noncomputable def La_law_b1202 (L : Nat) (x5 : Int) (s : Sg) : Option (((Int × Sg) ⊕ (Sg))) :=
  grd (0 ≤ (x5 + 1) ∧ (x5 + 1) < (L : Int)) <|
  bnd2 (La_threats (gi s 1200 (x5 + 1).toNat) s) fun y201 s202 =>
  grd (0 ≤ (x5 + 1) ∧ (x5 + 1) < (L : Int)) <|
  bnd2 (Mo_threats (gi s202 1200 (x5 + 1).toNat) s202) fun y204 s205 =>
  bnd (Mo_thrown s205) fun y206 =>
  ifEq y206 y201
    (ifEq y201 0
      (grd (0 ≤ 0 ∧ 0 < 1) <|
      grd (R y204) <|
      grd (RL64 (gl s205 100 0) ∧ RL64 y204) <|
      ifEq (lcmpI (gl s205 100 0) y204) 0
        (La_law_b1255 L x5 s205)
        (none))
      (La_law_b1255 L x5 s205))
    (none)
noncomputable def La_law_b1323 (L : Nat) (x5 : Int) (s : Sg) : Option (((Int × Sg) ⊕ (Sg))) :=
  La_law_b2707 L x5 s
noncomputable def La_law_b1258 (L : Nat) (x5 : Int) (s : Sg) : Option (((Int × Sg) ⊕ (Sg))) :=
  grd (0 ≤ (x5 + 1) ∧ (x5 + 1) < (L : Int)) <|
  grd (0 ≤ (x5 + 2) ∧ (x5 + 2) < (L : Int)) <|
  bnd2 (La_threat (gi s 1200 (x5 + 1).toNat) (gi s 1200 (x5 + 2).toNat) s) fun y214 s215 =>
  grd (0 ≤ (x5 + 1) ∧ (x5 + 1) < (L : Int)) <|
  grd (0 ≤ (x5 + 2) ∧ (x5 + 2) < (L : Int)) <|
  bnd2 (Mo_threat (gi s215 1200 (x5 + 1).toNat) (gi s215 1200 (x5 + 2).toNat) s215) fun y218 s219 =>
  bnd (Mo_thrown s219) fun y220 =>
  ifEq y220 y214
    (ifEq y214 0
      (grd (0 ≤ 0 ∧ 0 < 1) <|
      grd (R y218) <|
      grd (RL64 (gl s219 100 0) ∧ RL64 y218) <|
      ifEq (lcmpI (gl s219 100 0) y218) 0
        (La_law_b1323 L x5 s219)
        (none))
      (La_law_b1323 L x5 s219))
    (none)
noncomputable def La_law_b1326 (L : Nat) (x5 : Int) (s : Sg) : Option (((Int × Sg) ⊕ (Sg))) :=
  bnd2 (Hx_forced s) fun y226 s227 =>
  bnd2 (Mo_forced s227) fun y228 s229 =>
  ifEq y226 y228
    (La_law_b2707 L x5 s229)
    (none)
noncomputable def La_law_b1392 (L : Nat) (x5 : Int) (s : Sg) : Option (((Int × Sg) ⊕ (Sg))) :=
  La_law_b2707 L x5 s
noncomputable def La_law_b1339 (L : Nat) (x5 : Int) (s : Sg) : Option (((Int × Sg) ⊕ (Sg))) :=
  grd (0 ≤ (x5 + 1) ∧ (x5 + 1) < (L : Int)) <|
  bnd2 (La_distance (gi s 1200 (x5 + 1).toNat) s) fun y233 s234 =>
  grd (0 ≤ (x5 + 1) ∧ (x5 + 1) < (L : Int)) <|
  bnd2 (Mo_distance (gi s234 1200 (x5 + 1).toNat) s234) fun y236 s237 =>
  bnd (Mo_thrown s237) fun y238 =>
  ifEq y238 y233
    (ifEq y233 0
      (grd (0 ≤ 0 ∧ 0 < 1) <|
      grd (R y236) <|
      grd (RL64 (gl s237 100 0) ∧ RL64 y236) <|
      ifEq (lcmpI (gl s237 100 0) y236) 0
        (La_law_b1392 L x5 s237)
        (none))
      (La_law_b1392 L x5 s237))
    (none)
noncomputable def La_law_b1460 (L : Nat) (x5 : Int) (s : Sg) : Option (((Int × Sg) ⊕ (Sg))) :=
  La_law_b2707 L x5 s
noncomputable def La_law_b1395 (L : Nat) (x5 : Int) (s : Sg) : Option (((Int × Sg) ⊕ (Sg))) :=
  grd (0 ≤ (x5 + 1) ∧ (x5 + 1) < (L : Int)) <|
  grd (0 ≤ (x5 + 2) ∧ (x5 + 2) < (L : Int)) <|
  bnd2 (La_through (gi s 1200 (x5 + 1).toNat) (gi s 1200 (x5 + 2).toNat) s) fun y246 s247 =>
  grd (0 ≤ (x5 + 1) ∧ (x5 + 1) < (L : Int)) <|
  grd (0 ≤ (x5 + 2) ∧ (x5 + 2) < (L : Int)) <|
  bnd2 (Mo_through (gi s247 1200 (x5 + 1).toNat) (gi s247 1200 (x5 + 2).toNat) s247) fun y250 s251 =>
  bnd (Mo_thrown s251) fun y252 =>
  ifEq y252 y246
    (ifEq y246 0
      (grd (0 ≤ 0 ∧ 0 < 1) <|
      grd (R y250) <|
      grd (RL64 (gl s251 100 0) ∧ RL64 y250) <|
      ifEq (lcmpI (gl s251 100 0) y250) 0
        (La_law_b1460 L x5 s251)
        (none))
      (La_law_b1460 L x5 s251))
    (none)
noncomputable def La_law_b1516 (L : Nat) (x5 : Int) (s : Sg) : Option (((Int × Sg) ⊕ (Sg))) :=
  La_law_b2707 L x5 s
noncomputable def La_law_b1463 (L : Nat) (x5 : Int) (s : Sg) : Option (((Int × Sg) ⊕ (Sg))) :=
  grd (0 ≤ (x5 + 1) ∧ (x5 + 1) < (L : Int)) <|
  bnd2 (La_useful (gi s 1200 (x5 + 1).toNat) s) fun y259 s260 =>
  grd (0 ≤ (x5 + 1) ∧ (x5 + 1) < (L : Int)) <|
  bnd2 (Mo_useful (gi s260 1200 (x5 + 1).toNat) s260) fun y262 s263 =>
  bnd (Mo_thrown s263) fun y264 =>
  ifEq y264 y259
    (ifEq y259 0
      (grd (0 ≤ 0 ∧ 0 < 1) <|
      grd (R y262) <|
      grd (RL64 (gl s263 100 0) ∧ RL64 y262) <|
      ifEq (lcmpI (gl s263 100 0) y262) 0
        (La_law_b1516 L x5 s263)
        (none))
      (La_law_b1516 L x5 s263))
    (none)
noncomputable def La_law_b1519 (L : Nat) (x5 : Int) (s : Sg) : Option (((Int × Sg) ⊕ (Sg))) :=
  bnd2 (Hx_shared s) fun y270 s271 =>
  bnd2 (Mo_shared s271) fun y272 s273 =>
  ifEq y270 y272
    (La_law_b2707 L x5 s273)
    (none)
noncomputable def La_law_b1609 (L : Nat) (x5 : Int) (s : Sg) : Option (((Int × Sg) ⊕ (Sg))) :=
  La_law_b2707 L x5 s
noncomputable def La_law_b1532 (L : Nat) (x5 : Int) (s : Sg) : Option (((Int × Sg) ⊕ (Sg))) :=
  grd (0 ≤ (x5 + 1) ∧ (x5 + 1) < (L : Int)) <|
  grd (0 ≤ (x5 + 2) ∧ (x5 + 2) < (L : Int)) <|
  grd (0 ≤ (x5 + 3) ∧ (x5 + 3) < (L : Int)) <|
  bnd2 (La_potential (gi s 1200 (x5 + 1).toNat) (gi s 1200 (x5 + 2).toNat) (gi s 1200 (x5 + 3).toNat) s) fun y279 s280 =>
  grd (0 ≤ (x5 + 1) ∧ (x5 + 1) < (L : Int)) <|
  grd (0 ≤ (x5 + 2) ∧ (x5 + 2) < (L : Int)) <|
  grd (0 ≤ (x5 + 3) ∧ (x5 + 3) < (L : Int)) <|
  bnd2 (Mo_potential (gi s280 1200 (x5 + 1).toNat) (gi s280 1200 (x5 + 2).toNat) (gi s280 1200 (x5 + 3).toNat) s280) fun y284 s285 =>
  bnd (Mo_thrown s285) fun y286 =>
  ifEq y286 y279
    (ifEq y279 0
      (grd (0 ≤ 0 ∧ 0 < 1) <|
      grd (R y284) <|
      grd (RL64 (gl s285 100 0) ∧ RL64 y284) <|
      ifEq (lcmpI (gl s285 100 0) y284) 0
        (La_law_b1609 L x5 s285)
        (none))
      (La_law_b1609 L x5 s285))
    (none)
noncomputable def La_law_b1677 (L : Nat) (x5 : Int) (s : Sg) : Option (((Int × Sg) ⊕ (Sg))) :=
  La_law_b2707 L x5 s
noncomputable def La_law_b1612 (L : Nat) (x5 : Int) (s : Sg) : Option (((Int × Sg) ⊕ (Sg))) :=
  grd (0 ≤ (x5 + 1) ∧ (x5 + 1) < (L : Int)) <|
  grd (0 ≤ (x5 + 2) ∧ (x5 + 2) < (L : Int)) <|
  bnd2 (La_current (gi s 1200 (x5 + 1).toNat) (gi s 1200 (x5 + 2).toNat) s) fun y294 s295 =>
  grd (0 ≤ (x5 + 1) ∧ (x5 + 1) < (L : Int)) <|
  grd (0 ≤ (x5 + 2) ∧ (x5 + 2) < (L : Int)) <|
  bnd2 (Mo_current (gi s295 1200 (x5 + 1).toNat) (gi s295 1200 (x5 + 2).toNat) s295) fun y298 s299 =>
  bnd (Mo_thrown s299) fun y300 =>
  ifEq y300 y294
    (ifEq y294 0
      (grd (0 ≤ 0 ∧ 0 < 1) <|
      grd (R y298) <|
      grd (RL64 (gl s299 100 0) ∧ RL64 y298) <|
      ifEq (lcmpI (gl s299 100 0) y298) 0
        (La_law_b1677 L x5 s299)
        (none))
      (La_law_b1677 L x5 s299))
    (none)
noncomputable def La_law_b1767 (L : Nat) (x5 : Int) (s : Sg) : Option (((Int × Sg) ⊕ (Sg))) :=
  La_law_b2707 L x5 s
noncomputable def La_law_b1680 (L : Nat) (x5 : Int) (s : Sg) : Option (((Int × Sg) ⊕ (Sg))) :=
  grd (0 ≤ (x5 + 1) ∧ (x5 + 1) < (L : Int)) <|
  grd (0 ≤ (x5 + 2) ∧ (x5 + 2) < (L : Int)) <|
  bnd2 (La_resistance (gi s 1200 (x5 + 1).toNat) (gi s 1200 (x5 + 2).toNat) s) fun y308 s309 =>
  grd (0 ≤ (x5 + 1) ∧ (x5 + 1) < (L : Int)) <|
  grd (0 ≤ (x5 + 2) ∧ (x5 + 2) < (L : Int)) <|
  bnd2 (Mo_resistance (gi s309 1200 (x5 + 1).toNat) (gi s309 1200 (x5 + 2).toNat) s309) fun y312 s313 =>
  bnd (Mo_thrown s313) fun y314 =>
  ifEq y314 y308
    (ifEq y308 0
      (grd (0 ≤ 0 ∧ 0 < 1) <|
      grd (vf_n64 (FP.f2d y312)) <|
      ifEq (dcmplI (gd s313 101 0) (FP.f2d y312)) 0
        (La_law_b1767 L x5 s313)
        (grd (0 ≤ 0 ∧ 0 < 1) <|
        grd (0 ≤ 0 ∧ 0 < 1) <|
        ifEq (dcmplI (gd s313 101 0) (gd s313 101 0)) 0
          (none)
          (ifEq (fcmplI y312 y312) 0
            (none)
            (La_law_b1767 L x5 s313))))
      (La_law_b1767 L x5 s313))
    (none)
noncomputable def La_law_b1844 (L : Nat) (x5 : Int) (s : Sg) : Option (((Int × Sg) ⊕ (Sg))) :=
  La_law_b2707 L x5 s
noncomputable def La_law_b1770 (L : Nat) (x5 : Int) (s : Sg) : Option (((Int × Sg) ⊕ (Sg))) :=
  grd (0 ≤ (x5 + 1) ∧ (x5 + 1) < (L : Int)) <|
  bnd2 (La_balance (gi s 1200 (x5 + 1).toNat) s) fun y322 s323 =>
  grd (0 ≤ (x5 + 1) ∧ (x5 + 1) < (L : Int)) <|
  bnd2 (Mo_balance (gi s323 1200 (x5 + 1).toNat) s323) fun y325 s326 =>
  bnd (Mo_thrown s326) fun y327 =>
  ifEq y327 y322
    (ifEq y322 0
      (grd (0 ≤ 0 ∧ 0 < 1) <|
      ifEq (dcmplI (gd s326 101 0) y325) 0
        (La_law_b1844 L x5 s326)
        (grd (0 ≤ 0 ∧ 0 < 1) <|
        grd (0 ≤ 0 ∧ 0 < 1) <|
        ifEq (dcmplI (gd s326 101 0) (gd s326 101 0)) 0
          (none)
          (ifEq (dcmplI y325 y325) 0
            (none)
            (La_law_b1844 L x5 s326))))
      (La_law_b1844 L x5 s326))
    (none)
noncomputable def La_law_b1847 (L : Nat) (x5 : Int) (s : Sg) : Option (((Int × Sg) ⊕ (Sg))) :=
  bnd2 (Hx_solved s) fun y333 s334 =>
  bnd2 (Mo_solved s334) fun y335 s336 =>
  ifEq y333 y335
    (La_law_b2707 L x5 s336)
    (none)
noncomputable def La_law_b1860 (L : Nat) (x5 : Int) (s : Sg) : Option (((Int × Sg) ⊕ (Sg))) :=
  bnd2 (Hx_goodMoves s) fun y339 s340 =>
  bnd2 (Mo_goodMoves s340) fun y341 s342 =>
  ifEq y339 y341
    (La_law_b2707 L x5 s342)
    (none)
noncomputable def La_law_b1873 (L : Nat) (x5 : Int) (s : Sg) : Option (((Int × Sg) ⊕ (Sg))) :=
  bnd2 (Hx_bestMove s) fun y345 s346 =>
  bnd2 (Mo_bestMove s346) fun y347 s348 =>
  ifEq y345 y347
    (La_law_b2707 L x5 s348)
    (none)
noncomputable def La_law_b1939 (L : Nat) (x5 : Int) (s : Sg) : Option (((Int × Sg) ⊕ (Sg))) :=
  La_law_b2707 L x5 s
noncomputable def La_law_b1886 (L : Nat) (x5 : Int) (s : Sg) : Option (((Int × Sg) ⊕ (Sg))) :=
  grd (0 ≤ (x5 + 1) ∧ (x5 + 1) < (L : Int)) <|
  bnd2 (La_filled (gi s 1200 (x5 + 1).toNat) s) fun y352 s353 =>
  grd (0 ≤ (x5 + 1) ∧ (x5 + 1) < (L : Int)) <|
  bnd2 (Mo_filled (gi s353 1200 (x5 + 1).toNat) s353) fun y355 s356 =>
  bnd (Mo_thrown s356) fun y357 =>
  ifEq y357 y352
    (ifEq y352 0
      (grd (0 ≤ 0 ∧ 0 < 1) <|
      grd (R y355) <|
      grd (RL64 (gl s356 100 0) ∧ RL64 y355) <|
      ifEq (lcmpI (gl s356 100 0) y355) 0
        (La_law_b1939 L x5 s356)
        (none))
      (La_law_b1939 L x5 s356))
    (none)
noncomputable def La_law_b2019 (L : Nat) (x5 : Int) (s : Sg) : Option (((Int × Sg) ⊕ (Sg))) :=
  La_law_b2707 L x5 s
noncomputable def La_law_b1942 (L : Nat) (x5 : Int) (s : Sg) : Option (((Int × Sg) ⊕ (Sg))) :=
  grd (0 ≤ (x5 + 1) ∧ (x5 + 1) < (L : Int)) <|
  grd (0 ≤ (x5 + 2) ∧ (x5 + 2) < (L : Int)) <|
  grd (0 ≤ (x5 + 3) ∧ (x5 + 3) < (L : Int)) <|
  bnd2 (La_fillings (gi s 1200 (x5 + 1).toNat) (gi s 1200 (x5 + 2).toNat) (gi s 1200 (x5 + 3).toNat) s) fun y366 s367 =>
  grd (0 ≤ (x5 + 1) ∧ (x5 + 1) < (L : Int)) <|
  grd (0 ≤ (x5 + 2) ∧ (x5 + 2) < (L : Int)) <|
  grd (0 ≤ (x5 + 3) ∧ (x5 + 3) < (L : Int)) <|
  bnd2 (Mo_fillings (gi s367 1200 (x5 + 1).toNat) (gi s367 1200 (x5 + 2).toNat) (gi s367 1200 (x5 + 3).toNat) s367) fun y371 s372 =>
  bnd (Mo_thrown s372) fun y373 =>
  ifEq y373 y366
    (ifEq y366 0
      (grd (0 ≤ 0 ∧ 0 < 1) <|
      grd (R y371) <|
      grd (RL64 (gl s372 100 0) ∧ RL64 y371) <|
      ifEq (lcmpI (gl s372 100 0) y371) 0
        (La_law_b2019 L x5 s372)
        (none))
      (La_law_b2019 L x5 s372))
    (none)
noncomputable def La_law_b2075 (L : Nat) (x5 : Int) (s : Sg) : Option (((Int × Sg) ⊕ (Sg))) :=
  La_law_b2707 L x5 s
noncomputable def La_law_b2022 (L : Nat) (x5 : Int) (s : Sg) : Option (((Int × Sg) ⊕ (Sg))) :=
  grd (0 ≤ (x5 + 1) ∧ (x5 + 1) < (L : Int)) <|
  bnd2 (La_idle (gi s 1200 (x5 + 1).toNat) s) fun y380 s381 =>
  grd (0 ≤ (x5 + 1) ∧ (x5 + 1) < (L : Int)) <|
  bnd2 (Mo_idle (gi s381 1200 (x5 + 1).toNat) s381) fun y383 s384 =>
  bnd (Mo_thrown s384) fun y385 =>
  ifEq y385 y380
    (ifEq y380 0
      (grd (0 ≤ 0 ∧ 0 < 1) <|
      grd (R y383) <|
      grd (RL64 (gl s384 100 0) ∧ RL64 y383) <|
      ifEq (lcmpI (gl s384 100 0) y383) 0
        (La_law_b2075 L x5 s384)
        (none))
      (La_law_b2075 L x5 s384))
    (none)
noncomputable def La_law_b2078 (L : Nat) (x5 : Int) (s : Sg) : Option (((Int × Sg) ⊕ (Sg))) :=
  grd (0 ≤ (x5 + 1) ∧ (x5 + 1) < (L : Int)) <|
  bnd (Hx_moveAt (gi s 1200 (x5 + 1).toNat) s) fun y392 =>
  grd (0 ≤ (x5 + 1) ∧ (x5 + 1) < (L : Int)) <|
  bnd2 (Mo_moveAt (gi s 1200 (x5 + 1).toNat) s) fun y394 s395 =>
  ifEq y392 y394
    (La_law_b2707 L x5 s395)
    (none)
noncomputable def La_law_b2156 (L : Nat) (x5 : Int) (s : Sg) : Option (((Int × Sg) ⊕ (Sg))) :=
  La_law_b2707 L x5 s
noncomputable def La_law_b2103 (L : Nat) (x5 : Int) (s : Sg) : Option (((Int × Sg) ⊕ (Sg))) :=
  grd (0 ≤ (x5 + 1) ∧ (x5 + 1) < (L : Int)) <|
  bnd2 (La_move (gi s 1200 (x5 + 1).toNat) s) fun y399 s400 =>
  grd (0 ≤ (x5 + 1) ∧ (x5 + 1) < (L : Int)) <|
  bnd2 (Mo_move (gi s400 1200 (x5 + 1).toNat) s400) fun y402 s403 =>
  bnd (Mo_thrown s403) fun y404 =>
  ifEq y404 y399
    (ifEq y399 0
      (grd (0 ≤ 0 ∧ 0 < 1) <|
      grd (R y402) <|
      grd (RL64 (gl s403 100 0) ∧ RL64 y402) <|
      ifEq (lcmpI (gl s403 100 0) y402) 0
        (La_law_b2156 L x5 s403)
        (none))
      (La_law_b2156 L x5 s403))
    (none)
noncomputable def La_law_b2159 (L : Nat) (x5 : Int) (s : Sg) : Option (((Int × Sg) ⊕ (Sg))) :=
  bnd2 (Hx_swap s) fun y410 s411 =>
  bnd2 (Mo_swap s411) fun y412 s413 =>
  ifEq y410 y412
    (La_law_b2707 L x5 s413)
    (none)
noncomputable def La_law_b2172 (L : Nat) (x5 : Int) (s : Sg) : Option (((Int × Sg) ⊕ (Sg))) :=
  bnd2 (Hx_giveUp s) fun y416 s417 =>
  bnd2 (Mo_giveUp s417) fun y418 s419 =>
  ifEq y416 y418
    (La_law_b2707 L x5 s419)
    (none)
noncomputable def La_law_b2250 (L : Nat) (x5 : Int) (s : Sg) : Option (((Int × Sg) ⊕ (Sg))) :=
  La_law_b2707 L x5 s
noncomputable def La_law_b2185 (L : Nat) (x5 : Int) (s : Sg) : Option (((Int × Sg) ⊕ (Sg))) :=
  grd (0 ≤ (x5 + 1) ∧ (x5 + 1) < (L : Int)) <|
  grd (0 ≤ (x5 + 2) ∧ (x5 + 2) < (L : Int)) <|
  bnd2 (La_put (gi s 1200 (x5 + 1).toNat) (gi s 1200 (x5 + 2).toNat) s) fun y424 s425 =>
  grd (0 ≤ (x5 + 1) ∧ (x5 + 1) < (L : Int)) <|
  grd (0 ≤ (x5 + 2) ∧ (x5 + 2) < (L : Int)) <|
  bnd2 (Mo_put (gi s425 1200 (x5 + 1).toNat) (gi s425 1200 (x5 + 2).toNat) s425) fun y428 s429 =>
  bnd (Mo_thrown s429) fun y430 =>
  ifEq y430 y424
    (ifEq y424 0
      (grd (0 ≤ 0 ∧ 0 < 1) <|
      grd (R y428) <|
      grd (RL64 (gl s429 100 0) ∧ RL64 y428) <|
      ifEq (lcmpI (gl s429 100 0) y428) 0
        (La_law_b2250 L x5 s429)
        (none))
      (La_law_b2250 L x5 s429))
    (none)
noncomputable def La_law_b2306 (L : Nat) (x5 : Int) (s : Sg) : Option (((Int × Sg) ⊕ (Sg))) :=
  La_law_b2707 L x5 s
noncomputable def La_law_b2253 (L : Nat) (x5 : Int) (s : Sg) : Option (((Int × Sg) ⊕ (Sg))) :=
  grd (0 ≤ (x5 + 1) ∧ (x5 + 1) < (L : Int)) <|
  bnd2 (La_setTurn (gi s 1200 (x5 + 1).toNat) s) fun y437 s438 =>
  grd (0 ≤ (x5 + 1) ∧ (x5 + 1) < (L : Int)) <|
  bnd2 (Mo_setTurn (gi s438 1200 (x5 + 1).toNat) s438) fun y440 s441 =>
  bnd (Mo_thrown s441) fun y442 =>
  ifEq y442 y437
    (ifEq y437 0
      (grd (0 ≤ 0 ∧ 0 < 1) <|
      grd (R y440) <|
      grd (RL64 (gl s441 100 0) ∧ RL64 y440) <|
      ifEq (lcmpI (gl s441 100 0) y440) 0
        (La_law_b2306 L x5 s441)
        (none))
      (La_law_b2306 L x5 s441))
    (none)
noncomputable def La_law_b2309 (L : Nat) (x5 : Int) (s : Sg) : Option (((Int × Sg) ⊕ (Sg))) :=
  bnd2 (Hx_turnOver s) fun y448 s449 =>
  bnd2 (Mo_turnOver s449) fun y450 s451 =>
  ifEq y448 y450
    (La_law_b2707 L x5 s451)
    (none)
noncomputable def La_law_b2375 (L : Nat) (x5 : Int) (s : Sg) : Option (((Int × Sg) ⊕ (Sg))) :=
  La_law_b2707 L x5 s
noncomputable def La_law_b2322 (L : Nat) (x5 : Int) (s : Sg) : Option (((Int × Sg) ⊕ (Sg))) :=
  grd (0 ≤ (x5 + 1) ∧ (x5 + 1) < (L : Int)) <|
  bnd2 (La_playForced (gi s 1200 (x5 + 1).toNat) s) fun y455 s456 =>
  grd (0 ≤ (x5 + 1) ∧ (x5 + 1) < (L : Int)) <|
  bnd2 (Mo_playForced (gi s456 1200 (x5 + 1).toNat) s456) fun y458 s459 =>
  bnd (Mo_thrown s459) fun y460 =>
  ifEq y460 y455
    (ifEq y455 0
      (grd (0 ≤ 0 ∧ 0 < 1) <|
      grd (R y458) <|
      grd (RL64 (gl s459 100 0) ∧ RL64 y458) <|
      ifEq (lcmpI (gl s459 100 0) y458) 0
        (La_law_b2375 L x5 s459)
        (none))
      (La_law_b2375 L x5 s459))
    (none)
noncomputable def La_law_b2378 (L : Nat) (x5 : Int) (s : Sg) : Option (((Int × Sg) ⊕ (Sg))) :=
  bnd2 (Hx_forcedWinner s) fun y466 s467 =>
  bnd2 (Mo_forcedWinner s467) fun y468 s469 =>
  ifEq y466 y468
    (La_law_b2707 L x5 s469)
    (none)
noncomputable def La_law_b2391 (L : Nat) (x5 : Int) (s : Sg) : Option (((Int × Sg) ⊕ (Sg))) :=
  bnd2 (Hx_forcedRow s) fun y472 s473 =>
  bnd2 (Mo_forcedRow s473) fun y474 s475 =>
  ifEq y472 y474
    (La_law_b2707 L x5 s475)
    (none)
noncomputable def La_law_b2442 (L : Nat) (x5 : Int) (s : Sg) : Option (((Int × Sg) ⊕ (Sg))) :=
  La_law_b2707 L x5 s
noncomputable def La_law_b2404 (L : Nat) (x5 : Int) (s : Sg) : Option (((Int × Sg) ⊕ (Sg))) :=
  bnd (Hx_fullness s) fun y478 =>
  bnd2 (Mo_fullness s) fun y479 s480 =>
  ifEq (dcmplI y478 y479) 0
    (La_law_b2442 L x5 s480)
    (ifEq (dcmplI y478 y478) 0
      (none)
      (ifEq (dcmplI y479 y479) 0
        (none)
        (La_law_b2442 L x5 s480)))
noncomputable def La_law_b2498 (L : Nat) (x5 : Int) (s : Sg) : Option (((Int × Sg) ⊕ (Sg))) :=
  La_law_b2707 L x5 s
noncomputable def La_law_b2445 (L : Nat) (x5 : Int) (s : Sg) : Option (((Int × Sg) ⊕ (Sg))) :=
  grd (0 ≤ (x5 + 1) ∧ (x5 + 1) < (L : Int)) <|
  bnd2 (La_writeRow (gi s 1200 (x5 + 1).toNat) s) fun y484 s485 =>
  grd (0 ≤ (x5 + 1) ∧ (x5 + 1) < (L : Int)) <|
  bnd2 (Mo_writeRow (gi s485 1200 (x5 + 1).toNat) s485) fun y487 s488 =>
  bnd (Mo_thrown s488) fun y489 =>
  ifEq y489 y484
    (ifEq y484 0
      (grd (0 ≤ 0 ∧ 0 < 1) <|
      grd (R y487) <|
      grd (RL64 (gl s488 100 0) ∧ RL64 y487) <|
      ifEq (lcmpI (gl s488 100 0) y487) 0
        (La_law_b2498 L x5 s488)
        (none))
      (La_law_b2498 L x5 s488))
    (none)
noncomputable def La_law_b2554 (L : Nat) (x5 : Int) (s : Sg) : Option (((Int × Sg) ⊕ (Sg))) :=
  La_law_b2707 L x5 s
noncomputable def La_law_b2501 (L : Nat) (x5 : Int) (s : Sg) : Option (((Int × Sg) ⊕ (Sg))) :=
  grd (0 ≤ (x5 + 1) ∧ (x5 + 1) < (L : Int)) <|
  bnd2 (La_writeCell (gi s 1200 (x5 + 1).toNat) s) fun y496 s497 =>
  grd (0 ≤ (x5 + 1) ∧ (x5 + 1) < (L : Int)) <|
  bnd2 (Mo_writeCell (gi s497 1200 (x5 + 1).toNat) s497) fun y499 s500 =>
  bnd (Mo_thrown s500) fun y501 =>
  ifEq y501 y496
    (ifEq y496 0
      (grd (0 ≤ 0 ∧ 0 < 1) <|
      grd (R y499) <|
      grd (RL64 (gl s500 100 0) ∧ RL64 y499) <|
      ifEq (lcmpI (gl s500 100 0) y499) 0
        (La_law_b2554 L x5 s500)
        (none))
      (La_law_b2554 L x5 s500))
    (none)
noncomputable def La_law_b2557 (L : Nat) (x5 : Int) (s : Sg) : Option (((Int × Sg) ⊕ (Sg))) :=
  grd (0 ≤ (x5 + 1) ∧ (x5 + 1) < (L : Int)) <|
  bnd (Hx_outputByte (gi s 1200 (x5 + 1).toNat) s) fun y508 =>
  grd (0 ≤ (x5 + 1) ∧ (x5 + 1) < (L : Int)) <|
  bnd2 (Mo_outputByte (gi s 1200 (x5 + 1).toNat) s) fun y510 s511 =>
  ifEq y508 y510
    (La_law_b2707 L x5 s511)
    (none)
noncomputable def La_law_b2582 (L : Nat) (x5 : Int) (s : Sg) : Option (((Int × Sg) ⊕ (Sg))) :=
  bnd2 (Hx_undo s) fun y514 s515 =>
  bnd2 (Mo_undo s515) fun y516 s517 =>
  ifEq y514 y516
    (La_law_b2707 L x5 s517)
    (none)
noncomputable def La_law_b2648 (L : Nat) (x5 : Int) (s : Sg) : Option (((Int × Sg) ⊕ (Sg))) :=
  La_law_b2707 L x5 s
noncomputable def La_law_b2595 (L : Nat) (x5 : Int) (s : Sg) : Option (((Int × Sg) ⊕ (Sg))) :=
  grd (0 ≤ (x5 + 1) ∧ (x5 + 1) < (L : Int)) <|
  bnd2 (La_saveSnapshot (gi s 1200 (x5 + 1).toNat) s) fun y521 s522 =>
  grd (0 ≤ (x5 + 1) ∧ (x5 + 1) < (L : Int)) <|
  bnd2 (Mo_saveSnapshot (gi s522 1200 (x5 + 1).toNat) s522) fun y524 s525 =>
  bnd (Mo_thrown s525) fun y526 =>
  ifEq y526 y521
    (ifEq y521 0
      (grd (0 ≤ 0 ∧ 0 < 1) <|
      grd (R y524) <|
      grd (RL64 (gl s525 100 0) ∧ RL64 y524) <|
      ifEq (lcmpI (gl s525 100 0) y524) 0
        (La_law_b2648 L x5 s525)
        (none))
      (La_law_b2648 L x5 s525))
    (none)
noncomputable def La_law_b2704 (L : Nat) (x5 : Int) (s : Sg) : Option (((Int × Sg) ⊕ (Sg))) :=
  La_law_b2707 L x5 s
noncomputable def La_law_b2651 (L : Nat) (x5 : Int) (s : Sg) : Option (((Int × Sg) ⊕ (Sg))) :=
  grd (0 ≤ (x5 + 1) ∧ (x5 + 1) < (L : Int)) <|
  bnd2 (La_restoreSnapshot (gi s 1200 (x5 + 1).toNat) s) fun y533 s534 =>
  grd (0 ≤ (x5 + 1) ∧ (x5 + 1) < (L : Int)) <|
  bnd2 (Mo_restoreSnapshot (gi s534 1200 (x5 + 1).toNat) s534) fun y536 s537 =>
  bnd (Mo_thrown s537) fun y538 =>
  ifEq y538 y533
    (ifEq y533 0
      (grd (0 ≤ 0 ∧ 0 < 1) <|
      grd (R y536) <|
      grd (RL64 (gl s537 100 0) ∧ RL64 y536) <|
      ifEq (lcmpI (gl s537 100 0) y536) 0
        (La_law_b2704 L x5 s537)
        (none))
      (La_law_b2704 L x5 s537))
    (none)
noncomputable def La_law_t28 (L : Nat) (x5 : Int) (s : Sg) : Option (((Int × Sg) ⊕ (Sg))) :=
  grd (0 ≤ x5 ∧ x5 ≤ 2048) <|
  ifLt ((L : Int) - 4) x5
    (some (.inr s))
    (grd (0 ≤ x5 ∧ x5 < (L : Int)) <|
    ifEq (iandI (gi s 1200 x5.toNat) 63) 0
      (La_law_b264 L x5 s)
      (ifEq (iandI (gi s 1200 x5.toNat) 63) 1
        (La_law_b321 L x5 s)
        (ifEq (iandI (gi s 1200 x5.toNat) 63) 2
          (La_law_b334 L x5 s)
          (ifEq (iandI (gi s 1200 x5.toNat) 63) 3
            (La_law_b347 L x5 s)
            (ifEq (iandI (gi s 1200 x5.toNat) 63) 4
              (La_law_b360 L x5 s)
              (ifEq (iandI (gi s 1200 x5.toNat) 63) 5
                (La_law_b416 L x5 s)
                (ifEq (iandI (gi s 1200 x5.toNat) 63) 6
                  (La_law_b472 L x5 s)
                  (ifEq (iandI (gi s 1200 x5.toNat) 63) 7
                    (La_law_b540 L x5 s)
                    (ifEq (iandI (gi s 1200 x5.toNat) 63) 8
                      (La_law_b608 L x5 s)
                      (ifEq (iandI (gi s 1200 x5.toNat) 63) 9
                        (La_law_b664 L x5 s)
                        (ifEq (iandI (gi s 1200 x5.toNat) 63) 10
                          (La_law_b720 L x5 s)
                          (ifEq (iandI (gi s 1200 x5.toNat) 63) 11
                            (La_law_b795 L x5 s)
                            (ifEq (iandI (gi s 1200 x5.toNat) 63) 12
                              (La_law_b879 L x5 s)
                              (ifEq (iandI (gi s 1200 x5.toNat) 63) 13
                                (La_law_b959 L x5 s)
                                (ifEq (iandI (gi s 1200 x5.toNat) 63) 14
                                  (La_law_b1027 L x5 s)
                                  (ifEq (iandI (gi s 1200 x5.toNat) 63) 15
                                    (La_law_b1083 L x5 s)
                                    (ifEq (iandI (gi s 1200 x5.toNat) 63) 16
                                      (La_law_b1146 L x5 s)
                                      (ifEq (iandI (gi s 1200 x5.toNat) 63) 17
                                        (La_law_b1202 L x5 s)
                                        (ifEq (iandI (gi s 1200 x5.toNat) 63) 18
                                          (La_law_b1258 L x5 s)
                                          (ifEq (iandI (gi s 1200 x5.toNat) 63) 19
                                            (La_law_b1326 L x5 s)
                                            (ifEq (iandI (gi s 1200 x5.toNat) 63) 20
                                              (La_law_b1339 L x5 s)
                                              (ifEq (iandI (gi s 1200 x5.toNat) 63) 21
                                                (La_law_b1395 L x5 s)
                                                (ifEq (iandI (gi s 1200 x5.toNat) 63) 22
                                                  (La_law_b1463 L x5 s)
                                                  (ifEq (iandI (gi s 1200 x5.toNat) 63) 23
                                                    (La_law_b1519 L x5 s)
                                                    (ifEq (iandI (gi s 1200 x5.toNat) 63) 24
                                                      (La_law_b1532 L x5 s)
                                                      (ifEq (iandI (gi s 1200 x5.toNat) 63) 25
                                                        (La_law_b1612 L x5 s)
                                                        (ifEq (iandI (gi s 1200 x5.toNat) 63) 26
                                                          (La_law_b1680 L x5 s)
                                                          (ifEq (iandI (gi s 1200 x5.toNat) 63) 27
                                                            (La_law_b1770 L x5 s)
                                                            (ifEq (iandI (gi s 1200 x5.toNat) 63) 28
                                                              (La_law_b1847 L x5 s)
                                                              (ifEq (iandI (gi s 1200 x5.toNat) 63) 29
                                                                (La_law_b1860 L x5 s)
                                                                (ifEq (iandI (gi s 1200 x5.toNat) 63) 30
                                                                  (La_law_b1873 L x5 s)
                                                                  (ifEq (iandI (gi s 1200 x5.toNat) 63) 31
                                                                    (La_law_b1886 L x5 s)
                                                                    (ifEq (iandI (gi s 1200 x5.toNat) 63) 32
                                                                      (La_law_b1942 L x5 s)
                                                                      (ifEq (iandI (gi s 1200 x5.toNat) 63) 33
                                                                        (La_law_b2022 L x5 s)
                                                                        (ifEq (iandI (gi s 1200 x5.toNat) 63) 34
                                                                          (La_law_b2078 L x5 s)
                                                                          (ifEq (iandI (gi s 1200 x5.toNat) 63) 35
                                                                            (La_law_b2103 L x5 s)
                                                                            (ifEq (iandI (gi s 1200 x5.toNat) 63) 36
                                                                              (La_law_b2159 L x5 s)
                                                                              (ifEq (iandI (gi s 1200 x5.toNat) 63) 37
                                                                                (La_law_b2172 L x5 s)
                                                                                (ifEq (iandI (gi s 1200 x5.toNat) 63) 38
                                                                                  (La_law_b2185 L x5 s)
                                                                                  (ifEq (iandI (gi s 1200 x5.toNat) 63) 39
                                                                                    (La_law_b2253 L x5 s)
                                                                                    (ifEq (iandI (gi s 1200 x5.toNat) 63) 40
                                                                                      (La_law_b2309 L x5 s)
                                                                                      (ifEq (iandI (gi s 1200 x5.toNat) 63) 41
                                                                                        (La_law_b2322 L x5 s)
                                                                                        (ifEq (iandI (gi s 1200 x5.toNat) 63) 42
                                                                                          (La_law_b2378 L x5 s)
                                                                                          (ifEq (iandI (gi s 1200 x5.toNat) 63) 43
                                                                                            (La_law_b2391 L x5 s)
                                                                                            (ifEq (iandI (gi s 1200 x5.toNat) 63) 44
                                                                                              (La_law_b2404 L x5 s)
                                                                                              (ifEq (iandI (gi s 1200 x5.toNat) 63) 45
                                                                                                (La_law_b2445 L x5 s)
                                                                                                (ifEq (iandI (gi s 1200 x5.toNat) 63) 46
                                                                                                  (La_law_b2501 L x5 s)
                                                                                                  (ifEq (iandI (gi s 1200 x5.toNat) 63) 47
                                                                                                    (La_law_b2557 L x5 s)
                                                                                                    (ifEq (iandI (gi s 1200 x5.toNat) 63) 48
                                                                                                      (La_law_b2582 L x5 s)
                                                                                                      (ifEq (iandI (gi s 1200 x5.toNat) 63) 49
                                                                                                        (La_law_b2595 L x5 s)
                                                                                                        (ifEq (iandI (gi s 1200 x5.toNat) 63) 50
                                                                                                          (La_law_b2651 L x5 s)
                                                                                                          (La_law_b2707 L x5 s))))))))))))))))))))))))))))))))))))))))))))))))))))
noncomputable def La_law_l28 (L : Nat) (x5 : Int) (s : Sg) : Option (Int × Sg) :=
  bnd (whl (fun σ : Int × Sg => La_law_t28 L σ.1 σ.2) (x5, s)) fun ρ28 =>
    some (1, ρ28)

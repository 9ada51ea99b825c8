/-! ===== models of the methods, out of their bytecode ===== -/
noncomputable def Gr_row (x1 : Int) (s : Sg) : Option (Int) :=
  ifEq (gi s 1 3) 0
    (some 0)
    (grd ((0 ≤ x1 ∧ R x1) ∧ (0 < (gi s 1 3) ∧ R (gi s 1 3))) <|
    some (x1 / (gi s 1 3)))
noncomputable def Gr_edgesOfLine (x1 : Int) (s : Sg) : Option (Int) :=
  ifEq x1 0
    (some 1)
    (ifEq x1 ((gi s 1 3) - 1)
      (some 2)
      (some 0))
noncomputable def Hx_set (r0 : Nat) (x1 : Int) (x2 : Int) (s : Sg) : Option (Sg) :=
  ifLt x1 0
    (some s)
    (ifLt x1 (alen r0 : Int)
      (grd (0 ≤ x1 ∧ x1 < (alen r0 : Int)) <|
      lett (si s r0 x1.toNat x2) fun s2 =>
      some s2)
      (some s))
noncomputable def Gr_column (x1 : Int) (s : Sg) : Option (Int) :=
  ifEq (gi s 1 3) 0
    (some 0)
    (grd ((0 ≤ x1 ∧ R x1) ∧ (0 < (gi s 1 3) ∧ R (gi s 1 3))) <|
    some (x1 % (gi s 1 3)))
noncomputable def Hx_at_b10  (s : Sg) : Option (Int) :=
  some (-1)
noncomputable def Hx_at (r0 : Nat) (x1 : Int) (s : Sg) : Option (Int) :=
  ifLt x1 0
    (Hx_at_b10  s)
    (ifLt x1 (alen r0 : Int)
      (grd (0 ≤ x1 ∧ x1 < (alen r0 : Int)) <|
      some (gi s r0 x1.toNat))
      (Hx_at_b10  s))
noncomputable def Gr_cellAt_b29 (x1 : Int) (x2 : Int) (t0 : Int) (s : Sg) : Option (Int) :=
  ifEq t0 0
    (some (((gi s 1 3) * x1) + x2))
    (some (-1))
noncomputable def Gr_cellAt_b24 (x1 : Int) (x2 : Int) (s : Sg) : Option (Int) :=
  Gr_cellAt_b29 x1 x2 1 s
noncomputable def Gr_cellAt (x1 : Int) (x2 : Int) (s : Sg) : Option (Int) :=
  ifLt x1 0
    (Gr_cellAt_b24 x1 x2 s)
    (ifLt x1 (gi s 1 3)
      (ifLt x2 0
        (Gr_cellAt_b24 x1 x2 s)
        (ifLt x2 (gi s 1 3)
          (Gr_cellAt_b29 x1 x2 0 s)
          (Gr_cellAt_b24 x1 x2 s)))
      (Gr_cellAt_b24 x1 x2 s))
noncomputable def Gr_listNeighbours_b66 (x1 : Int) (x2 : Int) (x3 : Int) (s : Sg) : Option (((Int × Int × Sg) ⊕ (Int × Sg))) :=
  some (.inl (x2, (x3 + 1), s))
noncomputable def Gr_listNeighbours_t4 (x1 : Int) (x2 : Int) (x3 : Int) (s : Sg) : Option (((Int × Int × Sg) ⊕ (Int × Sg))) :=
  ifLt x3 6
    (bnd (Gr_row x1 s) fun y1 =>
    bnd (Hx_at 1000 x3 s) fun y2 =>
    bnd (Gr_column x1 s) fun y3 =>
    bnd (Hx_at 1001 x3 s) fun y4 =>
    bnd (Gr_cellAt (y1 + y2) (y3 + y4) s) fun y5 =>
    ifEq y5 (-1)
      (Gr_listNeighbours_b66 x1 x2 x3 s)
      (bnd (Hx_set 2 ((x1 * 6) + x2) y5 s) fun s7 =>
      Gr_listNeighbours_b66 x1 (x2 + 1) x3 s7))
    (some (.inr (x2, s)))
noncomputable def Gr_listNeighbours_t74 (x1 : Int) (x3 : Int) (s : Sg) : Option (((Int × Sg) ⊕ (Sg))) :=
  ifLt x3 6
    (bnd (Hx_set 2 ((x1 * 6) + x3) (-1) s) fun s11 =>
    some (.inl ((x3 + 1), s11)))
    (some (.inr s))
noncomputable def Gr_listNeighbours_l74 (x1 : Int) (x3 : Int) (s : Sg) : Option (Sg) :=
  bnd (whl (fun σ : Int × Sg => Gr_listNeighbours_t74 x1 σ.1 σ.2) (x3, s)) fun ρ74 =>
    some ρ74
noncomputable def Gr_listNeighbours_l4 (x1 : Int) (x2 : Int) (x3 : Int) (s : Sg) : Option (Sg) :=
  bnd (whl (fun σ : Int × Int × Sg => Gr_listNeighbours_t4 x1 σ.1 σ.2.1 σ.2.2) (x2, x3, s)) fun ρ4 =>
    Gr_listNeighbours_l74 x1 ρ4.1 ρ4.2
noncomputable def Gr_listNeighbours (x1 : Int) (s : Sg) : Option (Sg) :=
  Gr_listNeighbours_l4 x1 0 0 s
noncomputable def Gr_fit_t23 (x2 : Int) (s : Sg) : Option (((Int × Sg) ⊕ (Sg))) :=
  ifLt x2 (gi s 1 4)
    (bnd (Gr_row x2 s) fun y3 =>
    bnd (Gr_edgesOfLine y3 s) fun y4 =>
    bnd (Hx_set 3 x2 y4 s) fun s6 =>
    bnd (Gr_column x2 s6) fun y7 =>
    bnd (Gr_edgesOfLine y7 s6) fun y8 =>
    bnd (Hx_set 4 x2 y8 s6) fun s10 =>
    bnd (Gr_listNeighbours x2 s10) fun s12 =>
    some (.inl ((x2 + 1), s12)))
    (some (.inr s))
noncomputable def Gr_fit_l23 (x2 : Int) (s : Sg) : Option (Sg) :=
  bnd (whl (fun σ : Int × Sg => Gr_fit_t23 σ.1 σ.2) (x2, s)) fun ρ23 =>
    some ρ23
noncomputable def Gr_fit (x1 : Int) (s : Sg) : Option (Sg) :=
  ifEq x1 (gi s 1 3)
    (some s)
    (lett (si s 1 3 x1) fun s1 =>
    lett (si s1 1 4 (x1 * x1)) fun s2 =>
    Gr_fit_l23 0 s2)
noncomputable def Po_begin_t27 (r0 : Nat) (x2 : Int) (s : Sg) : Option (((Int × Sg) ⊕ (Sg))) :=
  ifLt x2 81
    (bnd (Hx_set (r0 + 1) x2 (-1) s) fun s7 =>
    some (.inl ((x2 + 1), s7)))
    (some (.inr s))
noncomputable def Po_begin_l27 (r0 : Nat) (x2 : Int) (s : Sg) : Option (Sg) :=
  bnd (whl (fun σ : Int × Sg => Po_begin_t27 r0 σ.1 σ.2) (x2, s)) fun ρ27 =>
    some ρ27
noncomputable def Po_begin (r0 : Nat) (x1 : Int) (s : Sg) : Option (Sg) :=
  lett (si s r0 2 x1) fun s1 =>
  lett (si s1 r0 3 0) fun s2 =>
  lett (si s2 r0 4 0) fun s3 =>
  lett (si s3 r0 5 0) fun s4 =>
  lett (si s4 r0 6 (-1)) fun s5 =>
  Po_begin_l27 r0 0 s5
noncomputable def By_add (r0 : Nat) (x1 : Int) (s : Sg) : Option (Sg) :=
  ifLt (gi s r0 1) 0
    (some s)
    (ifLt (gi s r0 1) (alen (r0 + 1) : Int)
      (grd (0 ≤ (gi s r0 1) ∧ (gi s r0 1) < (alen (r0 + 1) : Int)) <|
      lett (si s (r0 + 1) (gi s r0 1).toNat x1) fun s2 =>
      lett (si s2 r0 1 ((gi s2 r0 1) + 1)) fun s3 =>
      some s3)
      (some s))
noncomputable def Hx_append_b27 (x1 : Int) (x3 : Int) (x4 : Int) (s : Sg) : Option (((Int × Int) ⊕ (Int))) :=
  some (.inl (x3, (x4 + (-8))))
noncomputable def Hx_append_t6 (x1 : Int) (x3 : Int) (x4 : Int) (s : Sg) : Option (((Int × Int) ⊕ (Int))) :=
  ifLt x4 0
    (some (.inr x3))
    (grd (RL64 (landI (lushrI x1 x4) 255) ∧ RL64 0) <|
    ifEq (lcmpI (landI (lushrI x1 x4) 255) 0) 0
      (Hx_append_b27 x1 x3 x4 s)
      (Hx_append_b27 x1 (x3 + 1) x4 s))
noncomputable def Hx_append_b85 (x1 : Int) (x4 : Int) (s : Sg) : Option (((Int × Sg) ⊕ (Sg))) :=
  some (.inl ((x4 + (-8)), s))
noncomputable def Hx_append_t55 (x1 : Int) (x4 : Int) (s : Sg) : Option (((Int × Sg) ⊕ (Sg))) :=
  ifLt x4 0
    (some (.inr s))
    (lett (landI (lushrI x1 x4) 255) fun x5_3 =>
    ifEq x5_3 0
      (Hx_append_b85 x1 x4 s)
      (bnd (By_add 48 x5_3 s) fun s5 =>
      Hx_append_b85 x1 x4 s5))
noncomputable def Hx_append_l55 (x1 : Int) (x4 : Int) (s : Sg) : Option (Int × Sg) :=
  bnd (whl (fun σ : Int × Sg => Hx_append_t55 x1 σ.1 σ.2) (x4, s)) fun ρ55 =>
    some ((gi ρ55 48 1), ρ55)
noncomputable def Hx_append_l6 (x1 : Int) (x3 : Int) (x4 : Int) (s : Sg) : Option (Int × Sg) :=
  bnd (whl (fun σ : Int × Int => Hx_append_t6 x1 σ.1 σ.2 s) (x3, x4)) fun ρ6 =>
    ifLt 400 ((gi s 48 1) + ρ6)
      (some ((-2), s))
      (Hx_append_l55 x1 56 s)
noncomputable def Hx_append (x1 : Int) (s : Sg) : Option (Int × Sg) :=
  Hx_append_l6 x1 0 56 s
noncomputable def By_get_b26 (r0 : Nat) (x1 : Int) (t0 : Int) (s : Sg) : Option (Int) :=
  ifEq t0 0
    (grd (0 ≤ x1 ∧ x1 < (alen (r0 + 1) : Int)) <|
    some (gi s (r0 + 1) x1.toNat))
    (some (-1))
noncomputable def By_get_b21 (r0 : Nat) (x1 : Int) (s : Sg) : Option (Int) :=
  By_get_b26 r0 x1 1 s
noncomputable def By_get (r0 : Nat) (x1 : Int) (s : Sg) : Option (Int) :=
  ifLt x1 0
    (By_get_b21 r0 x1 s)
    (ifLt x1 (gi s r0 1)
      (ifLt x1 (alen (r0 + 1) : Int)
        (By_get_b26 r0 x1 0 s)
        (By_get_b21 r0 x1 s))
      (By_get_b21 r0 x1 s))
noncomputable def Re_runEnd_t3 (x2 : Int) (x3 : Int) (x4 : Int) (s : Sg) : Option (((Int) ⊕ (Int))) :=
  ifLt x4 (gi s 48 1)
    (bnd (By_get 48 x4 s) fun y1 =>
    ifLt y1 x2
      (some (.inr x4))
      (bnd (By_get 48 x4 s) fun y2 =>
      ifLt x3 y2
        (some (.inr x4))
        (some (.inl (x4 + 1)))))
    (some (.inr x4))
noncomputable def Re_runEnd_l3 (x2 : Int) (x3 : Int) (x4 : Int) (s : Sg) : Option (Int) :=
  bnd (whl (fun σ : Int => Re_runEnd_t3 x2 x3 σ s) x4) fun ρ3 =>
    some ρ3
noncomputable def Re_runEnd (x1 : Int) (x2 : Int) (x3 : Int) (s : Sg) : Option (Int) :=
  Re_runEnd_l3 x2 x3 x1 s
noncomputable def Re_readNumber_t7 (x1 : Int) (x2 : Int) (s : Sg) : Option (((Int × Int) ⊕ (Int))) :=
  ifLt x2 (gi s 52 6)
    (bnd (By_get 48 x2 s) fun y2 =>
    grd (R 1000 ∧ R (((10 * x1) + y2) - 48)) <|
    lett (min 1000 (((10 * x1) + y2) - 48)) fun x1_4 =>
    some (.inl (x1_4, (x2 + 1))))
    (some (.inr x1))
noncomputable def Re_readNumber_l7 (x1 : Int) (x2 : Int) (s : Sg) : Option (Int) :=
  bnd (whl (fun σ : Int × Int => Re_readNumber_t7 σ.1 σ.2 s) (x1, x2)) fun ρ7 =>
    some ρ7
noncomputable def Re_readNumber  (s : Sg) : Option (Int) :=
  lett (gi s 52 5) fun x2_1 =>
  Re_readNumber_l7 0 x2_1 s
noncomputable def Re_advance_b151 (t1 : Int) (s : Sg) : Option (Sg) :=
  lett (si s 52 6 t1) fun s5 =>
  some s5
noncomputable def Re_advance_b129 (x1 : Int) (t1 : Int) (s : Sg) : Option (Sg) :=
  lett (si s 52 4 t1) fun s4 =>
  ifEq x1 (-1)
    (Re_advance_b151 (gi s4 52 5) s4)
    (Re_advance_b151 ((gi s4 52 5) + 1) s4)
noncomputable def Re_advance_b108 (x1 : Int) (s : Sg) : Option (Sg) :=
  ifEq x1 (-1)
    (Re_advance_b129 x1 0 s)
    (ifEq x1 59
      (Re_advance_b129 x1 3 s)
      (Re_advance_b129 x1 4 s))
noncomputable def Re_advance_b64 (x1 : Int) (s : Sg) : Option (Sg) :=
  ifLt x1 48
    (Re_advance_b108 x1 s)
    (ifLt 57 x1
      (Re_advance_b108 x1 s)
      (lett (si s 52 4 2) fun s6 =>
      bnd (Re_runEnd (gi s6 52 5) 48 57 s6) fun y7 =>
      lett (si s6 52 6 y7) fun s8 =>
      bnd (Re_readNumber s8) fun y9 =>
      lett (si s8 52 7 y9) fun s10 =>
      some s10))
noncomputable def Re_advance  (s : Sg) : Option (Sg) :=
  bnd (Re_runEnd (gi s 52 6) 32 32 s) fun y1 =>
  lett (si s 52 5 y1) fun s2 =>
  bnd (By_get 48 (gi s2 52 5) s2) fun y3 =>
  ifLt y3 97
    (Re_advance_b64 y3 s2)
    (ifLt 122 y3
      (Re_advance_b64 y3 s2)
      (lett (si s2 52 4 1) fun s11 =>
      bnd (Re_runEnd (gi s11 52 5) 97 122 s11) fun y12 =>
      lett (si s11 52 6 y12) fun s13 =>
      some s13))
noncomputable def Re_isWord_t28 (r1 : Nat) (x2 : Int) (s : Sg) : Option (((Int) ⊕ ((Unit) ⊕ (Unit)))) :=
  ifLt x2 (slen r1)
    (bnd (By_get 48 ((gi s 52 5) + x2) s) fun y1 =>
    grd (0 ≤ x2 ∧ x2 < slen r1) <|
    ifEq y1 (schr r1 x2)
      (some (.inl (x2 + 1)))
      (some (.inr (.inl ()))))
    (some (.inr (.inr ())))
noncomputable def Re_isWord_l28 (r1 : Nat) (x2 : Int) (s : Sg) : Option (Int) :=
  bnd (whl (fun σ : Int => Re_isWord_t28 r1 σ s) x2) fun ρ28 => match ρ28 with
  | .inl ρ28 =>
      some 0
  | .inr ρ28 =>
      some 1
noncomputable def Re_isWord (r1 : Nat) (s : Sg) : Option (Int) :=
  ifEq (gi s 52 4) 1
    (ifEq ((gi s 52 6) - (gi s 52 5)) (slen r1)
      (Re_isWord_l28 r1 0 s)
      (some 0))
    (some 0)
noncomputable def Re_fail (x1 : Int) (x2 : Int) (s : Sg) : Option (Sg) :=
  lett (si s 52 8 x1) fun s1 =>
  lett (si s1 52 9 x2) fun s2 =>
  some s2
noncomputable def Re_readBoard_b58  (s : Sg) : Option (Sg) :=
  bnd (Re_fail 2 (gi s 52 5) s) fun s5 =>
  some s5
noncomputable def Re_readBoard  (s : Sg) : Option (Sg) :=
  bnd (Re_isWord 0 s) fun y1 =>
  ifEq y1 0
    (bnd (Re_fail 1 (gi s 52 5) s) fun s19 =>
    some s19)
    (bnd (Re_advance s) fun s3 =>
    ifEq (gi s3 52 4) 2
      (ifLt (gi s3 52 7) 2
        (Re_readBoard_b58  s3)
        (ifLt 9 (gi s3 52 7)
          (Re_readBoard_b58  s3)
          (bnd (Po_begin 53 (gi s3 52 7) s3) fun s7 =>
          bnd (Gr_fit (gi s7 52 7) s7) fun s9 =>
          bnd (Re_advance s9) fun s11 =>
          bnd (Re_isWord 1 s11) fun y12 =>
          ifEq y12 0
            (some s11)
            (lett (si s11 53 3 1) fun s13 =>
            bnd (Re_advance s13) fun s15 =>
            some s15))))
      (bnd (Re_fail 1 (gi s3 52 5) s3) fun s17 =>
      some s17))
noncomputable def Re_sideWord  (s : Sg) : Option (Int) :=
  bnd (Re_isWord 4 s) fun y1 =>
  ifEq y1 0
    (bnd (Re_isWord 5 s) fun y2 =>
    ifEq y2 0
      (some (-1))
      (some 1))
    (some 0)
noncomputable def Re_readTurn  (s : Sg) : Option (Sg) :=
  bnd (Re_sideWord s) fun y1 =>
  ifEq y1 (-1)
    (bnd (Re_fail 1 (gi s 52 5) s) fun s6 =>
    some s6)
    (lett (si s 53 5 y1) fun s2 =>
    bnd (Re_advance s2) fun s4 =>
    some s4)
noncomputable def Gr_edges_b26  (s : Sg) : Option (Int) :=
  some 0
noncomputable def Gr_edges_b15 (x1 : Int) (u_0 : Nat) (s : Sg) : Option (Int) :=
  ifLt x1 0
    (Gr_edges_b26  s)
    (ifLt x1 (alen u_0 : Int)
      (grd (0 ≤ x1 ∧ x1 < (alen u_0 : Int)) <|
      some (gi s u_0 x1.toNat))
      (Gr_edges_b26  s))
noncomputable def Gr_edges (x1 : Int) (x2 : Int) (s : Sg) : Option (Int) :=
  ifEq x2 0
    (Gr_edges_b15 x1 3 s)
    (Gr_edges_b15 x1 4 s)
noncomputable def Gr_near_b35 (x3 : Int) (t0 : Int) (s : Sg) : Option (Int) :=
  ifEq t0 0
    (grd (0 ≤ x3 ∧ x3 < 486) <|
    some (gi s 2 x3.toNat))
    (some (-1))
noncomputable def Gr_near_b30 (x3 : Int) (s : Sg) : Option (Int) :=
  Gr_near_b35 x3 1 s
noncomputable def Gr_near (x1 : Int) (x2 : Int) (s : Sg) : Option (Int) :=
  lett ((x1 * 6) + x2) fun x3_1 =>
  ifLt x2 0
    (Gr_near_b30 x3_1 s)
    (ifLt x2 6
      (ifLt x3_1 0
        (Gr_near_b30 x3_1 s)
        (ifLt x3_1 486
          (Gr_near_b35 x3_1 0 s)
          (Gr_near_b30 x3_1 s)))
      (Gr_near_b30 x3_1 s))
noncomputable def Li_flood_b146 (r1 : Nat) (x2 : Int) (x3 : Int) (x4 : Int) (x5 : Int) (x6 : Int) (x7 : Int) (s : Sg) : Option (((Int × Int × Sg) ⊕ (Int × Sg))) :=
  some (.inl (x4, (x7 + 1), s))
noncomputable def Li_flood_t70 (r1 : Nat) (x2 : Int) (x3 : Int) (x4 : Int) (x5 : Int) (x6 : Int) (x7 : Int) (s : Sg) : Option (((Int × Int × Sg) ⊕ (Int × Sg))) :=
  ifLt x7 6
    (bnd (Gr_near x6 x7 s) fun y8 =>
    ifEq y8 (-1)
      (Li_flood_b146 r1 x2 x3 x4 x5 x6 x7 s)
      (bnd (Hx_at r1 y8 s) fun y9 =>
      ifEq y9 (gi s 5 5)
        (bnd (Hx_at 6 y8 s) fun y10 =>
        ifEq y10 (-1)
          (bnd (Hx_set 6 y8 x2 s) fun s12 =>
          bnd (Hx_set 9 x4 y8 s12) fun s14 =>
          Li_flood_b146 r1 x2 x3 (x4 + 1) x5 x6 x7 s14)
          (Li_flood_b146 r1 x2 x3 x4 x5 x6 x7 s))
        (Li_flood_b146 r1 x2 x3 x4 x5 x6 x7 s)))
    (some (.inr (x4, s)))
noncomputable def Li_flood_l70 (r1 : Nat) (x2 : Int) (x3 : Int) (x4 : Int) (x5 : Int) (x6 : Int) (x7 : Int) (s : Sg) : Option (((Int × Int × Int × Sg) ⊕ (Int × Int × Sg))) :=
  bnd (whl (fun σ : Int × Int × Sg => Li_flood_t70 r1 x2 x3 σ.1 x5 x6 σ.2.1 σ.2.2) (x4, x7, s)) fun ρ70 =>
    some (.inl (x3, ρ70.1, (x5 + 1), ρ70.2))
noncomputable def Li_flood_t26 (r1 : Nat) (x2 : Int) (x3 : Int) (x4 : Int) (x5 : Int) (s : Sg) : Option (((Int × Int × Int × Sg) ⊕ (Int × Int × Sg))) :=
  ifLt x5 x4
    (ifLt x5 81
      (bnd (Hx_at 9 x5 s) fun y5 =>
      bnd (Gr_edges y5 (gi s 5 5) s) fun y6 =>
      lett (iorI x3 y6) fun x3_7 =>
      Li_flood_l70 r1 x2 x3_7 x4 x5 y5 0 s)
      (some (.inr (x3, x4, s))))
    (some (.inr (x3, x4, s)))
noncomputable def Li_flood_b158 (x2 : Int) (x3 : Int) (x4 : Int) (s : Sg) : Option (Sg) :=
  bnd (Hx_set 7 x2 x3 s) fun s21 =>
  bnd (Hx_set 8 x2 x4 s21) fun s23 =>
  some s23
noncomputable def Li_flood_l26 (r1 : Nat) (x2 : Int) (x3 : Int) (x4 : Int) (x5 : Int) (s : Sg) : Option (Sg) :=
  bnd (whl (fun σ : Int × Int × Int × Sg => Li_flood_t26 r1 x2 σ.1 σ.2.1 σ.2.2.1 σ.2.2.2) (x3, x4, x5, s)) fun ρ26 =>
    Li_flood_b158 x2 ρ26.1 ρ26.2.1 ρ26.2.2
noncomputable def Li_flood (r1 : Nat) (x2 : Int) (s : Sg) : Option (Sg) :=
  bnd (Hx_set 6 x2 x2 s) fun s2 =>
  bnd (Hx_set 9 0 x2 s2) fun s4 =>
  Li_flood_l26 r1 x2 0 1 0 s4
noncomputable def Li_gather_t7 (r1 : Nat) (x3 : Int) (s : Sg) : Option (((Int × Sg) ⊕ (Sg))) :=
  ifLt x3 81
    (bnd (Hx_set 6 x3 (-1) s) fun s3 =>
    some (.inl ((x3 + 1), s3)))
    (some (.inr s))
noncomputable def Li_gather_b71 (r1 : Nat) (x3 : Int) (s : Sg) : Option (((Int × Sg) ⊕ (Sg))) :=
  some (.inl ((x3 + 1), s))
noncomputable def Li_gather_t30 (r1 : Nat) (x3 : Int) (s : Sg) : Option (((Int × Sg) ⊕ (Sg))) :=
  ifLt x3 (gi s 1 4)
    (bnd (Hx_at r1 x3 s) fun y5 =>
    ifEq y5 (gi s 5 5)
      (bnd (Hx_at 6 x3 s) fun y6 =>
      ifEq y6 (-1)
        (bnd (Li_flood r1 x3 s) fun s8 =>
        Li_gather_b71 r1 x3 s8)
        (Li_gather_b71 r1 x3 s))
      (Li_gather_b71 r1 x3 s))
    (some (.inr s))
noncomputable def Li_gather_l30 (r1 : Nat) (x3 : Int) (s : Sg) : Option (Sg) :=
  bnd (whl (fun σ : Int × Sg => Li_gather_t30 r1 σ.1 σ.2) (x3, s)) fun ρ30 =>
    some ρ30
noncomputable def Li_gather_l7 (r1 : Nat) (x3 : Int) (s : Sg) : Option (Sg) :=
  bnd (whl (fun σ : Int × Sg => Li_gather_t7 r1 σ.1 σ.2) (x3, s)) fun ρ7 =>
    Li_gather_l30 r1 0 ρ7
noncomputable def Li_gather (r1 : Nat) (x2 : Int) (s : Sg) : Option (Sg) :=
  lett (si s 5 5 x2) fun s1 =>
  Li_gather_l7 r1 0 s1
noncomputable def Li_top (x1 : Int) (s : Sg) : Option (Int) :=
  bnd (Hx_at 6 x1 s) fun y1 =>
  some y1
noncomputable def Li_joined_b36 (x1 : Int) (s : Sg) : Option (((Int) ⊕ ((Unit) ⊕ (Unit)))) :=
  some (.inl (x1 + 1))
noncomputable def Li_joined_t2 (x1 : Int) (s : Sg) : Option (((Int) ⊕ ((Unit) ⊕ (Unit)))) :=
  ifLt x1 (gi s 1 4)
    (bnd (Li_top x1 s) fun y1 =>
    ifEq y1 x1
      (bnd (Hx_at 7 x1 s) fun y2 =>
      ifEq y2 3
        (some (.inr (.inl ())))
        (Li_joined_b36 x1 s))
      (Li_joined_b36 x1 s))
    (some (.inr (.inr ())))
noncomputable def Li_joined_l2 (x1 : Int) (s : Sg) : Option (Int) :=
  bnd (whl (fun σ : Int => Li_joined_t2 σ s) x1) fun ρ2 => match ρ2 with
  | .inl ρ2 =>
      some 1
  | .inr ρ2 =>
      some 0
noncomputable def Li_joined  (s : Sg) : Option (Int) :=
  Li_joined_l2 0 s
noncomputable def Hx_otherSide (x0 : Int) (s : Sg) : Option (Int) :=
  ifEq x0 0
    (some 1)
    (some 0)
noncomputable def Po_winner_t2 (r0 : Nat) (x2 : Int) (s : Sg) : Option (((Int × Sg) ⊕ ((Int × Sg) ⊕ (Sg)))) :=
  ifLt 1 x2
    (some (.inr (.inr s)))
    (bnd (Li_gather (r0 + 1) x2 s) fun s2 =>
    bnd (Li_joined s2) fun y3 =>
    ifEq y3 0
      (some (.inl ((x2 + 1), s2)))
      (some (.inr (.inl (x2, s2)))))
noncomputable def Po_winner_l2 (r0 : Nat) (x2 : Int) (s : Sg) : Option (Int × Sg) :=
  bnd (whl (fun σ : Int × Sg => Po_winner_t2 r0 σ.1 σ.2) (x2, s)) fun ρ2 => match ρ2 with
  | .inl ρ2 =>
      some (ρ2.1, ρ2.2)
  | .inr ρ2 =>
      ifEq (gi ρ2 r0 6) (-1)
        (some ((-1), ρ2))
        (bnd (Hx_otherSide (gi ρ2 r0 6) ρ2) fun y7 =>
        some (y7, ρ2))
noncomputable def Po_winner (r0 : Nat) (s : Sg) : Option (Int × Sg) :=
  Po_winner_l2 r0 0 s
noncomputable def Re_readColumn_b21  (s : Sg) : Option (Int × Sg) :=
  bnd (Re_fail 1 (gi s 52 5) s) fun s2 =>
  some ((-1), s2)
noncomputable def Re_readColumn (x1 : Int) (s : Sg) : Option (Int × Sg) :=
  ifEq (gi s 52 4) 1
    (ifEq ((gi s 52 6) - (gi s 52 5)) 1
      (bnd (By_get 48 (gi s 52 5) s) fun y3 =>
      lett (y3 - 97) fun x2_4 =>
      ifLt x2_4 (gi s 53 2)
        (ifEq x1 0
          (bnd (Re_advance s) fun s6 =>
          some (x2_4, s6))
          (bnd (Re_fail 4 (gi s 52 5) s) fun s8 =>
          some ((-1), s8)))
        (bnd (Re_fail 2 (gi s 52 5) s) fun s10 =>
        some ((-1), s10)))
      (Re_readColumn_b21  s))
    (Re_readColumn_b21  s)
noncomputable def Re_readRow_b41  (s : Sg) : Option (Int × Sg) :=
  bnd (Re_fail 2 (gi s 52 5) s) fun s2 =>
  some ((-1), s2)
noncomputable def Re_readRow  (s : Sg) : Option (Int × Sg) :=
  ifEq (gi s 52 4) 2
    (ifLt (gi s 52 7) 1
      (Re_readRow_b41  s)
      (ifLt (gi s 53 2) (gi s 52 7)
        (Re_readRow_b41  s)
        (lett ((gi s 52 7) - 1) fun x1_3 =>
        bnd (Re_advance s) fun s5 =>
        some (x1_3, s5))))
    (bnd (Re_fail 1 (gi s 52 5) s) fun s7 =>
    some ((-1), s7))
noncomputable def Po_stone (r0 : Nat) (x1 : Int) (s : Sg) : Option (Int) :=
  bnd (Hx_at (r0 + 1) x1 s) fun y1 =>
  some y1
noncomputable def Po_play (r0 : Nat) (x1 : Int) (s : Sg) : Option (Sg) :=
  bnd (Hx_set (r0 + 1) x1 (gi s r0 5) s) fun s2 =>
  bnd (Hx_set (r0 + 2) (gi s2 r0 4) x1 s2) fun s4 =>
  lett (si s4 r0 4 ((gi s4 r0 4) + 1)) fun s5 =>
  bnd (Hx_otherSide (gi s5 r0 5) s5) fun y6 =>
  lett (si s5 r0 5 y6) fun s7 =>
  some s7
noncomputable def Po_place (r0 : Nat) (x1 : Int) (x2 : Int) (s : Sg) : Option (Sg) :=
  bnd (Hx_set (r0 + 1) x1 x2 s) fun s2 =>
  some s2
noncomputable def Re_readCell_b54 (x1 : Int) (x2 : Int) (x3 : Int) (x5 : Int) (t0 : Int) (s : Sg) : Option (Sg) :=
  ifEq (gi s 52 8) 0
    (bnd (Gr_cellAt t0 x5 s) fun y4 =>
    bnd (Po_stone 53 y4 s) fun y5 =>
    ifEq y5 (-1)
      (ifEq x1 0
        (bnd (Po_place 53 y4 x2 s) fun s7 =>
        some s7)
        (bnd (Po_play 53 y4 s) fun s9 =>
        some s9))
      (bnd (Re_fail 3 x3 s) fun s11 =>
      some s11))
    (some s)
noncomputable def Re_readCell_b29 (x1 : Int) (x2 : Int) (x3 : Int) (t0 : Int) (s : Sg) : Option (Sg) :=
  bnd2 (Re_readColumn t0 s) fun y2 s3 =>
  ifEq (gi s3 52 8) 0
    (bnd2 (Re_readRow s3) fun y12 s13 =>
    Re_readCell_b54 x1 x2 x3 y2 y12 s13)
    (Re_readCell_b54 x1 x2 x3 y2 (-1) s3)
noncomputable def Re_readCell_b28 (x1 : Int) (x2 : Int) (x3 : Int) (s : Sg) : Option (Sg) :=
  Re_readCell_b29 x1 x2 x3 0 s
noncomputable def Re_readCell (x1 : Int) (x2 : Int) (s : Sg) : Option (Sg) :=
  lett (gi s 52 5) fun x3_1 =>
  ifEq x1 0
    (Re_readCell_b28 x1 x2 x3_1 s)
    (bnd2 (Po_winner 53 s) fun y14 s15 =>
    ifEq y14 (-1)
      (Re_readCell_b28 x1 x2 x3_1 s15)
      (Re_readCell_b29 x1 x2 x3_1 1 s15))
noncomputable def Re_readStatement_b85 (x1 : Int) (x3 : Int) (x4 : Int) (s : Sg) : Option (((Int × Sg) ⊕ (Sg))) :=
  bnd (Re_readCell x1 x3 s) fun s7 =>
  some (.inl ((x4 + 1), s7))
noncomputable def Re_readStatement_t58 (x1 : Int) (x3 : Int) (x4 : Int) (s : Sg) : Option (((Int × Sg) ⊕ (Sg))) :=
  ifLt 81 x4
    (some (.inr s))
    (ifEq (gi s 52 8) 0
      (ifEq x4 0
        (Re_readStatement_b85 x1 x3 x4 s)
        (ifEq (gi s 52 4) 1
          (Re_readStatement_b85 x1 x3 x4 s)
          (some (.inr s))))
      (some (.inr s)))
noncomputable def Re_readStatement_l58 (x1 : Int) (x3 : Int) (x4 : Int) (s : Sg) : Option (Sg) :=
  bnd (whl (fun σ : Int × Sg => Re_readStatement_t58 x1 x3 σ.1 σ.2) (x4, s)) fun ρ58 =>
    some ρ58
noncomputable def Re_readStatement_b42 (x1 : Int) (x2 : Int) (x3 : Int) (s : Sg) : Option (Sg) :=
  bnd (Re_advance s) fun s5 =>
  ifEq x2 0
    (Re_readStatement_l58 x1 x3 0 s5)
    (bnd (Re_readTurn s5) fun s10 =>
    some s10)
noncomputable def Re_readStatement  (s : Sg) : Option (Sg) :=
  bnd (Re_isWord 2 s) fun y1 =>
  bnd (Re_isWord 3 s) fun y2 =>
  bnd (Re_sideWord s) fun y3 =>
  ifEq y1 0
    (ifEq y2 0
      (ifEq y3 (-1)
        (bnd (Re_fail 1 (gi s 52 5) s) fun s12 =>
        some s12)
        (Re_readStatement_b42 y1 y2 y3 s))
      (Re_readStatement_b42 y1 y2 y3 s))
    (Re_readStatement_b42 y1 y2 y3 s)
noncomputable def Re_read_t25 (x1 : Int) (s : Sg) : Option (((Int × Sg) ⊕ (Sg))) :=
  ifLt x1 400
    (ifEq (gi s 52 8) 0
      (ifEq (gi s 52 4) 3
        (lett (si s 52 10 ((gi s 52 10) + 1)) fun s8 =>
        bnd (Re_advance s8) fun s10 =>
        bnd (Re_readStatement s10) fun s12 =>
        some (.inl ((x1 + 1), s12)))
        (some (.inr s)))
      (some (.inr s)))
    (some (.inr s))
noncomputable def Re_read_b94  (s : Sg) : Option (Int × Sg) :=
  ifEq (gi s 52 8) 0
    (some (1, s))
    (some (0, s))
noncomputable def Re_read_b71  (s : Sg) : Option (Int × Sg) :=
  ifEq (gi s 52 8) 0
    (ifEq (gi s 52 4) 0
      (Re_read_b94  s)
      (bnd (Re_fail 1 (gi s 52 5) s) fun s15 =>
      Re_read_b94  s15))
    (Re_read_b94  s)
noncomputable def Re_read_l25 (x1 : Int) (s : Sg) : Option (Int × Sg) :=
  bnd (whl (fun σ : Int × Sg => Re_read_t25 σ.1 σ.2) (x1, s)) fun ρ25 =>
    Re_read_b71  ρ25
noncomputable def Re_read  (s : Sg) : Option (Int × Sg) :=
  lett (si s 52 8 0) fun s1 =>
  lett (si s1 52 10 0) fun s2 =>
  lett (si s2 52 6 0) fun s3 =>
  bnd (Re_advance s3) fun s5 =>
  bnd (Re_readBoard s5) fun s7 =>
  Re_read_l25 0 s7
noncomputable def By_clear (r0 : Nat) (s : Sg) : Option (Sg) :=
  lett (si s r0 1 0) fun s1 =>
  some s1
noncomputable def Po_copy (r0 : Nat) (r1 : Nat) (s : Sg) : Option (Sg) :=
  lett (si s r0 2 (gi s r1 2)) fun s1 =>
  grd (b01 (gi s1 r1 3)) <|
  lett (si s1 r0 3 (gi s1 r1 3)) fun s3 =>
  lett (si s3 r0 4 (gi s3 r1 4)) fun s4 =>
  lett (si s4 r0 5 (gi s4 r1 5)) fun s5 =>
  lett (si s5 r0 6 (gi s5 r1 6)) fun s6 =>
  lett (cpy s6 (r1 + 1) (r0 + 1) 81) fun s7 =>
  lett (cpy s7 (r1 + 2) (r0 + 2) 200) fun s8 =>
  some s8
noncomputable def Hi_clear  (s : Sg) : Option (Sg) :=
  lett (si s 16 2 0) fun s1 =>
  some s1
noncomputable def Hx_load  (s : Sg) : Option (Int × Sg) :=
  bnd2 (Re_read s) fun y1 s2 =>
  bnd (By_clear 48 s2) fun s4 =>
  ifEq y1 0
    (bnd (Gr_fit (gi s4 10 2) s4) fun s12 =>
    some (((-100) - (gi s12 52 9)), s12))
    (bnd (Po_copy 10 53 s4) fun s6 =>
    bnd (Gr_fit (gi s6 10 2) s6) fun s8 =>
    bnd (Hi_clear s8) fun s10 =>
    some ((gi s10 10 2), s10))
noncomputable def Po_count_b29 (r0 : Nat) (x1 : Int) (x2 : Int) (x3 : Int) (s : Sg) : Option (((Int × Int) ⊕ (Int))) :=
  some (.inl (x2, (x3 + 1)))
noncomputable def Po_count_t4 (r0 : Nat) (x1 : Int) (x2 : Int) (x3 : Int) (s : Sg) : Option (((Int × Int) ⊕ (Int))) :=
  ifLt x3 ((gi s r0 2) * (gi s r0 2))
    (bnd (Po_stone r0 x3 s) fun y1 =>
    ifEq y1 x1
      (Po_count_b29 r0 x1 (x2 + 1) x3 s)
      (Po_count_b29 r0 x1 x2 x3 s))
    (some (.inr x2))
noncomputable def Po_count_l4 (r0 : Nat) (x1 : Int) (x2 : Int) (x3 : Int) (s : Sg) : Option (Int) :=
  bnd (whl (fun σ : Int × Int => Po_count_t4 r0 x1 σ.1 σ.2 s) (x2, x3)) fun ρ4 =>
    some ρ4
noncomputable def Po_count (r0 : Nat) (x1 : Int) (s : Sg) : Option (Int) :=
  Po_count_l4 r0 x1 0 0 s
noncomputable def Hx_winner  (s : Sg) : Option (Int × Sg) :=
  bnd2 (Po_winner 10 s) fun y1 s2 =>
  some (y1, s2)
noncomputable def Po_moved_b12  (s : Sg) : Option (Int) :=
  some (-1)
noncomputable def Po_moved (r0 : Nat) (x1 : Int) (s : Sg) : Option (Int) :=
  ifLt x1 0
    (Po_moved_b12  s)
    (ifLt x1 (gi s r0 4)
      (bnd (Hx_at (r0 + 2) x1 s) fun y1 =>
      some y1)
      (Po_moved_b12  s))
noncomputable def Hx_canSwap_b25 (t0 : Int) (s : Sg) : Option (Int × Sg) :=
  ifEq (gi s 10 3) 0
    (some (0, s))
    (ifEq (gi s 10 4) 1
      (ifEq t0 0
        (some (0, s))
        (bnd (Po_moved 10 0 s) fun y2 =>
        bnd (Po_stone 10 y2 s) fun y3 =>
        bnd (Hx_otherSide (gi s 10 5) s) fun y4 =>
        ifEq y3 y4
          (bnd2 (Hx_winner s) fun y5 s6 =>
          ifEq y5 (-1)
            (some (1, s6))
            (some (0, s6)))
          (some (0, s))))
      (some (0, s)))
noncomputable def Hx_canSwap  (s : Sg) : Option (Int × Sg) :=
  bnd (Po_count 10 (-1) s) fun y1 =>
  ifEq ((gi s 1 4) - y1) 1
    (Hx_canSwap_b25 1 s)
    (Hx_canSwap_b25 0 s)
noncomputable def Hx_size (x1 : Int) (s : Sg) : Option ((Nat ⊕ Int) × Sg) :=
  ifEq x1 0
    (some (.inr (gi s 10 2), s))
    (ifEq x1 1
      (bnd (Po_count 10 0 s) fun y3 =>
      some (.inr y3, s))
      (ifEq x1 2
        (bnd (Po_count 10 1 s) fun y6 =>
        some (.inr y6, s))
        (ifEq x1 3
          (bnd (Po_count 10 (-1) s) fun y9 =>
          some (.inr y9, s))
          (ifEq x1 4
            (some (.inr (gi s 10 4), s))
            (ifEq x1 5
              (some (.inr (gi s 10 5), s))
              (ifEq x1 6
                (bnd2 (Hx_winner s) fun y16 s17 =>
                some (.inr y16, s17))
                (ifEq x1 7
                  (bnd2 (Hx_canSwap s) fun y20 s21 =>
                  ifEq y20 0
                    (some (.inr 0, s21))
                    (some (.inr 1, s21)))
                  (ifEq x1 8
                    (some (.inr (gi s 10 6), s))
                    (ifEq x1 9
                      (some (.inr (gi s 16 2), s))
                      (none))))))))))
noncomputable def Hx_requireCell_b15  (s : Sg) : Option ((Nat ⊕ Int) × Sg) :=
  none
noncomputable def Hx_requireCell (x1 : Int) (s : Sg) : Option ((Nat ⊕ Int) × Sg) :=
  ifLt x1 0
    (Hx_requireCell_b15  s)
    (ifLt x1 (gi s 1 4)
      (some (.inr 0, s))
      (Hx_requireCell_b15  s))
noncomputable def Hx_cell (x1 : Int) (s : Sg) : Option ((Nat ⊕ Int) × Sg) :=
  bndx (Hx_requireCell x1 s) fun y1 s2 =>
  bnd (Po_stone 10 x1 s2) fun y3 =>
  some (.inr y3, s2)
noncomputable def Hx_neighbour (x1 : Int) (x2 : Int) (s : Sg) : Option ((Nat ⊕ Int) × Sg) :=
  bndx (Hx_requireCell x1 s) fun y1 s2 =>
  bnd (Gr_near x1 x2 s2) fun y3 =>
  some (.inr y3, s2)
noncomputable def Hx_requireRange_b10  (s : Sg) : Option ((Nat ⊕ Int) × Sg) :=
  none
noncomputable def Hx_requireRange (x0 : Int) (x1 : Int) (x2 : Int) (s : Sg) : Option ((Nat ⊕ Int) × Sg) :=
  ifLt x0 x1
    (Hx_requireRange_b10  s)
    (ifLt x2 x0
      (Hx_requireRange_b10  s)
      (some (.inr 0, s)))
noncomputable def Li_isBeside_b32 (x1 : Int) (x2 : Int) (x3 : Int) (s : Sg) : Option (((Int) ⊕ ((Unit) ⊕ (Unit)))) :=
  some (.inl (x3 + 1))
noncomputable def Li_isBeside_t2 (x1 : Int) (x2 : Int) (x3 : Int) (s : Sg) : Option (((Int) ⊕ ((Unit) ⊕ (Unit)))) :=
  ifLt x3 6
    (ifEq x2 (-1)
      (Li_isBeside_b32 x1 x2 x3 s)
      (bnd (Gr_near x1 x3 s) fun y1 =>
      bnd (Li_top y1 s) fun y2 =>
      ifEq y2 x2
        (some (.inr (.inl ())))
        (Li_isBeside_b32 x1 x2 x3 s)))
    (some (.inr (.inr ())))
noncomputable def Li_isBeside_l2 (x1 : Int) (x2 : Int) (x3 : Int) (s : Sg) : Option (Int) :=
  bnd (whl (fun σ : Int => Li_isBeside_t2 x1 x2 σ s) x3) fun ρ2 => match ρ2 with
  | .inl ρ2 =>
      some 1
  | .inr ρ2 =>
      some 0
noncomputable def Li_isBeside (x1 : Int) (x2 : Int) (s : Sg) : Option (Int) :=
  Li_isBeside_l2 x1 x2 0 s
noncomputable def Hx_liberties_b42 (x1 : Int) (x2 : Int) (x3 : Int) (s : Sg) : Option (((Int × Int) ⊕ (Int))) :=
  some (.inl (x2, (x3 + 1)))
noncomputable def Hx_liberties_t4 (x1 : Int) (x2 : Int) (x3 : Int) (s : Sg) : Option (((Int × Int) ⊕ (Int))) :=
  ifLt x3 (gi s 1 4)
    (bnd (Po_stone 10 x3 s) fun y1 =>
    ifEq y1 (-1)
      (bnd (Li_isBeside x3 x1 s) fun y2 =>
      ifEq y2 0
        (Hx_liberties_b42 x1 x2 x3 s)
        (Hx_liberties_b42 x1 (x2 + 1) x3 s))
      (Hx_liberties_b42 x1 x2 x3 s))
    (some (.inr x2))
noncomputable def Hx_liberties_l4 (x1 : Int) (x2 : Int) (x3 : Int) (s : Sg) : Option (Int) :=
  bnd (whl (fun σ : Int × Int => Hx_liberties_t4 x1 σ.1 σ.2 s) (x2, x3)) fun ρ4 =>
    some ρ4
noncomputable def Hx_liberties (x1 : Int) (s : Sg) : Option (Int) :=
  Hx_liberties_l4 x1 0 0 s
noncomputable def Li_number_b30 (x3 : Int) (u_0 : Nat) (s : Sg) : Option (Int) :=
  bnd (Hx_at u_0 x3 s) fun y2 =>
  some y2
noncomputable def Li_number (x1 : Int) (x2 : Int) (s : Sg) : Option (Int) :=
  bnd (Li_top x1 s) fun y1 =>
  ifEq x2 0
    (some y1)
    (ifEq x2 1
      (Li_number_b30 y1 8 s)
      (Li_number_b30 y1 7 s))
noncomputable def Hx_group (x1 : Int) (x2 : Int) (s : Sg) : Option ((Nat ⊕ Int) × Sg) :=
  bndx (Hx_requireCell x1 s) fun y1 s2 =>
  bndx (Hx_requireRange x2 0 3 s2) fun y3 s4 =>
  bnd (Po_stone 10 x1 s4) fun y5 =>
  ifEq y5 (-1)
    (some (.inr (-1), s4))
    (bnd (Li_gather 11 y5 s4) fun s7 =>
    ifEq x2 2
      (bnd (Li_top x1 s7) fun y9 =>
      bnd (Hx_liberties y9 s7) fun y10 =>
      some (.inr y10, s7))
      (bnd (Li_number x1 x2 s7) fun y8 =>
      some (.inr y8, s7)))
noncomputable def Hx_requireSide (x0 : Int) (s : Sg) : Option ((Nat ⊕ Int) × Sg) :=
  ifEq x0 0
    (some (.inr 0, s))
    (ifEq x0 1
      (some (.inr 0, s))
      (none))
noncomputable def Li_parts_b27 (x1 : Int) (x2 : Int) (s : Sg) : Option (((Int × Int) ⊕ (Int))) :=
  some (.inl (x1, (x2 + 1)))
noncomputable def Li_parts_t4 (x1 : Int) (x2 : Int) (s : Sg) : Option (((Int × Int) ⊕ (Int))) :=
  ifLt x2 (gi s 1 4)
    (bnd (Li_top x2 s) fun y1 =>
    ifEq y1 x2
      (Li_parts_b27 (x1 + 1) x2 s)
      (Li_parts_b27 x1 x2 s))
    (some (.inr x1))
noncomputable def Li_parts_l4 (x1 : Int) (x2 : Int) (s : Sg) : Option (Int) :=
  bnd (whl (fun σ : Int × Int => Li_parts_t4 σ.1 σ.2 s) (x1, x2)) fun ρ4 =>
    some ρ4
noncomputable def Li_parts  (s : Sg) : Option (Int) :=
  Li_parts_l4 0 0 s
noncomputable def Hx_groups (x1 : Int) (s : Sg) : Option ((Nat ⊕ Int) × Sg) :=
  bndx (Hx_requireSide x1 s) fun y1 s2 =>
  bnd (Li_gather 11 x1 s2) fun s4 =>
  bnd (Li_parts s4) fun y5 =>
  some (.inr y5, s4)
noncomputable def Li_largestPart_b49 (x1 : Int) (x2 : Int) (x3 : Int) (s : Sg) : Option (((Int × Int × Int) ⊕ (Int))) :=
  some (.inl (x1, x2, (x3 + 1)))
noncomputable def Li_largestPart_t6 (x1 : Int) (x2 : Int) (x3 : Int) (s : Sg) : Option (((Int × Int × Int) ⊕ (Int))) :=
  ifLt x3 (gi s 1 4)
    (bnd (Li_top x3 s) fun y1 =>
    ifEq y1 x3
      (bnd (Hx_at 8 x3 s) fun y2 =>
      ifLt x2 y2
        (bnd (Hx_at 8 x3 s) fun y3 =>
        Li_largestPart_b49 x3 y3 x3 s)
        (Li_largestPart_b49 x1 x2 x3 s))
      (Li_largestPart_b49 x1 x2 x3 s))
    (some (.inr x1))
noncomputable def Li_largestPart_l6 (x1 : Int) (x2 : Int) (x3 : Int) (s : Sg) : Option (Int) :=
  bnd (whl (fun σ : Int × Int × Int => Li_largestPart_t6 σ.1 σ.2.1 σ.2.2 s) (x1, x2, x3)) fun ρ6 =>
    some ρ6
noncomputable def Li_largestPart  (s : Sg) : Option (Int) :=
  Li_largestPart_l6 (-1) 0 0 s
noncomputable def Hx_largest (x1 : Int) (s : Sg) : Option ((Nat ⊕ Int) × Sg) :=
  bndx (Hx_requireSide x1 s) fun y1 s2 =>
  bnd (Li_gather 11 x1 s2) fun s4 =>
  bnd (Li_largestPart s4) fun y5 =>
  some (.inr y5, s4)
noncomputable def Bl_addIfFree_b154 (x4 : Int) (x5 : Int) (x7 : Int) (t1 : Int) (t2 : Int) (s : Sg) : Option (Sg) :=
  bnd (Hx_set 61 t1 t2 s) fun s11 =>
  lett (si s11 56 7 ((gi s11 56 7) + 1)) fun s12 =>
  ifEq x7 0
    (some s12)
    (bnd (Hx_set 62 x4 1 s12) fun s14 =>
    bnd (Hx_set 62 x5 1 s14) fun s16 =>
    some s16)
noncomputable def Bl_addIfFree_b84 (x2 : Int) (x3 : Int) (x4 : Int) (x5 : Int) (t0 : Int) (s : Sg) : Option (Sg) :=
  bnd (Hx_set 57 (gi s 56 7) x2 s) fun s3 =>
  bnd (Hx_set 58 (gi s3 56 7) x3 s3) fun s5 =>
  bnd (Hx_set 59 (gi s5 56 7) x4 s5) fun s7 =>
  bnd (Hx_set 60 (gi s7 56 7) x5 s7) fun s9 =>
  ifEq t0 0
    (Bl_addIfFree_b154 x4 x5 t0 (gi s9 56 7) 0 s9)
    (Bl_addIfFree_b154 x4 x5 t0 (gi s9 56 7) 1 s9)
noncomputable def Bl_addIfFree_b83 (x2 : Int) (x3 : Int) (x4 : Int) (x5 : Int) (s : Sg) : Option (Sg) :=
  Bl_addIfFree_b84 x2 x3 x4 x5 0 s
noncomputable def Bl_addIfFree_b37 (x2 : Int) (x3 : Int) (x4 : Int) (x5 : Int) (t0 : Int) (s : Sg) : Option (Sg) :=
  ifEq t0 0
    (some s)
    (ifLt (gi s 56 7) 405
      (bnd (Hx_at 62 x4 s) fun y1 =>
      ifEq y1 0
        (bnd (Hx_at 62 x5 s) fun y17 =>
        ifEq y17 0
          (Bl_addIfFree_b84 x2 x3 x4 x5 1 s)
          (Bl_addIfFree_b83 x2 x3 x4 x5 s))
        (Bl_addIfFree_b83 x2 x3 x4 x5 s))
      (some s))
noncomputable def Bl_addIfFree_b36 (x2 : Int) (x3 : Int) (x4 : Int) (x5 : Int) (s : Sg) : Option (Sg) :=
  Bl_addIfFree_b37 x2 x3 x4 x5 0 s
noncomputable def Bl_addIfFree (r1 : Nat) (x2 : Int) (x3 : Int) (x4 : Int) (x5 : Int) (s : Sg) : Option (Sg) :=
  ifEq x4 (-1)
    (Bl_addIfFree_b36 x2 x3 x4 x5 s)
    (ifEq x5 (-1)
      (Bl_addIfFree_b36 x2 x3 x4 x5 s)
      (bnd (Hx_at r1 x4 s) fun y18 =>
      ifEq y18 (-1)
        (bnd (Hx_at r1 x5 s) fun y19 =>
        ifEq y19 (-1)
          (Bl_addIfFree_b37 x2 x3 x4 x5 1 s)
          (Bl_addIfFree_b36 x2 x3 x4 x5 s))
        (Bl_addIfFree_b36 x2 x3 x4 x5 s)))
noncomputable def Bl_addToCell (r1 : Nat) (x2 : Int) (x3 : Int) (s : Sg) : Option (Sg) :=
  bnd (Gr_row x2 s) fun y1 =>
  bnd (Gr_column x2 s) fun y2 =>
  bnd (Hx_at 1002 x3 s) fun y3 =>
  bnd (Hx_at 1003 x3 s) fun y4 =>
  bnd (Gr_cellAt (y1 + y3) (y2 + y4) s) fun y5 =>
  ifEq y5 (-1)
    (some s)
    (bnd (Hx_at r1 y5 s) fun y6 =>
    bnd (Hx_at r1 x2 s) fun y7 =>
    ifEq y6 y7
      (bnd (Hx_at 1004 x3 s) fun y8 =>
      bnd (Hx_at 1005 x3 s) fun y9 =>
      bnd (Gr_cellAt (y1 + y8) (y2 + y9) s) fun y10 =>
      bnd (Hx_at 1006 x3 s) fun y11 =>
      bnd (Hx_at 1007 x3 s) fun y12 =>
      bnd (Gr_cellAt (y1 + y11) (y2 + y12) s) fun y13 =>
      bnd (Bl_addIfFree r1 x2 y5 y10 y13 s) fun s15 =>
      some s15)
      (some s))
noncomputable def Bl_addToEdge_b99 (r1 : Nat) (x2 : Int) (x3 : Int) (x4 : Int) (x5 : Int) (x6 : Int) (x7 : Int) (x8 : Int) (s : Sg) : Option (((Int × Int × Int) ⊕ (Int × Int))) :=
  some (.inl (x6, x7, (x8 + 1)))
noncomputable def Bl_addToEdge_b93 (r1 : Nat) (x2 : Int) (x3 : Int) (x4 : Int) (x5 : Int) (x8 : Int) (x9 : Int) (t0 : Int) (s : Sg) : Option (((Int × Int × Int) ⊕ (Int × Int))) :=
  Bl_addToEdge_b99 r1 x2 x3 x4 x5 t0 x9 x8 s
noncomputable def Bl_addToEdge_t38 (r1 : Nat) (x2 : Int) (x3 : Int) (x4 : Int) (x5 : Int) (x6 : Int) (x7 : Int) (x8 : Int) (s : Sg) : Option (((Int × Int × Int) ⊕ (Int × Int))) :=
  ifLt x8 6
    (bnd (Gr_near x2 x8 s) fun y4 =>
    ifEq y4 (-1)
      (Bl_addToEdge_b99 r1 x2 x3 x4 x5 x6 x7 x8 s)
      (bnd (Gr_edges y4 x4 s) fun y5 =>
      ifEq (iandI y5 x5) 0
        (Bl_addToEdge_b99 r1 x2 x3 x4 x5 x6 x7 x8 s)
        (ifEq x6 (-1)
          (Bl_addToEdge_b93 r1 x2 x3 x4 x5 x8 y4 y4 s)
          (Bl_addToEdge_b93 r1 x2 x3 x4 x5 x8 y4 x6 s))))
    (some (.inr (x6, x7)))
noncomputable def Bl_addToEdge_l38 (r1 : Nat) (x2 : Int) (x3 : Int) (x4 : Int) (x5 : Int) (x6 : Int) (x7 : Int) (x8 : Int) (s : Sg) : Option (Sg) :=
  bnd (whl (fun σ : Int × Int × Int => Bl_addToEdge_t38 r1 x2 x3 x4 x5 σ.1 σ.2.1 σ.2.2 s) (x6, x7, x8)) fun ρ38 =>
    ifEq ρ38.1 ρ38.2
      (some s)
      (bnd (Bl_addIfFree r1 x2 ((-10) - x3) ρ38.1 ρ38.2 s) fun s9 =>
      some s9)
noncomputable def Bl_addToEdge (r1 : Nat) (x2 : Int) (x3 : Int) (s : Sg) : Option (Sg) :=
  bnd (Hx_at r1 x2 s) fun y1 =>
  lett (ishlI 1 x3) fun x5_2 =>
  bnd (Gr_edges x2 y1 s) fun y3 =>
  ifEq (iandI y3 x5_2) 0
    (Bl_addToEdge_l38 r1 x2 x3 y1 x5_2 (-1) (-1) 0 s)
    (some s)
noncomputable def Bl_find_t7 (r1 : Nat) (x2 : Int) (x3 : Int) (s : Sg) : Option (((Int × Sg) ⊕ (Sg))) :=
  ifLt x3 81
    (bnd (Hx_set 62 x3 0 s) fun s3 =>
    some (.inl ((x3 + 1), s3)))
    (some (.inr s))
noncomputable def Bl_find_b90 (r1 : Nat) (x2 : Int) (x3 : Int) (s : Sg) : Option (((Int × Sg) ⊕ (Sg))) :=
  some (.inl ((x3 + 1), s))
noncomputable def Bl_find_t53 (r1 : Nat) (x2 : Int) (x3 : Int) (x4 : Int) (s : Sg) : Option (((Int × Sg) ⊕ (Sg))) :=
  ifLt x4 3
    (bnd (Bl_addToCell r1 x3 x4 s) fun s7 =>
    some (.inl ((x4 + 1), s7)))
    (some (.inr s))
noncomputable def Bl_find_l53 (r1 : Nat) (x2 : Int) (x3 : Int) (x4 : Int) (s : Sg) : Option (((Int × Sg) ⊕ (Sg))) :=
  bnd (whl (fun σ : Int × Sg => Bl_find_t53 r1 x2 x3 σ.1 σ.2) (x4, s)) fun ρ53 =>
    bnd (Bl_addToEdge r1 x3 0 ρ53) fun s10 =>
    bnd (Bl_addToEdge r1 x3 1 s10) fun s12 =>
    Bl_find_b90 r1 x2 x3 s12
noncomputable def Bl_find_t30 (r1 : Nat) (x2 : Int) (x3 : Int) (s : Sg) : Option (((Int × Sg) ⊕ (Sg))) :=
  ifLt x3 (gi s 1 4)
    (bnd (Hx_at r1 x3 s) fun y5 =>
    ifEq y5 x2
      (Bl_find_l53 r1 x2 x3 0 s)
      (Bl_find_b90 r1 x2 x3 s))
    (some (.inr s))
noncomputable def Bl_find_l30 (r1 : Nat) (x2 : Int) (x3 : Int) (s : Sg) : Option (Sg) :=
  bnd (whl (fun σ : Int × Sg => Bl_find_t30 r1 x2 σ.1 σ.2) (x3, s)) fun ρ30 =>
    some ρ30
noncomputable def Bl_find_l7 (r1 : Nat) (x2 : Int) (x3 : Int) (s : Sg) : Option (Sg) :=
  bnd (whl (fun σ : Int × Sg => Bl_find_t7 r1 x2 σ.1 σ.2) (x3, s)) fun ρ7 =>
    Bl_find_l30 r1 x2 0 ρ7
noncomputable def Bl_find (r1 : Nat) (x2 : Int) (s : Sg) : Option (Sg) :=
  lett (si s 56 7 0) fun s1 =>
  Bl_find_l7 r1 x2 0 s1
noncomputable def Bl_has_b36 (x1 : Int) (x2 : Int) (x3 : Int) (s : Sg) : Option (((Int) ⊕ ((Unit) ⊕ (Unit)))) :=
  some (.inl (x3 + 1))
noncomputable def Bl_has_t2 (x1 : Int) (x2 : Int) (x3 : Int) (s : Sg) : Option (((Int) ⊕ ((Unit) ⊕ (Unit)))) :=
  ifLt x3 (gi s 56 7)
    (bnd (Hx_at 57 x3 s) fun y1 =>
    ifEq y1 x1
      (bnd (Hx_at 58 x3 s) fun y2 =>
      ifEq y2 x2
        (some (.inr (.inl ())))
        (Bl_has_b36 x1 x2 x3 s))
      (Bl_has_b36 x1 x2 x3 s))
    (some (.inr (.inr ())))
noncomputable def Bl_has_l2 (x1 : Int) (x2 : Int) (x3 : Int) (s : Sg) : Option (Int) :=
  bnd (whl (fun σ : Int => Bl_has_t2 x1 x2 σ s) x3) fun ρ2 => match ρ2 with
  | .inl ρ2 =>
      some 1
  | .inr ρ2 =>
      some 0
noncomputable def Bl_has (x1 : Int) (x2 : Int) (s : Sg) : Option (Int) :=
  Bl_has_l2 x1 x2 0 s
noncomputable def Hx_isBridge (x1 : Int) (x2 : Int) (s : Sg) : Option ((Nat ⊕ Int) × Sg) :=
  bndx (Hx_requireCell x1 s) fun y1 s2 =>
  bndx (Hx_requireCell x2 s2) fun y3 s4 =>
  bnd (Po_stone 10 x1 s4) fun y5 =>
  ifEq y5 (-1)
    (some (.inr 0, s4))
    (bnd (Bl_find 11 y5 s4) fun s7 =>
    grd (R x1 ∧ R x2) <|
    grd (R x1 ∧ R x2) <|
    bnd (Bl_has (min x1 x2) (max x1 x2) s7) fun y10 =>
    grd (b01 y10) <|
    some (.inr y10, s7))
noncomputable def Bl_counting_t4 (x1 : Int) (x2 : Int) (s : Sg) : Option (((Int × Int) ⊕ (Int))) :=
  ifLt x2 (gi s 56 7)
    (bnd (Hx_at 61 x2 s) fun y1 =>
    lett (x1 + y1) fun x1_2 =>
    some (.inl (x1_2, (x2 + 1))))
    (some (.inr x1))
noncomputable def Bl_counting_l4 (x1 : Int) (x2 : Int) (s : Sg) : Option (Int) :=
  bnd (whl (fun σ : Int × Int => Bl_counting_t4 σ.1 σ.2 s) (x1, x2)) fun ρ4 =>
    some ρ4
noncomputable def Bl_counting  (s : Sg) : Option (Int) :=
  Bl_counting_l4 0 0 s
noncomputable def Hx_bridges (x1 : Int) (x2 : Int) (s : Sg) : Option ((Nat ⊕ Int) × Sg) :=
  bndx (Hx_requireSide x1 s) fun y1 s2 =>
  bnd (Bl_find 11 x1 s2) fun s4 =>
  ifEq x2 0
    (some (.inr (gi s4 56 7), s4))
    (bnd (Bl_counting s4) fun y5 =>
    some (.inr y5, s4))
noncomputable def Bl_number (x1 : Int) (x2 : Int) (s : Sg) : Option (Int) :=
  ifLt x1 0
    (some (-1))
    (ifLt x1 (gi s 56 7)
      (ifEq x2 0
        (bnd (Hx_at 57 x1 s) fun y1 =>
        some y1)
        (ifEq x2 1
          (bnd (Hx_at 58 x1 s) fun y4 =>
          some y4)
          (ifEq x2 2
            (bnd (Hx_at 59 x1 s) fun y7 =>
            some y7)
            (ifEq x2 3
              (bnd (Hx_at 60 x1 s) fun y10 =>
              some y10)
              (bnd (Hx_at 61 x1 s) fun y13 =>
              some y13)))))
      (some (-1)))
noncomputable def Hx_bridge (x1 : Int) (x2 : Int) (x3 : Int) (s : Sg) : Option ((Nat ⊕ Int) × Sg) :=
  bndx (Hx_requireSide x1 s) fun y1 s2 =>
  bndx (Hx_requireRange x3 0 4 s2) fun y3 s4 =>
  bnd (Bl_find 11 x1 s4) fun s6 =>
  bnd (Bl_number x2 x3 s6) fun y7 =>
  some (.inr y7, s6)
noncomputable def Li_link_b75 (x3 : Int) (x4 : Int) (x5 : Int) (s : Sg) : Option (((Int × Sg) ⊕ (Sg))) :=
  some (.inl ((x5 + 1), s))
noncomputable def Li_link_t39 (x3 : Int) (x4 : Int) (x5 : Int) (s : Sg) : Option (((Int × Sg) ⊕ (Sg))) :=
  ifLt x5 (gi s 1 4)
    (bnd (Hx_at 6 x5 s) fun y9 =>
    ifEq y9 x4
      (bnd (Hx_set 6 x5 x3 s) fun s11 =>
      Li_link_b75 x3 x4 x5 s11)
      (Li_link_b75 x3 x4 x5 s))
    (some (.inr s))
noncomputable def Li_link_l39 (x3 : Int) (x4 : Int) (x5 : Int) (s : Sg) : Option (Sg) :=
  bnd (whl (fun σ : Int × Sg => Li_link_t39 x3 x4 σ.1 σ.2) (x5, s)) fun ρ39 =>
    bnd (Hx_at 8 x3 ρ39) fun y13 =>
    bnd (Hx_at 8 x4 ρ39) fun y14 =>
    bnd (Hx_set 8 x3 (y13 + y14) ρ39) fun s16 =>
    bnd (Hx_at 7 x3 s16) fun y17 =>
    bnd (Hx_at 7 x4 s16) fun y18 =>
    bnd (Hx_set 7 x3 (iorI y17 y18) s16) fun s20 =>
    some s20
noncomputable def Li_link (x1 : Int) (x2 : Int) (s : Sg) : Option (Sg) :=
  bnd (Li_top x1 s) fun y1 =>
  bnd (Li_top x2 s) fun y2 =>
  grd (R y1 ∧ R y2) <|
  lett (min y1 y2) fun x3_4 =>
  bnd (Li_top x1 s) fun y5 =>
  bnd (Li_top x2 s) fun y6 =>
  grd (R y5 ∧ R y6) <|
  lett (max y5 y6) fun x4_8 =>
  ifEq x3_4 x4_8
    (some s)
    (Li_link_l39 x3_4 x4_8 0 s)
noncomputable def Li_reach (x1 : Int) (x2 : Int) (s : Sg) : Option (Sg) :=
  bnd (Li_top x1 s) fun y1 =>
  bnd (Hx_at 7 y1 s) fun y2 =>
  bnd (Hx_set 7 y1 (iorI y2 x2) s) fun s4 =>
  some s4
noncomputable def Bl_linkCounting_b68 (x2 : Int) (s : Sg) : Option (((Int × Sg) ⊕ (Sg))) :=
  some (.inl ((x2 + 1), s))
noncomputable def Bl_linkCounting_t2 (x2 : Int) (s : Sg) : Option (((Int × Sg) ⊕ (Sg))) :=
  ifLt x2 (gi s 56 7)
    (bnd (Hx_at 61 x2 s) fun y1 =>
    ifEq y1 1
      (bnd (Hx_at 57 x2 s) fun y2 =>
      bnd (Hx_at 58 x2 s) fun y3 =>
      ifLt y3 0
        (bnd (Li_reach y2 (ishlI 1 ((-10) - y3)) s) fun s5 =>
        Bl_linkCounting_b68 x2 s5)
        (bnd (Li_link y2 y3 s) fun s7 =>
        Bl_linkCounting_b68 x2 s7))
      (Bl_linkCounting_b68 x2 s))
    (some (.inr s))
noncomputable def Bl_linkCounting_l2 (x2 : Int) (s : Sg) : Option (Sg) :=
  bnd (whl (fun σ : Int × Sg => Bl_linkCounting_t2 σ.1 σ.2) (x2, s)) fun ρ2 =>
    some ρ2
noncomputable def Bl_linkCounting  (s : Sg) : Option (Sg) :=
  Bl_linkCounting_l2 0 s
noncomputable def Hx_gatherChains (x1 : Int) (s : Sg) : Option (Sg) :=
  bnd (Li_gather 11 x1 s) fun s2 =>
  bnd (Bl_find 11 x1 s2) fun s4 =>
  bnd (Bl_linkCounting s4) fun s6 =>
  some s6
noncomputable def Bl_countingIn_b47 (x2 : Int) (x3 : Int) (x4 : Int) (s : Sg) : Option (((Int × Int) ⊕ (Int))) :=
  some (.inl (x3, (x4 + 1)))
noncomputable def Bl_countingIn_t5 (x2 : Int) (x3 : Int) (x4 : Int) (s : Sg) : Option (((Int × Int) ⊕ (Int))) :=
  ifLt x4 (gi s 56 7)
    (bnd (Hx_at 61 x4 s) fun y1 =>
    ifEq y1 1
      (bnd (Hx_at 57 x4 s) fun y2 =>
      bnd (Li_top y2 s) fun y3 =>
      ifEq y3 x2
        (Bl_countingIn_b47 x2 (x3 + 1) x4 s)
        (Bl_countingIn_b47 x2 x3 x4 s))
      (Bl_countingIn_b47 x2 x3 x4 s))
    (some (.inr x3))
noncomputable def Bl_countingIn_l5 (x2 : Int) (x3 : Int) (x4 : Int) (s : Sg) : Option (Int) :=
  bnd (whl (fun σ : Int × Int => Bl_countingIn_t5 x2 σ.1 σ.2 s) (x3, x4)) fun ρ5 =>
    some ρ5
noncomputable def Bl_countingIn (x2 : Int) (s : Sg) : Option (Int) :=
  Bl_countingIn_l5 x2 0 0 s
noncomputable def Hx_chain (x1 : Int) (x2 : Int) (s : Sg) : Option ((Nat ⊕ Int) × Sg) :=
  bndx (Hx_requireCell x1 s) fun y1 s2 =>
  bndx (Hx_requireRange x2 0 3 s2) fun y3 s4 =>
  bnd (Po_stone 10 x1 s4) fun y5 =>
  ifEq y5 (-1)
    (some (.inr (-1), s4))
    (bnd (Hx_gatherChains y5 s4) fun s7 =>
    ifEq x2 2
      (bnd (Li_top x1 s7) fun y9 =>
      bnd (Bl_countingIn y9 s7) fun y10 =>
      some (.inr y10, s7))
      (bnd (Li_number x1 x2 s7) fun y8 =>
      some (.inr y8, s7)))
noncomputable def Hx_chains (x1 : Int) (s : Sg) : Option ((Nat ⊕ Int) × Sg) :=
  bndx (Hx_requireSide x1 s) fun y1 s2 =>
  bnd (Hx_gatherChains x1 s2) fun s4 =>
  bnd (Li_parts s4) fun y5 =>
  some (.inr y5, s4)
noncomputable def Hx_isSafe (x1 : Int) (s : Sg) : Option ((Nat ⊕ Int) × Sg) :=
  bndx (Hx_requireSide x1 s) fun y1 s2 =>
  bnd (Hx_gatherChains x1 s2) fun s4 =>
  bnd (Li_joined s4) fun y5 =>
  grd (b01 y5) <|
  some (.inr y5, s4)
noncomputable def Bl_otherCarrier_b64 (x1 : Int) (x2 : Int) (s : Sg) : Option (((Int) ⊕ ((Int × Int) ⊕ (Unit)))) :=
  some (.inl (x2 + 1))
noncomputable def Bl_otherCarrier_t2 (x1 : Int) (x2 : Int) (s : Sg) : Option (((Int) ⊕ ((Int × Int) ⊕ (Unit)))) :=
  ifLt x2 (gi s 56 7)
    (bnd (Hx_at 61 x2 s) fun y1 =>
    ifEq y1 1
      (bnd (Hx_at 59 x2 s) fun y2 =>
      bnd (Hx_at 60 x2 s) fun y3 =>
      ifEq y2 x1
        (some (.inr (.inl (y2, y3))))
        (ifEq y3 x1
          (some (.inr (.inl (y2, y3))))
          (Bl_otherCarrier_b64 x1 x2 s)))
      (Bl_otherCarrier_b64 x1 x2 s))
    (some (.inr (.inr ())))
noncomputable def Bl_otherCarrier_b52 (x1 : Int) (x3 : Int) (x4 : Int) (s : Sg) : Option (Int) :=
  ifEq x3 x1
    (some x4)
    (some x3)
noncomputable def Bl_otherCarrier_l2 (x1 : Int) (x2 : Int) (s : Sg) : Option (Int) :=
  bnd (whl (fun σ : Int => Bl_otherCarrier_t2 x1 σ s) x2) fun ρ2 => match ρ2 with
  | .inl ρ2 =>
      Bl_otherCarrier_b52 x1 ρ2.1 ρ2.2 s
  | .inr ρ2 =>
      some (-1)
noncomputable def Bl_otherCarrier (x1 : Int) (s : Sg) : Option (Int) :=
  Bl_otherCarrier_l2 x1 0 s
noncomputable def Hx_answer (x1 : Int) (s : Sg) : Option ((Nat ⊕ Int) × Sg) :=
  bndx (Hx_requireCell x1 s) fun y1 s2 =>
  bnd (Hx_otherSide (gi s2 10 5) s2) fun y3 =>
  bnd (Bl_find 11 y3 s2) fun s5 =>
  bnd (Bl_otherCarrier x1 s5) fun y6 =>
  some (.inr y6, s5)
noncomputable def Li_joinsBy_b54 (x1 : Int) (x2 : Int) (x3 : Int) (s : Sg) : Option (((Int × Int) ⊕ (Int))) :=
  some (.inl (x2, (x3 + 1)))
noncomputable def Li_joinsBy_t15 (x1 : Int) (x2 : Int) (x3 : Int) (s : Sg) : Option (((Int × Int) ⊕ (Int))) :=
  ifLt x3 6
    (bnd (Gr_near x1 x3 s) fun y2 =>
    bnd (Li_top y2 s) fun y3 =>
    ifEq y3 (-1)
      (Li_joinsBy_b54 x1 x2 x3 s)
      (bnd (Hx_at 7 y3 s) fun y4 =>
      lett (iorI x2 y4) fun x2_5 =>
      Li_joinsBy_b54 x1 x2_5 x3 s))
    (some (.inr x2))
noncomputable def Li_joinsBy_l15 (x1 : Int) (x2 : Int) (x3 : Int) (s : Sg) : Option (Int) :=
  bnd (whl (fun σ : Int × Int => Li_joinsBy_t15 x1 σ.1 σ.2 s) (x2, x3)) fun ρ15 =>
    ifEq ρ15 3
      (some 1)
      (some 0)
noncomputable def Li_joinsBy (x1 : Int) (s : Sg) : Option (Int) :=
  bnd (Gr_edges x1 (gi s 5 5) s) fun y1 =>
  Li_joinsBy_l15 x1 y1 0 s
noncomputable def Hx_countThreats_b68 (x2 : Int) (x3 : Int) (s : Sg) : Option (((Int × Int) ⊕ (Int))) :=
  some (.inl (x2, (x3 + 1)))
noncomputable def Hx_countThreats_t31 (x2 : Int) (x3 : Int) (s : Sg) : Option (((Int × Int) ⊕ (Int))) :=
  ifLt x3 (gi s 1 4)
    (bnd (Po_stone 10 x3 s) fun y4 =>
    ifEq y4 (-1)
      (bnd (Li_joinsBy x3 s) fun y5 =>
      ifEq y5 0
        (Hx_countThreats_b68 x2 x3 s)
        (Hx_countThreats_b68 (x2 + 1) x3 s))
      (Hx_countThreats_b68 x2 x3 s))
    (some (.inr x2))
noncomputable def Hx_countThreats_l31 (x2 : Int) (x3 : Int) (s : Sg) : Option (Int × Sg) :=
  bnd (whl (fun σ : Int × Int => Hx_countThreats_t31 σ.1 σ.2 s) (x2, x3)) fun ρ31 =>
    some (ρ31, s)
noncomputable def Hx_countThreats (x1 : Int) (s : Sg) : Option (Int × Sg) :=
  bnd (Li_gather 11 x1 s) fun s2 =>
  bnd (Li_joined s2) fun y3 =>
  ifEq y3 0
    (Hx_countThreats_l31 0 0 s2)
    (some (0, s2))
noncomputable def Hx_threats (x1 : Int) (s : Sg) : Option ((Nat ⊕ Int) × Sg) :=
  bndx (Hx_requireSide x1 s) fun y1 s2 =>
  bnd2 (Hx_countThreats x1 s2) fun y3 s4 =>
  some (.inr y3, s4)
noncomputable def Hx_findThreat_b80 (x2 : Int) (x3 : Int) (x4 : Int) (s : Sg) : Option (((Int × Int) ⊕ ((Int) ⊕ (Unit)))) :=
  some (.inl (x3, (x4 + 1)))
noncomputable def Hx_findThreat_t32 (x2 : Int) (x3 : Int) (x4 : Int) (s : Sg) : Option (((Int × Int) ⊕ ((Int) ⊕ (Unit)))) :=
  ifLt x4 (gi s 1 4)
    (bnd (Po_stone 10 x4 s) fun y4 =>
    ifEq y4 (-1)
      (bnd (Li_joinsBy x4 s) fun y5 =>
      ifEq y5 0
        (Hx_findThreat_b80 x2 x3 x4 s)
        (ifEq x3 x2
          (some (.inr (.inl x4)))
          (Hx_findThreat_b80 x2 (x3 + 1) x4 s)))
      (Hx_findThreat_b80 x2 x3 x4 s))
    (some (.inr (.inr ())))
noncomputable def Hx_findThreat_l32 (x2 : Int) (x3 : Int) (x4 : Int) (s : Sg) : Option (Int × Sg) :=
  bnd (whl (fun σ : Int × Int => Hx_findThreat_t32 x2 σ.1 σ.2 s) (x3, x4)) fun ρ32 => match ρ32 with
  | .inl ρ32 =>
      some (ρ32, s)
  | .inr ρ32 =>
      some ((-1), s)
noncomputable def Hx_findThreat (x1 : Int) (x2 : Int) (s : Sg) : Option (Int × Sg) :=
  bnd (Li_gather 11 x1 s) fun s2 =>
  bnd (Li_joined s2) fun y3 =>
  ifEq y3 0
    (Hx_findThreat_l32 x2 0 0 s2)
    (some ((-1), s2))
noncomputable def Hx_threat (x1 : Int) (x2 : Int) (s : Sg) : Option ((Nat ⊕ Int) × Sg) :=
  bndx (Hx_requireSide x1 s) fun y1 s2 =>
  bnd2 (Hx_findThreat x1 x2 s2) fun y3 s4 =>
  some (.inr y3, s4)
noncomputable def Hx_answerToLatestMove (x1 : Int) (s : Sg) : Option (Int × Sg) :=
  bnd (Po_moved 10 ((gi s 10 4) - 1) s) fun y1 =>
  ifEq y1 (-1)
    (some ((-1), s))
    (bnd (Po_stone 10 y1 s) fun y2 =>
    ifEq y2 x1
      (bnd (Po_place 10 y1 (-1) s) fun s4 =>
      bnd (Bl_find 11 (gi s4 10 5) s4) fun s6 =>
      bnd (Bl_otherCarrier y1 s6) fun y7 =>
      bnd (Po_place 10 y1 x1 s6) fun s9 =>
      some (y7, s9))
      (some ((-1), s)))
noncomputable def Hx_forcedCell  (s : Sg) : Option (Int × Sg) :=
  bnd2 (Hx_winner s) fun y1 s2 =>
  ifEq y1 (-1)
    (bnd2 (Hx_findThreat (gi s2 10 5) 0 s2) fun y3 s4 =>
    ifEq y3 (-1)
      (bnd (Hx_otherSide (gi s4 10 5) s4) fun y5 =>
      bnd2 (Hx_countThreats y5 s4) fun y6 s7 =>
      ifLt 0 y6
        (ifEq y6 1
          (bnd2 (Hx_findThreat y5 0 s7) fun y10 s11 =>
          some (y10, s11))
          (some ((-1), s7)))
        (bnd2 (Hx_answerToLatestMove y5 s7) fun y8 s9 =>
        some (y8, s9)))
      (some (y3, s4)))
    (some ((-1), s2))
noncomputable def Hx_forced  (s : Sg) : Option (Int × Sg) :=
  bnd2 (Hx_forcedCell s) fun y1 s2 =>
  some (y1, s2)
noncomputable def Pa_lower_b76 (r0 : Nat) (r1 : Nat) (x2 : Int) (x3 : Int) (x4 : Int) (x5 : Int) (s : Sg) : Option (((Int × Int) ⊕ (Int))) :=
  some (.inl (x4, (x5 + 1)))
noncomputable def Pa_lower_b70 (r0 : Nat) (r1 : Nat) (x2 : Int) (x3 : Int) (x5 : Int) (x6 : Int) (s : Sg) : Option (((Int × Int) ⊕ (Int))) :=
  lett (x6 + x3) fun x4_5 =>
  Pa_lower_b76 r0 r1 x2 x3 x4_5 x5 s
noncomputable def Pa_lower_t26 (r0 : Nat) (r1 : Nat) (x2 : Int) (x3 : Int) (x4 : Int) (x5 : Int) (s : Sg) : Option (((Int × Int) ⊕ (Int))) :=
  ifLt x5 6
    (bnd (Gr_near x2 x5 s) fun y3 =>
    bnd (Hx_at r1 y3 s) fun y4 =>
    ifEq y4 (-1)
      (Pa_lower_b76 r0 r1 x2 x3 x4 x5 s)
      (ifEq x4 (-1)
        (Pa_lower_b70 r0 r1 x2 x3 x5 y4 s)
        (ifLt (y4 + x3) x4
          (Pa_lower_b70 r0 r1 x2 x3 x5 y4 s)
          (Pa_lower_b76 r0 r1 x2 x3 x4 x5 s))))
    (some (.inr x4))
noncomputable def Pa_lower_b97 (r1 : Nat) (x2 : Int) (x4 : Int) (t0 : Int) (s : Sg) : Option (Int × Sg) :=
  bnd (Hx_set r1 x2 x4 s) fun s9 =>
  grd (b01 t0) <|
  some (t0, s9)
noncomputable def Pa_lower_l26 (r0 : Nat) (r1 : Nat) (x2 : Int) (x3 : Int) (x4 : Int) (x5 : Int) (s : Sg) : Option (Int × Sg) :=
  bnd (whl (fun σ : Int × Int => Pa_lower_t26 r0 r1 x2 x3 σ.1 σ.2 s) (x4, x5)) fun ρ26 =>
    bnd (Hx_at r1 x2 s) fun y7 =>
    ifEq ρ26 y7
      (Pa_lower_b97 r1 x2 ρ26 0 s)
      (Pa_lower_b97 r1 x2 ρ26 1 s)
noncomputable def Pa_lower (r0 : Nat) (r1 : Nat) (x2 : Int) (s : Sg) : Option (Int × Sg) :=
  bnd (Hx_at (r0 + 1) x2 s) fun y1 =>
  bnd (Hx_at r1 x2 s) fun y2 =>
  ifEq y1 (-1)
    (some (0, s))
    (Pa_lower_l26 r0 r1 x2 y1 y2 0 s)
noncomputable def Pa_spread_b58 (r0 : Nat) (r1 : Nat) (x2 : Int) (x3 : Int) (x4 : Int) (t1 : Int) (t2 : Int) (s : Sg) : Option (((Int × Sg) ⊕ (Sg))) :=
  bnd (Hx_set r1 t1 t2 s) fun s3 =>
  some (.inl ((x4 + 1), s3))
noncomputable def Pa_spread_b35 (r0 : Nat) (r1 : Nat) (x2 : Int) (x3 : Int) (x4 : Int) (t0 : Int) (s : Sg) : Option (((Int × Sg) ⊕ (Sg))) :=
  ifEq t0 0
    (Pa_spread_b58 r0 r1 x2 x3 x4 x4 (-1) s)
    (bnd (Hx_at (r0 + 1) x4 s) fun y4 =>
    Pa_spread_b58 r0 r1 x2 x3 x4 x4 y4 s)
noncomputable def Pa_spread_t3 (r0 : Nat) (r1 : Nat) (x2 : Int) (x3 : Int) (x4 : Int) (s : Sg) : Option (((Int × Sg) ⊕ (Sg))) :=
  ifLt x4 (gi s 1 4)
    (bnd (Gr_edges x4 x2 s) fun y1 =>
    ifEq (iandI y1 x3) 0
      (Pa_spread_b35 r0 r1 x2 x3 x4 0 s)
      (Pa_spread_b35 r0 r1 x2 x3 x4 1 s))
    (some (.inr s))
noncomputable def Pa_spread_t91 (r0 : Nat) (r1 : Nat) (x4 : Int) (x5 : Int) (x6 : Int) (s : Sg) : Option (((Int × Int × Sg) ⊕ (Int × Sg))) :=
  ifLt x6 (gi s 1 4)
    (bnd2 (Pa_lower r0 r1 x6 s) fun y6 s7 =>
    lett (iorI x4 y6) fun x4_8 =>
    some (.inl (x4_8, (x6 + 1), s7)))
    (some (.inr (x4, s)))
noncomputable def Pa_spread_l91 (r0 : Nat) (r1 : Nat) (x4 : Int) (x5 : Int) (x6 : Int) (s : Sg) : Option (((Int × Int × Sg) ⊕ (Sg))) :=
  bnd (whl (fun σ : Int × Int × Sg => Pa_spread_t91 r0 r1 σ.1 x5 σ.2.1 σ.2.2) (x4, x6, s)) fun ρ91 =>
    some (.inl (ρ91.1, (x5 + 1), ρ91.2))
noncomputable def Pa_spread_t73 (r0 : Nat) (r1 : Nat) (x4 : Int) (x5 : Int) (s : Sg) : Option (((Int × Int × Sg) ⊕ (Sg))) :=
  ifLt x5 81
    (ifEq x4 0
      (some (.inr s))
      (Pa_spread_l91 r0 r1 0 x5 0 s))
    (some (.inr s))
noncomputable def Pa_spread_l73 (r0 : Nat) (r1 : Nat) (x4 : Int) (x5 : Int) (s : Sg) : Option (Sg) :=
  bnd (whl (fun σ : Int × Int × Sg => Pa_spread_t73 r0 r1 σ.1 σ.2.1 σ.2.2) (x4, x5, s)) fun ρ73 =>
    some ρ73
noncomputable def Pa_spread_l3 (r0 : Nat) (r1 : Nat) (x2 : Int) (x3 : Int) (x4 : Int) (s : Sg) : Option (Sg) :=
  bnd (whl (fun σ : Int × Sg => Pa_spread_t3 r0 r1 x2 x3 σ.1 σ.2) (x4, s)) fun ρ3 =>
    Pa_spread_l73 r0 r1 1 0 ρ3
noncomputable def Pa_spread (r0 : Nat) (r1 : Nat) (x2 : Int) (x3 : Int) (s : Sg) : Option (Sg) :=
  Pa_spread_l3 r0 r1 x2 x3 0 s
noncomputable def Pa_find_b46 (r0 : Nat) (r1 : Nat) (x2 : Int) (x3 : Int) (t1 : Int) (t2 : Int) (s : Sg) : Option (((Int × Sg) ⊕ (Sg))) :=
  bnd (Hx_set (r0 + 1) t1 t2 s) fun s3 =>
  some (.inl ((x3 + 1), s3))
noncomputable def Pa_find_t2 (r0 : Nat) (r1 : Nat) (x2 : Int) (x3 : Int) (s : Sg) : Option (((Int × Sg) ⊕ (Sg))) :=
  ifLt x3 (gi s 1 4)
    (bnd (Hx_at r1 x3 s) fun y1 =>
    ifEq y1 (-1)
      (Pa_find_b46 r0 r1 x2 x3 x3 1 s)
      (ifEq y1 x2
        (Pa_find_b46 r0 r1 x2 x3 x3 0 s)
        (Pa_find_b46 r0 r1 x2 x3 x3 (-1) s)))
    (some (.inr s))
noncomputable def Pa_find_l2 (r0 : Nat) (r1 : Nat) (x2 : Int) (x3 : Int) (s : Sg) : Option (Sg) :=
  bnd (whl (fun σ : Int × Sg => Pa_find_t2 r0 r1 x2 σ.1 σ.2) (x3, s)) fun ρ2 =>
    bnd (Pa_spread r0 (r0 + 2) x2 1 ρ2) fun s6 =>
    bnd (Pa_spread r0 (r0 + 3) x2 2 s6) fun s8 =>
    some s8
noncomputable def Pa_find (r0 : Nat) (r1 : Nat) (x2 : Int) (s : Sg) : Option (Sg) :=
  Pa_find_l2 r0 r1 x2 0 s
noncomputable def Hx_pathsOf_b15 (x1 : Int) (u_0 : Nat) (s : Sg) : Option (Nat × Sg) :=
  bnd (Pa_find u_0 11 x1 s) fun s2 =>
  some (u_0, s2)
noncomputable def Hx_pathsOf (x1 : Int) (s : Sg) : Option (Nat × Sg) :=
  ifEq x1 0
    (Hx_pathsOf_b15 x1 63 s)
    (Hx_pathsOf_b15 x1 67 s)
noncomputable def Pa_cost_b28  (s : Sg) : Option (Int) :=
  some (-1)
noncomputable def Pa_cost (r0 : Nat) (x1 : Int) (s : Sg) : Option (Int) :=
  bnd (Hx_at (r0 + 2) x1 s) fun y1 =>
  bnd (Hx_at (r0 + 3) x1 s) fun y2 =>
  ifEq y1 (-1)
    (Pa_cost_b28  s)
    (ifEq y2 (-1)
      (Pa_cost_b28  s)
      (bnd (Hx_at (r0 + 1) x1 s) fun y3 =>
      some ((y1 + y2) - y3)))
noncomputable def Pa_least_b38 (r0 : Nat) (x1 : Int) (x2 : Int) (s : Sg) : Option (((Int × Int) ⊕ (Int))) :=
  some (.inl (x1, (x2 + 1)))
noncomputable def Pa_least_b36 (r0 : Nat) (x2 : Int) (x3 : Int) (s : Sg) : Option (((Int × Int) ⊕ (Int))) :=
  Pa_least_b38 r0 x3 x2 s
noncomputable def Pa_least_t4 (r0 : Nat) (x1 : Int) (x2 : Int) (s : Sg) : Option (((Int × Int) ⊕ (Int))) :=
  ifLt x2 (gi s 1 4)
    (bnd (Pa_cost r0 x2 s) fun y1 =>
    ifEq y1 (-1)
      (Pa_least_b38 r0 x1 x2 s)
      (ifEq x1 (-1)
        (Pa_least_b36 r0 x2 y1 s)
        (ifLt y1 x1
          (Pa_least_b36 r0 x2 y1 s)
          (Pa_least_b38 r0 x1 x2 s))))
    (some (.inr x1))
noncomputable def Pa_least_l4 (r0 : Nat) (x1 : Int) (x2 : Int) (s : Sg) : Option (Int) :=
  bnd (whl (fun σ : Int × Int => Pa_least_t4 r0 σ.1 σ.2 s) (x1, x2)) fun ρ4 =>
    some ρ4
noncomputable def Pa_least (r0 : Nat) (s : Sg) : Option (Int) :=
  Pa_least_l4 r0 (-1) 0 s
noncomputable def Hx_distance (x1 : Int) (s : Sg) : Option ((Nat ⊕ Int) × Sg) :=
  bndx (Hx_requireSide x1 s) fun y1 s2 =>
  bnd2 (Hx_pathsOf x1 s2) fun y3 s4 =>
  bnd (Pa_least y3 s4) fun y5 =>
  some (.inr y5, s4)
noncomputable def Hx_through (x1 : Int) (x2 : Int) (s : Sg) : Option ((Nat ⊕ Int) × Sg) :=
  bndx (Hx_requireSide x1 s) fun y1 s2 =>
  bndx (Hx_requireCell x2 s2) fun y3 s4 =>
  bnd2 (Hx_pathsOf x1 s4) fun y5 s6 =>
  bnd (Pa_cost y5 x2 s6) fun y7 =>
  some (.inr y7, s6)
noncomputable def Hx_useful_b64 (r2 : Nat) (x3 : Int) (x4 : Int) (x5 : Int) (s : Sg) : Option (((Int × Int) ⊕ (Int))) :=
  some (.inl (x4, (x5 + 1)))
noncomputable def Hx_useful_t21 (r2 : Nat) (x3 : Int) (x4 : Int) (x5 : Int) (s : Sg) : Option (((Int × Int) ⊕ (Int))) :=
  ifLt x5 (gi s 1 4)
    (ifEq x3 (-1)
      (Hx_useful_b64 r2 x3 x4 x5 s)
      (bnd (Po_stone 10 x5 s) fun y6 =>
      ifEq y6 (-1)
        (bnd (Pa_cost r2 x5 s) fun y7 =>
        ifEq y7 x3
          (Hx_useful_b64 r2 x3 (x4 + 1) x5 s)
          (Hx_useful_b64 r2 x3 x4 x5 s))
        (Hx_useful_b64 r2 x3 x4 x5 s)))
    (some (.inr x4))
noncomputable def Hx_useful_l21 (r2 : Nat) (x3 : Int) (x4 : Int) (x5 : Int) (s : Sg) : Option ((Nat ⊕ Int) × Sg) :=
  bnd (whl (fun σ : Int × Int => Hx_useful_t21 r2 x3 σ.1 σ.2 s) (x4, x5)) fun ρ21 =>
    some (.inr ρ21, s)
noncomputable def Hx_useful (x1 : Int) (s : Sg) : Option ((Nat ⊕ Int) × Sg) :=
  bndx (Hx_requireSide x1 s) fun y1 s2 =>
  bnd2 (Hx_pathsOf x1 s2) fun y3 s4 =>
  bnd (Pa_least y3 s4) fun y5 =>
  Hx_useful_l21 y3 y5 0 0 s4
noncomputable def Fl_nextLevel_b112 (x1 : Int) (x3 : Int) (x4 : Int) (x5 : Int) (s : Sg) : Option (((Int × Int × Int) ⊕ (Int × Int))) :=
  some (.inl (x3, x4, (x5 + 1)))
noncomputable def Fl_nextLevel_t39 (x1 : Int) (x3 : Int) (x4 : Int) (x5 : Int) (s : Sg) : Option (((Int × Int × Int) ⊕ (Int × Int))) :=
  ifLt x5 6
    (bnd (Gr_near x1 x5 s) fun y2 =>
    ifEq y2 (-1)
      (Fl_nextLevel_b112 x1 x3 x4 x5 s)
      (bnd (Hx_at 72 y2 s) fun y3 =>
      ifLt 0 y3
        (bnd (Hx_at 72 y2 s) fun y4 =>
        lett (x3 + y4) fun x3_5 =>
        bnd (Hx_at 72 y2 s) fun y6 =>
        bnd (Hx_at 73 y2 s) fun y7 =>
        lett (x4 + (y6 * y7)) fun x4_8 =>
        Fl_nextLevel_b112 x1 x3_5 x4_8 x5 s)
        (Fl_nextLevel_b112 x1 x3 x4 x5 s)))
    (some (.inr (x3, x4)))
noncomputable def Fl_nextLevel_l39 (x1 : Int) (x3 : Int) (x4 : Int) (x5 : Int) (s : Sg) : Option (Int) :=
  bnd (whl (fun σ : Int × Int × Int => Fl_nextLevel_t39 x1 σ.1 σ.2.1 σ.2.2 s) (x3, x4, x5)) fun ρ39 =>
    ifEq ρ39.1 0
      (bnd (Hx_at 73 x1 s) fun y12 =>
      some y12)
      (grd ((0 ≤ ρ39.2 ∧ R ρ39.2) ∧ (0 < ρ39.1 ∧ R ρ39.1)) <|
      some (ρ39.2 / ρ39.1))
noncomputable def Fl_nextLevel_b34 (x1 : Int) (x3 : Int) (t0 : Int) (s : Sg) : Option (Int) :=
  Fl_nextLevel_l39 x1 x3 t0 0 s
noncomputable def Fl_nextLevel_b22 (x1 : Int) (x2 : Int) (t0 : Int) (s : Sg) : Option (Int) :=
  ifEq x2 2
    (Fl_nextLevel_b34 x1 t0 1000000 s)
    (Fl_nextLevel_b34 x1 t0 0 s)
noncomputable def Fl_nextLevel (x1 : Int) (s : Sg) : Option (Int) :=
  bnd (Gr_edges x1 (gi s 71 3) s) fun y1 =>
  ifEq y1 0
    (Fl_nextLevel_b22 x1 y1 0 s)
    (Fl_nextLevel_b22 x1 y1 1 s)
noncomputable def Fl_sweep_b61 (x1 : Int) (x2 : Int) (s : Sg) : Option (((Int × Int × Sg) ⊕ (Int × Sg))) :=
  some (.inl (x1, (x2 + 1), s))
noncomputable def Fl_sweep_b50 (x2 : Int) (x3 : Int) (t0 : Int) (t1 : Int) (s : Sg) : Option (((Int × Int × Sg) ⊕ (Int × Sg))) :=
  lett (iorI t0 t1) fun x1_4 =>
  bnd (Hx_set 73 x2 x3 s) fun s6 =>
  Fl_sweep_b61 x1_4 x2 s6
noncomputable def Fl_sweep_t4 (x1 : Int) (x2 : Int) (s : Sg) : Option (((Int × Int × Sg) ⊕ (Int × Sg))) :=
  ifLt x2 (gi s 1 4)
    (bnd (Hx_at 72 x2 s) fun y1 =>
    ifLt 0 y1
      (bnd (Fl_nextLevel x2 s) fun y2 =>
      bnd (Hx_at 73 x2 s) fun y3 =>
      ifEq y2 y3
        (Fl_sweep_b50 x2 y2 x1 0 s)
        (Fl_sweep_b50 x2 y2 x1 1 s))
      (Fl_sweep_b61 x1 x2 s))
    (some (.inr (x1, s)))
noncomputable def Fl_sweep_l4 (x1 : Int) (x2 : Int) (s : Sg) : Option (Int × Sg) :=
  bnd (whl (fun σ : Int × Int × Sg => Fl_sweep_t4 σ.1 σ.2.1 σ.2.2) (x1, x2, s)) fun ρ4 =>
    grd (b01 ρ4.1) <|
    some (ρ4.1, ρ4.2)
noncomputable def Fl_sweep  (s : Sg) : Option (Int × Sg) :=
  Fl_sweep_l4 0 0 s
noncomputable def Fl_amount_b62 (x1 : Int) (x2 : Int) (s : Sg) : Option (((Int × Int) ⊕ (Int))) :=
  some (.inl (x1, (x2 + 1)))
noncomputable def Fl_amount_t4 (x1 : Int) (x2 : Int) (s : Sg) : Option (((Int × Int) ⊕ (Int))) :=
  ifLt x2 (gi s 1 4)
    (bnd (Gr_edges x2 (gi s 71 3) s) fun y1 =>
    ifEq y1 1
      (bnd (Hx_at 72 x2 s) fun y2 =>
      ifLt 0 y2
        (bnd (Hx_at 72 x2 s) fun y3 =>
        bnd (Hx_at 73 x2 s) fun y4 =>
        lett (x1 + (y3 * y4)) fun x1_5 =>
        Fl_amount_b62 x1_5 x2 s)
        (Fl_amount_b62 x1 x2 s))
      (Fl_amount_b62 x1 x2 s))
    (some (.inr x1))
noncomputable def Fl_amount_l4 (x1 : Int) (x2 : Int) (s : Sg) : Option (Int) :=
  bnd (whl (fun σ : Int × Int => Fl_amount_t4 σ.1 σ.2 s) (x1, x2)) fun ρ4 =>
    some ρ4
noncomputable def Fl_amount  (s : Sg) : Option (Int) :=
  Fl_amount_l4 0 0 s
noncomputable def Fl_run_b82 (r1 : Nat) (x3 : Int) (x4 : Int) (t1 : Int) (t2 : Int) (s : Sg) : Option (((Int × Sg) ⊕ (Sg))) :=
  bnd (Hx_set 73 t1 t2 s) fun s6 =>
  some (.inl ((x4 + 1), s6))
noncomputable def Fl_run_b52 (r1 : Nat) (x3 : Int) (x4 : Int) (t0 : Int) (s : Sg) : Option (((Int × Sg) ⊕ (Sg))) :=
  bnd (Hx_set 72 x4 t0 s) fun s4 =>
  ifEq t0 0
    (Fl_run_b82 r1 x3 x4 x4 (-1) s4)
    (Fl_run_b82 r1 x3 x4 x4 500000 s4)
noncomputable def Fl_run_t8 (r1 : Nat) (x3 : Int) (x4 : Int) (s : Sg) : Option (((Int × Sg) ⊕ (Sg))) :=
  ifLt x4 (gi s 1 4)
    (bnd (Hx_at r1 x4 s) fun y2 =>
    ifEq y2 (-1)
      (Fl_run_b52 r1 x3 x4 1 s)
      (ifEq y2 (gi s 71 3)
        (Fl_run_b52 r1 x3 x4 3 s)
        (Fl_run_b52 r1 x3 x4 0 s)))
    (some (.inr s))
noncomputable def Fl_run_t97 (x3 : Int) (x4 : Int) (x5 : Int) (s : Sg) : Option (((Int × Int × Sg) ⊕ (Sg))) :=
  ifLt x5 x3
    (ifEq x4 0
      (some (.inr s))
      (bnd2 (Fl_sweep s) fun y8 s9 =>
      some (.inl (y8, (x5 + 1), s9))))
    (some (.inr s))
noncomputable def Fl_run_b120  (s : Sg) : Option (Int × Sg) :=
  bnd (Fl_amount s) fun y11 =>
  some (y11, s)
noncomputable def Fl_run_l97 (x3 : Int) (x4 : Int) (x5 : Int) (s : Sg) : Option (Int × Sg) :=
  bnd (whl (fun σ : Int × Int × Sg => Fl_run_t97 x3 σ.1 σ.2.1 σ.2.2) (x4, x5, s)) fun ρ97 =>
    Fl_run_b120  ρ97
noncomputable def Fl_run_l8 (r1 : Nat) (x3 : Int) (x4 : Int) (s : Sg) : Option (Int × Sg) :=
  bnd (whl (fun σ : Int × Sg => Fl_run_t8 r1 x3 σ.1 σ.2) (x4, s)) fun ρ8 =>
    Fl_run_l97 x3 1 0 ρ8
noncomputable def Fl_run (r1 : Nat) (x2 : Int) (x3 : Int) (s : Sg) : Option (Int × Sg) :=
  lett (si s 71 3 x2) fun s1 =>
  Fl_run_l8 r1 x3 0 s1
noncomputable def Fl_level (x1 : Int) (s : Sg) : Option (Int) :=
  bnd (Hx_at 73 x1 s) fun y1 =>
  some y1
noncomputable def Hx_potential (x1 : Int) (x2 : Int) (x3 : Int) (s : Sg) : Option ((Nat ⊕ Int) × Sg) :=
  bndx (Hx_requireSide x1 s) fun y1 s2 =>
  bndx (Hx_requireRange x3 0 100 s2) fun y3 s4 =>
  bndx (Hx_requireCell x2 s4) fun y5 s6 =>
  bnd2 (Fl_run 11 x1 x3 s6) fun y7 s8 =>
  bnd (Fl_level x2 s8) fun y9 =>
  some (.inr y9, s8)
noncomputable def En_begin_b71 (r1 : Nat) (x2 : Int) (s : Sg) : Option (((Int × Sg) ⊕ (Sg))) :=
  some (.inl ((x2 + 1), s))
noncomputable def En_begin_t7 (r1 : Nat) (x2 : Int) (s : Sg) : Option (((Int × Sg) ⊕ (Sg))) :=
  ifLt x2 (gi s 1 4)
    (bnd (Hx_at r1 x2 s) fun y2 =>
    bnd (Hx_set 75 x2 y2 s) fun s4 =>
    bnd (Hx_at r1 x2 s4) fun y5 =>
    ifEq y5 (-1)
      (ifLt (gi s4 74 5) 6
        (bnd (Hx_set 76 (gi s4 74 5) x2 s4) fun s7 =>
        lett (si s7 74 5 ((gi s7 74 5) + 1)) fun s8 =>
        En_begin_b71 r1 x2 s8)
        (En_begin_b71 r1 x2 s4))
      (En_begin_b71 r1 x2 s4))
    (some (.inr s))
noncomputable def En_begin_t79 (x2 : Int) (s : Sg) : Option (((Int × Sg) ⊕ (Sg))) :=
  ifLt x2 64
    (grd (0 ≤ x2 ∧ x2 < 64) <|
    lett (si s 77 x2.toNat (-1)) fun s11 =>
    some (.inl ((x2 + 1), s11)))
    (some (.inr s))
noncomputable def En_begin_l79 (x2 : Int) (s : Sg) : Option (Sg) :=
  bnd (whl (fun σ : Int × Sg => En_begin_t79 σ.1 σ.2) (x2, s)) fun ρ79 =>
    some ρ79
noncomputable def En_begin_l7 (r1 : Nat) (x2 : Int) (s : Sg) : Option (Sg) :=
  bnd (whl (fun σ : Int × Sg => En_begin_t7 r1 σ.1 σ.2) (x2, s)) fun ρ7 =>
    En_begin_l79 0 ρ7
noncomputable def En_begin (r1 : Nat) (s : Sg) : Option (Sg) :=
  lett (si s 74 5 0) fun s1 =>
  En_begin_l7 r1 0 s1
noncomputable def En_all  (s : Sg) : Option (Int) :=
  some ((ishlI 1 (gi s 74 5)) - 1)
noncomputable def En_owner_b91 (x1 : Int) (s : Sg) : Option (Int × Sg) :=
  bnd (Hx_at 77 x1 s) fun y2 =>
  some (y2, s)
noncomputable def En_owner_b47 (x1 : Int) (x2 : Int) (t1 : Int) (t2 : Int) (s : Sg) : Option (((Int × Sg) ⊕ (Sg))) :=
  bnd (Hx_set 75 t1 t2 s) fun s5 =>
  some (.inl ((x2 + 1), s5))
noncomputable def En_owner_t14 (x1 : Int) (x2 : Int) (s : Sg) : Option (((Int × Sg) ⊕ (Sg))) :=
  ifLt x2 (gi s 74 5)
    (bnd (Hx_at 76 x2 s) fun y3 =>
    ifEq (iandI x1 (ishlI 1 x2)) 0
      (En_owner_b47 x1 x2 y3 1 s)
      (En_owner_b47 x1 x2 y3 0 s))
    (some (.inr s))
noncomputable def En_owner_b88 (x1 : Int) (t1 : Int) (t2 : Int) (s : Sg) : Option (Int × Sg) :=
  bnd (Hx_set 77 t1 t2 s) fun s11 =>
  En_owner_b91 x1 s11
noncomputable def En_owner_l14 (x1 : Int) (x2 : Int) (s : Sg) : Option (Int × Sg) :=
  bnd (whl (fun σ : Int × Sg => En_owner_t14 x1 σ.1 σ.2) (x2, s)) fun ρ14 =>
    bnd (Li_gather 75 0 ρ14) fun s8 =>
    bnd (Li_joined s8) fun y9 =>
    ifEq y9 0
      (En_owner_b88 x1 x1 1 s8)
      (En_owner_b88 x1 x1 0 s8)
noncomputable def En_owner (x1 : Int) (s : Sg) : Option (Int × Sg) :=
  bnd (Hx_at 77 x1 s) fun y1 =>
  ifEq y1 (-1)
    (En_owner_l14 x1 0 s)
    (En_owner_b91 x1 s)
noncomputable def En_best_b11 (rec : Int → Int → Int → Int → Sg → Option (Int × Sg)) (x2 : Int) (s : Sg) : Option (Int × Sg) :=
  bnd2 (En_owner x2 s) fun y1 s2 =>
  some (y1, s2)
noncomputable def En_best_b80 (rec : Int → Int → Int → Int → Sg → Option (Int × Sg)) (x1 : Int) (x2 : Int) (x3 : Int) (x4 : Int) (x5 : Int) (s : Sg) : Option (((Int × Sg) ⊕ ((Sg) ⊕ (Sg)))) :=
  some (.inl ((x5 + 1), s))
noncomputable def En_best_b54 (rec : Int → Int → Int → Int → Sg → Option (Int × Sg)) (x1 : Int) (x2 : Int) (x3 : Int) (x4 : Int) (x5 : Int) (x6 : Int) (t0 : Int) (s : Sg) : Option (((Int × Sg) ⊕ ((Sg) ⊕ (Sg)))) :=
  bnd (Hx_otherSide x3 s) fun y4 =>
  bnd2 (rec (ixorI x1 x6) t0 y4 (x4 + 1) s) fun y5 s6 =>
  ifEq y5 x3
    (some (.inr (.inl s6)))
    (En_best_b80 rec x1 x2 x3 x4 x5 s6)
noncomputable def En_best_t20 (rec : Int → Int → Int → Int → Sg → Option (Int × Sg)) (x1 : Int) (x2 : Int) (x3 : Int) (x4 : Int) (x5 : Int) (s : Sg) : Option (((Int × Sg) ⊕ ((Sg) ⊕ (Sg)))) :=
  ifLt x5 (gi s 74 5)
    (lett (ishlI 1 x5) fun x6_3 =>
    ifEq (iandI x1 x6_3) 0
      (En_best_b80 rec x1 x2 x3 x4 x5 s)
      (ifEq x3 0
        (En_best_b54 rec x1 x2 x3 x4 x5 x6_3 (iorI x2 x6_3) s)
        (En_best_b54 rec x1 x2 x3 x4 x5 x6_3 x2 s)))
    (some (.inr (.inr s)))
noncomputable def En_best_l20 (rec : Int → Int → Int → Int → Sg → Option (Int × Sg)) (x1 : Int) (x2 : Int) (x3 : Int) (x4 : Int) (x5 : Int) (s : Sg) : Option (Int × Sg) :=
  bnd (whl (fun σ : Int × Sg => En_best_t20 rec x1 x2 x3 x4 σ.1 σ.2) (x5, s)) fun ρ20 => match ρ20 with
  | .inl ρ20 =>
      some (x3, ρ20)
  | .inr ρ20 =>
      bnd (Hx_otherSide x3 ρ20) fun y9 =>
      some (y9, ρ20)
noncomputable def En_best_r (rec : Int → Int → Int → Int → Sg → Option (Int × Sg)) (x1 : Int) (x2 : Int) (x3 : Int) (x4 : Int) (s : Sg) : Option (Int × Sg) :=
  ifEq x1 0
    (En_best_b11 rec x2 s)
    (ifLt x4 6
      (En_best_l20 rec x1 x2 x3 x4 0 s)
      (En_best_b11 rec x2 s))
noncomputable def En_best : Nat → Int → Int → Int → Int → Sg → Option (Int × Sg)
  | 0 => fun _ _ _ _ _ => none
  | n + 1 => En_best_r (En_best n)
noncomputable def En_winner (x1 : Int) (s : Sg) : Option (Int × Sg) :=
  bnd (En_all s) fun y1 =>
  bnd2 (En_best 8 y1 0 x1 0 s) fun y2 s3 =>
  some (y2, s3)
noncomputable def Hx_solved  (s : Sg) : Option (Int × Sg) :=
  bnd2 (Hx_winner s) fun y1 s2 =>
  ifEq y1 (-1)
    (bnd (Po_count 10 (-1) s2) fun y3 =>
    ifLt 6 y3
      (some (y1, s2))
      (bnd (En_begin 11 s2) fun s5 =>
      bnd2 (En_winner (gi s5 10 5) s5) fun y6 s7 =>
      some (y6, s7)))
    (some (y1, s2))
noncomputable def En_isGood_b20 (x2 : Int) (t1 : Int) (t2 : Int) (s : Sg) : Option (Int × Sg) :=
  bnd (Hx_otherSide x2 s) fun y3 =>
  bnd2 (En_best 8 t1 t2 y3 1 s) fun y4 s5 =>
  ifEq y4 x2
    (some (1, s5))
    (some (0, s5))
noncomputable def En_isGood (x1 : Int) (x2 : Int) (s : Sg) : Option (Int × Sg) :=
  lett (ishlI 1 x1) fun x3_1 =>
  bnd (En_all s) fun y2 =>
  ifEq x2 0
    (En_isGood_b20 x2 (ixorI y2 x3_1) x3_1 s)
    (En_isGood_b20 x2 (ixorI y2 x3_1) 0 s)
noncomputable def En_countGood_b24 (x1 : Int) (x2 : Int) (x3 : Int) (s : Sg) : Option (((Int × Int × Sg) ⊕ (Int × Sg))) :=
  some (.inl (x2, (x3 + 1), s))
noncomputable def En_countGood_t4 (x1 : Int) (x2 : Int) (x3 : Int) (s : Sg) : Option (((Int × Int × Sg) ⊕ (Int × Sg))) :=
  ifLt x3 (gi s 74 5)
    (bnd2 (En_isGood x3 x1 s) fun y1 s2 =>
    ifEq y1 0
      (En_countGood_b24 x1 x2 x3 s2)
      (En_countGood_b24 x1 (x2 + 1) x3 s2))
    (some (.inr (x2, s)))
noncomputable def En_countGood_l4 (x1 : Int) (x2 : Int) (x3 : Int) (s : Sg) : Option (Int × Sg) :=
  bnd (whl (fun σ : Int × Int × Sg => En_countGood_t4 x1 σ.1 σ.2.1 σ.2.2) (x2, x3, s)) fun ρ4 =>
    some (ρ4.1, ρ4.2)
noncomputable def En_countGood (x1 : Int) (s : Sg) : Option (Int × Sg) :=
  En_countGood_l4 x1 0 0 s
noncomputable def Hx_goodMoves  (s : Sg) : Option (Int × Sg) :=
  bnd2 (Hx_winner s) fun y1 s2 =>
  ifEq y1 (-1)
    (bnd (Po_count 10 (-1) s2) fun y3 =>
    ifLt 6 y3
      (some ((-1), s2))
      (bnd (En_begin 11 s2) fun s5 =>
      bnd2 (En_countGood (gi s5 10 5) s5) fun y6 s7 =>
      some (y6, s7)))
    (some (0, s2))
noncomputable def En_lowestGood_t2 (x1 : Int) (x2 : Int) (s : Sg) : Option (((Int × Sg) ⊕ ((Int × Sg) ⊕ (Sg)))) :=
  ifLt x2 (gi s 74 5)
    (bnd2 (En_isGood x2 x1 s) fun y1 s2 =>
    ifEq y1 0
      (some (.inl ((x2 + 1), s2)))
      (some (.inr (.inl (x2, s2)))))
    (some (.inr (.inr s)))
noncomputable def En_lowestGood_l2 (x1 : Int) (x2 : Int) (s : Sg) : Option (Int × Sg) :=
  bnd (whl (fun σ : Int × Sg => En_lowestGood_t2 x1 σ.1 σ.2) (x2, s)) fun ρ2 => match ρ2 with
  | .inl ρ2 =>
      bnd (Hx_at 76 ρ2.1 ρ2.2) fun y5 =>
      some (y5, ρ2.2)
  | .inr ρ2 =>
      some ((-1), ρ2)
noncomputable def En_lowestGood (x1 : Int) (s : Sg) : Option (Int × Sg) :=
  En_lowestGood_l2 x1 0 s
noncomputable def Hx_bestMove  (s : Sg) : Option (Int × Sg) :=
  bnd2 (Hx_winner s) fun y1 s2 =>
  ifEq y1 (-1)
    (bnd (Po_count 10 (-1) s2) fun y3 =>
    ifLt 6 y3
      (some ((-1), s2))
      (bnd (En_begin 11 s2) fun s5 =>
      bnd2 (En_lowestGood (gi s5 10 5) s5) fun y6 s7 =>
      some (y6, s7)))
    (some ((-1), s2))
noncomputable def Fi_begin (x1 : Int) (s : Sg) : Option (Sg) :=
  lett (si s 78 3 x1) fun s1 =>
  some s1
noncomputable def Fi_nextStone  (s : Sg) : Option (Int × Sg) :=
  lett (si s 78 3 (iandI ((1103515245 * (gi s 78 3)) + 12345) 2147483647)) fun s1 =>
  grd ((0 ≤ (gi s1 78 3) ∧ R (gi s1 78 3)) ∧ (0 < 65536 ∧ R 65536)) <|
  grd ((0 ≤ ((gi s1 78 3) / 65536) ∧ R ((gi s1 78 3) / 65536)) ∧ (0 < 2 ∧ R 2)) <|
  ifEq (((gi s1 78 3) / 65536) % 2) 0
    (some (0, s1))
    (some (1, s1))
noncomputable def Fi_next_b37 (r1 : Nat) (x2 : Int) (t1 : Int) (t2 : Int) (s : Sg) : Option (((Int × Sg) ⊕ (Sg))) :=
  bnd (Hx_set 79 t1 t2 s) fun s3 =>
  some (.inl ((x2 + 1), s3))
noncomputable def Fi_next_t2 (r1 : Nat) (x2 : Int) (s : Sg) : Option (((Int × Sg) ⊕ (Sg))) :=
  ifLt x2 (gi s 1 4)
    (bnd (Hx_at r1 x2 s) fun y1 =>
    ifEq y1 (-1)
      (bnd2 (Fi_nextStone s) fun y4 s5 =>
      Fi_next_b37 r1 x2 x2 y4 s5)
      (Fi_next_b37 r1 x2 x2 y1 s))
    (some (.inr s))
noncomputable def Fi_next_l2 (r1 : Nat) (x2 : Int) (s : Sg) : Option (Int × Sg) :=
  bnd (whl (fun σ : Int × Sg => Fi_next_t2 r1 σ.1 σ.2) (x2, s)) fun ρ2 =>
    bnd (Li_gather 79 0 ρ2) fun s8 =>
    bnd (Li_joined s8) fun y9 =>
    ifEq y9 0
      (some (1, s8))
      (some (0, s8))
noncomputable def Fi_next (r1 : Nat) (s : Sg) : Option (Int × Sg) :=
  Fi_next_l2 r1 0 s
noncomputable def Hx_filled (x1 : Int) (s : Sg) : Option ((Nat ⊕ Int) × Sg) :=
  bndx (Hx_requireRange x1 0 2147483647 s) fun y1 s2 =>
  bnd (Fi_begin x1 s2) fun s4 =>
  bnd2 (Fi_next 11 s4) fun y5 s6 =>
  some (.inr y5, s6)
noncomputable def Hx_fillings_b60 (x1 : Int) (x3 : Int) (x4 : Int) (x5 : Int) (s : Sg) : Option (((Int × Int × Sg) ⊕ (Int × Sg))) :=
  some (.inl (x4, (x5 + 1), s))
noncomputable def Hx_fillings_t33 (x1 : Int) (x3 : Int) (x4 : Int) (x5 : Int) (s : Sg) : Option (((Int × Int × Sg) ⊕ (Int × Sg))) :=
  ifLt x5 x3
    (bnd2 (Fi_next 11 s) fun y9 s10 =>
    ifEq y9 x1
      (Hx_fillings_b60 x1 x3 (x4 + 1) x5 s10)
      (Hx_fillings_b60 x1 x3 x4 x5 s10))
    (some (.inr (x4, s)))
noncomputable def Hx_fillings_l33 (x1 : Int) (x3 : Int) (x4 : Int) (x5 : Int) (s : Sg) : Option ((Nat ⊕ Int) × Sg) :=
  bnd (whl (fun σ : Int × Int × Sg => Hx_fillings_t33 x1 x3 σ.1 σ.2.1 σ.2.2) (x4, x5, s)) fun ρ33 =>
    some (.inr ρ33.1, ρ33.2)
noncomputable def Hx_fillings (x1 : Int) (x2 : Int) (x3 : Int) (s : Sg) : Option ((Nat ⊕ Int) × Sg) :=
  bndx (Hx_requireSide x1 s) fun y1 s2 =>
  bndx (Hx_requireRange x2 0 2147483647 s2) fun y3 s4 =>
  bndx (Hx_requireRange x3 1 100 s4) fun y5 s6 =>
  bnd (Fi_begin x2 s6) fun s8 =>
  Hx_fillings_l33 x1 x3 0 0 s8
noncomputable def Fi_countIdle_b85 (r1 : Nat) (x2 : Int) (x4 : Int) (x5 : Int) (s : Sg) : Option (((Int × Int) ⊕ (Int))) :=
  some (.inl (x4, (x5 + 1)))
noncomputable def Fi_countIdle_b65 (r1 : Nat) (x2 : Int) (x4 : Int) (x5 : Int) (t0 : Int) (s : Sg) : Option (((Int × Int) ⊕ (Int))) :=
  bnd (Hx_at r1 x5 s) fun y5 =>
  ifEq y5 (-1)
    (ifEq t0 0
      (Fi_countIdle_b85 r1 x2 (x4 + 1) x5 s)
      (Fi_countIdle_b85 r1 x2 x4 x5 s))
    (Fi_countIdle_b85 r1 x2 x4 x5 s)
noncomputable def Fi_countIdle_b64 (r1 : Nat) (x2 : Int) (x4 : Int) (x5 : Int) (s : Sg) : Option (((Int × Int) ⊕ (Int))) :=
  Fi_countIdle_b65 r1 x2 x4 x5 0 s
noncomputable def Fi_countIdle_t23 (r1 : Nat) (x2 : Int) (x4 : Int) (x5 : Int) (s : Sg) : Option (((Int × Int) ⊕ (Int))) :=
  ifLt x5 (gi s 1 4)
    (bnd (Hx_at 79 x5 s) fun y4 =>
    ifEq y4 x2
      (bnd (Li_joinsBy x5 s) fun y6 =>
      ifEq y6 0
        (Fi_countIdle_b64 r1 x2 x4 x5 s)
        (Fi_countIdle_b65 r1 x2 x4 x5 1 s))
      (Fi_countIdle_b64 r1 x2 x4 x5 s))
    (some (.inr x4))
noncomputable def Fi_countIdle_l23 (r1 : Nat) (x2 : Int) (x4 : Int) (x5 : Int) (s : Sg) : Option (Int × Sg) :=
  bnd (whl (fun σ : Int × Int => Fi_countIdle_t23 r1 x2 σ.1 σ.2 s) (x4, x5)) fun ρ23 =>
    some (ρ23, s)
noncomputable def Fi_countIdle (r1 : Nat) (x2 : Int) (s : Sg) : Option (Int × Sg) :=
  bnd (Hx_otherSide x2 s) fun y1 =>
  bnd (Li_gather 79 y1 s) fun s3 =>
  Fi_countIdle_l23 r1 x2 0 0 s3
noncomputable def Hx_idle (x1 : Int) (s : Sg) : Option ((Nat ⊕ Int) × Sg) :=
  bndx (Hx_requireRange x1 0 2147483647 s) fun y1 s2 =>
  bnd (Fi_begin x1 s2) fun s4 =>
  bnd2 (Fi_next 11 s4) fun y5 s6 =>
  bnd2 (Fi_countIdle 11 y5 s6) fun y7 s8 =>
  some (.inr y7, s8)
noncomputable def Hx_moveAt (x1 : Int) (s : Sg) : Option (Int) :=
  bnd (Po_moved 10 x1 s) fun y1 =>
  some y1
noncomputable def Hi_latest_b23  (s : Sg) : Option (Nat) :=
  none
noncomputable def Hi_latest (x1 : Int) (s : Sg) : Option (Nat) :=
  grd ((0 ≤ ((gi s 16 1) + x1) ∧ R ((gi s 16 1) + x1)) ∧ (0 < 8 ∧ R 8)) <|
  lett (((gi s 16 1) + x1) % 8) fun x2_2 =>
  ifLt x2_2 0
    (Hi_latest_b23  s)
    (ifLt x2_2 8
      (grd (0 ≤ x2_2 ∧ x2_2 < 8) <|
      some (18 + 3 * x2_2.toNat))
      (Hi_latest_b23  s))
noncomputable def Hi_remember_b32 (r1 : Nat) (s : Sg) : Option (Sg) :=
  bnd (Hi_latest (gi s 16 2) s) fun y1 =>
  bnd (Po_copy y1 r1 s) fun s3 =>
  lett (si s3 16 2 ((gi s3 16 2) + 1)) fun s4 =>
  some s4
noncomputable def Hi_remember (r1 : Nat) (s : Sg) : Option (Sg) :=
  ifEq (gi s 16 2) 8
    (grd ((0 ≤ ((gi s 16 1) + 1) ∧ R ((gi s 16 1) + 1)) ∧ (0 < 8 ∧ R 8)) <|
    lett (si s 16 1 (((gi s 16 1) + 1) % 8)) fun s6 =>
    lett (si s6 16 2 ((gi s6 16 2) - 1)) fun s7 =>
    Hi_remember_b32 r1 s7)
    (Hi_remember_b32 r1 s)
noncomputable def Hx_move (x1 : Int) (s : Sg) : Option ((Nat ⊕ Int) × Sg) :=
  bndx (Hx_requireCell x1 s) fun y1 s2 =>
  bnd (Po_stone 10 x1 s2) fun y3 =>
  ifEq y3 (-1)
    (bnd2 (Hx_winner s2) fun y4 s5 =>
    ifEq y4 (-1)
      (ifLt (gi s5 10 4) 200
        (bnd (Hi_remember 10 s5) fun s7 =>
        bnd (Po_play 10 x1 s7) fun s9 =>
        bnd2 (Hx_winner s9) fun y10 s11 =>
        some (.inr y10, s11))
        (some (.inr (-2), s5)))
      (some (.inr (-3), s5)))
    (some (.inr (-3), s2))
noncomputable def Gr_mirror (x1 : Int) (s : Sg) : Option (Int) :=
  bnd (Gr_column x1 s) fun y1 =>
  bnd (Gr_row x1 s) fun y2 =>
  bnd (Gr_cellAt y1 y2 s) fun y3 =>
  some y3
noncomputable def Hx_swap  (s : Sg) : Option (Int × Sg) :=
  bnd2 (Hx_canSwap s) fun y1 s2 =>
  ifEq y1 0
    (some ((-3), s2))
    (bnd (Hi_remember 10 s2) fun s4 =>
    bnd (Po_moved 10 0 s4) fun y5 =>
    bnd (Po_place 10 y5 (-1) s4) fun s7 =>
    bnd (Gr_mirror y5 s7) fun y8 =>
    bnd (Po_play 10 y8 s7) fun s10 =>
    some (y8, s10))
noncomputable def Hx_giveUp  (s : Sg) : Option (Int × Sg) :=
  bnd2 (Hx_winner s) fun y1 s2 =>
  ifEq y1 (-1)
    (bnd (Hi_remember 10 s2) fun s4 =>
    lett (si s4 10 6 (gi s4 10 5)) fun s5 =>
    bnd2 (Hx_winner s5) fun y6 s7 =>
    some (y6, s7))
    (some ((-3), s2))
noncomputable def Hx_put (x1 : Int) (x2 : Int) (s : Sg) : Option ((Nat ⊕ Int) × Sg) :=
  bndx (Hx_requireCell x1 s) fun y1 s2 =>
  bndx (Hx_requireRange x2 (-1) 1 s2) fun y3 s4 =>
  bnd (Hi_remember 10 s4) fun s6 =>
  bnd (Po_stone 10 x1 s6) fun y7 =>
  bnd (Po_place 10 x1 x2 s6) fun s9 =>
  some (.inr y7, s9)
noncomputable def Hx_setTurn (x1 : Int) (s : Sg) : Option ((Nat ⊕ Int) × Sg) :=
  bndx (Hx_requireSide x1 s) fun y1 s2 =>
  bnd (Hi_remember 10 s2) fun s4 =>
  lett (gi s4 10 5) fun x2_5 =>
  lett (si s4 10 5 x1) fun s6 =>
  some (.inr x2_5, s6)
noncomputable def Po_mirrored (x0 : Int) (s : Sg) : Option (Int) :=
  ifEq x0 (-1)
    (some (-1))
    (bnd (Hx_otherSide x0 s) fun y1 =>
    some y1)
noncomputable def Po_mirror_b62 (r0 : Nat) (x2 : Int) (s : Sg) : Option (((Int × Sg) ⊕ (Sg))) :=
  some (.inl ((x2 + 1), s))
noncomputable def Po_mirror_t2 (r0 : Nat) (x2 : Int) (s : Sg) : Option (((Int × Sg) ⊕ (Sg))) :=
  ifLt x2 ((gi s r0 2) * (gi s r0 2))
    (bnd (Gr_mirror x2 s) fun y1 =>
    ifLt y1 x2
      (Po_mirror_b62 r0 x2 s)
      (bnd (Po_stone r0 x2 s) fun y2 =>
      bnd (Po_stone r0 y1 s) fun y3 =>
      bnd (Po_mirrored y3 s) fun y4 =>
      bnd (Hx_set (r0 + 1) x2 y4 s) fun s6 =>
      bnd (Po_mirrored y2 s6) fun y7 =>
      bnd (Hx_set (r0 + 1) y1 y7 s6) fun s9 =>
      Po_mirror_b62 r0 x2 s9))
    (some (.inr s))
noncomputable def Po_mirror_t70 (r0 : Nat) (x2 : Int) (s : Sg) : Option (((Int × Sg) ⊕ (Sg))) :=
  ifLt x2 (gi s r0 4)
    (bnd (Po_moved r0 x2 s) fun y11 =>
    bnd (Gr_mirror y11 s) fun y12 =>
    bnd (Hx_set (r0 + 2) x2 y12 s) fun s14 =>
    some (.inl ((x2 + 1), s14)))
    (some (.inr s))
noncomputable def Po_mirror_l70 (r0 : Nat) (x2 : Int) (s : Sg) : Option (Sg) :=
  bnd (whl (fun σ : Int × Sg => Po_mirror_t70 r0 σ.1 σ.2) (x2, s)) fun ρ70 =>
    bnd (Hx_otherSide (gi ρ70 r0 5) ρ70) fun y16 =>
    lett (si ρ70 r0 5 y16) fun s17 =>
    bnd (Po_mirrored (gi s17 r0 6) s17) fun y18 =>
    lett (si s17 r0 6 y18) fun s19 =>
    some s19
noncomputable def Po_mirror_l2 (r0 : Nat) (x2 : Int) (s : Sg) : Option (Sg) :=
  bnd (whl (fun σ : Int × Sg => Po_mirror_t2 r0 σ.1 σ.2) (x2, s)) fun ρ2 =>
    Po_mirror_l70 r0 0 ρ2
noncomputable def Po_mirror (r0 : Nat) (s : Sg) : Option (Sg) :=
  Po_mirror_l2 r0 0 s
noncomputable def Hx_turnOver  (s : Sg) : Option (Int × Sg) :=
  bnd (Hi_remember 10 s) fun s2 =>
  bnd (Po_mirror 10 s2) fun s4 =>
  some ((gi s4 10 2), s4)
noncomputable def Hx_makeForced_t2 (x1 : Int) (x2 : Int) (s : Sg) : Option (((Int × Sg) ⊕ ((Int × Sg) ⊕ (Int × Sg)))) :=
  ifLt x2 x1
    (ifLt (gi s 10 4) 200
      (bnd2 (Hx_forcedCell s) fun y1 s2 =>
      ifEq y1 (-1)
        (some (.inr (.inl (x2, s2))))
        (bnd (Po_play 10 y1 s2) fun s4 =>
        some (.inl ((x2 + 1), s4))))
      (some (.inr (.inr (x2, s)))))
    (some (.inr (.inr (x2, s))))
noncomputable def Hx_makeForced_l2 (x1 : Int) (x2 : Int) (s : Sg) : Option (Int × Sg) :=
  bnd (whl (fun σ : Int × Sg => Hx_makeForced_t2 x1 σ.1 σ.2) (x2, s)) fun ρ2 => match ρ2 with
  | .inl ρ2 =>
      some (ρ2.1, ρ2.2)
  | .inr ρ2 =>
      some (ρ2.1, ρ2.2)
noncomputable def Hx_makeForced (x1 : Int) (s : Sg) : Option (Int × Sg) :=
  Hx_makeForced_l2 x1 0 s
noncomputable def Hx_playForced (x1 : Int) (s : Sg) : Option ((Nat ⊕ Int) × Sg) :=
  bndx (Hx_requireRange x1 1 81 s) fun y1 s2 =>
  bnd (Hi_remember 10 s2) fun s4 =>
  bnd2 (Hx_makeForced x1 s4) fun y5 s6 =>
  some (.inr y5, s6)
noncomputable def Hx_forcedWinner  (s : Sg) : Option (Int × Sg) :=
  bnd (Po_copy 13 10 s) fun s2 =>
  bnd2 (Hx_makeForced 81 s2) fun y3 s4 =>
  bnd2 (Hx_winner s4) fun y5 s6 =>
  bnd (Po_copy 10 13 s6) fun s8 =>
  some (y5, s8)
noncomputable def Hx_forcedRow  (s : Sg) : Option (Int × Sg) :=
  bnd (Po_copy 13 10 s) fun s2 =>
  bnd2 (Hx_makeForced 81 s2) fun y3 s4 =>
  bnd (Po_copy 10 13 s4) fun s6 =>
  some (y3, s6)
noncomputable def Hi_back (r1 : Nat) (s : Sg) : Option (Int × Sg) :=
  ifEq (gi s 16 2) 0
    (some (0, s))
    (bnd (Hi_latest ((gi s 16 2) - 1) s) fun y1 =>
    bnd (Po_copy r1 y1 s) fun s3 =>
    lett (si s3 16 2 ((gi s3 16 2) - 1)) fun s4 =>
    some (1, s4))
noncomputable def Hx_undo  (s : Sg) : Option (Int × Sg) :=
  bnd2 (Hi_back 10 s) fun y1 s2 =>
  ifEq y1 0
    (some ((-1), s2))
    (some ((gi s2 16 2), s2))
noncomputable def Hx_saveSnapshot_b21 (u_0 : Nat) (s : Sg) : Option ((Nat ⊕ Int) × Sg) :=
  bnd (Po_copy u_0 10 s) fun s4 =>
  bnd (Po_count 10 (-1) s4) fun y5 =>
  some (.inr y5, s4)
noncomputable def Hx_saveSnapshot (x1 : Int) (s : Sg) : Option ((Nat ⊕ Int) × Sg) :=
  bndx (Hx_requireRange x1 0 1 s) fun y1 s2 =>
  ifEq x1 0
    (Hx_saveSnapshot_b21 42 s2)
    (Hx_saveSnapshot_b21 45 s2)
noncomputable def Po_isBegun (r0 : Nat) (s : Sg) : Option (Int) :=
  ifEq (gi s r0 2) 0
    (some 0)
    (some 1)
noncomputable def Hx_restoreSnapshot_b21 (u_0 : Nat) (s : Sg) : Option ((Nat ⊕ Int) × Sg) :=
  bnd (Po_isBegun u_0 s) fun y3 =>
  ifEq y3 0
    (some (.inr (-1), s))
    (bnd (Po_copy 10 u_0 s) fun s5 =>
    bnd (Gr_fit (gi s5 10 2) s5) fun s7 =>
    bnd (Hi_clear s7) fun s9 =>
    bnd (Po_count 10 (-1) s9) fun y10 =>
    some (.inr y10, s9))
noncomputable def Hx_restoreSnapshot (x1 : Int) (s : Sg) : Option ((Nat ⊕ Int) × Sg) :=
  bndx (Hx_requireRange x1 0 1 s) fun y1 s2 =>
  ifEq x1 0
    (Hx_restoreSnapshot_b21 42 s2)
    (Hx_restoreSnapshot_b21 45 s2)

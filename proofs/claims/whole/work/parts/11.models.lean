/-! ===== models of the methods, out of their bytecode ===== -/
noncomputable def Gr_row (x1 : Int) (s : Sg) : Option (Int) :=
  ifEq (gi s 1 3) 0
    (some 0)
    (grd ((0 ≤ x1 ∧ R x1) ∧ (0 < (gi s 1 3) ∧ R (gi s 1 3))) <|
    some (x1 / (gi s 1 3)))
noncomputable def Gr_edgesOfLine (x1 : Int) (s : Sg) : Option (Int) :=
  ifEq x1 0
    (some 1)
    (ifEq x1 ((gi s 1 3) - 1)
      (some 2)
      (some 0))
noncomputable def Hx_set (r0 : Nat) (x1 : Int) (x2 : Int) (s : Sg) : Option (Sg) :=
  ifLt x1 0
    (some s)
    (ifLt x1 (alen r0 : Int)
      (grd (0 ≤ x1 ∧ x1 < (alen r0 : Int)) <|
      lett (si s r0 x1.toNat x2) fun s2 =>
      some s2)
      (some s))
noncomputable def Gr_column (x1 : Int) (s : Sg) : Option (Int) :=
  ifEq (gi s 1 3) 0
    (some 0)
    (grd ((0 ≤ x1 ∧ R x1) ∧ (0 < (gi s 1 3) ∧ R (gi s 1 3))) <|
    some (x1 % (gi s 1 3)))
noncomputable def Hx_at_b10  (s : Sg) : Option (Int) :=
  some (-1)
noncomputable def Hx_at (r0 : Nat) (x1 : Int) (s : Sg) : Option (Int) :=
  ifLt x1 0
    (Hx_at_b10  s)
    (ifLt x1 (alen r0 : Int)
      (grd (0 ≤ x1 ∧ x1 < (alen r0 : Int)) <|
      some (gi s r0 x1.toNat))
      (Hx_at_b10  s))
noncomputable def Gr_cellAt_b29 (x1 : Int) (x2 : Int) (t0 : Int) (s : Sg) : Option (Int) :=
  ifEq t0 0
    (some (((gi s 1 3) * x1) + x2))
    (some (-1))
noncomputable def Gr_cellAt_b24 (x1 : Int) (x2 : Int) (s : Sg) : Option (Int) :=
  Gr_cellAt_b29 x1 x2 1 s
noncomputable def Gr_cellAt (x1 : Int) (x2 : Int) (s : Sg) : Option (Int) :=
  ifLt x1 0
    (Gr_cellAt_b24 x1 x2 s)
    (ifLt x1 (gi s 1 3)
      (ifLt x2 0
        (Gr_cellAt_b24 x1 x2 s)
        (ifLt x2 (gi s 1 3)
          (Gr_cellAt_b29 x1 x2 0 s)
          (Gr_cellAt_b24 x1 x2 s)))
      (Gr_cellAt_b24 x1 x2 s))
noncomputable def Gr_listNeighbours_b66 (x1 : Int) (x2 : Int) (x3 : Int) (s : Sg) : Option (((Int × Int × Sg) ⊕ (Int × Sg))) :=
  some (.inl (x2, (x3 + 1), s))
noncomputable def Gr_listNeighbours_t4 (x1 : Int) (x2 : Int) (x3 : Int) (s : Sg) : Option (((Int × Int × Sg) ⊕ (Int × Sg))) :=
  ifLt x3 6
    (bnd (Gr_row x1 s) fun y1 =>
    bnd (Hx_at 1000 x3 s) fun y2 =>
    bnd (Gr_column x1 s) fun y3 =>
    bnd (Hx_at 1001 x3 s) fun y4 =>
    bnd (Gr_cellAt (y1 + y2) (y3 + y4) s) fun y5 =>
    ifEq y5 (-1)
      (Gr_listNeighbours_b66 x1 x2 x3 s)
      (bnd (Hx_set 2 ((x1 * 6) + x2) y5 s) fun s7 =>
      Gr_listNeighbours_b66 x1 (x2 + 1) x3 s7))
    (some (.inr (x2, s)))
noncomputable def Gr_listNeighbours_t74 (x1 : Int) (x3 : Int) (s : Sg) : Option (((Int × Sg) ⊕ (Sg))) :=
  ifLt x3 6
    (bnd (Hx_set 2 ((x1 * 6) + x3) (-1) s) fun s11 =>
    some (.inl ((x3 + 1), s11)))
    (some (.inr s))
noncomputable def Gr_listNeighbours_l74 (x1 : Int) (x3 : Int) (s : Sg) : Option (Sg) :=
  bnd (whl (fun σ : Int × Sg => Gr_listNeighbours_t74 x1 σ.1 σ.2) (x3, s)) fun ρ74 =>
    some ρ74
noncomputable def Gr_listNeighbours_l4 (x1 : Int) (x2 : Int) (x3 : Int) (s : Sg) : Option (Sg) :=
  bnd (whl (fun σ : Int × Int × Sg => Gr_listNeighbours_t4 x1 σ.1 σ.2.1 σ.2.2) (x2, x3, s)) fun ρ4 =>
    Gr_listNeighbours_l74 x1 ρ4.1 ρ4.2
noncomputable def Gr_listNeighbours (x1 : Int) (s : Sg) : Option (Sg) :=
  Gr_listNeighbours_l4 x1 0 0 s
noncomputable def Gr_fit_t23 (x2 : Int) (s : Sg) : Option (((Int × Sg) ⊕ (Sg))) :=
  ifLt x2 (gi s 1 4)
    (bnd (Gr_row x2 s) fun y3 =>
    bnd (Gr_edgesOfLine y3 s) fun y4 =>
    bnd (Hx_set 3 x2 y4 s) fun s6 =>
    bnd (Gr_column x2 s6) fun y7 =>
    bnd (Gr_edgesOfLine y7 s6) fun y8 =>
    bnd (Hx_set 4 x2 y8 s6) fun s10 =>
    bnd (Gr_listNeighbours x2 s10) fun s12 =>
    some (.inl ((x2 + 1), s12)))
    (some (.inr s))
noncomputable def Gr_fit_l23 (x2 : Int) (s : Sg) : Option (Sg) :=
  bnd (whl (fun σ : Int × Sg => Gr_fit_t23 σ.1 σ.2) (x2, s)) fun ρ23 =>
    some ρ23
noncomputable def Gr_fit (x1 : Int) (s : Sg) : Option (Sg) :=
  ifEq x1 (gi s 1 3)
    (some s)
    (lett (si s 1 3 x1) fun s1 =>
    lett (si s1 1 4 (x1 * x1)) fun s2 =>
    Gr_fit_l23 0 s2)
noncomputable def Po_begin_t27 (r0 : Nat) (x2 : Int) (s : Sg) : Option (((Int × Sg) ⊕ (Sg))) :=
  ifLt x2 81
    (bnd (Hx_set (r0 + 1) x2 (-1) s) fun s7 =>
    some (.inl ((x2 + 1), s7)))
    (some (.inr s))
noncomputable def Po_begin_l27 (r0 : Nat) (x2 : Int) (s : Sg) : Option (Sg) :=
  bnd (whl (fun σ : Int × Sg => Po_begin_t27 r0 σ.1 σ.2) (x2, s)) fun ρ27 =>
    some ρ27
noncomputable def Po_begin (r0 : Nat) (x1 : Int) (s : Sg) : Option (Sg) :=
  lett (si s r0 2 x1) fun s1 =>
  lett (si s1 r0 3 0) fun s2 =>
  lett (si s2 r0 4 0) fun s3 =>
  lett (si s3 r0 5 0) fun s4 =>
  lett (si s4 r0 6 (-1)) fun s5 =>
  Po_begin_l27 r0 0 s5
noncomputable def By_add (r0 : Nat) (x1 : Int) (s : Sg) : Option (Sg) :=
  ifLt (gi s r0 1) 0
    (some s)
    (ifLt (gi s r0 1) (alen (r0 + 1) : Int)
      (grd (0 ≤ (gi s r0 1) ∧ (gi s r0 1) < (alen (r0 + 1) : Int)) <|
      lett (si s (r0 + 1) (gi s r0 1).toNat x1) fun s2 =>
      lett (si s2 r0 1 ((gi s2 r0 1) + 1)) fun s3 =>
      some s3)
      (some s))
noncomputable def Hx_append_b27 (x1 : Int) (x3 : Int) (x4 : Int) (s : Sg) : Option (((Int × Int) ⊕ (Int))) :=
  some (.inl (x3, (x4 + (-8))))
noncomputable def Hx_append_t6 (x1 : Int) (x3 : Int) (x4 : Int) (s : Sg) : Option (((Int × Int) ⊕ (Int))) :=
  ifLt x4 0
    (some (.inr x3))
    (grd (RL64 (landI (lushrI x1 x4) 255) ∧ RL64 0) <|
    ifEq (lcmpI (landI (lushrI x1 x4) 255) 0) 0
      (Hx_append_b27 x1 x3 x4 s)
      (Hx_append_b27 x1 (x3 + 1) x4 s))
noncomputable def Hx_append_b85 (x1 : Int) (x4 : Int) (s : Sg) : Option (((Int × Sg) ⊕ (Sg))) :=
  some (.inl ((x4 + (-8)), s))
noncomputable def Hx_append_t55 (x1 : Int) (x4 : Int) (s : Sg) : Option (((Int × Sg) ⊕ (Sg))) :=
  ifLt x4 0
    (some (.inr s))
    (lett (landI (lushrI x1 x4) 255) fun x5_3 =>
    ifEq x5_3 0
      (Hx_append_b85 x1 x4 s)
      (bnd (By_add 48 x5_3 s) fun s5 =>
      Hx_append_b85 x1 x4 s5))
noncomputable def Hx_append_l55 (x1 : Int) (x4 : Int) (s : Sg) : Option (Int × Sg) :=
  bnd (whl (fun σ : Int × Sg => Hx_append_t55 x1 σ.1 σ.2) (x4, s)) fun ρ55 =>
    some ((gi ρ55 48 1), ρ55)
noncomputable def Hx_append_l6 (x1 : Int) (x3 : Int) (x4 : Int) (s : Sg) : Option (Int × Sg) :=
  bnd (whl (fun σ : Int × Int => Hx_append_t6 x1 σ.1 σ.2 s) (x3, x4)) fun ρ6 =>
    ifLt 400 ((gi s 48 1) + ρ6)
      (some ((-2), s))
      (Hx_append_l55 x1 56 s)
noncomputable def Hx_append (x1 : Int) (s : Sg) : Option (Int × Sg) :=
  Hx_append_l6 x1 0 56 s
noncomputable def By_get_b26 (r0 : Nat) (x1 : Int) (t0 : Int) (s : Sg) : Option (Int) :=
  ifEq t0 0
    (grd (0 ≤ x1 ∧ x1 < (alen (r0 + 1) : Int)) <|
    some (gi s (r0 + 1) x1.toNat))
    (some (-1))
noncomputable def By_get_b21 (r0 : Nat) (x1 : Int) (s : Sg) : Option (Int) :=
  By_get_b26 r0 x1 1 s
noncomputable def By_get (r0 : Nat) (x1 : Int) (s : Sg) : Option (Int) :=
  ifLt x1 0
    (By_get_b21 r0 x1 s)
    (ifLt x1 (gi s r0 1)
      (ifLt x1 (alen (r0 + 1) : Int)
        (By_get_b26 r0 x1 0 s)
        (By_get_b21 r0 x1 s))
      (By_get_b21 r0 x1 s))
noncomputable def Re_runEnd_t3 (x2 : Int) (x3 : Int) (x4 : Int) (s : Sg) : Option (((Int) ⊕ (Int))) :=
  ifLt x4 (gi s 48 1)
    (bnd (By_get 48 x4 s) fun y1 =>
    ifLt y1 x2
      (some (.inr x4))
      (bnd (By_get 48 x4 s) fun y2 =>
      ifLt x3 y2
        (some (.inr x4))
        (some (.inl (x4 + 1)))))
    (some (.inr x4))
noncomputable def Re_runEnd_l3 (x2 : Int) (x3 : Int) (x4 : Int) (s : Sg) : Option (Int) :=
  bnd (whl (fun σ : Int => Re_runEnd_t3 x2 x3 σ s) x4) fun ρ3 =>
    some ρ3
noncomputable def Re_runEnd (x1 : Int) (x2 : Int) (x3 : Int) (s : Sg) : Option (Int) :=
  Re_runEnd_l3 x2 x3 x1 s
noncomputable def Re_readNumber_t7 (x1 : Int) (x2 : Int) (s : Sg) : Option (((Int × Int) ⊕ (Int))) :=
  ifLt x2 (gi s 52 6)
    (bnd (By_get 48 x2 s) fun y2 =>
    grd (R 1000 ∧ R (((10 * x1) + y2) - 48)) <|
    lett (min 1000 (((10 * x1) + y2) - 48)) fun x1_4 =>
    some (.inl (x1_4, (x2 + 1))))
    (some (.inr x1))
noncomputable def Re_readNumber_l7 (x1 : Int) (x2 : Int) (s : Sg) : Option (Int) :=
  bnd (whl (fun σ : Int × Int => Re_readNumber_t7 σ.1 σ.2 s) (x1, x2)) fun ρ7 =>
    some ρ7
noncomputable def Re_readNumber  (s : Sg) : Option (Int) :=
  lett (gi s 52 5) fun x2_1 =>
  Re_readNumber_l7 0 x2_1 s
noncomputable def Re_advance_b151 (t1 : Int) (s : Sg) : Option (Sg) :=
  lett (si s 52 6 t1) fun s5 =>
  some s5
noncomputable def Re_advance_b129 (x1 : Int) (t1 : Int) (s : Sg) : Option (Sg) :=
  lett (si s 52 4 t1) fun s4 =>
  ifEq x1 (-1)
    (Re_advance_b151 (gi s4 52 5) s4)
    (Re_advance_b151 ((gi s4 52 5) + 1) s4)
noncomputable def Re_advance_b108 (x1 : Int) (s : Sg) : Option (Sg) :=
  ifEq x1 (-1)
    (Re_advance_b129 x1 0 s)
    (ifEq x1 59
      (Re_advance_b129 x1 3 s)
      (Re_advance_b129 x1 4 s))
noncomputable def Re_advance_b64 (x1 : Int) (s : Sg) : Option (Sg) :=
  ifLt x1 48
    (Re_advance_b108 x1 s)
    (ifLt 57 x1
      (Re_advance_b108 x1 s)
      (lett (si s 52 4 2) fun s6 =>
      bnd (Re_runEnd (gi s6 52 5) 48 57 s6) fun y7 =>
      lett (si s6 52 6 y7) fun s8 =>
      bnd (Re_readNumber s8) fun y9 =>
      lett (si s8 52 7 y9) fun s10 =>
      some s10))
noncomputable def Re_advance  (s : Sg) : Option (Sg) :=
  bnd (Re_runEnd (gi s 52 6) 32 32 s) fun y1 =>
  lett (si s 52 5 y1) fun s2 =>
  bnd (By_get 48 (gi s2 52 5) s2) fun y3 =>
  ifLt y3 97
    (Re_advance_b64 y3 s2)
    (ifLt 122 y3
      (Re_advance_b64 y3 s2)
      (lett (si s2 52 4 1) fun s11 =>
      bnd (Re_runEnd (gi s11 52 5) 97 122 s11) fun y12 =>
      lett (si s11 52 6 y12) fun s13 =>
      some s13))
noncomputable def Re_isWord_t28 (r1 : Nat) (x2 : Int) (s : Sg) : Option (((Int) ⊕ ((Unit) ⊕ (Unit)))) :=
  ifLt x2 (slen r1)
    (bnd (By_get 48 ((gi s 52 5) + x2) s) fun y1 =>
    grd (0 ≤ x2 ∧ x2 < slen r1) <|
    ifEq y1 (schr r1 x2)
      (some (.inl (x2 + 1)))
      (some (.inr (.inl ()))))
    (some (.inr (.inr ())))
noncomputable def Re_isWord_l28 (r1 : Nat) (x2 : Int) (s : Sg) : Option (Int) :=
  bnd (whl (fun σ : Int => Re_isWord_t28 r1 σ s) x2) fun ρ28 => match ρ28 with
  | .inl ρ28 =>
      some 0
  | .inr ρ28 =>
      some 1
noncomputable def Re_isWord (r1 : Nat) (s : Sg) : Option (Int) :=
  ifEq (gi s 52 4) 1
    (ifEq ((gi s 52 6) - (gi s 52 5)) (slen r1)
      (Re_isWord_l28 r1 0 s)
      (some 0))
    (some 0)
noncomputable def Re_fail (x1 : Int) (x2 : Int) (s : Sg) : Option (Sg) :=
  lett (si s 52 8 x1) fun s1 =>
  lett (si s1 52 9 x2) fun s2 =>
  some s2
noncomputable def Re_readBoard_b58  (s : Sg) : Option (Sg) :=
  bnd (Re_fail 2 (gi s 52 5) s) fun s5 =>
  some s5
noncomputable def Re_readBoard  (s : Sg) : Option (Sg) :=
  bnd (Re_isWord 0 s) fun y1 =>
  ifEq y1 0
    (bnd (Re_fail 1 (gi s 52 5) s) fun s19 =>
    some s19)
    (bnd (Re_advance s) fun s3 =>
    ifEq (gi s3 52 4) 2
      (ifLt (gi s3 52 7) 2
        (Re_readBoard_b58  s3)
        (ifLt 9 (gi s3 52 7)
          (Re_readBoard_b58  s3)
          (bnd (Po_begin 53 (gi s3 52 7) s3) fun s7 =>
          bnd (Gr_fit (gi s7 52 7) s7) fun s9 =>
          bnd (Re_advance s9) fun s11 =>
          bnd (Re_isWord 1 s11) fun y12 =>
          ifEq y12 0
            (some s11)
            (lett (si s11 53 3 1) fun s13 =>
            bnd (Re_advance s13) fun s15 =>
            some s15))))
      (bnd (Re_fail 1 (gi s3 52 5) s3) fun s17 =>
      some s17))
noncomputable def Re_sideWord  (s : Sg) : Option (Int) :=
  bnd (Re_isWord 4 s) fun y1 =>
  ifEq y1 0
    (bnd (Re_isWord 5 s) fun y2 =>
    ifEq y2 0
      (some (-1))
      (some 1))
    (some 0)
noncomputable def Re_readTurn  (s : Sg) : Option (Sg) :=
  bnd (Re_sideWord s) fun y1 =>
  ifEq y1 (-1)
    (bnd (Re_fail 1 (gi s 52 5) s) fun s6 =>
    some s6)
    (lett (si s 53 5 y1) fun s2 =>
    bnd (Re_advance s2) fun s4 =>
    some s4)
noncomputable def Gr_edges_b26  (s : Sg) : Option (Int) :=
  some 0
noncomputable def Gr_edges_b15 (x1 : Int) (u_0 : Nat) (s : Sg) : Option (Int) :=
  ifLt x1 0
    (Gr_edges_b26  s)
    (ifLt x1 (alen u_0 : Int)
      (grd (0 ≤ x1 ∧ x1 < (alen u_0 : Int)) <|
      some (gi s u_0 x1.toNat))
      (Gr_edges_b26  s))
noncomputable def Gr_edges (x1 : Int) (x2 : Int) (s : Sg) : Option (Int) :=
  ifEq x2 0
    (Gr_edges_b15 x1 3 s)
    (Gr_edges_b15 x1 4 s)
noncomputable def Gr_near_b35 (x3 : Int) (t0 : Int) (s : Sg) : Option (Int) :=
  ifEq t0 0
    (grd (0 ≤ x3 ∧ x3 < 486) <|
    some (gi s 2 x3.toNat))
    (some (-1))
noncomputable def Gr_near_b30 (x3 : Int) (s : Sg) : Option (Int) :=
  Gr_near_b35 x3 1 s
noncomputable def Gr_near (x1 : Int) (x2 : Int) (s : Sg) : Option (Int) :=
  lett ((x1 * 6) + x2) fun x3_1 =>
  ifLt x2 0
    (Gr_near_b30 x3_1 s)
    (ifLt x2 6
      (ifLt x3_1 0
        (Gr_near_b30 x3_1 s)
        (ifLt x3_1 486
          (Gr_near_b35 x3_1 0 s)
          (Gr_near_b30 x3_1 s)))
      (Gr_near_b30 x3_1 s))
noncomputable def Li_flood_b146 (r1 : Nat) (x2 : Int) (x3 : Int) (x4 : Int) (x5 : Int) (x6 : Int) (x7 : Int) (s : Sg) : Option (((Int × Int × Sg) ⊕ (Int × Sg))) :=
  some (.inl (x4, (x7 + 1), s))
noncomputable def Li_flood_t70 (r1 : Nat) (x2 : Int) (x3 : Int) (x4 : Int) (x5 : Int) (x6 : Int) (x7 : Int) (s : Sg) : Option (((Int × Int × Sg) ⊕ (Int × Sg))) :=
  ifLt x7 6
    (bnd (Gr_near x6 x7 s) fun y8 =>
    ifEq y8 (-1)
      (Li_flood_b146 r1 x2 x3 x4 x5 x6 x7 s)
      (bnd (Hx_at r1 y8 s) fun y9 =>
      ifEq y9 (gi s 5 5)
        (bnd (Hx_at 6 y8 s) fun y10 =>
        ifEq y10 (-1)
          (bnd (Hx_set 6 y8 x2 s) fun s12 =>
          bnd (Hx_set 9 x4 y8 s12) fun s14 =>
          Li_flood_b146 r1 x2 x3 (x4 + 1) x5 x6 x7 s14)
          (Li_flood_b146 r1 x2 x3 x4 x5 x6 x7 s))
        (Li_flood_b146 r1 x2 x3 x4 x5 x6 x7 s)))
    (some (.inr (x4, s)))
noncomputable def Li_flood_l70 (r1 : Nat) (x2 : Int) (x3 : Int) (x4 : Int) (x5 : Int) (x6 : Int) (x7 : Int) (s : Sg) : Option (((Int × Int × Int × Sg) ⊕ (Int × Int × Sg))) :=
  bnd (whl (fun σ : Int × Int × Sg => Li_flood_t70 r1 x2 x3 σ.1 x5 x6 σ.2.1 σ.2.2) (x4, x7, s)) fun ρ70 =>
    some (.inl (x3, ρ70.1, (x5 + 1), ρ70.2))
noncomputable def Li_flood_t26 (r1 : Nat) (x2 : Int) (x3 : Int) (x4 : Int) (x5 : Int) (s : Sg) : Option (((Int × Int × Int × Sg) ⊕ (Int × Int × Sg))) :=
  ifLt x5 x4
    (ifLt x5 81
      (bnd (Hx_at 9 x5 s) fun y5 =>
      bnd (Gr_edges y5 (gi s 5 5) s) fun y6 =>
      lett (iorI x3 y6) fun x3_7 =>
      Li_flood_l70 r1 x2 x3_7 x4 x5 y5 0 s)
      (some (.inr (x3, x4, s))))
    (some (.inr (x3, x4, s)))
noncomputable def Li_flood_b158 (x2 : Int) (x3 : Int) (x4 : Int) (s : Sg) : Option (Sg) :=
  bnd (Hx_set 7 x2 x3 s) fun s21 =>
  bnd (Hx_set 8 x2 x4 s21) fun s23 =>
  some s23
noncomputable def Li_flood_l26 (r1 : Nat) (x2 : Int) (x3 : Int) (x4 : Int) (x5 : Int) (s : Sg) : Option (Sg) :=
  bnd (whl (fun σ : Int × Int × Int × Sg => Li_flood_t26 r1 x2 σ.1 σ.2.1 σ.2.2.1 σ.2.2.2) (x3, x4, x5, s)) fun ρ26 =>
    Li_flood_b158 x2 ρ26.1 ρ26.2.1 ρ26.2.2
noncomputable def Li_flood (r1 : Nat) (x2 : Int) (s : Sg) : Option (Sg) :=
  bnd (Hx_set 6 x2 x2 s) fun s2 =>
  bnd (Hx_set 9 0 x2 s2) fun s4 =>
  Li_flood_l26 r1 x2 0 1 0 s4
noncomputable def Li_gather_t7 (r1 : Nat) (x3 : Int) (s : Sg) : Option (((Int × Sg) ⊕ (Sg))) :=
  ifLt x3 81
    (bnd (Hx_set 6 x3 (-1) s) fun s3 =>
    some (.inl ((x3 + 1), s3)))
    (some (.inr s))
noncomputable def Li_gather_b71 (r1 : Nat) (x3 : Int) (s : Sg) : Option (((Int × Sg) ⊕ (Sg))) :=
  some (.inl ((x3 + 1), s))
noncomputable def Li_gather_t30 (r1 : Nat) (x3 : Int) (s : Sg) : Option (((Int × Sg) ⊕ (Sg))) :=
  ifLt x3 (gi s 1 4)
    (bnd (Hx_at r1 x3 s) fun y5 =>
    ifEq y5 (gi s 5 5)
      (bnd (Hx_at 6 x3 s) fun y6 =>
      ifEq y6 (-1)
        (bnd (Li_flood r1 x3 s) fun s8 =>
        Li_gather_b71 r1 x3 s8)
        (Li_gather_b71 r1 x3 s))
      (Li_gather_b71 r1 x3 s))
    (some (.inr s))
noncomputable def Li_gather_l30 (r1 : Nat) (x3 : Int) (s : Sg) : Option (Sg) :=
  bnd (whl (fun σ : Int × Sg => Li_gather_t30 r1 σ.1 σ.2) (x3, s)) fun ρ30 =>
    some ρ30
noncomputable def Li_gather_l7 (r1 : Nat) (x3 : Int) (s : Sg) : Option (Sg) :=
  bnd (whl (fun σ : Int × Sg => Li_gather_t7 r1 σ.1 σ.2) (x3, s)) fun ρ7 =>
    Li_gather_l30 r1 0 ρ7
noncomputable def Li_gather (r1 : Nat) (x2 : Int) (s : Sg) : Option (Sg) :=
  lett (si s 5 5 x2) fun s1 =>
  Li_gather_l7 r1 0 s1
noncomputable def Li_top (x1 : Int) (s : Sg) : Option (Int) :=
  bnd (Hx_at 6 x1 s) fun y1 =>
  some y1
noncomputable def Li_joined_b36 (x1 : Int) (s : Sg) : Option (((Int) ⊕ ((Unit) ⊕ (Unit)))) :=
  some (.inl (x1 + 1))
noncomputable def Li_joined_t2 (x1 : Int) (s : Sg) : Option (((Int) ⊕ ((Unit) ⊕ (Unit)))) :=
  ifLt x1 (gi s 1 4)
    (bnd (Li_top x1 s) fun y1 =>
    ifEq y1 x1
      (bnd (Hx_at 7 x1 s) fun y2 =>
      ifEq y2 3
        (some (.inr (.inl ())))
        (Li_joined_b36 x1 s))
      (Li_joined_b36 x1 s))
    (some (.inr (.inr ())))
noncomputable def Li_joined_l2 (x1 : Int) (s : Sg) : Option (Int) :=
  bnd (whl (fun σ : Int => Li_joined_t2 σ s) x1) fun ρ2 => match ρ2 with
  | .inl ρ2 =>
      some 1
  | .inr ρ2 =>
      some 0
noncomputable def Li_joined  (s : Sg) : Option (Int) :=
  Li_joined_l2 0 s
noncomputable def Hx_otherSide (x0 : Int) (s : Sg) : Option (Int) :=
  ifEq x0 0
    (some 1)
    (some 0)
noncomputable def Po_winner_t2 (r0 : Nat) (x2 : Int) (s : Sg) : Option (((Int × Sg) ⊕ ((Int × Sg) ⊕ (Sg)))) :=
  ifLt 1 x2
    (some (.inr (.inr s)))
    (bnd (Li_gather (r0 + 1) x2 s) fun s2 =>
    bnd (Li_joined s2) fun y3 =>
    ifEq y3 0
      (some (.inl ((x2 + 1), s2)))
      (some (.inr (.inl (x2, s2)))))
noncomputable def Po_winner_l2 (r0 : Nat) (x2 : Int) (s : Sg) : Option (Int × Sg) :=
  bnd (whl (fun σ : Int × Sg => Po_winner_t2 r0 σ.1 σ.2) (x2, s)) fun ρ2 => match ρ2 with
  | .inl ρ2 =>
      some (ρ2.1, ρ2.2)
  | .inr ρ2 =>
      ifEq (gi ρ2 r0 6) (-1)
        (some ((-1), ρ2))
        (bnd (Hx_otherSide (gi ρ2 r0 6) ρ2) fun y7 =>
        some (y7, ρ2))
noncomputable def Po_winner (r0 : Nat) (s : Sg) : Option (Int × Sg) :=
  Po_winner_l2 r0 0 s
noncomputable def Re_readColumn_b21  (s : Sg) : Option (Int × Sg) :=
  bnd (Re_fail 1 (gi s 52 5) s) fun s2 =>
  some ((-1), s2)
noncomputable def Re_readColumn (x1 : Int) (s : Sg) : Option (Int × Sg) :=
  ifEq (gi s 52 4) 1
    (ifEq ((gi s 52 6) - (gi s 52 5)) 1
      (bnd (By_get 48 (gi s 52 5) s) fun y3 =>
      lett (y3 - 97) fun x2_4 =>
      ifLt x2_4 (gi s 53 2)
        (ifEq x1 0
          (bnd (Re_advance s) fun s6 =>
          some (x2_4, s6))
          (bnd (Re_fail 4 (gi s 52 5) s) fun s8 =>
          some ((-1), s8)))
        (bnd (Re_fail 2 (gi s 52 5) s) fun s10 =>
        some ((-1), s10)))
      (Re_readColumn_b21  s))
    (Re_readColumn_b21  s)
noncomputable def Re_readRow_b41  (s : Sg) : Option (Int × Sg) :=
  bnd (Re_fail 2 (gi s 52 5) s) fun s2 =>
  some ((-1), s2)
noncomputable def Re_readRow  (s : Sg) : Option (Int × Sg) :=
  ifEq (gi s 52 4) 2
    (ifLt (gi s 52 7) 1
      (Re_readRow_b41  s)
      (ifLt (gi s 53 2) (gi s 52 7)
        (Re_readRow_b41  s)
        (lett ((gi s 52 7) - 1) fun x1_3 =>
        bnd (Re_advance s) fun s5 =>
        some (x1_3, s5))))
    (bnd (Re_fail 1 (gi s 52 5) s) fun s7 =>
    some ((-1), s7))
noncomputable def Po_stone (r0 : Nat) (x1 : Int) (s : Sg) : Option (Int) :=
  bnd (Hx_at (r0 + 1) x1 s) fun y1 =>
  some y1
noncomputable def Po_play (r0 : Nat) (x1 : Int) (s : Sg) : Option (Sg) :=
  bnd (Hx_set (r0 + 1) x1 (gi s r0 5) s) fun s2 =>
  bnd (Hx_set (r0 + 2) (gi s2 r0 4) x1 s2) fun s4 =>
  lett (si s4 r0 4 ((gi s4 r0 4) + 1)) fun s5 =>
  bnd (Hx_otherSide (gi s5 r0 5) s5) fun y6 =>
  lett (si s5 r0 5 y6) fun s7 =>
  some s7
noncomputable def Po_place (r0 : Nat) (x1 : Int) (x2 : Int) (s : Sg) : Option (Sg) :=
  bnd (Hx_set (r0 + 1) x1 x2 s) fun s2 =>
  some s2
noncomputable def Re_readCell_b54 (x1 : Int) (x2 : Int) (x3 : Int) (x5 : Int) (t0 : Int) (s : Sg) : Option (Sg) :=
  ifEq (gi s 52 8) 0
    (bnd (Gr_cellAt t0 x5 s) fun y4 =>
    bnd (Po_stone 53 y4 s) fun y5 =>
    ifEq y5 (-1)
      (ifEq x1 0
        (bnd (Po_place 53 y4 x2 s) fun s7 =>
        some s7)
        (bnd (Po_play 53 y4 s) fun s9 =>
        some s9))
      (bnd (Re_fail 3 x3 s) fun s11 =>
      some s11))
    (some s)
noncomputable def Re_readCell_b29 (x1 : Int) (x2 : Int) (x3 : Int) (t0 : Int) (s : Sg) : Option (Sg) :=
  bnd2 (Re_readColumn t0 s) fun y2 s3 =>
  ifEq (gi s3 52 8) 0
    (bnd2 (Re_readRow s3) fun y12 s13 =>
    Re_readCell_b54 x1 x2 x3 y2 y12 s13)
    (Re_readCell_b54 x1 x2 x3 y2 (-1) s3)
noncomputable def Re_readCell_b28 (x1 : Int) (x2 : Int) (x3 : Int) (s : Sg) : Option (Sg) :=
  Re_readCell_b29 x1 x2 x3 0 s
noncomputable def Re_readCell (x1 : Int) (x2 : Int) (s : Sg) : Option (Sg) :=
  lett (gi s 52 5) fun x3_1 =>
  ifEq x1 0
    (Re_readCell_b28 x1 x2 x3_1 s)
    (bnd2 (Po_winner 53 s) fun y14 s15 =>
    ifEq y14 (-1)
      (Re_readCell_b28 x1 x2 x3_1 s15)
      (Re_readCell_b29 x1 x2 x3_1 1 s15))
noncomputable def Re_readStatement_b85 (x1 : Int) (x3 : Int) (x4 : Int) (s : Sg) : Option (((Int × Sg) ⊕ (Sg))) :=
  bnd (Re_readCell x1 x3 s) fun s7 =>
  some (.inl ((x4 + 1), s7))
noncomputable def Re_readStatement_t58 (x1 : Int) (x3 : Int) (x4 : Int) (s : Sg) : Option (((Int × Sg) ⊕ (Sg))) :=
  ifLt 81 x4
    (some (.inr s))
    (ifEq (gi s 52 8) 0
      (ifEq x4 0
        (Re_readStatement_b85 x1 x3 x4 s)
        (ifEq (gi s 52 4) 1
          (Re_readStatement_b85 x1 x3 x4 s)
          (some (.inr s))))
      (some (.inr s)))
noncomputable def Re_readStatement_l58 (x1 : Int) (x3 : Int) (x4 : Int) (s : Sg) : Option (Sg) :=
  bnd (whl (fun σ : Int × Sg => Re_readStatement_t58 x1 x3 σ.1 σ.2) (x4, s)) fun ρ58 =>
    some ρ58
noncomputable def Re_readStatement_b42 (x1 : Int) (x2 : Int) (x3 : Int) (s : Sg) : Option (Sg) :=
  bnd (Re_advance s) fun s5 =>
  ifEq x2 0
    (Re_readStatement_l58 x1 x3 0 s5)
    (bnd (Re_readTurn s5) fun s10 =>
    some s10)
noncomputable def Re_readStatement  (s : Sg) : Option (Sg) :=
  bnd (Re_isWord 2 s) fun y1 =>
  bnd (Re_isWord 3 s) fun y2 =>
  bnd (Re_sideWord s) fun y3 =>
  ifEq y1 0
    (ifEq y2 0
      (ifEq y3 (-1)
        (bnd (Re_fail 1 (gi s 52 5) s) fun s12 =>
        some s12)
        (Re_readStatement_b42 y1 y2 y3 s))
      (Re_readStatement_b42 y1 y2 y3 s))
    (Re_readStatement_b42 y1 y2 y3 s)
noncomputable def Re_read_t25 (x1 : Int) (s : Sg) : Option (((Int × Sg) ⊕ (Sg))) :=
  ifLt x1 400
    (ifEq (gi s 52 8) 0
      (ifEq (gi s 52 4) 3
        (lett (si s 52 10 ((gi s 52 10) + 1)) fun s8 =>
        bnd (Re_advance s8) fun s10 =>
        bnd (Re_readStatement s10) fun s12 =>
        some (.inl ((x1 + 1), s12)))
        (some (.inr s)))
      (some (.inr s)))
    (some (.inr s))
noncomputable def Re_read_b94  (s : Sg) : Option (Int × Sg) :=
  ifEq (gi s 52 8) 0
    (some (1, s))
    (some (0, s))
noncomputable def Re_read_b71  (s : Sg) : Option (Int × Sg) :=
  ifEq (gi s 52 8) 0
    (ifEq (gi s 52 4) 0
      (Re_read_b94  s)
      (bnd (Re_fail 1 (gi s 52 5) s) fun s15 =>
      Re_read_b94  s15))
    (Re_read_b94  s)
noncomputable def Re_read_l25 (x1 : Int) (s : Sg) : Option (Int × Sg) :=
  bnd (whl (fun σ : Int × Sg => Re_read_t25 σ.1 σ.2) (x1, s)) fun ρ25 =>
    Re_read_b71  ρ25
noncomputable def Re_read  (s : Sg) : Option (Int × Sg) :=
  lett (si s 52 8 0) fun s1 =>
  lett (si s1 52 10 0) fun s2 =>
  lett (si s2 52 6 0) fun s3 =>
  bnd (Re_advance s3) fun s5 =>
  bnd (Re_readBoard s5) fun s7 =>
  Re_read_l25 0 s7
noncomputable def By_clear (r0 : Nat) (s : Sg) : Option (Sg) :=
  lett (si s r0 1 0) fun s1 =>
  some s1
noncomputable def Po_copy (r0 : Nat) (r1 : Nat) (s : Sg) : Option (Sg) :=
  lett (si s r0 2 (gi s r1 2)) fun s1 =>
  grd (b01 (gi s1 r1 3)) <|
  lett (si s1 r0 3 (gi s1 r1 3)) fun s3 =>
  lett (si s3 r0 4 (gi s3 r1 4)) fun s4 =>
  lett (si s4 r0 5 (gi s4 r1 5)) fun s5 =>
  lett (si s5 r0 6 (gi s5 r1 6)) fun s6 =>
  lett (cpy s6 (r1 + 1) (r0 + 1) 81) fun s7 =>
  lett (cpy s7 (r1 + 2) (r0 + 2) 200) fun s8 =>
  some s8
noncomputable def Hi_clear  (s : Sg) : Option (Sg) :=
  lett (si s 16 2 0) fun s1 =>
  some s1
noncomputable def Hx_load  (s : Sg) : Option (Int × Sg) :=
  bnd2 (Re_read s) fun y1 s2 =>
  bnd (By_clear 48 s2) fun s4 =>
  ifEq y1 0
    (bnd (Gr_fit (gi s4 10 2) s4) fun s12 =>
    some (((-100) - (gi s12 52 9)), s12))
    (bnd (Po_copy 10 53 s4) fun s6 =>
    bnd (Gr_fit (gi s6 10 2) s6) fun s8 =>
    bnd (Hi_clear s8) fun s10 =>
    some ((gi s10 10 2), s10))
noncomputable def Hx_loadError  (s : Sg) : Option (Int) :=
  some (gi s 52 8)
noncomputable def Hx_loadStatement  (s : Sg) : Option (Int) :=
  ifEq (gi s 52 8) 0
    (some (-1))
    (some (gi s 52 10))
noncomputable def Po_count_b29 (r0 : Nat) (x1 : Int) (x2 : Int) (x3 : Int) (s : Sg) : Option (((Int × Int) ⊕ (Int))) :=
  some (.inl (x2, (x3 + 1)))
noncomputable def Po_count_t4 (r0 : Nat) (x1 : Int) (x2 : Int) (x3 : Int) (s : Sg) : Option (((Int × Int) ⊕ (Int))) :=
  ifLt x3 ((gi s r0 2) * (gi s r0 2))
    (bnd (Po_stone r0 x3 s) fun y1 =>
    ifEq y1 x1
      (Po_count_b29 r0 x1 (x2 + 1) x3 s)
      (Po_count_b29 r0 x1 x2 x3 s))
    (some (.inr x2))
noncomputable def Po_count_l4 (r0 : Nat) (x1 : Int) (x2 : Int) (x3 : Int) (s : Sg) : Option (Int) :=
  bnd (whl (fun σ : Int × Int => Po_count_t4 r0 x1 σ.1 σ.2 s) (x2, x3)) fun ρ4 =>
    some ρ4
noncomputable def Po_count (r0 : Nat) (x1 : Int) (s : Sg) : Option (Int) :=
  Po_count_l4 r0 x1 0 0 s
noncomputable def Hx_winner  (s : Sg) : Option (Int × Sg) :=
  bnd2 (Po_winner 10 s) fun y1 s2 =>
  some (y1, s2)
noncomputable def Po_moved_b12  (s : Sg) : Option (Int) :=
  some (-1)
noncomputable def Po_moved (r0 : Nat) (x1 : Int) (s : Sg) : Option (Int) :=
  ifLt x1 0
    (Po_moved_b12  s)
    (ifLt x1 (gi s r0 4)
      (bnd (Hx_at (r0 + 2) x1 s) fun y1 =>
      some y1)
      (Po_moved_b12  s))
noncomputable def Hx_canSwap_b25 (t0 : Int) (s : Sg) : Option (Int × Sg) :=
  ifEq (gi s 10 3) 0
    (some (0, s))
    (ifEq (gi s 10 4) 1
      (ifEq t0 0
        (some (0, s))
        (bnd (Po_moved 10 0 s) fun y2 =>
        bnd (Po_stone 10 y2 s) fun y3 =>
        bnd (Hx_otherSide (gi s 10 5) s) fun y4 =>
        ifEq y3 y4
          (bnd2 (Hx_winner s) fun y5 s6 =>
          ifEq y5 (-1)
            (some (1, s6))
            (some (0, s6)))
          (some (0, s))))
      (some (0, s)))
noncomputable def Hx_canSwap  (s : Sg) : Option (Int × Sg) :=
  bnd (Po_count 10 (-1) s) fun y1 =>
  ifEq ((gi s 1 4) - y1) 1
    (Hx_canSwap_b25 1 s)
    (Hx_canSwap_b25 0 s)
noncomputable def Hx_size (x1 : Int) (s : Sg) : Option ((Nat ⊕ Int) × Sg) :=
  ifEq x1 0
    (some (.inr (gi s 10 2), s))
    (ifEq x1 1
      (bnd (Po_count 10 0 s) fun y3 =>
      some (.inr y3, s))
      (ifEq x1 2
        (bnd (Po_count 10 1 s) fun y6 =>
        some (.inr y6, s))
        (ifEq x1 3
          (bnd (Po_count 10 (-1) s) fun y9 =>
          some (.inr y9, s))
          (ifEq x1 4
            (some (.inr (gi s 10 4), s))
            (ifEq x1 5
              (some (.inr (gi s 10 5), s))
              (ifEq x1 6
                (bnd2 (Hx_winner s) fun y16 s17 =>
                some (.inr y16, s17))
                (ifEq x1 7
                  (bnd2 (Hx_canSwap s) fun y20 s21 =>
                  ifEq y20 0
                    (some (.inr 0, s21))
                    (some (.inr 1, s21)))
                  (ifEq x1 8
                    (some (.inr (gi s 10 6), s))
                    (ifEq x1 9
                      (some (.inr (gi s 16 2), s))
                      (some (.inl 0, s)))))))))))
noncomputable def Hx_requireCell_b15  (s : Sg) : Option ((Nat ⊕ Int) × Sg) :=
  some (.inl 1, s)
noncomputable def Hx_requireCell (x1 : Int) (s : Sg) : Option ((Nat ⊕ Int) × Sg) :=
  ifLt x1 0
    (Hx_requireCell_b15  s)
    (ifLt x1 (gi s 1 4)
      (some (.inr 0, s))
      (Hx_requireCell_b15  s))
noncomputable def Hx_cell (x1 : Int) (s : Sg) : Option ((Nat ⊕ Int) × Sg) :=
  bndx (Hx_requireCell x1 s) fun y1 s2 =>
  bnd (Po_stone 10 x1 s2) fun y3 =>
  some (.inr y3, s2)
noncomputable def Hx_neighbour (x1 : Int) (x2 : Int) (s : Sg) : Option ((Nat ⊕ Int) × Sg) :=
  bndx (Hx_requireCell x1 s) fun y1 s2 =>
  bnd (Gr_near x1 x2 s2) fun y3 =>
  some (.inr y3, s2)
noncomputable def Hx_requireRange_b10  (s : Sg) : Option ((Nat ⊕ Int) × Sg) :=
  some (.inl 0, s)
noncomputable def Hx_requireRange (x0 : Int) (x1 : Int) (x2 : Int) (s : Sg) : Option ((Nat ⊕ Int) × Sg) :=
  ifLt x0 x1
    (Hx_requireRange_b10  s)
    (ifLt x2 x0
      (Hx_requireRange_b10  s)
      (some (.inr 0, s)))
noncomputable def Li_isBeside_b32 (x1 : Int) (x2 : Int) (x3 : Int) (s : Sg) : Option (((Int) ⊕ ((Unit) ⊕ (Unit)))) :=
  some (.inl (x3 + 1))
noncomputable def Li_isBeside_t2 (x1 : Int) (x2 : Int) (x3 : Int) (s : Sg) : Option (((Int) ⊕ ((Unit) ⊕ (Unit)))) :=
  ifLt x3 6
    (ifEq x2 (-1)
      (Li_isBeside_b32 x1 x2 x3 s)
      (bnd (Gr_near x1 x3 s) fun y1 =>
      bnd (Li_top y1 s) fun y2 =>
      ifEq y2 x2
        (some (.inr (.inl ())))
        (Li_isBeside_b32 x1 x2 x3 s)))
    (some (.inr (.inr ())))
noncomputable def Li_isBeside_l2 (x1 : Int) (x2 : Int) (x3 : Int) (s : Sg) : Option (Int) :=
  bnd (whl (fun σ : Int => Li_isBeside_t2 x1 x2 σ s) x3) fun ρ2 => match ρ2 with
  | .inl ρ2 =>
      some 1
  | .inr ρ2 =>
      some 0
noncomputable def Li_isBeside (x1 : Int) (x2 : Int) (s : Sg) : Option (Int) :=
  Li_isBeside_l2 x1 x2 0 s
noncomputable def Hx_liberties_b42 (x1 : Int) (x2 : Int) (x3 : Int) (s : Sg) : Option (((Int × Int) ⊕ (Int))) :=
  some (.inl (x2, (x3 + 1)))
noncomputable def Hx_liberties_t4 (x1 : Int) (x2 : Int) (x3 : Int) (s : Sg) : Option (((Int × Int) ⊕ (Int))) :=
  ifLt x3 (gi s 1 4)
    (bnd (Po_stone 10 x3 s) fun y1 =>
    ifEq y1 (-1)
      (bnd (Li_isBeside x3 x1 s) fun y2 =>
      ifEq y2 0
        (Hx_liberties_b42 x1 x2 x3 s)
        (Hx_liberties_b42 x1 (x2 + 1) x3 s))
      (Hx_liberties_b42 x1 x2 x3 s))
    (some (.inr x2))
noncomputable def Hx_liberties_l4 (x1 : Int) (x2 : Int) (x3 : Int) (s : Sg) : Option (Int) :=
  bnd (whl (fun σ : Int × Int => Hx_liberties_t4 x1 σ.1 σ.2 s) (x2, x3)) fun ρ4 =>
    some ρ4
noncomputable def Hx_liberties (x1 : Int) (s : Sg) : Option (Int) :=
  Hx_liberties_l4 x1 0 0 s
noncomputable def Li_number_b30 (x3 : Int) (u_0 : Nat) (s : Sg) : Option (Int) :=
  bnd (Hx_at u_0 x3 s) fun y2 =>
  some y2
noncomputable def Li_number (x1 : Int) (x2 : Int) (s : Sg) : Option (Int) :=
  bnd (Li_top x1 s) fun y1 =>
  ifEq x2 0
    (some y1)
    (ifEq x2 1
      (Li_number_b30 y1 8 s)
      (Li_number_b30 y1 7 s))
noncomputable def Hx_group (x1 : Int) (x2 : Int) (s : Sg) : Option ((Nat ⊕ Int) × Sg) :=
  bndx (Hx_requireCell x1 s) fun y1 s2 =>
  bndx (Hx_requireRange x2 0 3 s2) fun y3 s4 =>
  bnd (Po_stone 10 x1 s4) fun y5 =>
  ifEq y5 (-1)
    (some (.inr (-1), s4))
    (bnd (Li_gather 11 y5 s4) fun s7 =>
    ifEq x2 2
      (bnd (Li_top x1 s7) fun y9 =>
      bnd (Hx_liberties y9 s7) fun y10 =>
      some (.inr y10, s7))
      (bnd (Li_number x1 x2 s7) fun y8 =>
      some (.inr y8, s7)))
noncomputable def Hx_requireSide (x0 : Int) (s : Sg) : Option ((Nat ⊕ Int) × Sg) :=
  ifEq x0 0
    (some (.inr 0, s))
    (ifEq x0 1
      (some (.inr 0, s))
      (some (.inl 0, s)))
noncomputable def Li_parts_b27 (x1 : Int) (x2 : Int) (s : Sg) : Option (((Int × Int) ⊕ (Int))) :=
  some (.inl (x1, (x2 + 1)))
noncomputable def Li_parts_t4 (x1 : Int) (x2 : Int) (s : Sg) : Option (((Int × Int) ⊕ (Int))) :=
  ifLt x2 (gi s 1 4)
    (bnd (Li_top x2 s) fun y1 =>
    ifEq y1 x2
      (Li_parts_b27 (x1 + 1) x2 s)
      (Li_parts_b27 x1 x2 s))
    (some (.inr x1))
noncomputable def Li_parts_l4 (x1 : Int) (x2 : Int) (s : Sg) : Option (Int) :=
  bnd (whl (fun σ : Int × Int => Li_parts_t4 σ.1 σ.2 s) (x1, x2)) fun ρ4 =>
    some ρ4
noncomputable def Li_parts  (s : Sg) : Option (Int) :=
  Li_parts_l4 0 0 s
noncomputable def Hx_groups (x1 : Int) (s : Sg) : Option ((Nat ⊕ Int) × Sg) :=
  bndx (Hx_requireSide x1 s) fun y1 s2 =>
  bnd (Li_gather 11 x1 s2) fun s4 =>
  bnd (Li_parts s4) fun y5 =>
  some (.inr y5, s4)
noncomputable def Li_largestPart_b49 (x1 : Int) (x2 : Int) (x3 : Int) (s : Sg) : Option (((Int × Int × Int) ⊕ (Int))) :=
  some (.inl (x1, x2, (x3 + 1)))
noncomputable def Li_largestPart_t6 (x1 : Int) (x2 : Int) (x3 : Int) (s : Sg) : Option (((Int × Int × Int) ⊕ (Int))) :=
  ifLt x3 (gi s 1 4)
    (bnd (Li_top x3 s) fun y1 =>
    ifEq y1 x3
      (bnd (Hx_at 8 x3 s) fun y2 =>
      ifLt x2 y2
        (bnd (Hx_at 8 x3 s) fun y3 =>
        Li_largestPart_b49 x3 y3 x3 s)
        (Li_largestPart_b49 x1 x2 x3 s))
      (Li_largestPart_b49 x1 x2 x3 s))
    (some (.inr x1))
noncomputable def Li_largestPart_l6 (x1 : Int) (x2 : Int) (x3 : Int) (s : Sg) : Option (Int) :=
  bnd (whl (fun σ : Int × Int × Int => Li_largestPart_t6 σ.1 σ.2.1 σ.2.2 s) (x1, x2, x3)) fun ρ6 =>
    some ρ6
noncomputable def Li_largestPart  (s : Sg) : Option (Int) :=
  Li_largestPart_l6 (-1) 0 0 s
noncomputable def Hx_largest (x1 : Int) (s : Sg) : Option ((Nat ⊕ Int) × Sg) :=
  bndx (Hx_requireSide x1 s) fun y1 s2 =>
  bnd (Li_gather 11 x1 s2) fun s4 =>
  bnd (Li_largestPart s4) fun y5 =>
  some (.inr y5, s4)
noncomputable def Bl_addIfFree_b154 (x4 : Int) (x5 : Int) (x7 : Int) (t1 : Int) (t2 : Int) (s : Sg) : Option (Sg) :=
  bnd (Hx_set 61 t1 t2 s) fun s11 =>
  lett (si s11 56 7 ((gi s11 56 7) + 1)) fun s12 =>
  ifEq x7 0
    (some s12)
    (bnd (Hx_set 62 x4 1 s12) fun s14 =>
    bnd (Hx_set 62 x5 1 s14) fun s16 =>
    some s16)
noncomputable def Bl_addIfFree_b84 (x2 : Int) (x3 : Int) (x4 : Int) (x5 : Int) (t0 : Int) (s : Sg) : Option (Sg) :=
  bnd (Hx_set 57 (gi s 56 7) x2 s) fun s3 =>
  bnd (Hx_set 58 (gi s3 56 7) x3 s3) fun s5 =>
  bnd (Hx_set 59 (gi s5 56 7) x4 s5) fun s7 =>
  bnd (Hx_set 60 (gi s7 56 7) x5 s7) fun s9 =>
  ifEq t0 0
    (Bl_addIfFree_b154 x4 x5 t0 (gi s9 56 7) 0 s9)
    (Bl_addIfFree_b154 x4 x5 t0 (gi s9 56 7) 1 s9)
noncomputable def Bl_addIfFree_b83 (x2 : Int) (x3 : Int) (x4 : Int) (x5 : Int) (s : Sg) : Option (Sg) :=
  Bl_addIfFree_b84 x2 x3 x4 x5 0 s
noncomputable def Bl_addIfFree_b37 (x2 : Int) (x3 : Int) (x4 : Int) (x5 : Int) (t0 : Int) (s : Sg) : Option (Sg) :=
  ifEq t0 0
    (some s)
    (ifLt (gi s 56 7) 405
      (bnd (Hx_at 62 x4 s) fun y1 =>
      ifEq y1 0
        (bnd (Hx_at 62 x5 s) fun y17 =>
        ifEq y17 0
          (Bl_addIfFree_b84 x2 x3 x4 x5 1 s)
          (Bl_addIfFree_b83 x2 x3 x4 x5 s))
        (Bl_addIfFree_b83 x2 x3 x4 x5 s))
      (some s))
noncomputable def Bl_addIfFree_b36 (x2 : Int) (x3 : Int) (x4 : Int) (x5 : Int) (s : Sg) : Option (Sg) :=
  Bl_addIfFree_b37 x2 x3 x4 x5 0 s
noncomputable def Bl_addIfFree (r1 : Nat) (x2 : Int) (x3 : Int) (x4 : Int) (x5 : Int) (s : Sg) : Option (Sg) :=
  ifEq x4 (-1)
    (Bl_addIfFree_b36 x2 x3 x4 x5 s)
    (ifEq x5 (-1)
      (Bl_addIfFree_b36 x2 x3 x4 x5 s)
      (bnd (Hx_at r1 x4 s) fun y18 =>
      ifEq y18 (-1)
        (bnd (Hx_at r1 x5 s) fun y19 =>
        ifEq y19 (-1)
          (Bl_addIfFree_b37 x2 x3 x4 x5 1 s)
          (Bl_addIfFree_b36 x2 x3 x4 x5 s))
        (Bl_addIfFree_b36 x2 x3 x4 x5 s)))
noncomputable def Bl_addToCell (r1 : Nat) (x2 : Int) (x3 : Int) (s : Sg) : Option (Sg) :=
  bnd (Gr_row x2 s) fun y1 =>
  bnd (Gr_column x2 s) fun y2 =>
  bnd (Hx_at 1002 x3 s) fun y3 =>
  bnd (Hx_at 1003 x3 s) fun y4 =>
  bnd (Gr_cellAt (y1 + y3) (y2 + y4) s) fun y5 =>
  ifEq y5 (-1)
    (some s)
    (bnd (Hx_at r1 y5 s) fun y6 =>
    bnd (Hx_at r1 x2 s) fun y7 =>
    ifEq y6 y7
      (bnd (Hx_at 1004 x3 s) fun y8 =>
      bnd (Hx_at 1005 x3 s) fun y9 =>
      bnd (Gr_cellAt (y1 + y8) (y2 + y9) s) fun y10 =>
      bnd (Hx_at 1006 x3 s) fun y11 =>
      bnd (Hx_at 1007 x3 s) fun y12 =>
      bnd (Gr_cellAt (y1 + y11) (y2 + y12) s) fun y13 =>
      bnd (Bl_addIfFree r1 x2 y5 y10 y13 s) fun s15 =>
      some s15)
      (some s))
noncomputable def Bl_addToEdge_b99 (r1 : Nat) (x2 : Int) (x3 : Int) (x4 : Int) (x5 : Int) (x6 : Int) (x7 : Int) (x8 : Int) (s : Sg) : Option (((Int × Int × Int) ⊕ (Int × Int))) :=
  some (.inl (x6, x7, (x8 + 1)))
noncomputable def Bl_addToEdge_b93 (r1 : Nat) (x2 : Int) (x3 : Int) (x4 : Int) (x5 : Int) (x8 : Int) (x9 : Int) (t0 : Int) (s : Sg) : Option (((Int × Int × Int) ⊕ (Int × Int))) :=
  Bl_addToEdge_b99 r1 x2 x3 x4 x5 t0 x9 x8 s
noncomputable def Bl_addToEdge_t38 (r1 : Nat) (x2 : Int) (x3 : Int) (x4 : Int) (x5 : Int) (x6 : Int) (x7 : Int) (x8 : Int) (s : Sg) : Option (((Int × Int × Int) ⊕ (Int × Int))) :=
  ifLt x8 6
    (bnd (Gr_near x2 x8 s) fun y4 =>
    ifEq y4 (-1)
      (Bl_addToEdge_b99 r1 x2 x3 x4 x5 x6 x7 x8 s)
      (bnd (Gr_edges y4 x4 s) fun y5 =>
      ifEq (iandI y5 x5) 0
        (Bl_addToEdge_b99 r1 x2 x3 x4 x5 x6 x7 x8 s)
        (ifEq x6 (-1)
          (Bl_addToEdge_b93 r1 x2 x3 x4 x5 x8 y4 y4 s)
          (Bl_addToEdge_b93 r1 x2 x3 x4 x5 x8 y4 x6 s))))
    (some (.inr (x6, x7)))
noncomputable def Bl_addToEdge_l38 (r1 : Nat) (x2 : Int) (x3 : Int) (x4 : Int) (x5 : Int) (x6 : Int) (x7 : Int) (x8 : Int) (s : Sg) : Option (Sg) :=
  bnd (whl (fun σ : Int × Int × Int => Bl_addToEdge_t38 r1 x2 x3 x4 x5 σ.1 σ.2.1 σ.2.2 s) (x6, x7, x8)) fun ρ38 =>
    ifEq ρ38.1 ρ38.2
      (some s)
      (bnd (Bl_addIfFree r1 x2 ((-10) - x3) ρ38.1 ρ38.2 s) fun s9 =>
      some s9)
noncomputable def Bl_addToEdge (r1 : Nat) (x2 : Int) (x3 : Int) (s : Sg) : Option (Sg) :=
  bnd (Hx_at r1 x2 s) fun y1 =>
  lett (ishlI 1 x3) fun x5_2 =>
  bnd (Gr_edges x2 y1 s) fun y3 =>
  ifEq (iandI y3 x5_2) 0
    (Bl_addToEdge_l38 r1 x2 x3 y1 x5_2 (-1) (-1) 0 s)
    (some s)
noncomputable def Bl_find_t7 (r1 : Nat) (x2 : Int) (x3 : Int) (s : Sg) : Option (((Int × Sg) ⊕ (Sg))) :=
  ifLt x3 81
    (bnd (Hx_set 62 x3 0 s) fun s3 =>
    some (.inl ((x3 + 1), s3)))
    (some (.inr s))
noncomputable def Bl_find_b90 (r1 : Nat) (x2 : Int) (x3 : Int) (s : Sg) : Option (((Int × Sg) ⊕ (Sg))) :=
  some (.inl ((x3 + 1), s))
noncomputable def Bl_find_t53 (r1 : Nat) (x2 : Int) (x3 : Int) (x4 : Int) (s : Sg) : Option (((Int × Sg) ⊕ (Sg))) :=
  ifLt x4 3
    (bnd (Bl_addToCell r1 x3 x4 s) fun s7 =>
    some (.inl ((x4 + 1), s7)))
    (some (.inr s))
noncomputable def Bl_find_l53 (r1 : Nat) (x2 : Int) (x3 : Int) (x4 : Int) (s : Sg) : Option (((Int × Sg) ⊕ (Sg))) :=
  bnd (whl (fun σ : Int × Sg => Bl_find_t53 r1 x2 x3 σ.1 σ.2) (x4, s)) fun ρ53 =>
    bnd (Bl_addToEdge r1 x3 0 ρ53) fun s10 =>
    bnd (Bl_addToEdge r1 x3 1 s10) fun s12 =>
    Bl_find_b90 r1 x2 x3 s12
noncomputable def Bl_find_t30 (r1 : Nat) (x2 : Int) (x3 : Int) (s : Sg) : Option (((Int × Sg) ⊕ (Sg))) :=
  ifLt x3 (gi s 1 4)
    (bnd (Hx_at r1 x3 s) fun y5 =>
    ifEq y5 x2
      (Bl_find_l53 r1 x2 x3 0 s)
      (Bl_find_b90 r1 x2 x3 s))
    (some (.inr s))
noncomputable def Bl_find_l30 (r1 : Nat) (x2 : Int) (x3 : Int) (s : Sg) : Option (Sg) :=
  bnd (whl (fun σ : Int × Sg => Bl_find_t30 r1 x2 σ.1 σ.2) (x3, s)) fun ρ30 =>
    some ρ30
noncomputable def Bl_find_l7 (r1 : Nat) (x2 : Int) (x3 : Int) (s : Sg) : Option (Sg) :=
  bnd (whl (fun σ : Int × Sg => Bl_find_t7 r1 x2 σ.1 σ.2) (x3, s)) fun ρ7 =>
    Bl_find_l30 r1 x2 0 ρ7
noncomputable def Bl_find (r1 : Nat) (x2 : Int) (s : Sg) : Option (Sg) :=
  lett (si s 56 7 0) fun s1 =>
  Bl_find_l7 r1 x2 0 s1
noncomputable def Bl_has_b36 (x1 : Int) (x2 : Int) (x3 : Int) (s : Sg) : Option (((Int) ⊕ ((Unit) ⊕ (Unit)))) :=
  some (.inl (x3 + 1))
noncomputable def Bl_has_t2 (x1 : Int) (x2 : Int) (x3 : Int) (s : Sg) : Option (((Int) ⊕ ((Unit) ⊕ (Unit)))) :=
  ifLt x3 (gi s 56 7)
    (bnd (Hx_at 57 x3 s) fun y1 =>
    ifEq y1 x1
      (bnd (Hx_at 58 x3 s) fun y2 =>
      ifEq y2 x2
        (some (.inr (.inl ())))
        (Bl_has_b36 x1 x2 x3 s))
      (Bl_has_b36 x1 x2 x3 s))
    (some (.inr (.inr ())))
noncomputable def Bl_has_l2 (x1 : Int) (x2 : Int) (x3 : Int) (s : Sg) : Option (Int) :=
  bnd (whl (fun σ : Int => Bl_has_t2 x1 x2 σ s) x3) fun ρ2 => match ρ2 with
  | .inl ρ2 =>
      some 1
  | .inr ρ2 =>
      some 0
noncomputable def Bl_has (x1 : Int) (x2 : Int) (s : Sg) : Option (Int) :=
  Bl_has_l2 x1 x2 0 s
noncomputable def Hx_isBridge (x1 : Int) (x2 : Int) (s : Sg) : Option ((Nat ⊕ Int) × Sg) :=
  bndx (Hx_requireCell x1 s) fun y1 s2 =>
  bndx (Hx_requireCell x2 s2) fun y3 s4 =>
  bnd (Po_stone 10 x1 s4) fun y5 =>
  ifEq y5 (-1)
    (some (.inr 0, s4))
    (bnd (Bl_find 11 y5 s4) fun s7 =>
    grd (R x1 ∧ R x2) <|
    grd (R x1 ∧ R x2) <|
    bnd (Bl_has (min x1 x2) (max x1 x2) s7) fun y10 =>
    grd (b01 y10) <|
    some (.inr y10, s7))
noncomputable def Bl_counting_t4 (x1 : Int) (x2 : Int) (s : Sg) : Option (((Int × Int) ⊕ (Int))) :=
  ifLt x2 (gi s 56 7)
    (bnd (Hx_at 61 x2 s) fun y1 =>
    lett (x1 + y1) fun x1_2 =>
    some (.inl (x1_2, (x2 + 1))))
    (some (.inr x1))
noncomputable def Bl_counting_l4 (x1 : Int) (x2 : Int) (s : Sg) : Option (Int) :=
  bnd (whl (fun σ : Int × Int => Bl_counting_t4 σ.1 σ.2 s) (x1, x2)) fun ρ4 =>
    some ρ4
noncomputable def Bl_counting  (s : Sg) : Option (Int) :=
  Bl_counting_l4 0 0 s
noncomputable def Hx_bridges (x1 : Int) (x2 : Int) (s : Sg) : Option ((Nat ⊕ Int) × Sg) :=
  bndx (Hx_requireSide x1 s) fun y1 s2 =>
  bnd (Bl_find 11 x1 s2) fun s4 =>
  ifEq x2 0
    (some (.inr (gi s4 56 7), s4))
    (bnd (Bl_counting s4) fun y5 =>
    some (.inr y5, s4))
noncomputable def Bl_number (x1 : Int) (x2 : Int) (s : Sg) : Option (Int) :=
  ifLt x1 0
    (some (-1))
    (ifLt x1 (gi s 56 7)
      (ifEq x2 0
        (bnd (Hx_at 57 x1 s) fun y1 =>
        some y1)
        (ifEq x2 1
          (bnd (Hx_at 58 x1 s) fun y4 =>
          some y4)
          (ifEq x2 2
            (bnd (Hx_at 59 x1 s) fun y7 =>
            some y7)
            (ifEq x2 3
              (bnd (Hx_at 60 x1 s) fun y10 =>
              some y10)
              (bnd (Hx_at 61 x1 s) fun y13 =>
              some y13)))))
      (some (-1)))
noncomputable def Hx_bridge (x1 : Int) (x2 : Int) (x3 : Int) (s : Sg) : Option ((Nat ⊕ Int) × Sg) :=
  bndx (Hx_requireSide x1 s) fun y1 s2 =>
  bndx (Hx_requireRange x3 0 4 s2) fun y3 s4 =>
  bnd (Bl_find 11 x1 s4) fun s6 =>
  bnd (Bl_number x2 x3 s6) fun y7 =>
  some (.inr y7, s6)
noncomputable def Li_link_b75 (x3 : Int) (x4 : Int) (x5 : Int) (s : Sg) : Option (((Int × Sg) ⊕ (Sg))) :=
  some (.inl ((x5 + 1), s))
noncomputable def Li_link_t39 (x3 : Int) (x4 : Int) (x5 : Int) (s : Sg) : Option (((Int × Sg) ⊕ (Sg))) :=
  ifLt x5 (gi s 1 4)
    (bnd (Hx_at 6 x5 s) fun y9 =>
    ifEq y9 x4
      (bnd (Hx_set 6 x5 x3 s) fun s11 =>
      Li_link_b75 x3 x4 x5 s11)
      (Li_link_b75 x3 x4 x5 s))
    (some (.inr s))
noncomputable def Li_link_l39 (x3 : Int) (x4 : Int) (x5 : Int) (s : Sg) : Option (Sg) :=
  bnd (whl (fun σ : Int × Sg => Li_link_t39 x3 x4 σ.1 σ.2) (x5, s)) fun ρ39 =>
    bnd (Hx_at 8 x3 ρ39) fun y13 =>
    bnd (Hx_at 8 x4 ρ39) fun y14 =>
    bnd (Hx_set 8 x3 (y13 + y14) ρ39) fun s16 =>
    bnd (Hx_at 7 x3 s16) fun y17 =>
    bnd (Hx_at 7 x4 s16) fun y18 =>
    bnd (Hx_set 7 x3 (iorI y17 y18) s16) fun s20 =>
    some s20
noncomputable def Li_link (x1 : Int) (x2 : Int) (s : Sg) : Option (Sg) :=
  bnd (Li_top x1 s) fun y1 =>
  bnd (Li_top x2 s) fun y2 =>
  grd (R y1 ∧ R y2) <|
  lett (min y1 y2) fun x3_4 =>
  bnd (Li_top x1 s) fun y5 =>
  bnd (Li_top x2 s) fun y6 =>
  grd (R y5 ∧ R y6) <|
  lett (max y5 y6) fun x4_8 =>
  ifEq x3_4 x4_8
    (some s)
    (Li_link_l39 x3_4 x4_8 0 s)
noncomputable def Li_reach (x1 : Int) (x2 : Int) (s : Sg) : Option (Sg) :=
  bnd (Li_top x1 s) fun y1 =>
  bnd (Hx_at 7 y1 s) fun y2 =>
  bnd (Hx_set 7 y1 (iorI y2 x2) s) fun s4 =>
  some s4
noncomputable def Bl_linkCounting_b68 (x2 : Int) (s : Sg) : Option (((Int × Sg) ⊕ (Sg))) :=
  some (.inl ((x2 + 1), s))
noncomputable def Bl_linkCounting_t2 (x2 : Int) (s : Sg) : Option (((Int × Sg) ⊕ (Sg))) :=
  ifLt x2 (gi s 56 7)
    (bnd (Hx_at 61 x2 s) fun y1 =>
    ifEq y1 1
      (bnd (Hx_at 57 x2 s) fun y2 =>
      bnd (Hx_at 58 x2 s) fun y3 =>
      ifLt y3 0
        (bnd (Li_reach y2 (ishlI 1 ((-10) - y3)) s) fun s5 =>
        Bl_linkCounting_b68 x2 s5)
        (bnd (Li_link y2 y3 s) fun s7 =>
        Bl_linkCounting_b68 x2 s7))
      (Bl_linkCounting_b68 x2 s))
    (some (.inr s))
noncomputable def Bl_linkCounting_l2 (x2 : Int) (s : Sg) : Option (Sg) :=
  bnd (whl (fun σ : Int × Sg => Bl_linkCounting_t2 σ.1 σ.2) (x2, s)) fun ρ2 =>
    some ρ2
noncomputable def Bl_linkCounting  (s : Sg) : Option (Sg) :=
  Bl_linkCounting_l2 0 s
noncomputable def Hx_gatherChains (x1 : Int) (s : Sg) : Option (Sg) :=
  bnd (Li_gather 11 x1 s) fun s2 =>
  bnd (Bl_find 11 x1 s2) fun s4 =>
  bnd (Bl_linkCounting s4) fun s6 =>
  some s6
noncomputable def Bl_countingIn_b47 (x2 : Int) (x3 : Int) (x4 : Int) (s : Sg) : Option (((Int × Int) ⊕ (Int))) :=
  some (.inl (x3, (x4 + 1)))
noncomputable def Bl_countingIn_t5 (x2 : Int) (x3 : Int) (x4 : Int) (s : Sg) : Option (((Int × Int) ⊕ (Int))) :=
  ifLt x4 (gi s 56 7)
    (bnd (Hx_at 61 x4 s) fun y1 =>
    ifEq y1 1
      (bnd (Hx_at 57 x4 s) fun y2 =>
      bnd (Li_top y2 s) fun y3 =>
      ifEq y3 x2
        (Bl_countingIn_b47 x2 (x3 + 1) x4 s)
        (Bl_countingIn_b47 x2 x3 x4 s))
      (Bl_countingIn_b47 x2 x3 x4 s))
    (some (.inr x3))
noncomputable def Bl_countingIn_l5 (x2 : Int) (x3 : Int) (x4 : Int) (s : Sg) : Option (Int) :=
  bnd (whl (fun σ : Int × Int => Bl_countingIn_t5 x2 σ.1 σ.2 s) (x3, x4)) fun ρ5 =>
    some ρ5
noncomputable def Bl_countingIn (x2 : Int) (s : Sg) : Option (Int) :=
  Bl_countingIn_l5 x2 0 0 s
noncomputable def Hx_chain (x1 : Int) (x2 : Int) (s : Sg) : Option ((Nat ⊕ Int) × Sg) :=
  bndx (Hx_requireCell x1 s) fun y1 s2 =>
  bndx (Hx_requireRange x2 0 3 s2) fun y3 s4 =>
  bnd (Po_stone 10 x1 s4) fun y5 =>
  ifEq y5 (-1)
    (some (.inr (-1), s4))
    (bnd (Hx_gatherChains y5 s4) fun s7 =>
    ifEq x2 2
      (bnd (Li_top x1 s7) fun y9 =>
      bnd (Bl_countingIn y9 s7) fun y10 =>
      some (.inr y10, s7))
      (bnd (Li_number x1 x2 s7) fun y8 =>
      some (.inr y8, s7)))
noncomputable def Hx_chains (x1 : Int) (s : Sg) : Option ((Nat ⊕ Int) × Sg) :=
  bndx (Hx_requireSide x1 s) fun y1 s2 =>
  bnd (Hx_gatherChains x1 s2) fun s4 =>
  bnd (Li_parts s4) fun y5 =>
  some (.inr y5, s4)
noncomputable def Hx_isSafe (x1 : Int) (s : Sg) : Option ((Nat ⊕ Int) × Sg) :=
  bndx (Hx_requireSide x1 s) fun y1 s2 =>
  bnd (Hx_gatherChains x1 s2) fun s4 =>
  bnd (Li_joined s4) fun y5 =>
  grd (b01 y5) <|
  some (.inr y5, s4)
noncomputable def Bl_otherCarrier_b64 (x1 : Int) (x2 : Int) (s : Sg) : Option (((Int) ⊕ ((Int × Int) ⊕ (Unit)))) :=
  some (.inl (x2 + 1))
noncomputable def Bl_otherCarrier_t2 (x1 : Int) (x2 : Int) (s : Sg) : Option (((Int) ⊕ ((Int × Int) ⊕ (Unit)))) :=
  ifLt x2 (gi s 56 7)
    (bnd (Hx_at 61 x2 s) fun y1 =>
    ifEq y1 1
      (bnd (Hx_at 59 x2 s) fun y2 =>
      bnd (Hx_at 60 x2 s) fun y3 =>
      ifEq y2 x1
        (some (.inr (.inl (y2, y3))))
        (ifEq y3 x1
          (some (.inr (.inl (y2, y3))))
          (Bl_otherCarrier_b64 x1 x2 s)))
      (Bl_otherCarrier_b64 x1 x2 s))
    (some (.inr (.inr ())))
noncomputable def Bl_otherCarrier_b52 (x1 : Int) (x3 : Int) (x4 : Int) (s : Sg) : Option (Int) :=
  ifEq x3 x1
    (some x4)
    (some x3)
noncomputable def Bl_otherCarrier_l2 (x1 : Int) (x2 : Int) (s : Sg) : Option (Int) :=
  bnd (whl (fun σ : Int => Bl_otherCarrier_t2 x1 σ s) x2) fun ρ2 => match ρ2 with
  | .inl ρ2 =>
      Bl_otherCarrier_b52 x1 ρ2.1 ρ2.2 s
  | .inr ρ2 =>
      some (-1)
noncomputable def Bl_otherCarrier (x1 : Int) (s : Sg) : Option (Int) :=
  Bl_otherCarrier_l2 x1 0 s
noncomputable def Hx_answer (x1 : Int) (s : Sg) : Option ((Nat ⊕ Int) × Sg) :=
  bndx (Hx_requireCell x1 s) fun y1 s2 =>
  bnd (Hx_otherSide (gi s2 10 5) s2) fun y3 =>
  bnd (Bl_find 11 y3 s2) fun s5 =>
  bnd (Bl_otherCarrier x1 s5) fun y6 =>
  some (.inr y6, s5)
noncomputable def Li_joinsBy_b54 (x1 : Int) (x2 : Int) (x3 : Int) (s : Sg) : Option (((Int × Int) ⊕ (Int))) :=
  some (.inl (x2, (x3 + 1)))
noncomputable def Li_joinsBy_t15 (x1 : Int) (x2 : Int) (x3 : Int) (s : Sg) : Option (((Int × Int) ⊕ (Int))) :=
  ifLt x3 6
    (bnd (Gr_near x1 x3 s) fun y2 =>
    bnd (Li_top y2 s) fun y3 =>
    ifEq y3 (-1)
      (Li_joinsBy_b54 x1 x2 x3 s)
      (bnd (Hx_at 7 y3 s) fun y4 =>
      lett (iorI x2 y4) fun x2_5 =>
      Li_joinsBy_b54 x1 x2_5 x3 s))
    (some (.inr x2))
noncomputable def Li_joinsBy_l15 (x1 : Int) (x2 : Int) (x3 : Int) (s : Sg) : Option (Int) :=
  bnd (whl (fun σ : Int × Int => Li_joinsBy_t15 x1 σ.1 σ.2 s) (x2, x3)) fun ρ15 =>
    ifEq ρ15 3
      (some 1)
      (some 0)
noncomputable def Li_joinsBy (x1 : Int) (s : Sg) : Option (Int) :=
  bnd (Gr_edges x1 (gi s 5 5) s) fun y1 =>
  Li_joinsBy_l15 x1 y1 0 s
noncomputable def Hx_countThreats_b68 (x2 : Int) (x3 : Int) (s : Sg) : Option (((Int × Int) ⊕ (Int))) :=
  some (.inl (x2, (x3 + 1)))
noncomputable def Hx_countThreats_t31 (x2 : Int) (x3 : Int) (s : Sg) : Option (((Int × Int) ⊕ (Int))) :=
  ifLt x3 (gi s 1 4)
    (bnd (Po_stone 10 x3 s) fun y4 =>
    ifEq y4 (-1)
      (bnd (Li_joinsBy x3 s) fun y5 =>
      ifEq y5 0
        (Hx_countThreats_b68 x2 x3 s)
        (Hx_countThreats_b68 (x2 + 1) x3 s))
      (Hx_countThreats_b68 x2 x3 s))
    (some (.inr x2))
noncomputable def Hx_countThreats_l31 (x2 : Int) (x3 : Int) (s : Sg) : Option (Int × Sg) :=
  bnd (whl (fun σ : Int × Int => Hx_countThreats_t31 σ.1 σ.2 s) (x2, x3)) fun ρ31 =>
    some (ρ31, s)
noncomputable def Hx_countThreats (x1 : Int) (s : Sg) : Option (Int × Sg) :=
  bnd (Li_gather 11 x1 s) fun s2 =>
  bnd (Li_joined s2) fun y3 =>
  ifEq y3 0
    (Hx_countThreats_l31 0 0 s2)
    (some (0, s2))
noncomputable def Hx_threats (x1 : Int) (s : Sg) : Option ((Nat ⊕ Int) × Sg) :=
  bndx (Hx_requireSide x1 s) fun y1 s2 =>
  bnd2 (Hx_countThreats x1 s2) fun y3 s4 =>
  some (.inr y3, s4)
noncomputable def Hx_findThreat_b80 (x2 : Int) (x3 : Int) (x4 : Int) (s : Sg) : Option (((Int × Int) ⊕ ((Int) ⊕ (Unit)))) :=
  some (.inl (x3, (x4 + 1)))
noncomputable def Hx_findThreat_t32 (x2 : Int) (x3 : Int) (x4 : Int) (s : Sg) : Option (((Int × Int) ⊕ ((Int) ⊕ (Unit)))) :=
  ifLt x4 (gi s 1 4)
    (bnd (Po_stone 10 x4 s) fun y4 =>
    ifEq y4 (-1)
      (bnd (Li_joinsBy x4 s) fun y5 =>
      ifEq y5 0
        (Hx_findThreat_b80 x2 x3 x4 s)
        (ifEq x3 x2
          (some (.inr (.inl x4)))
          (Hx_findThreat_b80 x2 (x3 + 1) x4 s)))
      (Hx_findThreat_b80 x2 x3 x4 s))
    (some (.inr (.inr ())))
noncomputable def Hx_findThreat_l32 (x2 : Int) (x3 : Int) (x4 : Int) (s : Sg) : Option (Int × Sg) :=
  bnd (whl (fun σ : Int × Int => Hx_findThreat_t32 x2 σ.1 σ.2 s) (x3, x4)) fun ρ32 => match ρ32 with
  | .inl ρ32 =>
      some (ρ32, s)
  | .inr ρ32 =>
      some ((-1), s)
noncomputable def Hx_findThreat (x1 : Int) (x2 : Int) (s : Sg) : Option (Int × Sg) :=
  bnd (Li_gather 11 x1 s) fun s2 =>
  bnd (Li_joined s2) fun y3 =>
  ifEq y3 0
    (Hx_findThreat_l32 x2 0 0 s2)
    (some ((-1), s2))
noncomputable def Hx_threat (x1 : Int) (x2 : Int) (s : Sg) : Option ((Nat ⊕ Int) × Sg) :=
  bndx (Hx_requireSide x1 s) fun y1 s2 =>
  bnd2 (Hx_findThreat x1 x2 s2) fun y3 s4 =>
  some (.inr y3, s4)
noncomputable def Hx_answerToLatestMove (x1 : Int) (s : Sg) : Option (Int × Sg) :=
  bnd (Po_moved 10 ((gi s 10 4) - 1) s) fun y1 =>
  ifEq y1 (-1)
    (some ((-1), s))
    (bnd (Po_stone 10 y1 s) fun y2 =>
    ifEq y2 x1
      (bnd (Po_place 10 y1 (-1) s) fun s4 =>
      bnd (Bl_find 11 (gi s4 10 5) s4) fun s6 =>
      bnd (Bl_otherCarrier y1 s6) fun y7 =>
      bnd (Po_place 10 y1 x1 s6) fun s9 =>
      some (y7, s9))
      (some ((-1), s)))
noncomputable def Hx_forcedCell  (s : Sg) : Option (Int × Sg) :=
  bnd2 (Hx_winner s) fun y1 s2 =>
  ifEq y1 (-1)
    (bnd2 (Hx_findThreat (gi s2 10 5) 0 s2) fun y3 s4 =>
    ifEq y3 (-1)
      (bnd (Hx_otherSide (gi s4 10 5) s4) fun y5 =>
      bnd2 (Hx_countThreats y5 s4) fun y6 s7 =>
      ifLt 0 y6
        (ifEq y6 1
          (bnd2 (Hx_findThreat y5 0 s7) fun y10 s11 =>
          some (y10, s11))
          (some ((-1), s7)))
        (bnd2 (Hx_answerToLatestMove y5 s7) fun y8 s9 =>
        some (y8, s9)))
      (some (y3, s4)))
    (some ((-1), s2))
noncomputable def Hx_forced  (s : Sg) : Option (Int × Sg) :=
  bnd2 (Hx_forcedCell s) fun y1 s2 =>
  some (y1, s2)
noncomputable def Pa_lower_b76 (r0 : Nat) (r1 : Nat) (x2 : Int) (x3 : Int) (x4 : Int) (x5 : Int) (s : Sg) : Option (((Int × Int) ⊕ (Int))) :=
  some (.inl (x4, (x5 + 1)))
noncomputable def Pa_lower_b70 (r0 : Nat) (r1 : Nat) (x2 : Int) (x3 : Int) (x5 : Int) (x6 : Int) (s : Sg) : Option (((Int × Int) ⊕ (Int))) :=
  lett (x6 + x3) fun x4_5 =>
  Pa_lower_b76 r0 r1 x2 x3 x4_5 x5 s
noncomputable def Pa_lower_t26 (r0 : Nat) (r1 : Nat) (x2 : Int) (x3 : Int) (x4 : Int) (x5 : Int) (s : Sg) : Option (((Int × Int) ⊕ (Int))) :=
  ifLt x5 6
    (bnd (Gr_near x2 x5 s) fun y3 =>
    bnd (Hx_at r1 y3 s) fun y4 =>
    ifEq y4 (-1)
      (Pa_lower_b76 r0 r1 x2 x3 x4 x5 s)
      (ifEq x4 (-1)
        (Pa_lower_b70 r0 r1 x2 x3 x5 y4 s)
        (ifLt (y4 + x3) x4
          (Pa_lower_b70 r0 r1 x2 x3 x5 y4 s)
          (Pa_lower_b76 r0 r1 x2 x3 x4 x5 s))))
    (some (.inr x4))
noncomputable def Pa_lower_b97 (r1 : Nat) (x2 : Int) (x4 : Int) (t0 : Int) (s : Sg) : Option (Int × Sg) :=
  bnd (Hx_set r1 x2 x4 s) fun s9 =>
  grd (b01 t0) <|
  some (t0, s9)
noncomputable def Pa_lower_l26 (r0 : Nat) (r1 : Nat) (x2 : Int) (x3 : Int) (x4 : Int) (x5 : Int) (s : Sg) : Option (Int × Sg) :=
  bnd (whl (fun σ : Int × Int => Pa_lower_t26 r0 r1 x2 x3 σ.1 σ.2 s) (x4, x5)) fun ρ26 =>
    bnd (Hx_at r1 x2 s) fun y7 =>
    ifEq ρ26 y7
      (Pa_lower_b97 r1 x2 ρ26 0 s)
      (Pa_lower_b97 r1 x2 ρ26 1 s)
noncomputable def Pa_lower (r0 : Nat) (r1 : Nat) (x2 : Int) (s : Sg) : Option (Int × Sg) :=
  bnd (Hx_at (r0 + 1) x2 s) fun y1 =>
  bnd (Hx_at r1 x2 s) fun y2 =>
  ifEq y1 (-1)
    (some (0, s))
    (Pa_lower_l26 r0 r1 x2 y1 y2 0 s)
noncomputable def Pa_spread_b58 (r0 : Nat) (r1 : Nat) (x2 : Int) (x3 : Int) (x4 : Int) (t1 : Int) (t2 : Int) (s : Sg) : Option (((Int × Sg) ⊕ (Sg))) :=
  bnd (Hx_set r1 t1 t2 s) fun s3 =>
  some (.inl ((x4 + 1), s3))
noncomputable def Pa_spread_b35 (r0 : Nat) (r1 : Nat) (x2 : Int) (x3 : Int) (x4 : Int) (t0 : Int) (s : Sg) : Option (((Int × Sg) ⊕ (Sg))) :=
  ifEq t0 0
    (Pa_spread_b58 r0 r1 x2 x3 x4 x4 (-1) s)
    (bnd (Hx_at (r0 + 1) x4 s) fun y4 =>
    Pa_spread_b58 r0 r1 x2 x3 x4 x4 y4 s)
noncomputable def Pa_spread_t3 (r0 : Nat) (r1 : Nat) (x2 : Int) (x3 : Int) (x4 : Int) (s : Sg) : Option (((Int × Sg) ⊕ (Sg))) :=
  ifLt x4 (gi s 1 4)
    (bnd (Gr_edges x4 x2 s) fun y1 =>
    ifEq (iandI y1 x3) 0
      (Pa_spread_b35 r0 r1 x2 x3 x4 0 s)
      (Pa_spread_b35 r0 r1 x2 x3 x4 1 s))
    (some (.inr s))
noncomputable def Pa_spread_t91 (r0 : Nat) (r1 : Nat) (x4 : Int) (x5 : Int) (x6 : Int) (s : Sg) : Option (((Int × Int × Sg) ⊕ (Int × Sg))) :=
  ifLt x6 (gi s 1 4)
    (bnd2 (Pa_lower r0 r1 x6 s) fun y6 s7 =>
    lett (iorI x4 y6) fun x4_8 =>
    some (.inl (x4_8, (x6 + 1), s7)))
    (some (.inr (x4, s)))
noncomputable def Pa_spread_l91 (r0 : Nat) (r1 : Nat) (x4 : Int) (x5 : Int) (x6 : Int) (s : Sg) : Option (((Int × Int × Sg) ⊕ (Sg))) :=
  bnd (whl (fun σ : Int × Int × Sg => Pa_spread_t91 r0 r1 σ.1 x5 σ.2.1 σ.2.2) (x4, x6, s)) fun ρ91 =>
    some (.inl (ρ91.1, (x5 + 1), ρ91.2))
noncomputable def Pa_spread_t73 (r0 : Nat) (r1 : Nat) (x4 : Int) (x5 : Int) (s : Sg) : Option (((Int × Int × Sg) ⊕ (Sg))) :=
  ifLt x5 81
    (ifEq x4 0
      (some (.inr s))
      (Pa_spread_l91 r0 r1 0 x5 0 s))
    (some (.inr s))
noncomputable def Pa_spread_l73 (r0 : Nat) (r1 : Nat) (x4 : Int) (x5 : Int) (s : Sg) : Option (Sg) :=
  bnd (whl (fun σ : Int × Int × Sg => Pa_spread_t73 r0 r1 σ.1 σ.2.1 σ.2.2) (x4, x5, s)) fun ρ73 =>
    some ρ73
noncomputable def Pa_spread_l3 (r0 : Nat) (r1 : Nat) (x2 : Int) (x3 : Int) (x4 : Int) (s : Sg) : Option (Sg) :=
  bnd (whl (fun σ : Int × Sg => Pa_spread_t3 r0 r1 x2 x3 σ.1 σ.2) (x4, s)) fun ρ3 =>
    Pa_spread_l73 r0 r1 1 0 ρ3
noncomputable def Pa_spread (r0 : Nat) (r1 : Nat) (x2 : Int) (x3 : Int) (s : Sg) : Option (Sg) :=
  Pa_spread_l3 r0 r1 x2 x3 0 s
noncomputable def Pa_find_b46 (r0 : Nat) (r1 : Nat) (x2 : Int) (x3 : Int) (t1 : Int) (t2 : Int) (s : Sg) : Option (((Int × Sg) ⊕ (Sg))) :=
  bnd (Hx_set (r0 + 1) t1 t2 s) fun s3 =>
  some (.inl ((x3 + 1), s3))
noncomputable def Pa_find_t2 (r0 : Nat) (r1 : Nat) (x2 : Int) (x3 : Int) (s : Sg) : Option (((Int × Sg) ⊕ (Sg))) :=
  ifLt x3 (gi s 1 4)
    (bnd (Hx_at r1 x3 s) fun y1 =>
    ifEq y1 (-1)
      (Pa_find_b46 r0 r1 x2 x3 x3 1 s)
      (ifEq y1 x2
        (Pa_find_b46 r0 r1 x2 x3 x3 0 s)
        (Pa_find_b46 r0 r1 x2 x3 x3 (-1) s)))
    (some (.inr s))
noncomputable def Pa_find_l2 (r0 : Nat) (r1 : Nat) (x2 : Int) (x3 : Int) (s : Sg) : Option (Sg) :=
  bnd (whl (fun σ : Int × Sg => Pa_find_t2 r0 r1 x2 σ.1 σ.2) (x3, s)) fun ρ2 =>
    bnd (Pa_spread r0 (r0 + 2) x2 1 ρ2) fun s6 =>
    bnd (Pa_spread r0 (r0 + 3) x2 2 s6) fun s8 =>
    some s8
noncomputable def Pa_find (r0 : Nat) (r1 : Nat) (x2 : Int) (s : Sg) : Option (Sg) :=
  Pa_find_l2 r0 r1 x2 0 s
noncomputable def Hx_pathsOf_b15 (x1 : Int) (u_0 : Nat) (s : Sg) : Option (Nat × Sg) :=
  bnd (Pa_find u_0 11 x1 s) fun s2 =>
  some (u_0, s2)
noncomputable def Hx_pathsOf (x1 : Int) (s : Sg) : Option (Nat × Sg) :=
  ifEq x1 0
    (Hx_pathsOf_b15 x1 63 s)
    (Hx_pathsOf_b15 x1 67 s)
noncomputable def Pa_cost_b28  (s : Sg) : Option (Int) :=
  some (-1)
noncomputable def Pa_cost (r0 : Nat) (x1 : Int) (s : Sg) : Option (Int) :=
  bnd (Hx_at (r0 + 2) x1 s) fun y1 =>
  bnd (Hx_at (r0 + 3) x1 s) fun y2 =>
  ifEq y1 (-1)
    (Pa_cost_b28  s)
    (ifEq y2 (-1)
      (Pa_cost_b28  s)
      (bnd (Hx_at (r0 + 1) x1 s) fun y3 =>
      some ((y1 + y2) - y3)))
noncomputable def Pa_least_b38 (r0 : Nat) (x1 : Int) (x2 : Int) (s : Sg) : Option (((Int × Int) ⊕ (Int))) :=
  some (.inl (x1, (x2 + 1)))
noncomputable def Pa_least_b36 (r0 : Nat) (x2 : Int) (x3 : Int) (s : Sg) : Option (((Int × Int) ⊕ (Int))) :=
  Pa_least_b38 r0 x3 x2 s
noncomputable def Pa_least_t4 (r0 : Nat) (x1 : Int) (x2 : Int) (s : Sg) : Option (((Int × Int) ⊕ (Int))) :=
  ifLt x2 (gi s 1 4)
    (bnd (Pa_cost r0 x2 s) fun y1 =>
    ifEq y1 (-1)
      (Pa_least_b38 r0 x1 x2 s)
      (ifEq x1 (-1)
        (Pa_least_b36 r0 x2 y1 s)
        (ifLt y1 x1
          (Pa_least_b36 r0 x2 y1 s)
          (Pa_least_b38 r0 x1 x2 s))))
    (some (.inr x1))
noncomputable def Pa_least_l4 (r0 : Nat) (x1 : Int) (x2 : Int) (s : Sg) : Option (Int) :=
  bnd (whl (fun σ : Int × Int => Pa_least_t4 r0 σ.1 σ.2 s) (x1, x2)) fun ρ4 =>
    some ρ4
noncomputable def Pa_least (r0 : Nat) (s : Sg) : Option (Int) :=
  Pa_least_l4 r0 (-1) 0 s
noncomputable def Hx_distance (x1 : Int) (s : Sg) : Option ((Nat ⊕ Int) × Sg) :=
  bndx (Hx_requireSide x1 s) fun y1 s2 =>
  bnd2 (Hx_pathsOf x1 s2) fun y3 s4 =>
  bnd (Pa_least y3 s4) fun y5 =>
  some (.inr y5, s4)
noncomputable def Hx_through (x1 : Int) (x2 : Int) (s : Sg) : Option ((Nat ⊕ Int) × Sg) :=
  bndx (Hx_requireSide x1 s) fun y1 s2 =>
  bndx (Hx_requireCell x2 s2) fun y3 s4 =>
  bnd2 (Hx_pathsOf x1 s4) fun y5 s6 =>
  bnd (Pa_cost y5 x2 s6) fun y7 =>
  some (.inr y7, s6)
noncomputable def Hx_useful_b64 (r2 : Nat) (x3 : Int) (x4 : Int) (x5 : Int) (s : Sg) : Option (((Int × Int) ⊕ (Int))) :=
  some (.inl (x4, (x5 + 1)))
noncomputable def Hx_useful_t21 (r2 : Nat) (x3 : Int) (x4 : Int) (x5 : Int) (s : Sg) : Option (((Int × Int) ⊕ (Int))) :=
  ifLt x5 (gi s 1 4)
    (ifEq x3 (-1)
      (Hx_useful_b64 r2 x3 x4 x5 s)
      (bnd (Po_stone 10 x5 s) fun y6 =>
      ifEq y6 (-1)
        (bnd (Pa_cost r2 x5 s) fun y7 =>
        ifEq y7 x3
          (Hx_useful_b64 r2 x3 (x4 + 1) x5 s)
          (Hx_useful_b64 r2 x3 x4 x5 s))
        (Hx_useful_b64 r2 x3 x4 x5 s)))
    (some (.inr x4))
noncomputable def Hx_useful_l21 (r2 : Nat) (x3 : Int) (x4 : Int) (x5 : Int) (s : Sg) : Option ((Nat ⊕ Int) × Sg) :=
  bnd (whl (fun σ : Int × Int => Hx_useful_t21 r2 x3 σ.1 σ.2 s) (x4, x5)) fun ρ21 =>
    some (.inr ρ21, s)
noncomputable def Hx_useful (x1 : Int) (s : Sg) : Option ((Nat ⊕ Int) × Sg) :=
  bndx (Hx_requireSide x1 s) fun y1 s2 =>
  bnd2 (Hx_pathsOf x1 s2) fun y3 s4 =>
  bnd (Pa_least y3 s4) fun y5 =>
  Hx_useful_l21 y3 y5 0 0 s4
noncomputable def Hx_shared_b110 (r1 : Nat) (r2 : Nat) (x3 : Int) (x4 : Int) (x5 : Int) (s : Sg) : Option (((Int × Int × Int) ⊕ (Int))) :=
  some (.inl (x3, x4, (x5 + 1)))
noncomputable def Hx_shared_b100 (r1 : Nat) (r2 : Nat) (x5 : Int) (x6 : Int) (x7 : Int) (s : Sg) : Option (((Int × Int × Int) ⊕ (Int))) :=
  lett (x6 + x7) fun x4_8 =>
  Hx_shared_b110 r1 r2 x5 x4_8 x5 s
noncomputable def Hx_shared_b78 (r1 : Nat) (r2 : Nat) (x3 : Int) (x4 : Int) (x5 : Int) (x6 : Int) (x7 : Int) (t0 : Int) (s : Sg) : Option (((Int × Int × Int) ⊕ (Int))) :=
  ifEq t0 0
    (Hx_shared_b110 r1 r2 x3 x4 x5 s)
    (ifEq x3 (-1)
      (Hx_shared_b100 r1 r2 x5 x6 x7 s)
      (ifLt (x6 + x7) x4
        (Hx_shared_b100 r1 r2 x5 x6 x7 s)
        (Hx_shared_b110 r1 r2 x3 x4 x5 s)))
noncomputable def Hx_shared_b77 (r1 : Nat) (r2 : Nat) (x3 : Int) (x4 : Int) (x5 : Int) (x6 : Int) (x7 : Int) (s : Sg) : Option (((Int × Int × Int) ⊕ (Int))) :=
  Hx_shared_b78 r1 r2 x3 x4 x5 x6 x7 0 s
noncomputable def Hx_shared_t20 (r1 : Nat) (r2 : Nat) (x3 : Int) (x4 : Int) (x5 : Int) (s : Sg) : Option (((Int × Int × Int) ⊕ (Int))) :=
  ifLt x5 (gi s 1 4)
    (bnd (Pa_cost r1 x5 s) fun y5 =>
    bnd (Pa_cost r2 x5 s) fun y6 =>
    bnd (Po_stone 10 x5 s) fun y7 =>
    ifEq y7 (-1)
      (ifEq y5 (-1)
        (Hx_shared_b77 r1 r2 x3 x4 x5 y5 y6 s)
        (ifEq y6 (-1)
          (Hx_shared_b77 r1 r2 x3 x4 x5 y5 y6 s)
          (Hx_shared_b78 r1 r2 x3 x4 x5 y5 y6 1 s)))
      (Hx_shared_b77 r1 r2 x3 x4 x5 y5 y6 s))
    (some (.inr x3))
noncomputable def Hx_shared_l20 (r1 : Nat) (r2 : Nat) (x3 : Int) (x4 : Int) (x5 : Int) (s : Sg) : Option (Int × Sg) :=
  bnd (whl (fun σ : Int × Int × Int => Hx_shared_t20 r1 r2 σ.1 σ.2.1 σ.2.2 s) (x3, x4, x5)) fun ρ20 =>
    some (ρ20, s)
noncomputable def Hx_shared  (s : Sg) : Option (Int × Sg) :=
  bnd2 (Hx_pathsOf 0 s) fun y1 s2 =>
  bnd2 (Hx_pathsOf 1 s2) fun y3 s4 =>
  Hx_shared_l20 y1 y3 (-1) 0 0 s4
noncomputable def Fl_nextLevel_b112 (x1 : Int) (x3 : Int) (x4 : Int) (x5 : Int) (s : Sg) : Option (((Int × Int × Int) ⊕ (Int × Int))) :=
  some (.inl (x3, x4, (x5 + 1)))
noncomputable def Fl_nextLevel_t39 (x1 : Int) (x3 : Int) (x4 : Int) (x5 : Int) (s : Sg) : Option (((Int × Int × Int) ⊕ (Int × Int))) :=
  ifLt x5 6
    (bnd (Gr_near x1 x5 s) fun y2 =>
    ifEq y2 (-1)
      (Fl_nextLevel_b112 x1 x3 x4 x5 s)
      (bnd (Hx_at 72 y2 s) fun y3 =>
      ifLt 0 y3
        (bnd (Hx_at 72 y2 s) fun y4 =>
        lett (x3 + y4) fun x3_5 =>
        bnd (Hx_at 72 y2 s) fun y6 =>
        bnd (Hx_at 73 y2 s) fun y7 =>
        lett (x4 + (y6 * y7)) fun x4_8 =>
        Fl_nextLevel_b112 x1 x3_5 x4_8 x5 s)
        (Fl_nextLevel_b112 x1 x3 x4 x5 s)))
    (some (.inr (x3, x4)))
noncomputable def Fl_nextLevel_l39 (x1 : Int) (x3 : Int) (x4 : Int) (x5 : Int) (s : Sg) : Option (Int) :=
  bnd (whl (fun σ : Int × Int × Int => Fl_nextLevel_t39 x1 σ.1 σ.2.1 σ.2.2 s) (x3, x4, x5)) fun ρ39 =>
    ifEq ρ39.1 0
      (bnd (Hx_at 73 x1 s) fun y12 =>
      some y12)
      (grd ((0 ≤ ρ39.2 ∧ R ρ39.2) ∧ (0 < ρ39.1 ∧ R ρ39.1)) <|
      some (ρ39.2 / ρ39.1))
noncomputable def Fl_nextLevel_b34 (x1 : Int) (x3 : Int) (t0 : Int) (s : Sg) : Option (Int) :=
  Fl_nextLevel_l39 x1 x3 t0 0 s
noncomputable def Fl_nextLevel_b22 (x1 : Int) (x2 : Int) (t0 : Int) (s : Sg) : Option (Int) :=
  ifEq x2 2
    (Fl_nextLevel_b34 x1 t0 1000000 s)
    (Fl_nextLevel_b34 x1 t0 0 s)
noncomputable def Fl_nextLevel (x1 : Int) (s : Sg) : Option (Int) :=
  bnd (Gr_edges x1 (gi s 71 3) s) fun y1 =>
  ifEq y1 0
    (Fl_nextLevel_b22 x1 y1 0 s)
    (Fl_nextLevel_b22 x1 y1 1 s)
noncomputable def Fl_sweep_b61 (x1 : Int) (x2 : Int) (s : Sg) : Option (((Int × Int × Sg) ⊕ (Int × Sg))) :=
  some (.inl (x1, (x2 + 1), s))
noncomputable def Fl_sweep_b50 (x2 : Int) (x3 : Int) (t0 : Int) (t1 : Int) (s : Sg) : Option (((Int × Int × Sg) ⊕ (Int × Sg))) :=
  lett (iorI t0 t1) fun x1_4 =>
  bnd (Hx_set 73 x2 x3 s) fun s6 =>
  Fl_sweep_b61 x1_4 x2 s6
noncomputable def Fl_sweep_t4 (x1 : Int) (x2 : Int) (s : Sg) : Option (((Int × Int × Sg) ⊕ (Int × Sg))) :=
  ifLt x2 (gi s 1 4)
    (bnd (Hx_at 72 x2 s) fun y1 =>
    ifLt 0 y1
      (bnd (Fl_nextLevel x2 s) fun y2 =>
      bnd (Hx_at 73 x2 s) fun y3 =>
      ifEq y2 y3
        (Fl_sweep_b50 x2 y2 x1 0 s)
        (Fl_sweep_b50 x2 y2 x1 1 s))
      (Fl_sweep_b61 x1 x2 s))
    (some (.inr (x1, s)))
noncomputable def Fl_sweep_l4 (x1 : Int) (x2 : Int) (s : Sg) : Option (Int × Sg) :=
  bnd (whl (fun σ : Int × Int × Sg => Fl_sweep_t4 σ.1 σ.2.1 σ.2.2) (x1, x2, s)) fun ρ4 =>
    grd (b01 ρ4.1) <|
    some (ρ4.1, ρ4.2)
noncomputable def Fl_sweep  (s : Sg) : Option (Int × Sg) :=
  Fl_sweep_l4 0 0 s
noncomputable def Fl_amount_b62 (x1 : Int) (x2 : Int) (s : Sg) : Option (((Int × Int) ⊕ (Int))) :=
  some (.inl (x1, (x2 + 1)))
noncomputable def Fl_amount_t4 (x1 : Int) (x2 : Int) (s : Sg) : Option (((Int × Int) ⊕ (Int))) :=
  ifLt x2 (gi s 1 4)
    (bnd (Gr_edges x2 (gi s 71 3) s) fun y1 =>
    ifEq y1 1
      (bnd (Hx_at 72 x2 s) fun y2 =>
      ifLt 0 y2
        (bnd (Hx_at 72 x2 s) fun y3 =>
        bnd (Hx_at 73 x2 s) fun y4 =>
        lett (x1 + (y3 * y4)) fun x1_5 =>
        Fl_amount_b62 x1_5 x2 s)
        (Fl_amount_b62 x1 x2 s))
      (Fl_amount_b62 x1 x2 s))
    (some (.inr x1))
noncomputable def Fl_amount_l4 (x1 : Int) (x2 : Int) (s : Sg) : Option (Int) :=
  bnd (whl (fun σ : Int × Int => Fl_amount_t4 σ.1 σ.2 s) (x1, x2)) fun ρ4 =>
    some ρ4
noncomputable def Fl_amount  (s : Sg) : Option (Int) :=
  Fl_amount_l4 0 0 s
noncomputable def Fl_run_b82 (r1 : Nat) (x3 : Int) (x4 : Int) (t1 : Int) (t2 : Int) (s : Sg) : Option (((Int × Sg) ⊕ (Sg))) :=
  bnd (Hx_set 73 t1 t2 s) fun s6 =>
  some (.inl ((x4 + 1), s6))
noncomputable def Fl_run_b52 (r1 : Nat) (x3 : Int) (x4 : Int) (t0 : Int) (s : Sg) : Option (((Int × Sg) ⊕ (Sg))) :=
  bnd (Hx_set 72 x4 t0 s) fun s4 =>
  ifEq t0 0
    (Fl_run_b82 r1 x3 x4 x4 (-1) s4)
    (Fl_run_b82 r1 x3 x4 x4 500000 s4)
noncomputable def Fl_run_t8 (r1 : Nat) (x3 : Int) (x4 : Int) (s : Sg) : Option (((Int × Sg) ⊕ (Sg))) :=
  ifLt x4 (gi s 1 4)
    (bnd (Hx_at r1 x4 s) fun y2 =>
    ifEq y2 (-1)
      (Fl_run_b52 r1 x3 x4 1 s)
      (ifEq y2 (gi s 71 3)
        (Fl_run_b52 r1 x3 x4 3 s)
        (Fl_run_b52 r1 x3 x4 0 s)))
    (some (.inr s))
noncomputable def Fl_run_t97 (x3 : Int) (x4 : Int) (x5 : Int) (s : Sg) : Option (((Int × Int × Sg) ⊕ (Sg))) :=
  ifLt x5 x3
    (ifEq x4 0
      (some (.inr s))
      (bnd2 (Fl_sweep s) fun y8 s9 =>
      some (.inl (y8, (x5 + 1), s9))))
    (some (.inr s))
noncomputable def Fl_run_b120  (s : Sg) : Option (Int × Sg) :=
  bnd (Fl_amount s) fun y11 =>
  some (y11, s)
noncomputable def Fl_run_l97 (x3 : Int) (x4 : Int) (x5 : Int) (s : Sg) : Option (Int × Sg) :=
  bnd (whl (fun σ : Int × Int × Sg => Fl_run_t97 x3 σ.1 σ.2.1 σ.2.2) (x4, x5, s)) fun ρ97 =>
    Fl_run_b120  ρ97
noncomputable def Fl_run_l8 (r1 : Nat) (x3 : Int) (x4 : Int) (s : Sg) : Option (Int × Sg) :=
  bnd (whl (fun σ : Int × Sg => Fl_run_t8 r1 x3 σ.1 σ.2) (x4, s)) fun ρ8 =>
    Fl_run_l97 x3 1 0 ρ8
noncomputable def Fl_run (r1 : Nat) (x2 : Int) (x3 : Int) (s : Sg) : Option (Int × Sg) :=
  lett (si s 71 3 x2) fun s1 =>
  Fl_run_l8 r1 x3 0 s1
noncomputable def Fl_level (x1 : Int) (s : Sg) : Option (Int) :=
  bnd (Hx_at 73 x1 s) fun y1 =>
  some y1
noncomputable def Hx_potential (x1 : Int) (x2 : Int) (x3 : Int) (s : Sg) : Option ((Nat ⊕ Int) × Sg) :=
  bndx (Hx_requireSide x1 s) fun y1 s2 =>
  bndx (Hx_requireRange x3 0 100 s2) fun y3 s4 =>
  bndx (Hx_requireCell x2 s4) fun y5 s6 =>
  bnd2 (Fl_run 11 x1 x3 s6) fun y7 s8 =>
  bnd (Fl_level x2 s8) fun y9 =>
  some (.inr y9, s8)
noncomputable def Hx_current (x1 : Int) (x2 : Int) (s : Sg) : Option ((Nat ⊕ Int) × Sg) :=
  bndx (Hx_requireSide x1 s) fun y1 s2 =>
  bndx (Hx_requireRange x2 0 100 s2) fun y3 s4 =>
  bnd2 (Fl_run 11 x1 x2 s4) fun y5 s6 =>
  some (.inr y5, s6)
noncomputable def Hx_resistance (x1 : Int) (x2 : Int) (s : Sg) : Option ((Nat ⊕ UInt32) × Sg) :=
  bndx (Hx_requireSide x1 s) fun y1 s2 =>
  bndx (Hx_requireRange x2 0 100 s2) fun y3 s4 =>
  bnd2 (Fl_run 11 x1 x2 s4) fun y5 s6 =>
  ifEq y5 0
    (some (.inr (0 : UInt32), s6))
    (grd (vf_n32 (FP.fdiv (1232348160 : UInt32) (FP.i2f (Int32.ofInt y5)))) <|
    some (.inr (FP.fdiv (1232348160 : UInt32) (FP.i2f (Int32.ofInt y5))), s6))
noncomputable def Hx_balance (x1 : Int) (s : Sg) : Option ((Nat ⊕ UInt64) × Sg) :=
  bndx (Hx_requireRange x1 0 100 s) fun y1 s2 =>
  bnd2 (Fl_run 11 0 x1 s2) fun y3 s4 =>
  bnd2 (Fl_run 11 1 x1 s4) fun y5 s6 =>
  lett (y3 + y5) fun x3_7 =>
  ifEq x3_7 0
    (some (.inr (4602678819172646912 : UInt64), s6))
    (grd (vf_n64 (FP.ddiv (FP.i2d (Int32.ofInt y3)) (FP.i2d (Int32.ofInt x3_7)))) <|
    some (.inr (FP.ddiv (FP.i2d (Int32.ofInt y3)) (FP.i2d (Int32.ofInt x3_7))), s6))
noncomputable def En_begin_b71 (r1 : Nat) (x2 : Int) (s : Sg) : Option (((Int × Sg) ⊕ (Sg))) :=
  some (.inl ((x2 + 1), s))
noncomputable def En_begin_t7 (r1 : Nat) (x2 : Int) (s : Sg) : Option (((Int × Sg) ⊕ (Sg))) :=
  ifLt x2 (gi s 1 4)
    (bnd (Hx_at r1 x2 s) fun y2 =>
    bnd (Hx_set 75 x2 y2 s) fun s4 =>
    bnd (Hx_at r1 x2 s4) fun y5 =>
    ifEq y5 (-1)
      (ifLt (gi s4 74 5) 6
        (bnd (Hx_set 76 (gi s4 74 5) x2 s4) fun s7 =>
        lett (si s7 74 5 ((gi s7 74 5) + 1)) fun s8 =>
        En_begin_b71 r1 x2 s8)
        (En_begin_b71 r1 x2 s4))
      (En_begin_b71 r1 x2 s4))
    (some (.inr s))
noncomputable def En_begin_t79 (x2 : Int) (s : Sg) : Option (((Int × Sg) ⊕ (Sg))) :=
  ifLt x2 64
    (grd (0 ≤ x2 ∧ x2 < 64) <|
    lett (si s 77 x2.toNat (-1)) fun s11 =>
    some (.inl ((x2 + 1), s11)))
    (some (.inr s))
noncomputable def En_begin_l79 (x2 : Int) (s : Sg) : Option (Sg) :=
  bnd (whl (fun σ : Int × Sg => En_begin_t79 σ.1 σ.2) (x2, s)) fun ρ79 =>
    some ρ79
noncomputable def En_begin_l7 (r1 : Nat) (x2 : Int) (s : Sg) : Option (Sg) :=
  bnd (whl (fun σ : Int × Sg => En_begin_t7 r1 σ.1 σ.2) (x2, s)) fun ρ7 =>
    En_begin_l79 0 ρ7
noncomputable def En_begin (r1 : Nat) (s : Sg) : Option (Sg) :=
  lett (si s 74 5 0) fun s1 =>
  En_begin_l7 r1 0 s1
noncomputable def En_all  (s : Sg) : Option (Int) :=
  some ((ishlI 1 (gi s 74 5)) - 1)
noncomputable def En_owner_b91 (x1 : Int) (s : Sg) : Option (Int × Sg) :=
  bnd (Hx_at 77 x1 s) fun y2 =>
  some (y2, s)
noncomputable def En_owner_b47 (x1 : Int) (x2 : Int) (t1 : Int) (t2 : Int) (s : Sg) : Option (((Int × Sg) ⊕ (Sg))) :=
  bnd (Hx_set 75 t1 t2 s) fun s5 =>
  some (.inl ((x2 + 1), s5))
noncomputable def En_owner_t14 (x1 : Int) (x2 : Int) (s : Sg) : Option (((Int × Sg) ⊕ (Sg))) :=
  ifLt x2 (gi s 74 5)
    (bnd (Hx_at 76 x2 s) fun y3 =>
    ifEq (iandI x1 (ishlI 1 x2)) 0
      (En_owner_b47 x1 x2 y3 1 s)
      (En_owner_b47 x1 x2 y3 0 s))
    (some (.inr s))
noncomputable def En_owner_b88 (x1 : Int) (t1 : Int) (t2 : Int) (s : Sg) : Option (Int × Sg) :=
  bnd (Hx_set 77 t1 t2 s) fun s11 =>
  En_owner_b91 x1 s11
noncomputable def En_owner_l14 (x1 : Int) (x2 : Int) (s : Sg) : Option (Int × Sg) :=
  bnd (whl (fun σ : Int × Sg => En_owner_t14 x1 σ.1 σ.2) (x2, s)) fun ρ14 =>
    bnd (Li_gather 75 0 ρ14) fun s8 =>
    bnd (Li_joined s8) fun y9 =>
    ifEq y9 0
      (En_owner_b88 x1 x1 1 s8)
      (En_owner_b88 x1 x1 0 s8)
noncomputable def En_owner (x1 : Int) (s : Sg) : Option (Int × Sg) :=
  bnd (Hx_at 77 x1 s) fun y1 =>
  ifEq y1 (-1)
    (En_owner_l14 x1 0 s)
    (En_owner_b91 x1 s)
noncomputable def En_best_b11 (rec : Int → Int → Int → Int → Sg → Option (Int × Sg)) (x2 : Int) (s : Sg) : Option (Int × Sg) :=
  bnd2 (En_owner x2 s) fun y1 s2 =>
  some (y1, s2)
noncomputable def En_best_b80 (rec : Int → Int → Int → Int → Sg → Option (Int × Sg)) (x1 : Int) (x2 : Int) (x3 : Int) (x4 : Int) (x5 : Int) (s : Sg) : Option (((Int × Sg) ⊕ ((Sg) ⊕ (Sg)))) :=
  some (.inl ((x5 + 1), s))
noncomputable def En_best_b54 (rec : Int → Int → Int → Int → Sg → Option (Int × Sg)) (x1 : Int) (x2 : Int) (x3 : Int) (x4 : Int) (x5 : Int) (x6 : Int) (t0 : Int) (s : Sg) : Option (((Int × Sg) ⊕ ((Sg) ⊕ (Sg)))) :=
  bnd (Hx_otherSide x3 s) fun y4 =>
  bnd2 (rec (ixorI x1 x6) t0 y4 (x4 + 1) s) fun y5 s6 =>
  ifEq y5 x3
    (some (.inr (.inl s6)))
    (En_best_b80 rec x1 x2 x3 x4 x5 s6)
noncomputable def En_best_t20 (rec : Int → Int → Int → Int → Sg → Option (Int × Sg)) (x1 : Int) (x2 : Int) (x3 : Int) (x4 : Int) (x5 : Int) (s : Sg) : Option (((Int × Sg) ⊕ ((Sg) ⊕ (Sg)))) :=
  ifLt x5 (gi s 74 5)
    (lett (ishlI 1 x5) fun x6_3 =>
    ifEq (iandI x1 x6_3) 0
      (En_best_b80 rec x1 x2 x3 x4 x5 s)
      (ifEq x3 0
        (En_best_b54 rec x1 x2 x3 x4 x5 x6_3 (iorI x2 x6_3) s)
        (En_best_b54 rec x1 x2 x3 x4 x5 x6_3 x2 s)))
    (some (.inr (.inr s)))
noncomputable def En_best_l20 (rec : Int → Int → Int → Int → Sg → Option (Int × Sg)) (x1 : Int) (x2 : Int) (x3 : Int) (x4 : Int) (x5 : Int) (s : Sg) : Option (Int × Sg) :=
  bnd (whl (fun σ : Int × Sg => En_best_t20 rec x1 x2 x3 x4 σ.1 σ.2) (x5, s)) fun ρ20 => match ρ20 with
  | .inl ρ20 =>
      some (x3, ρ20)
  | .inr ρ20 =>
      bnd (Hx_otherSide x3 ρ20) fun y9 =>
      some (y9, ρ20)
noncomputable def En_best_r (rec : Int → Int → Int → Int → Sg → Option (Int × Sg)) (x1 : Int) (x2 : Int) (x3 : Int) (x4 : Int) (s : Sg) : Option (Int × Sg) :=
  ifEq x1 0
    (En_best_b11 rec x2 s)
    (ifLt x4 6
      (En_best_l20 rec x1 x2 x3 x4 0 s)
      (En_best_b11 rec x2 s))
noncomputable def En_best : Nat → Int → Int → Int → Int → Sg → Option (Int × Sg)
  | 0 => fun _ _ _ _ _ => none
  | n + 1 => En_best_r (En_best n)
noncomputable def En_winner (x1 : Int) (s : Sg) : Option (Int × Sg) :=
  bnd (En_all s) fun y1 =>
  bnd2 (En_best 8 y1 0 x1 0 s) fun y2 s3 =>
  some (y2, s3)
noncomputable def Hx_solved  (s : Sg) : Option (Int × Sg) :=
  bnd2 (Hx_winner s) fun y1 s2 =>
  ifEq y1 (-1)
    (bnd (Po_count 10 (-1) s2) fun y3 =>
    ifLt 6 y3
      (some (y1, s2))
      (bnd (En_begin 11 s2) fun s5 =>
      bnd2 (En_winner (gi s5 10 5) s5) fun y6 s7 =>
      some (y6, s7)))
    (some (y1, s2))
noncomputable def En_isGood_b20 (x2 : Int) (t1 : Int) (t2 : Int) (s : Sg) : Option (Int × Sg) :=
  bnd (Hx_otherSide x2 s) fun y3 =>
  bnd2 (En_best 8 t1 t2 y3 1 s) fun y4 s5 =>
  ifEq y4 x2
    (some (1, s5))
    (some (0, s5))
noncomputable def En_isGood (x1 : Int) (x2 : Int) (s : Sg) : Option (Int × Sg) :=
  lett (ishlI 1 x1) fun x3_1 =>
  bnd (En_all s) fun y2 =>
  ifEq x2 0
    (En_isGood_b20 x2 (ixorI y2 x3_1) x3_1 s)
    (En_isGood_b20 x2 (ixorI y2 x3_1) 0 s)
noncomputable def En_countGood_b24 (x1 : Int) (x2 : Int) (x3 : Int) (s : Sg) : Option (((Int × Int × Sg) ⊕ (Int × Sg))) :=
  some (.inl (x2, (x3 + 1), s))
noncomputable def En_countGood_t4 (x1 : Int) (x2 : Int) (x3 : Int) (s : Sg) : Option (((Int × Int × Sg) ⊕ (Int × Sg))) :=
  ifLt x3 (gi s 74 5)
    (bnd2 (En_isGood x3 x1 s) fun y1 s2 =>
    ifEq y1 0
      (En_countGood_b24 x1 x2 x3 s2)
      (En_countGood_b24 x1 (x2 + 1) x3 s2))
    (some (.inr (x2, s)))
noncomputable def En_countGood_l4 (x1 : Int) (x2 : Int) (x3 : Int) (s : Sg) : Option (Int × Sg) :=
  bnd (whl (fun σ : Int × Int × Sg => En_countGood_t4 x1 σ.1 σ.2.1 σ.2.2) (x2, x3, s)) fun ρ4 =>
    some (ρ4.1, ρ4.2)
noncomputable def En_countGood (x1 : Int) (s : Sg) : Option (Int × Sg) :=
  En_countGood_l4 x1 0 0 s
noncomputable def Hx_goodMoves  (s : Sg) : Option (Int × Sg) :=
  bnd2 (Hx_winner s) fun y1 s2 =>
  ifEq y1 (-1)
    (bnd (Po_count 10 (-1) s2) fun y3 =>
    ifLt 6 y3
      (some ((-1), s2))
      (bnd (En_begin 11 s2) fun s5 =>
      bnd2 (En_countGood (gi s5 10 5) s5) fun y6 s7 =>
      some (y6, s7)))
    (some (0, s2))
noncomputable def En_lowestGood_t2 (x1 : Int) (x2 : Int) (s : Sg) : Option (((Int × Sg) ⊕ ((Int × Sg) ⊕ (Sg)))) :=
  ifLt x2 (gi s 74 5)
    (bnd2 (En_isGood x2 x1 s) fun y1 s2 =>
    ifEq y1 0
      (some (.inl ((x2 + 1), s2)))
      (some (.inr (.inl (x2, s2)))))
    (some (.inr (.inr s)))
noncomputable def En_lowestGood_l2 (x1 : Int) (x2 : Int) (s : Sg) : Option (Int × Sg) :=
  bnd (whl (fun σ : Int × Sg => En_lowestGood_t2 x1 σ.1 σ.2) (x2, s)) fun ρ2 => match ρ2 with
  | .inl ρ2 =>
      bnd (Hx_at 76 ρ2.1 ρ2.2) fun y5 =>
      some (y5, ρ2.2)
  | .inr ρ2 =>
      some ((-1), ρ2)
noncomputable def En_lowestGood (x1 : Int) (s : Sg) : Option (Int × Sg) :=
  En_lowestGood_l2 x1 0 s
noncomputable def Hx_bestMove  (s : Sg) : Option (Int × Sg) :=
  bnd2 (Hx_winner s) fun y1 s2 =>
  ifEq y1 (-1)
    (bnd (Po_count 10 (-1) s2) fun y3 =>
    ifLt 6 y3
      (some ((-1), s2))
      (bnd (En_begin 11 s2) fun s5 =>
      bnd2 (En_lowestGood (gi s5 10 5) s5) fun y6 s7 =>
      some (y6, s7)))
    (some ((-1), s2))
noncomputable def Fi_begin (x1 : Int) (s : Sg) : Option (Sg) :=
  lett (si s 78 3 x1) fun s1 =>
  some s1
noncomputable def Fi_nextStone  (s : Sg) : Option (Int × Sg) :=
  lett (si s 78 3 (iandI ((1103515245 * (gi s 78 3)) + 12345) 2147483647)) fun s1 =>
  grd ((0 ≤ (gi s1 78 3) ∧ R (gi s1 78 3)) ∧ (0 < 65536 ∧ R 65536)) <|
  grd ((0 ≤ ((gi s1 78 3) / 65536) ∧ R ((gi s1 78 3) / 65536)) ∧ (0 < 2 ∧ R 2)) <|
  ifEq (((gi s1 78 3) / 65536) % 2) 0
    (some (0, s1))
    (some (1, s1))
noncomputable def Fi_next_b37 (r1 : Nat) (x2 : Int) (t1 : Int) (t2 : Int) (s : Sg) : Option (((Int × Sg) ⊕ (Sg))) :=
  bnd (Hx_set 79 t1 t2 s) fun s3 =>
  some (.inl ((x2 + 1), s3))
noncomputable def Fi_next_t2 (r1 : Nat) (x2 : Int) (s : Sg) : Option (((Int × Sg) ⊕ (Sg))) :=
  ifLt x2 (gi s 1 4)
    (bnd (Hx_at r1 x2 s) fun y1 =>
    ifEq y1 (-1)
      (bnd2 (Fi_nextStone s) fun y4 s5 =>
      Fi_next_b37 r1 x2 x2 y4 s5)
      (Fi_next_b37 r1 x2 x2 y1 s))
    (some (.inr s))
noncomputable def Fi_next_l2 (r1 : Nat) (x2 : Int) (s : Sg) : Option (Int × Sg) :=
  bnd (whl (fun σ : Int × Sg => Fi_next_t2 r1 σ.1 σ.2) (x2, s)) fun ρ2 =>
    bnd (Li_gather 79 0 ρ2) fun s8 =>
    bnd (Li_joined s8) fun y9 =>
    ifEq y9 0
      (some (1, s8))
      (some (0, s8))
noncomputable def Fi_next (r1 : Nat) (s : Sg) : Option (Int × Sg) :=
  Fi_next_l2 r1 0 s
noncomputable def Hx_filled (x1 : Int) (s : Sg) : Option ((Nat ⊕ Int) × Sg) :=
  bndx (Hx_requireRange x1 0 2147483647 s) fun y1 s2 =>
  bnd (Fi_begin x1 s2) fun s4 =>
  bnd2 (Fi_next 11 s4) fun y5 s6 =>
  some (.inr y5, s6)
noncomputable def Hx_fillings_b60 (x1 : Int) (x3 : Int) (x4 : Int) (x5 : Int) (s : Sg) : Option (((Int × Int × Sg) ⊕ (Int × Sg))) :=
  some (.inl (x4, (x5 + 1), s))
noncomputable def Hx_fillings_t33 (x1 : Int) (x3 : Int) (x4 : Int) (x5 : Int) (s : Sg) : Option (((Int × Int × Sg) ⊕ (Int × Sg))) :=
  ifLt x5 x3
    (bnd2 (Fi_next 11 s) fun y9 s10 =>
    ifEq y9 x1
      (Hx_fillings_b60 x1 x3 (x4 + 1) x5 s10)
      (Hx_fillings_b60 x1 x3 x4 x5 s10))
    (some (.inr (x4, s)))
noncomputable def Hx_fillings_l33 (x1 : Int) (x3 : Int) (x4 : Int) (x5 : Int) (s : Sg) : Option ((Nat ⊕ Int) × Sg) :=
  bnd (whl (fun σ : Int × Int × Sg => Hx_fillings_t33 x1 x3 σ.1 σ.2.1 σ.2.2) (x4, x5, s)) fun ρ33 =>
    some (.inr ρ33.1, ρ33.2)
noncomputable def Hx_fillings (x1 : Int) (x2 : Int) (x3 : Int) (s : Sg) : Option ((Nat ⊕ Int) × Sg) :=
  bndx (Hx_requireSide x1 s) fun y1 s2 =>
  bndx (Hx_requireRange x2 0 2147483647 s2) fun y3 s4 =>
  bndx (Hx_requireRange x3 1 100 s4) fun y5 s6 =>
  bnd (Fi_begin x2 s6) fun s8 =>
  Hx_fillings_l33 x1 x3 0 0 s8
noncomputable def Fi_countIdle_b85 (r1 : Nat) (x2 : Int) (x4 : Int) (x5 : Int) (s : Sg) : Option (((Int × Int) ⊕ (Int))) :=
  some (.inl (x4, (x5 + 1)))
noncomputable def Fi_countIdle_b65 (r1 : Nat) (x2 : Int) (x4 : Int) (x5 : Int) (t0 : Int) (s : Sg) : Option (((Int × Int) ⊕ (Int))) :=
  bnd (Hx_at r1 x5 s) fun y5 =>
  ifEq y5 (-1)
    (ifEq t0 0
      (Fi_countIdle_b85 r1 x2 (x4 + 1) x5 s)
      (Fi_countIdle_b85 r1 x2 x4 x5 s))
    (Fi_countIdle_b85 r1 x2 x4 x5 s)
noncomputable def Fi_countIdle_b64 (r1 : Nat) (x2 : Int) (x4 : Int) (x5 : Int) (s : Sg) : Option (((Int × Int) ⊕ (Int))) :=
  Fi_countIdle_b65 r1 x2 x4 x5 0 s
noncomputable def Fi_countIdle_t23 (r1 : Nat) (x2 : Int) (x4 : Int) (x5 : Int) (s : Sg) : Option (((Int × Int) ⊕ (Int))) :=
  ifLt x5 (gi s 1 4)
    (bnd (Hx_at 79 x5 s) fun y4 =>
    ifEq y4 x2
      (bnd (Li_joinsBy x5 s) fun y6 =>
      ifEq y6 0
        (Fi_countIdle_b64 r1 x2 x4 x5 s)
        (Fi_countIdle_b65 r1 x2 x4 x5 1 s))
      (Fi_countIdle_b64 r1 x2 x4 x5 s))
    (some (.inr x4))
noncomputable def Fi_countIdle_l23 (r1 : Nat) (x2 : Int) (x4 : Int) (x5 : Int) (s : Sg) : Option (Int × Sg) :=
  bnd (whl (fun σ : Int × Int => Fi_countIdle_t23 r1 x2 σ.1 σ.2 s) (x4, x5)) fun ρ23 =>
    some (ρ23, s)
noncomputable def Fi_countIdle (r1 : Nat) (x2 : Int) (s : Sg) : Option (Int × Sg) :=
  bnd (Hx_otherSide x2 s) fun y1 =>
  bnd (Li_gather 79 y1 s) fun s3 =>
  Fi_countIdle_l23 r1 x2 0 0 s3
noncomputable def Hx_idle (x1 : Int) (s : Sg) : Option ((Nat ⊕ Int) × Sg) :=
  bndx (Hx_requireRange x1 0 2147483647 s) fun y1 s2 =>
  bnd (Fi_begin x1 s2) fun s4 =>
  bnd2 (Fi_next 11 s4) fun y5 s6 =>
  bnd2 (Fi_countIdle 11 y5 s6) fun y7 s8 =>
  some (.inr y7, s8)
noncomputable def Hx_moveAt (x1 : Int) (s : Sg) : Option (Int) :=
  bnd (Po_moved 10 x1 s) fun y1 =>
  some y1
noncomputable def Hi_latest_b23  (s : Sg) : Option (Nat) :=
  none
noncomputable def Hi_latest (x1 : Int) (s : Sg) : Option (Nat) :=
  grd ((0 ≤ ((gi s 16 1) + x1) ∧ R ((gi s 16 1) + x1)) ∧ (0 < 8 ∧ R 8)) <|
  lett (((gi s 16 1) + x1) % 8) fun x2_2 =>
  ifLt x2_2 0
    (Hi_latest_b23  s)
    (ifLt x2_2 8
      (grd (0 ≤ x2_2 ∧ x2_2 < 8) <|
      some (18 + 3 * x2_2.toNat))
      (Hi_latest_b23  s))
noncomputable def Hi_remember_b32 (r1 : Nat) (s : Sg) : Option (Sg) :=
  bnd (Hi_latest (gi s 16 2) s) fun y1 =>
  bnd (Po_copy y1 r1 s) fun s3 =>
  lett (si s3 16 2 ((gi s3 16 2) + 1)) fun s4 =>
  some s4
noncomputable def Hi_remember (r1 : Nat) (s : Sg) : Option (Sg) :=
  ifEq (gi s 16 2) 8
    (grd ((0 ≤ ((gi s 16 1) + 1) ∧ R ((gi s 16 1) + 1)) ∧ (0 < 8 ∧ R 8)) <|
    lett (si s 16 1 (((gi s 16 1) + 1) % 8)) fun s6 =>
    lett (si s6 16 2 ((gi s6 16 2) - 1)) fun s7 =>
    Hi_remember_b32 r1 s7)
    (Hi_remember_b32 r1 s)
noncomputable def Hx_move (x1 : Int) (s : Sg) : Option ((Nat ⊕ Int) × Sg) :=
  bndx (Hx_requireCell x1 s) fun y1 s2 =>
  bnd (Po_stone 10 x1 s2) fun y3 =>
  ifEq y3 (-1)
    (bnd2 (Hx_winner s2) fun y4 s5 =>
    ifEq y4 (-1)
      (ifLt (gi s5 10 4) 200
        (bnd (Hi_remember 10 s5) fun s7 =>
        bnd (Po_play 10 x1 s7) fun s9 =>
        bnd2 (Hx_winner s9) fun y10 s11 =>
        some (.inr y10, s11))
        (some (.inr (-2), s5)))
      (some (.inr (-3), s5)))
    (some (.inr (-3), s2))
noncomputable def Gr_mirror (x1 : Int) (s : Sg) : Option (Int) :=
  bnd (Gr_column x1 s) fun y1 =>
  bnd (Gr_row x1 s) fun y2 =>
  bnd (Gr_cellAt y1 y2 s) fun y3 =>
  some y3
noncomputable def Hx_swap  (s : Sg) : Option (Int × Sg) :=
  bnd2 (Hx_canSwap s) fun y1 s2 =>
  ifEq y1 0
    (some ((-3), s2))
    (bnd (Hi_remember 10 s2) fun s4 =>
    bnd (Po_moved 10 0 s4) fun y5 =>
    bnd (Po_place 10 y5 (-1) s4) fun s7 =>
    bnd (Gr_mirror y5 s7) fun y8 =>
    bnd (Po_play 10 y8 s7) fun s10 =>
    some (y8, s10))
noncomputable def Hx_giveUp  (s : Sg) : Option (Int × Sg) :=
  bnd2 (Hx_winner s) fun y1 s2 =>
  ifEq y1 (-1)
    (bnd (Hi_remember 10 s2) fun s4 =>
    lett (si s4 10 6 (gi s4 10 5)) fun s5 =>
    bnd2 (Hx_winner s5) fun y6 s7 =>
    some (y6, s7))
    (some ((-3), s2))
noncomputable def Hx_put (x1 : Int) (x2 : Int) (s : Sg) : Option ((Nat ⊕ Int) × Sg) :=
  bndx (Hx_requireCell x1 s) fun y1 s2 =>
  bndx (Hx_requireRange x2 (-1) 1 s2) fun y3 s4 =>
  bnd (Hi_remember 10 s4) fun s6 =>
  bnd (Po_stone 10 x1 s6) fun y7 =>
  bnd (Po_place 10 x1 x2 s6) fun s9 =>
  some (.inr y7, s9)
noncomputable def Hx_setTurn (x1 : Int) (s : Sg) : Option ((Nat ⊕ Int) × Sg) :=
  bndx (Hx_requireSide x1 s) fun y1 s2 =>
  bnd (Hi_remember 10 s2) fun s4 =>
  lett (gi s4 10 5) fun x2_5 =>
  lett (si s4 10 5 x1) fun s6 =>
  some (.inr x2_5, s6)
noncomputable def Po_mirrored (x0 : Int) (s : Sg) : Option (Int) :=
  ifEq x0 (-1)
    (some (-1))
    (bnd (Hx_otherSide x0 s) fun y1 =>
    some y1)
noncomputable def Po_mirror_b62 (r0 : Nat) (x2 : Int) (s : Sg) : Option (((Int × Sg) ⊕ (Sg))) :=
  some (.inl ((x2 + 1), s))
noncomputable def Po_mirror_t2 (r0 : Nat) (x2 : Int) (s : Sg) : Option (((Int × Sg) ⊕ (Sg))) :=
  ifLt x2 ((gi s r0 2) * (gi s r0 2))
    (bnd (Gr_mirror x2 s) fun y1 =>
    ifLt y1 x2
      (Po_mirror_b62 r0 x2 s)
      (bnd (Po_stone r0 x2 s) fun y2 =>
      bnd (Po_stone r0 y1 s) fun y3 =>
      bnd (Po_mirrored y3 s) fun y4 =>
      bnd (Hx_set (r0 + 1) x2 y4 s) fun s6 =>
      bnd (Po_mirrored y2 s6) fun y7 =>
      bnd (Hx_set (r0 + 1) y1 y7 s6) fun s9 =>
      Po_mirror_b62 r0 x2 s9))
    (some (.inr s))
noncomputable def Po_mirror_t70 (r0 : Nat) (x2 : Int) (s : Sg) : Option (((Int × Sg) ⊕ (Sg))) :=
  ifLt x2 (gi s r0 4)
    (bnd (Po_moved r0 x2 s) fun y11 =>
    bnd (Gr_mirror y11 s) fun y12 =>
    bnd (Hx_set (r0 + 2) x2 y12 s) fun s14 =>
    some (.inl ((x2 + 1), s14)))
    (some (.inr s))
noncomputable def Po_mirror_l70 (r0 : Nat) (x2 : Int) (s : Sg) : Option (Sg) :=
  bnd (whl (fun σ : Int × Sg => Po_mirror_t70 r0 σ.1 σ.2) (x2, s)) fun ρ70 =>
    bnd (Hx_otherSide (gi ρ70 r0 5) ρ70) fun y16 =>
    lett (si ρ70 r0 5 y16) fun s17 =>
    bnd (Po_mirrored (gi s17 r0 6) s17) fun y18 =>
    lett (si s17 r0 6 y18) fun s19 =>
    some s19
noncomputable def Po_mirror_l2 (r0 : Nat) (x2 : Int) (s : Sg) : Option (Sg) :=
  bnd (whl (fun σ : Int × Sg => Po_mirror_t2 r0 σ.1 σ.2) (x2, s)) fun ρ2 =>
    Po_mirror_l70 r0 0 ρ2
noncomputable def Po_mirror (r0 : Nat) (s : Sg) : Option (Sg) :=
  Po_mirror_l2 r0 0 s
noncomputable def Hx_turnOver  (s : Sg) : Option (Int × Sg) :=
  bnd (Hi_remember 10 s) fun s2 =>
  bnd (Po_mirror 10 s2) fun s4 =>
  some ((gi s4 10 2), s4)
noncomputable def Hx_makeForced_t2 (x1 : Int) (x2 : Int) (s : Sg) : Option (((Int × Sg) ⊕ ((Int × Sg) ⊕ (Int × Sg)))) :=
  ifLt x2 x1
    (ifLt (gi s 10 4) 200
      (bnd2 (Hx_forcedCell s) fun y1 s2 =>
      ifEq y1 (-1)
        (some (.inr (.inl (x2, s2))))
        (bnd (Po_play 10 y1 s2) fun s4 =>
        some (.inl ((x2 + 1), s4))))
      (some (.inr (.inr (x2, s)))))
    (some (.inr (.inr (x2, s))))
noncomputable def Hx_makeForced_l2 (x1 : Int) (x2 : Int) (s : Sg) : Option (Int × Sg) :=
  bnd (whl (fun σ : Int × Sg => Hx_makeForced_t2 x1 σ.1 σ.2) (x2, s)) fun ρ2 => match ρ2 with
  | .inl ρ2 =>
      some (ρ2.1, ρ2.2)
  | .inr ρ2 =>
      some (ρ2.1, ρ2.2)
noncomputable def Hx_makeForced (x1 : Int) (s : Sg) : Option (Int × Sg) :=
  Hx_makeForced_l2 x1 0 s
noncomputable def Hx_playForced (x1 : Int) (s : Sg) : Option ((Nat ⊕ Int) × Sg) :=
  bndx (Hx_requireRange x1 1 81 s) fun y1 s2 =>
  bnd (Hi_remember 10 s2) fun s4 =>
  bnd2 (Hx_makeForced x1 s4) fun y5 s6 =>
  some (.inr y5, s6)
noncomputable def Hx_forcedWinner  (s : Sg) : Option (Int × Sg) :=
  bnd (Po_copy 13 10 s) fun s2 =>
  bnd2 (Hx_makeForced 81 s2) fun y3 s4 =>
  bnd2 (Hx_winner s4) fun y5 s6 =>
  bnd (Po_copy 10 13 s6) fun s8 =>
  some (y5, s8)
noncomputable def Hx_forcedRow  (s : Sg) : Option (Int × Sg) :=
  bnd (Po_copy 13 10 s) fun s2 =>
  bnd2 (Hx_makeForced 81 s2) fun y3 s4 =>
  bnd (Po_copy 10 13 s4) fun s6 =>
  some (y3, s6)
noncomputable def Hx_fullness  (s : Sg) : Option (UInt64) :=
  lett (gi s 1 4) fun x1_1 =>
  bnd (Po_count 10 (-1) s) fun y2 =>
  lett (x1_1 - y2) fun x2_3 =>
  ifEq x1_1 0
    (some (0 : UInt64))
    (grd (vf_n64 (FP.ddiv (FP.i2d (Int32.ofInt x2_3)) (FP.i2d (Int32.ofInt x1_1)))) <|
    some (FP.ddiv (FP.i2d (Int32.ofInt x2_3)) (FP.i2d (Int32.ofInt x1_1))))
noncomputable def Hx_writeRow_b15  (s : Sg) : Option ((Nat ⊕ Int) × Sg) :=
  some (.inl 1, s)
noncomputable def Hx_writeRow_b88 (x1 : Int) (x2 : Int) (t1 : Int) (s : Sg) : Option (((Int × Sg) ⊕ (Sg))) :=
  bnd (By_add 50 t1 s) fun s6 =>
  some (.inl ((x2 + 1), s6))
noncomputable def Hx_writeRow_t35 (x1 : Int) (x2 : Int) (s : Sg) : Option (((Int × Sg) ⊕ (Sg))) :=
  ifLt x2 (gi s 10 2)
    (bnd (Gr_cellAt x1 x2 s) fun y3 =>
    bnd (Po_stone 10 y3 s) fun y4 =>
    ifEq y4 0
      (Hx_writeRow_b88 x1 x2 114 s)
      (ifEq y4 1
        (Hx_writeRow_b88 x1 x2 98 s)
        (Hx_writeRow_b88 x1 x2 46 s)))
    (some (.inr s))
noncomputable def Hx_writeRow_l35 (x1 : Int) (x2 : Int) (s : Sg) : Option ((Nat ⊕ Int) × Sg) :=
  bnd (whl (fun σ : Int × Sg => Hx_writeRow_t35 x1 σ.1 σ.2) (x2, s)) fun ρ35 =>
    some (.inr (gi ρ35 50 1), ρ35)
noncomputable def Hx_writeRow (x1 : Int) (s : Sg) : Option ((Nat ⊕ Int) × Sg) :=
  ifLt x1 0
    (Hx_writeRow_b15  s)
    (ifLt x1 (gi s 10 2)
      (bnd (By_clear 50 s) fun s2 =>
      Hx_writeRow_l35 x1 0 s2)
      (Hx_writeRow_b15  s))
noncomputable def Hx_writeCell (x1 : Int) (s : Sg) : Option ((Nat ⊕ Int) × Sg) :=
  bndx (Hx_requireCell x1 s) fun y1 s2 =>
  bnd (By_clear 50 s2) fun s4 =>
  bnd (Gr_column x1 s4) fun y5 =>
  bnd (By_add 50 (97 + y5) s4) fun s7 =>
  bnd (Gr_row x1 s7) fun y8 =>
  bnd (By_add 50 (49 + y8) s7) fun s10 =>
  some (.inr (gi s10 50 1), s10)
noncomputable def Hx_outputByte (x1 : Int) (s : Sg) : Option (Int) :=
  bnd (By_get 50 x1 s) fun y1 =>
  some y1
noncomputable def Hi_back (r1 : Nat) (s : Sg) : Option (Int × Sg) :=
  ifEq (gi s 16 2) 0
    (some (0, s))
    (bnd (Hi_latest ((gi s 16 2) - 1) s) fun y1 =>
    bnd (Po_copy r1 y1 s) fun s3 =>
    lett (si s3 16 2 ((gi s3 16 2) - 1)) fun s4 =>
    some (1, s4))
noncomputable def Hx_undo  (s : Sg) : Option (Int × Sg) :=
  bnd2 (Hi_back 10 s) fun y1 s2 =>
  ifEq y1 0
    (some ((-1), s2))
    (some ((gi s2 16 2), s2))
noncomputable def Hx_saveSnapshot_b21 (u_0 : Nat) (s : Sg) : Option ((Nat ⊕ Int) × Sg) :=
  bnd (Po_copy u_0 10 s) fun s4 =>
  bnd (Po_count 10 (-1) s4) fun y5 =>
  some (.inr y5, s4)
noncomputable def Hx_saveSnapshot (x1 : Int) (s : Sg) : Option ((Nat ⊕ Int) × Sg) :=
  bndx (Hx_requireRange x1 0 1 s) fun y1 s2 =>
  ifEq x1 0
    (Hx_saveSnapshot_b21 42 s2)
    (Hx_saveSnapshot_b21 45 s2)
noncomputable def Po_isBegun (r0 : Nat) (s : Sg) : Option (Int) :=
  ifEq (gi s r0 2) 0
    (some 0)
    (some 1)
noncomputable def Hx_restoreSnapshot_b21 (u_0 : Nat) (s : Sg) : Option ((Nat ⊕ Int) × Sg) :=
  bnd (Po_isBegun u_0 s) fun y3 =>
  ifEq y3 0
    (some (.inr (-1), s))
    (bnd (Po_copy 10 u_0 s) fun s5 =>
    bnd (Gr_fit (gi s5 10 2) s5) fun s7 =>
    bnd (Hi_clear s7) fun s9 =>
    bnd (Po_count 10 (-1) s9) fun y10 =>
    some (.inr y10, s9))
noncomputable def Hx_restoreSnapshot (x1 : Int) (s : Sg) : Option ((Nat ⊕ Int) × Sg) :=
  bndx (Hx_requireRange x1 0 1 s) fun y1 s2 =>
  ifEq x1 0
    (Hx_restoreSnapshot_b21 42 s2)
    (Hx_restoreSnapshot_b21 45 s2)
noncomputable def Mo_begins_t2 (x1 : Int) (x2 : Int) (s : Sg) : Option (((Int × Sg) ⊕ (Sg))) :=
  ifLt x2 286
    (grd (0 ≤ x2 ∧ x2 < 286) <|
    lett (si s 81 x2.toNat (-1)) fun s2 =>
    some (.inl ((x2 + 1), s2)))
    (some (.inr s))
noncomputable def Mo_begins_l2 (x1 : Int) (x2 : Int) (s : Sg) : Option (Sg) :=
  bnd (whl (fun σ : Int × Sg => Mo_begins_t2 x1 σ.1 σ.2) (x2, s)) fun ρ2 =>
    grd (0 ≤ 0 ∧ 0 < 286) <|
    lett (si ρ2 81 0 x1) fun s5 =>
    grd (0 ≤ 1 ∧ 1 < 286) <|
    lett (si s5 81 1 0) fun s7 =>
    grd (0 ≤ 2 ∧ 2 < 286) <|
    lett (si s7 81 2 0) fun s9 =>
    grd (0 ≤ 4 ∧ 4 < 286) <|
    lett (si s9 81 4 0) fun s11 =>
    some s11
noncomputable def Mo_begins (x1 : Int) (s : Sg) : Option (Sg) :=
  Mo_begins_l2 x1 0 s
noncomputable def Mo_thrown  (s : Sg) : Option (Int) :=
  some (gi s 80 0)
noncomputable def Mo_in (x0 : Int) (x2 : Int) (x4 : Int) (s : Sg) : Option (Int) :=
  grd (RL64 x2 ∧ RL64 x0) <|
  ifLt 0 (lcmpI x2 x0)
    (some 0)
    (grd (RL64 x0 ∧ RL64 x4) <|
    ifLt 0 (lcmpI x0 x4)
      (some 0)
      (some 1))
noncomputable def Mo_wrong_b10 (x1 : Int) (t1 : Int) (s : Sg) : Option (Int × Sg) :=
  lett (si s 80 0 t1) fun s1 =>
  grd (b01 x1) <|
  some (x1, s1)
noncomputable def Mo_wrong (x1 : Int) (s : Sg) : Option (Int × Sg) :=
  ifEq x1 0
    (Mo_wrong_b10 x1 0 s)
    (Mo_wrong_b10 x1 1 s)
noncomputable def Mo_throwsIf (x1 : Int) (x2 : Int) (s : Sg) : Option (Int × Sg) :=
  ifEq x1 0
    (grd (b01 x1) <|
    some (x1, s))
    (lett (si s 80 0 x2) fun s2 =>
    grd (b01 x1) <|
    some (x1, s2))
noncomputable def Mo_goesAside_t2 (x1 : Int) (s : Sg) : Option (((Int × Sg) ⊕ (Sg))) :=
  ifLt x1 286
    (grd (0 ≤ x1 ∧ x1 < 286) <|
    grd (0 ≤ x1 ∧ x1 < 286) <|
    lett (si s 82 x1.toNat (gi s 81 x1.toNat)) fun s3 =>
    some (.inl ((x1 + 1), s3)))
    (some (.inr s))
noncomputable def Mo_goesAside_l2 (x1 : Int) (s : Sg) : Option (Sg) :=
  bnd (whl (fun σ : Int × Sg => Mo_goesAside_t2 σ.1 σ.2) (x1, s)) fun ρ2 =>
    some ρ2
noncomputable def Mo_goesAside  (s : Sg) : Option (Sg) :=
  Mo_goesAside_l2 0 s
noncomputable def Mo_comesBack_t2 (x1 : Int) (x2 : Int) (s : Sg) : Option (((Int × Sg) ⊕ (Sg))) :=
  ifLt x2 286
    (grd (0 ≤ x2 ∧ x2 < 286) <|
    grd (0 ≤ x2 ∧ x2 < 286) <|
    lett (si s 81 x2.toNat (gi s 82 x2.toNat)) fun s3 =>
    some (.inl ((x2 + 1), s3)))
    (some (.inr s))
noncomputable def Mo_comesBack_l2 (x1 : Int) (x2 : Int) (s : Sg) : Option (Int × Sg) :=
  bnd (whl (fun σ : Int × Sg => Mo_comesBack_t2 x1 σ.1 σ.2) (x2, s)) fun ρ2 =>
    some (x1, ρ2)
noncomputable def Mo_comesBack (x1 : Int) (s : Sg) : Option (Int × Sg) :=
  Mo_comesBack_l2 x1 0 s
noncomputable def Mo_keeps_t57 (x1 : Int) (s : Sg) : Option (((Int × Sg) ⊕ (Sg))) :=
  ifLt x1 286
    (grd (0 ≤ x1 ∧ x1 < 286) <|
    grd (0 ≤ ((286 * (gi s 80 6)) + x1) ∧ ((286 * (gi s 80 6)) + x1) < 2288) <|
    lett (si s 85 ((286 * (gi s 80 6)) + x1).toNat (gi s 81 x1.toNat)) fun s3 =>
    some (.inl ((x1 + 1), s3)))
    (some (.inr s))
noncomputable def Mo_keeps_l57 (x1 : Int) (s : Sg) : Option (Sg) :=
  bnd (whl (fun σ : Int × Sg => Mo_keeps_t57 σ.1 σ.2) (x1, s)) fun ρ57 =>
    lett (si ρ57 80 6 ((gi ρ57 80 6) + 1)) fun s5 =>
    some s5
noncomputable def Mo_keeps_b55  (s : Sg) : Option (Sg) :=
  Mo_keeps_l57 0 s
noncomputable def Mo_keeps_t21 (x1 : Int) (s : Sg) : Option (((Int × Sg) ⊕ (Sg))) :=
  ifLt x1 ((gi s 80 6) * 286)
    (grd (0 ≤ (x1 + 286) ∧ (x1 + 286) < 2288) <|
    grd (0 ≤ x1 ∧ x1 < 2288) <|
    lett (si s 85 x1.toNat (gi s 85 (x1 + 286).toNat)) fun s9 =>
    some (.inl ((x1 + 1), s9)))
    (some (.inr s))
noncomputable def Mo_keeps_l21 (x1 : Int) (s : Sg) : Option (Sg) :=
  bnd (whl (fun σ : Int × Sg => Mo_keeps_t21 σ.1 σ.2) (x1, s)) fun ρ21 =>
    Mo_keeps_b55  ρ21
noncomputable def Mo_keeps  (s : Sg) : Option (Sg) :=
  ifEq (gi s 80 6) 8
    (lett (si s 80 6 ((gi s 80 6) - 1)) fun s6 =>
    Mo_keeps_l21 0 s6)
    (Mo_keeps_b55  s)
noncomputable def Mo_append_b39 (x1 : Int) (x4 : Int) (t0 : Int) (t1 : Int) (s : Sg) : Option (((Int × Int) ⊕ (Int))) :=
  lett (t0 + t1) fun x3_3 =>
  some (.inl (x3_3, (x4 + 1)))
noncomputable def Mo_append_t10 (x1 : Int) (x3 : Int) (x4 : Int) (s : Sg) : Option (((Int × Int) ⊕ (Int))) :=
  ifLt x4 8
    (grd (RL64 (landI (lshrI x1 (8 * x4)) 255) ∧ RL64 0) <|
    ifEq (lcmpI (landI (lshrI x1 (8 * x4)) 255) 0) 0
      (Mo_append_b39 x1 x4 x3 0 s)
      (Mo_append_b39 x1 x4 x3 1 s))
    (some (.inr x3))
noncomputable def Mo_append_b117 (x1 : Int) (x4 : Int) (s : Sg) : Option (((Int × Sg) ⊕ (Sg))) :=
  some (.inl ((x4 + (-1)), s))
noncomputable def Mo_append_t66 (x1 : Int) (x4 : Int) (s : Sg) : Option (((Int × Sg) ⊕ (Sg))) :=
  ifLt x4 0
    (some (.inr s))
    (lett (landI (lshrI x1 (8 * x4)) 255) fun x5_5 =>
    grd (RL64 x5_5 ∧ RL64 0) <|
    ifEq (lcmpI x5_5 0) 0
      (Mo_append_b117 x1 x4 s)
      (grd (0 ≤ (gi s 80 8) ∧ (gi s 80 8) < 400) <|
      lett (si s 86 (gi s 80 8).toNat (i2bI (i2bI x5_5))) fun s8 =>
      lett (si s8 80 8 ((gi s8 80 8) + 1)) fun s9 =>
      Mo_append_b117 x1 x4 s9))
noncomputable def Mo_append_l66 (x1 : Int) (x4 : Int) (s : Sg) : Option (Int × Sg) :=
  bnd (whl (fun σ : Int × Sg => Mo_append_t66 x1 σ.1 σ.2) (x4, s)) fun ρ66 =>
    some ((gi ρ66 80 8), ρ66)
noncomputable def Mo_append_l10 (x1 : Int) (x3 : Int) (x4 : Int) (s : Sg) : Option (Int × Sg) :=
  bnd (whl (fun σ : Int × Int => Mo_append_t10 x1 σ.1 σ.2 s) (x3, x4)) fun ρ10 =>
    ifLt 400 ((gi s 80 8) + ρ10)
      (some ((-2), s))
      (Mo_append_l66 x1 7 s)
noncomputable def Mo_append (x1 : Int) (s : Sg) : Option (Int × Sg) :=
  lett (si s 80 0 0) fun s1 =>
  Mo_append_l10 x1 0 0 s1
noncomputable def Mo_fails (x1 : Int) (x2 : Int) (s : Sg) : Option (Int × Sg) :=
  lett (si s 80 12 x1) fun s1 =>
  lett (si s1 80 13 x2) fun s2 =>
  some (0, s2)
noncomputable def Mo_nextByte_t0  (s : Sg) : Option (((Sg) ⊕ (Sg))) :=
  ifLt (gi s 80 9) (gi s 80 8)
    (grd (0 ≤ (gi s 80 9) ∧ (gi s 80 9) < 400) <|
    ifEq (gi s 86 (gi s 80 9).toNat) 32
      (lett (si s 80 9 ((gi s 80 9) + 1)) fun s2 =>
      some (.inl s2))
      (some (.inr s)))
    (some (.inr s))
noncomputable def Mo_nextByte_b38  (s : Sg) : Option (Int × Sg) :=
  lett (si s 80 10 (gi s 80 9)) fun s4 =>
  ifLt (gi s4 80 9) (gi s4 80 8)
    (grd (0 ≤ (gi s4 80 9) ∧ (gi s4 80 9) < 400) <|
    some ((iandI (gi s4 86 (gi s4 80 9).toNat) 255), s4))
    (some ((-1), s4))
noncomputable def Mo_nextByte_l0  (s : Sg) : Option (Int × Sg) :=
  bnd (whl (fun σ : Sg => Mo_nextByte_t0  σ) s) fun ρ0 =>
    Mo_nextByte_b38  ρ0
noncomputable def Mo_nextByte  (s : Sg) : Option (Int × Sg) :=
  Mo_nextByte_l0  s
noncomputable def Mo_isAt (x1 : Int) (x2 : Int) (x3 : Int) (s : Sg) : Option (Int) :=
  ifLt x1 (gi s 80 8)
    (grd (0 ≤ x1 ∧ x1 < 400) <|
    ifLt (gi s 86 x1.toNat) x2
      (some 0)
      (grd (0 ≤ x1 ∧ x1 < 400) <|
      ifLt x3 (gi s 86 x1.toNat)
        (some 0)
        (some 1)))
    (some 0)
noncomputable def Mo_isLetterNext  (s : Sg) : Option (Int × Sg) :=
  bnd2 (Mo_nextByte s) fun y1 s2 =>
  grd (R y1) <|
  bnd (Mo_in y1 97 122 s2) fun y4 =>
  grd (b01 y4) <|
  some (y4, s2)
noncomputable def Mo_reads_b76 (x1 : Int) (x2 : Int) (t0 : Int) (s : Sg) : Option (((Int × Sg) ⊕ (Int × Sg))) :=
  lett (si s 80 9 ((gi s 80 9) + 1)) fun s9 =>
  some (.inl (t0, s9))
noncomputable def Mo_reads_t29 (x1 : Int) (x2 : Int) (x3 : Int) (s : Sg) : Option (((Int × Sg) ⊕ (Int × Sg))) :=
  bnd (Mo_isAt (gi s 80 9) 48 57 s) fun y5 =>
  ifEq y5 0
    (some (.inr (x3, s)))
    (grd (RL64 x3 ∧ RL64 99999999) <|
    ifLt 0 (lcmpI x3 99999999)
      (Mo_reads_b76 x1 x2 x3 s)
      (grd (0 ≤ (gi s 80 9) ∧ (gi s 80 9) < 400) <|
      grd (R (gi s 86 (gi s 80 9).toNat)) <|
      Mo_reads_b76 x1 x2 (((10 * x3) + (gi s 86 (gi s 80 9).toNat)) - 48) s))
noncomputable def Mo_reads_l29 (x1 : Int) (x2 : Int) (x3 : Int) (s : Sg) : Option (Int × Sg) :=
  bnd (whl (fun σ : Int × Sg => Mo_reads_t29 x1 x2 σ.1 σ.2) (x3, s)) fun ρ29 =>
    grd (R x1) <|
    grd (R x2) <|
    bnd (Mo_in ρ29.1 x1 x2 ρ29.2) fun y14 =>
    ifEq y14 0
      (bnd2 (Mo_fails 2 (gi ρ29.2 80 10) ρ29.2) fun y16 s17 =>
      grd (b01 y16) <|
      some (y16, s17))
      (lett (si ρ29.2 80 11 ρ29.1) fun s15 =>
      some (1, s15))
noncomputable def Mo_reads (x1 : Int) (x2 : Int) (s : Sg) : Option (Int × Sg) :=
  bnd2 (Mo_nextByte s) fun y1 s2 =>
  grd (R y1) <|
  bnd (Mo_in y1 48 57 s2) fun y4 =>
  ifEq y4 0
    (bnd2 (Mo_fails 1 (gi s2 80 10) s2) fun y19 s20 =>
    grd (b01 y19) <|
    some (y19, s20))
    (Mo_reads_l29 x1 x2 0 s2)
noncomputable def Mo_wordEnd_t5 (x1 : Int) (s : Sg) : Option (((Int) ⊕ (Int))) :=
  bnd (Mo_isAt x1 97 122 s) fun y2 =>
  ifEq y2 0
    (some (.inr x1))
    (some (.inl (x1 + 1)))
noncomputable def Mo_wordEnd_l5 (x1 : Int) (s : Sg) : Option (Int) :=
  bnd (whl (fun σ : Int => Mo_wordEnd_t5 σ s) x1) fun ρ5 =>
    some ρ5
noncomputable def Mo_wordEnd  (s : Sg) : Option (Int) :=
  lett (gi s 80 10) fun x1_1 =>
  Mo_wordEnd_l5 x1_1 s
noncomputable def Mo_takes_t27 (r1 : Nat) (x2 : Int) (s : Sg) : Option (((Int) ⊕ ((Unit) ⊕ (Unit)))) :=
  ifLt x2 (slen r1)
    (grd (0 ≤ ((gi s 80 10) + x2) ∧ ((gi s 80 10) + x2) < 400) <|
    grd (0 ≤ x2 ∧ x2 < slen r1) <|
    ifEq (gi s 86 ((gi s 80 10) + x2).toNat) (schr r1 x2)
      (some (.inl (x2 + 1)))
      (some (.inr (.inl ()))))
    (some (.inr (.inr ())))
noncomputable def Mo_takes_l27 (r1 : Nat) (x2 : Int) (s : Sg) : Option (Int × Sg) :=
  bnd (whl (fun σ : Int => Mo_takes_t27 r1 σ s) x2) fun ρ27 => match ρ27 with
  | .inl ρ27 =>
      some (0, s)
  | .inr ρ27 =>
      lett (si s 80 9 ((gi s 80 10) + (slen r1))) fun s6 =>
      some (1, s6)
noncomputable def Mo_takes (r1 : Nat) (s : Sg) : Option (Int × Sg) :=
  bnd2 (Mo_isLetterNext s) fun y1 s2 =>
  ifEq y1 0
    (some (0, s2))
    (bnd (Mo_wordEnd s2) fun y3 =>
    ifEq (y3 - (gi s2 80 10)) (slen r1)
      (Mo_takes_l27 r1 0 s2)
      (some (0, s2)))
noncomputable def Mo_readBoard  (s : Sg) : Option (Int × Sg) :=
  bnd2 (Mo_reads 2 9 s) fun y1 s2 =>
  ifEq y1 0
    (some (0, s2))
    (bnd (Mo_begins (gi s2 80 11) s2) fun s4 =>
    bnd2 (Mo_isLetterNext s4) fun y5 s6 =>
    ifEq y5 0
      (some (1, s6))
      (bnd2 (Mo_takes 11 s6) fun y7 s8 =>
      ifEq y7 0
        (bnd2 (Mo_fails 1 (gi s8 80 10) s8) fun y11 s12 =>
        grd (b01 y11) <|
        some (y11, s12))
        (grd (0 ≤ 1 ∧ 1 < 286) <|
        lett (si s8 81 1 1) fun s10 =>
        some (1, s10))))
noncomputable def Mo_cells  (s : Sg) : Option (Int) :=
  grd (0 ≤ 0 ∧ 0 < 286) <|
  grd (0 ≤ 0 ∧ 0 < 286) <|
  some ((gi s 81 0) * (gi s 81 0))
noncomputable def Mo_marksSelves_t2 (r1 : Nat) (x2 : Int) (s : Sg) : Option (((Int × Sg) ⊕ (Sg))) :=
  bnd (Mo_cells s) fun y1 =>
  ifLt x2 y1
    (grd (0 ≤ x2 ∧ x2 < (alen r1 : Int)) <|
    lett (si s r1 x2.toNat x2) fun s3 =>
    some (.inl ((x2 + 1), s3)))
    (some (.inr s))
noncomputable def Mo_marksSelves_l2 (r1 : Nat) (x2 : Int) (s : Sg) : Option (Sg) :=
  bnd (whl (fun σ : Int × Sg => Mo_marksSelves_t2 r1 σ.1 σ.2) (x2, s)) fun ρ2 =>
    some ρ2
noncomputable def Mo_marksSelves (r1 : Nat) (s : Sg) : Option (Sg) :=
  Mo_marksSelves_l2 r1 0 s
noncomputable def Mo_row (x1 : Int) (s : Sg) : Option (Int) :=
  grd (0 ≤ 0 ∧ 0 < 286) <|
  grd ((0 ≤ x1 ∧ R x1) ∧ (0 < (gi s 81 0) ∧ R (gi s 81 0))) <|
  some (x1 / (gi s 81 0))
noncomputable def Mo_column (x1 : Int) (s : Sg) : Option (Int) :=
  grd (0 ≤ 0 ∧ 0 < 286) <|
  grd ((0 ≤ x1 ∧ R x1) ∧ (0 < (gi s 81 0) ∧ R (gi s 81 0))) <|
  some (x1 % (gi s 81 0))
noncomputable def Mo_round_b60 (x3 : Int) (t0 : Int) (t1 : Int) (s : Sg) : Option (Int) :=
  lett (t0 + t1) fun x4_4 =>
  grd (R x3) <|
  grd (0 ≤ 0 ∧ 0 < 286) <|
  grd (R ((gi s 81 0) - 1)) <|
  bnd (Mo_in x3 0 ((gi s 81 0) - 1) s) fun y8 =>
  ifEq y8 0
    (some (-1))
    (grd (R x4_4) <|
    grd (0 ≤ 0 ∧ 0 < 286) <|
    grd (R ((gi s 81 0) - 1)) <|
    bnd (Mo_in x4_4 0 ((gi s 81 0) - 1) s) fun y12 =>
    ifEq y12 0
      (some (-1))
      (grd (0 ≤ 0 ∧ 0 < 286) <|
      some (((gi s 81 0) * x3) + x4_4)))
noncomputable def Mo_round_b41 (x3 : Int) (t0 : Int) (s : Sg) : Option (Int) :=
  Mo_round_b60 x3 t0 1 s
noncomputable def Mo_round_b55 (x3 : Int) (t0 : Int) (s : Sg) : Option (Int) :=
  Mo_round_b60 x3 t0 (-1) s
noncomputable def Mo_round_b24 (x1 : Int) (x2 : Int) (t0 : Int) (t1 : Int) (s : Sg) : Option (Int) :=
  lett (t0 + t1) fun x3_2 =>
  bnd (Mo_column x1 s) fun y3 =>
  ifEq x2 1
    (Mo_round_b41 x3_2 y3 s)
    (ifEq x2 3
      (Mo_round_b41 x3_2 y3 s)
      (ifEq x2 2
        (Mo_round_b55 x3_2 y3 s)
        (ifEq x2 4
          (Mo_round_b55 x3_2 y3 s)
          (Mo_round_b60 x3_2 y3 0 s))))
noncomputable def Mo_round (x1 : Int) (x2 : Int) (s : Sg) : Option (Int) :=
  bnd (Mo_row x1 s) fun y1 =>
  ifLt x2 2
    (Mo_round_b24 x1 x2 y1 (-1) s)
    (ifLt x2 4
      (Mo_round_b24 x1 x2 y1 0 s)
      (Mo_round_b24 x1 x2 y1 1 s))
noncomputable def Mo_stone (x1 : Int) (s : Sg) : Option (Int) :=
  grd (0 ≤ (5 + x1) ∧ (5 + x1) < 286) <|
  some (gi s 81 (5 + x1).toNat)
noncomputable def Mo_lowers_b25 (r1 : Nat) (x2 : Int) (x3 : Int) (x4 : Int) (t0 : Int) (s : Sg) : Option (Int × Sg) :=
  grd (0 ≤ x2 ∧ x2 < (alen r1 : Int)) <|
  lett (si s r1 x2.toNat x4) fun s8 =>
  grd (0 ≤ x3 ∧ x3 < (alen r1 : Int)) <|
  lett (si s8 r1 x3.toNat x4) fun s10 =>
  grd (b01 t0) <|
  some (t0, s10)
noncomputable def Mo_lowers (r1 : Nat) (x2 : Int) (x3 : Int) (s : Sg) : Option (Int × Sg) :=
  grd (0 ≤ x2 ∧ x2 < (alen r1 : Int)) <|
  grd (0 ≤ x3 ∧ x3 < (alen r1 : Int)) <|
  grd (R (gi s r1 x2.toNat) ∧ R (gi s r1 x3.toNat)) <|
  lett (min (gi s r1 x2.toNat) (gi s r1 x3.toNat)) fun x4_4 =>
  grd (0 ≤ x2 ∧ x2 < (alen r1 : Int)) <|
  grd (0 ≤ x3 ∧ x3 < (alen r1 : Int)) <|
  ifEq (gi s r1 x2.toNat) (gi s r1 x3.toNat)
    (Mo_lowers_b25 r1 x2 x3 x4_4 0 s)
    (Mo_lowers_b25 r1 x2 x3 x4_4 1 s)
noncomputable def Mo_lowersNeighbours_b73 (r1 : Nat) (x2 : Int) (x3 : Int) (x4 : Int) (s : Sg) : Option (((Int × Int × Sg) ⊕ (Int × Sg))) :=
  some (.inl (x2, (x4 + 1), s))
noncomputable def Mo_lowersNeighbours_t15 (r1 : Nat) (x2 : Int) (x3 : Int) (x4 : Int) (s : Sg) : Option (((Int × Int × Sg) ⊕ (Int × Sg))) :=
  ifLt x4 6
    (bnd (Mo_round x3 x4 s) fun y2 =>
    ifEq y2 (-1)
      (Mo_lowersNeighbours_b73 r1 x2 x3 x4 s)
      (bnd (Mo_stone x3 s) fun y3 =>
      ifEq y3 (-1)
        (Mo_lowersNeighbours_b73 r1 x2 x3 x4 s)
        (bnd (Mo_stone x3 s) fun y4 =>
        bnd (Mo_stone y2 s) fun y5 =>
        ifEq y4 y5
          (bnd2 (Mo_lowers r1 x3 y2 s) fun y6 s7 =>
          ifEq y6 0
            (Mo_lowersNeighbours_b73 r1 x2 x3 x4 s7)
            (Mo_lowersNeighbours_b73 r1 1 x3 x4 s7))
          (Mo_lowersNeighbours_b73 r1 x2 x3 x4 s))))
    (some (.inr (x2, s)))
noncomputable def Mo_lowersNeighbours_l15 (r1 : Nat) (x2 : Int) (x3 : Int) (x4 : Int) (s : Sg) : Option (((Int × Int × Sg) ⊕ (Int × Sg))) :=
  bnd (whl (fun σ : Int × Int × Sg => Mo_lowersNeighbours_t15 r1 σ.1 x3 σ.2.1 σ.2.2) (x2, x4, s)) fun ρ15 =>
    some (.inl (ρ15.1, (x3 + 1), ρ15.2))
noncomputable def Mo_lowersNeighbours_t4 (r1 : Nat) (x2 : Int) (x3 : Int) (s : Sg) : Option (((Int × Int × Sg) ⊕ (Int × Sg))) :=
  bnd (Mo_cells s) fun y1 =>
  ifLt x3 y1
    (Mo_lowersNeighbours_l15 r1 x2 x3 0 s)
    (some (.inr (x2, s)))
noncomputable def Mo_lowersNeighbours_l4 (r1 : Nat) (x2 : Int) (x3 : Int) (s : Sg) : Option (Int × Sg) :=
  bnd (whl (fun σ : Int × Int × Sg => Mo_lowersNeighbours_t4 r1 σ.1 σ.2.1 σ.2.2) (x2, x3, s)) fun ρ4 =>
    grd (b01 ρ4.1) <|
    some (ρ4.1, ρ4.2)
noncomputable def Mo_lowersNeighbours (r1 : Nat) (s : Sg) : Option (Int × Sg) :=
  Mo_lowersNeighbours_l4 r1 0 0 s
noncomputable def Mo_laysGroups_t10 (x1 : Int) (s : Sg) : Option (((Int × Sg) ⊕ (Sg))) :=
  ifEq x1 0
    (some (.inr s))
    (bnd2 (Mo_lowersNeighbours 87 s) fun y3 s4 =>
    some (.inl (y3, s4)))
noncomputable def Mo_laysGroups_l10 (x1 : Int) (s : Sg) : Option (Sg) :=
  bnd (whl (fun σ : Int × Sg => Mo_laysGroups_t10 σ.1 σ.2) (x1, s)) fun ρ10 =>
    some ρ10
noncomputable def Mo_laysGroups  (s : Sg) : Option (Sg) :=
  bnd (Mo_marksSelves 87 s) fun s2 =>
  Mo_laysGroups_l10 1 s2
noncomputable def Mo_edges_b44 (t0 : Int) (t1 : Int) (s : Sg) : Option (Int) :=
  some (t0 + t1)
noncomputable def Mo_edges_b27 (x3 : Int) (t0 : Int) (s : Sg) : Option (Int) :=
  grd (0 ≤ 0 ∧ 0 < 286) <|
  ifEq x3 ((gi s 81 0) - 1)
    (Mo_edges_b44 t0 2 s)
    (Mo_edges_b44 t0 0 s)
noncomputable def Mo_edges_b17 (t0 : Int) (s : Sg) : Option (Int) :=
  ifEq t0 0
    (Mo_edges_b27 t0 1 s)
    (Mo_edges_b27 t0 0 s)
noncomputable def Mo_edges (x1 : Int) (x2 : Int) (s : Sg) : Option (Int) :=
  ifEq x1 0
    (bnd (Mo_row x2 s) fun y3 =>
    Mo_edges_b17 y3 s)
    (bnd (Mo_column x2 s) fun y1 =>
    Mo_edges_b17 y1 s)
noncomputable def Mo_groupEdges_b45 (x1 : Int) (x2 : Int) (x3 : Int) (x4 : Int) (s : Sg) : Option (((Int × Int) ⊕ (Int))) :=
  some (.inl (x3, (x4 + 1)))
noncomputable def Mo_groupEdges_t5 (x1 : Int) (x2 : Int) (x3 : Int) (x4 : Int) (s : Sg) : Option (((Int × Int) ⊕ (Int))) :=
  bnd (Mo_cells s) fun y1 =>
  ifLt x4 y1
    (bnd (Mo_stone x4 s) fun y2 =>
    ifEq y2 x1
      (grd (0 ≤ x4 ∧ x4 < 81) <|
      ifEq (gi s 87 x4.toNat) x2
        (bnd (Mo_edges x1 x4 s) fun y4 =>
        lett (iorI x3 y4) fun x3_5 =>
        Mo_groupEdges_b45 x1 x2 x3_5 x4 s)
        (Mo_groupEdges_b45 x1 x2 x3 x4 s))
      (Mo_groupEdges_b45 x1 x2 x3 x4 s))
    (some (.inr x3))
noncomputable def Mo_groupEdges_l5 (x1 : Int) (x2 : Int) (x3 : Int) (x4 : Int) (s : Sg) : Option (Int) :=
  bnd (whl (fun σ : Int × Int => Mo_groupEdges_t5 x1 x2 σ.1 σ.2 s) (x3, x4)) fun ρ5 =>
    some ρ5
noncomputable def Mo_groupEdges (x1 : Int) (x2 : Int) (s : Sg) : Option (Int) :=
  Mo_groupEdges_l5 x1 x2 0 0 s
noncomputable def Mo_hasJoined_b45 (x1 : Int) (x2 : Int) (s : Sg) : Option (((Int) ⊕ ((Unit) ⊕ (Unit)))) :=
  some (.inl (x2 + 1))
noncomputable def Mo_hasJoined_t6 (x1 : Int) (x2 : Int) (s : Sg) : Option (((Int) ⊕ ((Unit) ⊕ (Unit)))) :=
  bnd (Mo_cells s) fun y3 =>
  ifLt x2 y3
    (bnd (Mo_stone x2 s) fun y4 =>
    ifEq y4 x1
      (grd (0 ≤ x2 ∧ x2 < 81) <|
      ifEq (gi s 87 x2.toNat) x2
        (bnd (Mo_groupEdges x1 x2 s) fun y6 =>
        ifEq y6 3
          (some (.inr (.inl ())))
          (Mo_hasJoined_b45 x1 x2 s))
        (Mo_hasJoined_b45 x1 x2 s))
      (Mo_hasJoined_b45 x1 x2 s))
    (some (.inr (.inr ())))
noncomputable def Mo_hasJoined_l6 (x1 : Int) (x2 : Int) (s : Sg) : Option (Int × Sg) :=
  bnd (whl (fun σ : Int => Mo_hasJoined_t6 x1 σ s) x2) fun ρ6 => match ρ6 with
  | .inl ρ6 =>
      some (1, s)
  | .inr ρ6 =>
      some (0, s)
noncomputable def Mo_hasJoined (x1 : Int) (s : Sg) : Option (Int × Sg) :=
  bnd (Mo_laysGroups s) fun s2 =>
  Mo_hasJoined_l6 x1 0 s2
noncomputable def Mo_joined  (s : Sg) : Option (Int × Sg) :=
  bnd2 (Mo_hasJoined 0 s) fun y1 s2 =>
  ifEq y1 0
    (bnd2 (Mo_hasJoined 1 s2) fun y3 s4 =>
    ifEq y3 0
      (some ((-1), s4))
      (some (1, s4)))
    (some (0, s2))
noncomputable def Mo_winner_b20 (x1 : Int) (s : Sg) : Option (Int × Sg) :=
  some (x1, s)
noncomputable def Mo_winner  (s : Sg) : Option (Int × Sg) :=
  bnd2 (Mo_joined s) fun y1 s2 =>
  ifEq y1 (-1)
    (grd (0 ≤ 3 ∧ 3 < 286) <|
    ifEq (gi s2 81 3) (-1)
      (Mo_winner_b20 y1 s2)
      (grd (0 ≤ 3 ∧ 3 < 286) <|
      some ((1 - (gi s2 81 3)), s2)))
    (Mo_winner_b20 y1 s2)
noncomputable def Mo_readCell_b20  (s : Sg) : Option (Int × Sg) :=
  bnd2 (Mo_fails 1 (gi s 80 10) s) fun y3 s4 =>
  grd (b01 y3) <|
  some (y3, s4)
noncomputable def Mo_readCell_b150  (s : Sg) : Option (Int × Sg) :=
  some (1, s)
noncomputable def Mo_readCell_b81 (x2 : Int) (x3 : Int) (s : Sg) : Option (Int × Sg) :=
  lett (si s 80 9 ((gi s 80 9) + 1)) fun s11 =>
  grd (0 ≤ 0 ∧ 0 < 286) <|
  bnd2 (Mo_reads 1 (gi s11 81 0) s11) fun y13 s14 =>
  ifEq y13 0
    (some (0, s14))
    (grd (0 ≤ 0 ∧ 0 < 286) <|
    lett (si s14 80 16 (((gi s14 81 0) * ((gi s14 80 11) - 1)) + x3)) fun s16 =>
    grd (0 ≤ (5 + (gi s16 80 16)) ∧ (5 + (gi s16 80 16)) < 286) <|
    ifEq (gi s16 81 (5 + (gi s16 80 16)).toNat) (-1)
      (Mo_readCell_b150  s16)
      (bnd2 (Mo_fails 3 x2 s16) fun y18 s19 =>
      ifEq y18 0
        (some (0, s19))
        (Mo_readCell_b150  s19)))
noncomputable def Mo_readCell (x1 : Int) (s : Sg) : Option (Int × Sg) :=
  bnd2 (Mo_isLetterNext s) fun y1 s2 =>
  ifEq y1 0
    (Mo_readCell_b20  s2)
    (bnd (Mo_wordEnd s2) fun y6 =>
    ifEq (y6 - (gi s2 80 10)) 1
      (lett (gi s2 80 10) fun x2_7 =>
      grd (0 ≤ x2_7 ∧ x2_7 < 400) <|
      lett ((gi s2 86 x2_7.toNat) - 97) fun x3_9 =>
      grd (0 ≤ 0 ∧ 0 < 286) <|
      ifLt x3_9 (gi s2 81 0)
        (ifEq x1 0
          (Mo_readCell_b81 x2_7 x3_9 s2)
          (bnd2 (Mo_winner s2) fun y20 s21 =>
          ifEq y20 (-1)
            (Mo_readCell_b81 x2_7 x3_9 s21)
            (bnd2 (Mo_fails 4 x2_7 s21) fun y22 s23 =>
            grd (b01 y22) <|
            some (y22, s23))))
        (bnd2 (Mo_fails 2 x2_7 s2) fun y25 s26 =>
        grd (b01 y25) <|
        some (y25, s26)))
      (Mo_readCell_b20  s2))
noncomputable def Mo_readStones_t0 (x1 : Int) (s : Sg) : Option (((Sg) ⊕ ((Sg) ⊕ (Sg)))) :=
  bnd2 (Mo_readCell 0 s) fun y1 s2 =>
  ifEq y1 0
    (some (.inr (.inl s2)))
    (grd (0 ≤ (5 + (gi s2 80 16)) ∧ (5 + (gi s2 80 16)) < 286) <|
    lett (si s2 81 (5 + (gi s2 80 16)).toNat x1) fun s4 =>
    bnd2 (Mo_isLetterNext s4) fun y5 s6 =>
    ifEq y5 0
      (some (.inr (.inr s6)))
      (some (.inl s6)))
noncomputable def Mo_readStones_l0 (x1 : Int) (s : Sg) : Option (Int × Sg) :=
  bnd (whl (fun σ : Sg => Mo_readStones_t0 x1 σ) s) fun ρ0 => match ρ0 with
  | .inl ρ0 =>
      some (0, ρ0)
  | .inr ρ0 =>
      some (1, ρ0)
noncomputable def Mo_readStones (x1 : Int) (s : Sg) : Option (Int × Sg) :=
  Mo_readStones_l0 x1 s
noncomputable def Mo_notes (x1 : Int) (s : Sg) : Option (Sg) :=
  grd (0 ≤ 4 ∧ 4 < 286) <|
  grd (0 ≤ (86 + (gi s 81 4)) ∧ (86 + (gi s 81 4)) < 286) <|
  lett (si s 81 (86 + (gi s 81 4)).toNat x1) fun s3 =>
  grd (0 ≤ 4 ∧ 4 < 286) <|
  grd (0 ≤ 4 ∧ 4 < 286) <|
  lett (si s3 81 4 ((gi s3 81 4) + 1)) fun s6 =>
  some s6
noncomputable def Mo_moves (x1 : Int) (s : Sg) : Option (Sg) :=
  grd (0 ≤ 2 ∧ 2 < 286) <|
  grd (0 ≤ (5 + x1) ∧ (5 + x1) < 286) <|
  lett (si s 81 (5 + x1).toNat (gi s 81 2)) fun s3 =>
  grd (0 ≤ 2 ∧ 2 < 286) <|
  grd (0 ≤ 2 ∧ 2 < 286) <|
  lett (si s3 81 2 (1 - (gi s3 81 2))) fun s6 =>
  bnd (Mo_notes x1 s6) fun s8 =>
  some s8
noncomputable def Mo_readMoves_t0  (s : Sg) : Option (((Sg) ⊕ ((Sg) ⊕ (Sg)))) :=
  bnd2 (Mo_readCell 1 s) fun y1 s2 =>
  ifEq y1 0
    (some (.inr (.inl s2)))
    (bnd (Mo_moves (gi s2 80 16) s2) fun s4 =>
    bnd2 (Mo_isLetterNext s4) fun y5 s6 =>
    ifEq y5 0
      (some (.inr (.inr s6)))
      (some (.inl s6)))
noncomputable def Mo_readMoves_l0  (s : Sg) : Option (Int × Sg) :=
  bnd (whl (fun σ : Sg => Mo_readMoves_t0  σ) s) fun ρ0 => match ρ0 with
  | .inl ρ0 =>
      some (0, ρ0)
  | .inr ρ0 =>
      some (1, ρ0)
noncomputable def Mo_readMoves  (s : Sg) : Option (Int × Sg) :=
  Mo_readMoves_l0  s
noncomputable def Mo_readTurn  (s : Sg) : Option (Int × Sg) :=
  bnd2 (Mo_takes 14 s) fun y1 s2 =>
  ifEq y1 0
    (bnd2 (Mo_takes 15 s2) fun y3 s4 =>
    ifEq y3 0
      (bnd2 (Mo_fails 1 (gi s4 80 10) s4) fun y7 s8 =>
      grd (b01 y7) <|
      some (y7, s8))
      (grd (0 ≤ 2 ∧ 2 < 286) <|
      lett (si s4 81 2 1) fun s6 =>
      some (1, s6)))
    (grd (0 ≤ 2 ∧ 2 < 286) <|
    lett (si s2 81 2 0) fun s11 =>
    some (1, s11))
noncomputable def Mo_readStatement  (s : Sg) : Option (Int × Sg) :=
  ifEq (gi s 80 14) 0
    (bnd2 (Mo_takes 10 s) fun y24 s25 =>
    ifEq y24 0
      (bnd2 (Mo_fails 1 (gi s25 80 10) s25) fun y26 s27 =>
      grd (b01 y26) <|
      some (y26, s27))
      (bnd2 (Mo_readBoard s25) fun y29 s30 =>
      grd (b01 y29) <|
      some (y29, s30)))
    (bnd2 (Mo_takes 14 s) fun y1 s2 =>
    ifEq y1 0
      (bnd2 (Mo_takes 15 s2) fun y3 s4 =>
      ifEq y3 0
        (bnd2 (Mo_takes 13 s4) fun y5 s6 =>
        ifEq y5 0
          (bnd2 (Mo_takes 12 s6) fun y7 s8 =>
          ifEq y7 0
            (bnd2 (Mo_fails 1 (gi s8 80 10) s8) fun y9 s10 =>
            grd (b01 y9) <|
            some (y9, s10))
            (bnd2 (Mo_readMoves s8) fun y12 s13 =>
            grd (b01 y12) <|
            some (y12, s13)))
          (bnd2 (Mo_readTurn s6) fun y15 s16 =>
          grd (b01 y15) <|
          some (y15, s16)))
        (bnd2 (Mo_readStones 1 s4) fun y18 s19 =>
        grd (b01 y18) <|
        some (y18, s19)))
      (bnd2 (Mo_readStones 0 s2) fun y21 s22 =>
      grd (b01 y21) <|
      some (y21, s22)))
noncomputable def Mo_readAll_t10  (s : Sg) : Option (((Sg) ⊕ ((Sg) ⊕ ((Sg) ⊕ (Sg))))) :=
  bnd2 (Mo_readStatement s) fun y3 s4 =>
  ifEq y3 0
    (some (.inr (.inl s4)))
    (bnd2 (Mo_nextByte s4) fun y5 s6 =>
    ifEq y5 (-1)
      (some (.inr (.inr (.inl s6))))
      (ifEq y5 59
        (lett (si s6 80 9 ((gi s6 80 9) + 1)) fun s7 =>
        lett (si s7 80 14 ((gi s7 80 14) + 1)) fun s8 =>
        some (.inl s8))
        (some (.inr (.inr (.inr s6))))))
noncomputable def Mo_readAll_l10  (s : Sg) : Option (Int × Sg) :=
  bnd (whl (fun σ : Sg => Mo_readAll_t10  σ) s) fun ρ10 => match ρ10 with
  | .inl ρ10 =>
      some (0, ρ10)
  | .inr (.inl ρ10) =>
      some (1, ρ10)
  | .inr (.inr ρ10) =>
      bnd2 (Mo_fails 1 (gi ρ10 80 10) ρ10) fun y12 s13 =>
      grd (b01 y12) <|
      some (y12, s13)
noncomputable def Mo_readAll  (s : Sg) : Option (Int × Sg) :=
  lett (si s 80 9 0) fun s1 =>
  lett (si s1 80 14 0) fun s2 =>
  Mo_readAll_l10  s2
noncomputable def Mo_load  (s : Sg) : Option (Int × Sg) :=
  lett (si s 80 0 0) fun s1 =>
  lett (si s1 80 12 0) fun s2 =>
  lett (si s2 80 15 (-1)) fun s3 =>
  bnd (Mo_goesAside s3) fun s5 =>
  bnd2 (Mo_readAll s5) fun y6 s7 =>
  lett (si s7 80 8 0) fun s8 =>
  ifEq y6 0
    (lett (si s8 80 15 (gi s8 80 14)) fun s11 =>
    bnd2 (Mo_comesBack ((-100) - (gi s11 80 13)) s11) fun y12 s13 =>
    some (y12, s13))
    (lett (si s8 80 6 0) fun s9 =>
    grd (0 ≤ 0 ∧ 0 < 286) <|
    some ((gi s9 81 0), s9))
noncomputable def Mo_loadError  (s : Sg) : Option (Int × Sg) :=
  lett (si s 80 0 0) fun s1 =>
  some ((gi s1 80 12), s1)
noncomputable def Mo_loadStatement  (s : Sg) : Option (Int × Sg) :=
  lett (si s 80 0 0) fun s1 =>
  some ((gi s1 80 15), s1)
noncomputable def Mo_exchanged (x1 : Int) (s : Sg) : Option (Int) :=
  grd (0 ≤ 0 ∧ 0 < 286) <|
  bnd (Mo_column x1 s) fun y2 =>
  bnd (Mo_row x1 s) fun y3 =>
  some (((gi s 81 0) * y2) + y3)
noncomputable def Mo_isCell (x1 : Int) (s : Sg) : Option (Int) :=
  grd (R x1) <|
  bnd (Mo_cells s) fun y2 =>
  grd (R (y2 - 1)) <|
  bnd (Mo_in x1 0 (y2 - 1) s) fun y4 =>
  grd (b01 y4) <|
  some y4
noncomputable def Mo_isSide_b9  (s : Sg) : Option (Int) :=
  some 1
noncomputable def Mo_isSide (x0 : Int) (s : Sg) : Option (Int) :=
  ifEq x0 0
    (Mo_isSide_b9  s)
    (ifEq x0 1
      (Mo_isSide_b9  s)
      (some 0))
noncomputable def Mo_stonesOf_b27 (x1 : Int) (x3 : Int) (t0 : Int) (t1 : Int) (s : Sg) : Option (((Int × Int) ⊕ (Int))) :=
  lett (t0 + t1) fun x2_3 =>
  some (.inl (x2_3, (x3 + 1)))
noncomputable def Mo_stonesOf_t4 (x1 : Int) (x2 : Int) (x3 : Int) (s : Sg) : Option (((Int × Int) ⊕ (Int))) :=
  bnd (Mo_cells s) fun y1 =>
  ifLt x3 y1
    (bnd (Mo_stone x3 s) fun y2 =>
    ifEq y2 x1
      (Mo_stonesOf_b27 x1 x3 x2 1 s)
      (Mo_stonesOf_b27 x1 x3 x2 0 s))
    (some (.inr x2))
noncomputable def Mo_stonesOf_l4 (x1 : Int) (x2 : Int) (x3 : Int) (s : Sg) : Option (Int) :=
  bnd (whl (fun σ : Int × Int => Mo_stonesOf_t4 x1 σ.1 σ.2 s) (x2, x3)) fun ρ4 =>
    some ρ4
noncomputable def Mo_stonesOf (x1 : Int) (s : Sg) : Option (Int) :=
  Mo_stonesOf_l4 x1 0 0 s
noncomputable def Mo_areNeighbours_t2 (x1 : Int) (x2 : Int) (x3 : Int) (s : Sg) : Option (((Int) ⊕ ((Unit) ⊕ (Unit)))) :=
  ifLt x3 6
    (bnd (Mo_round x1 x3 s) fun y1 =>
    ifEq y1 x2
      (some (.inr (.inl ())))
      (some (.inl (x3 + 1))))
    (some (.inr (.inr ())))
noncomputable def Mo_areNeighbours_l2 (x1 : Int) (x2 : Int) (x3 : Int) (s : Sg) : Option (Int) :=
  bnd (whl (fun σ : Int => Mo_areNeighbours_t2 x1 x2 σ s) x3) fun ρ2 => match ρ2 with
  | .inl ρ2 =>
      some 1
  | .inr ρ2 =>
      some 0
noncomputable def Mo_areNeighbours (x1 : Int) (x2 : Int) (s : Sg) : Option (Int) :=
  Mo_areNeighbours_l2 x1 x2 0 s
noncomputable def Mo_shares_b20  (s : Sg) : Option (Sg) :=
  lett (si s 80 25 ((gi s 80 25) + 1)) fun s2 =>
  some s2
noncomputable def Mo_shares (x1 : Int) (s : Sg) : Option (Sg) :=
  ifEq (gi s 80 25) 0
    (lett (si s 80 26 x1) fun s3 =>
    Mo_shares_b20  s3)
    (lett (si s 80 27 x1) fun s1 =>
    Mo_shares_b20  s1)
noncomputable def Mo_areCarriers  (s : Sg) : Option (Int) :=
  ifEq (gi s 80 25) 2
    (bnd (Mo_stone (gi s 80 26) s) fun y1 =>
    ifEq y1 (-1)
      (bnd (Mo_stone (gi s 80 27) s) fun y2 =>
      ifEq y2 (-1)
        (some 1)
        (some 0))
      (some 0))
    (some 0)
noncomputable def Mo_joinsCells_b76 (x1 : Int) (x2 : Int) (x3 : Int) (s : Sg) : Option (((Int × Sg) ⊕ (Sg))) :=
  some (.inl ((x3 + 1), s))
noncomputable def Mo_joinsCells_t45 (x1 : Int) (x2 : Int) (x3 : Int) (s : Sg) : Option (((Int × Sg) ⊕ (Sg))) :=
  bnd (Mo_cells s) fun y6 =>
  ifLt x3 y6
    (bnd (Mo_areNeighbours x1 x3 s) fun y7 =>
    ifEq y7 0
      (Mo_joinsCells_b76 x1 x2 x3 s)
      (bnd (Mo_areNeighbours x2 x3 s) fun y8 =>
      ifEq y8 0
        (Mo_joinsCells_b76 x1 x2 x3 s)
        (bnd (Mo_shares x3 s) fun s10 =>
        Mo_joinsCells_b76 x1 x2 x3 s10)))
    (some (.inr s))
noncomputable def Mo_joinsCells_l45 (x1 : Int) (x2 : Int) (x3 : Int) (s : Sg) : Option (Int × Sg) :=
  bnd (whl (fun σ : Int × Sg => Mo_joinsCells_t45 x1 x2 σ.1 σ.2) (x3, s)) fun ρ45 =>
    bnd (Mo_areCarriers ρ45) fun y12 =>
    grd (b01 y12) <|
    some (y12, ρ45)
noncomputable def Mo_joinsCells (x1 : Int) (x2 : Int) (s : Sg) : Option (Int × Sg) :=
  ifEq x1 x2
    (some (0, s))
    (bnd (Mo_stone x1 s) fun y1 =>
    ifEq y1 (-1)
      (some (0, s))
      (bnd (Mo_stone x1 s) fun y2 =>
      bnd (Mo_stone x2 s) fun y3 =>
      ifEq y2 y3
        (bnd (Mo_areNeighbours x1 x2 s) fun y4 =>
        ifEq y4 0
          (lett (si s 80 25 0) fun s5 =>
          Mo_joinsCells_l45 x1 x2 0 s5)
          (some (0, s)))
        (some (0, s))))
noncomputable def Mo_joinsEdge_b78 (x1 : Int) (x2 : Int) (x3 : Int) (x4 : Int) (s : Sg) : Option (((Int × Sg) ⊕ (Sg))) :=
  some (.inl ((x4 + 1), s))
noncomputable def Mo_joinsEdge_t35 (x1 : Int) (x2 : Int) (x3 : Int) (x4 : Int) (s : Sg) : Option (((Int × Sg) ⊕ (Sg))) :=
  ifLt x4 6
    (bnd (Mo_round x1 x4 s) fun y4 =>
    ifEq y4 (-1)
      (Mo_joinsEdge_b78 x1 x2 x3 x4 s)
      (bnd (Mo_edges x3 y4 s) fun y5 =>
      ifEq (iandI (ishrI y5 x2) 1) 1
        (bnd (Mo_shares y4 s) fun s7 =>
        Mo_joinsEdge_b78 x1 x2 x3 x4 s7)
        (Mo_joinsEdge_b78 x1 x2 x3 x4 s)))
    (some (.inr s))
noncomputable def Mo_joinsEdge_l35 (x1 : Int) (x2 : Int) (x3 : Int) (x4 : Int) (s : Sg) : Option (Int × Sg) :=
  bnd (whl (fun σ : Int × Sg => Mo_joinsEdge_t35 x1 x2 x3 σ.1 σ.2) (x4, s)) fun ρ35 =>
    bnd (Mo_areCarriers ρ35) fun y9 =>
    grd (b01 y9) <|
    some (y9, ρ35)
noncomputable def Mo_joinsEdge (x1 : Int) (x2 : Int) (s : Sg) : Option (Int × Sg) :=
  bnd (Mo_stone x1 s) fun y1 =>
  ifEq y1 (-1)
    (some (0, s))
    (bnd (Mo_edges y1 x1 s) fun y2 =>
    ifEq (iandI (ishrI y2 x2) 1) 1
      (some (0, s))
      (lett (si s 80 25 0) fun s3 =>
      Mo_joinsEdge_l35 x1 x2 y1 0 s3))
noncomputable def Mo_laysBridge_b159 (t1 : Int) (t2 : Int) (s : Sg) : Option (Sg) :=
  grd (b01 t2) <|
  grd (0 ≤ t1 ∧ t1 < 81) <|
  lett (si s 93 t1.toNat t2) fun s22 =>
  lett (si s22 80 24 ((gi s22 80 24) + 1)) fun s23 =>
  some s23
noncomputable def Mo_laysBridge_b154 (t1 : Int) (s : Sg) : Option (Sg) :=
  Mo_laysBridge_b159 t1 1 s
noncomputable def Mo_laysBridge_b129 (x3 : Int) (t1 : Int) (t2 : Int) (s : Sg) : Option (Sg) :=
  grd (b01 t2) <|
  grd (0 ≤ t1 ∧ t1 < 81) <|
  lett (si s 93 t1.toNat t2) fun s18 =>
  grd (0 ≤ (gi s18 80 27) ∧ (gi s18 80 27) < 81) <|
  ifEq (gi s18 93 (gi s18 80 27).toNat) 0
    (ifEq x3 0
      (Mo_laysBridge_b159 (gi s18 80 27) 0 s18)
      (Mo_laysBridge_b154 (gi s18 80 27) s18))
    (Mo_laysBridge_b154 (gi s18 80 27) s18)
noncomputable def Mo_laysBridge_b124 (x3 : Int) (t1 : Int) (s : Sg) : Option (Sg) :=
  Mo_laysBridge_b129 x3 t1 1 s
noncomputable def Mo_laysBridge_b89 (t0 : Int) (s : Sg) : Option (Sg) :=
  grd (b01 t0) <|
  grd (0 ≤ (gi s 80 24) ∧ (gi s 80 24) < 405) <|
  lett (si s 92 (gi s 80 24).toNat t0) fun s14 =>
  grd (0 ≤ (gi s14 80 26) ∧ (gi s14 80 26) < 81) <|
  ifEq (gi s14 93 (gi s14 80 26).toNat) 0
    (ifEq t0 0
      (Mo_laysBridge_b129 t0 (gi s14 80 26) 0 s14)
      (Mo_laysBridge_b124 t0 (gi s14 80 26) s14))
    (Mo_laysBridge_b124 t0 (gi s14 80 26) s14)
noncomputable def Mo_laysBridge_b88  (s : Sg) : Option (Sg) :=
  Mo_laysBridge_b89 0 s
noncomputable def Mo_laysBridge (x1 : Int) (x2 : Int) (s : Sg) : Option (Sg) :=
  grd (0 ≤ (gi s 80 24) ∧ (gi s 80 24) < 405) <|
  lett (si s 88 (gi s 80 24).toNat x1) fun s2 =>
  grd (0 ≤ (gi s2 80 24) ∧ (gi s2 80 24) < 405) <|
  lett (si s2 89 (gi s2 80 24).toNat x2) fun s4 =>
  grd (R (gi s4 80 26) ∧ R (gi s4 80 27)) <|
  grd (0 ≤ (gi s4 80 24) ∧ (gi s4 80 24) < 405) <|
  lett (si s4 90 (gi s4 80 24).toNat (min (gi s4 80 26) (gi s4 80 27))) fun s7 =>
  grd (R (gi s7 80 26) ∧ R (gi s7 80 27)) <|
  grd (0 ≤ (gi s7 80 24) ∧ (gi s7 80 24) < 405) <|
  lett (si s7 91 (gi s7 80 24).toNat (max (gi s7 80 26) (gi s7 80 27))) fun s10 =>
  grd (0 ≤ (gi s10 80 26) ∧ (gi s10 80 26) < 81) <|
  ifEq (gi s10 93 (gi s10 80 26).toNat) 0
    (grd (0 ≤ (gi s10 80 27) ∧ (gi s10 80 27) < 81) <|
    ifEq (gi s10 93 (gi s10 80 27).toNat) 0
      (Mo_laysBridge_b89 1 s10)
      (Mo_laysBridge_b88  s10))
    (Mo_laysBridge_b88  s10)
noncomputable def Mo_laysBridges_t7 (x1 : Int) (x2 : Int) (s : Sg) : Option (((Int × Sg) ⊕ (Sg))) :=
  ifLt x2 81
    (grd (0 ≤ x2 ∧ x2 < 81) <|
    lett (si s 93 x2.toNat 0) fun s3 =>
    some (.inl ((x2 + 1), s3)))
    (some (.inr s))
noncomputable def Mo_laysBridges_b75 (x1 : Int) (x2 : Int) (x3 : Int) (s : Sg) : Option (((Int × Sg) ⊕ (Sg))) :=
  some (.inl ((x3 + 1), s))
noncomputable def Mo_laysBridges_t52 (x1 : Int) (x2 : Int) (x3 : Int) (s : Sg) : Option (((Int × Sg) ⊕ (Sg))) :=
  bnd (Mo_cells s) fun y8 =>
  ifLt x3 y8
    (bnd2 (Mo_joinsCells x2 x3 s) fun y9 s10 =>
    ifEq y9 0
      (Mo_laysBridges_b75 x1 x2 x3 s10)
      (bnd (Mo_laysBridge x2 x3 s10) fun s12 =>
      Mo_laysBridges_b75 x1 x2 x3 s12))
    (some (.inr s))
noncomputable def Mo_laysBridges_b106 (x1 : Int) (x2 : Int) (x3 : Int) (s : Sg) : Option (((Int × Sg) ⊕ (Sg))) :=
  some (.inl ((x3 + 1), s))
noncomputable def Mo_laysBridges_t83 (x1 : Int) (x2 : Int) (x3 : Int) (s : Sg) : Option (((Int × Sg) ⊕ (Sg))) :=
  ifLt x3 2
    (bnd2 (Mo_joinsEdge x2 x3 s) fun y14 s15 =>
    ifEq y14 0
      (Mo_laysBridges_b106 x1 x2 x3 s15)
      (bnd (Mo_laysBridge x2 ((-10) - x3) s15) fun s17 =>
      Mo_laysBridges_b106 x1 x2 x3 s17))
    (some (.inr s))
noncomputable def Mo_laysBridges_b112 (x1 : Int) (x2 : Int) (s : Sg) : Option (((Int × Sg) ⊕ (Sg))) :=
  some (.inl ((x2 + 1), s))
noncomputable def Mo_laysBridges_l83 (x1 : Int) (x2 : Int) (x3 : Int) (s : Sg) : Option (((Int × Sg) ⊕ (Sg))) :=
  bnd (whl (fun σ : Int × Sg => Mo_laysBridges_t83 x1 x2 σ.1 σ.2) (x3, s)) fun ρ83 =>
    Mo_laysBridges_b112 x1 x2 ρ83
noncomputable def Mo_laysBridges_l52 (x1 : Int) (x2 : Int) (x3 : Int) (s : Sg) : Option (((Int × Sg) ⊕ (Sg))) :=
  bnd (whl (fun σ : Int × Sg => Mo_laysBridges_t52 x1 x2 σ.1 σ.2) (x3, s)) fun ρ52 =>
    Mo_laysBridges_l83 x1 x2 0 ρ52
noncomputable def Mo_laysBridges_t28 (x1 : Int) (x2 : Int) (s : Sg) : Option (((Int × Sg) ⊕ (Sg))) :=
  bnd (Mo_cells s) fun y5 =>
  ifLt x2 y5
    (bnd (Mo_stone x2 s) fun y6 =>
    ifEq y6 x1
      (lett (x2 + 1) fun x3_7 =>
      Mo_laysBridges_l52 x1 x2 x3_7 s)
      (Mo_laysBridges_b112 x1 x2 s))
    (some (.inr s))
noncomputable def Mo_laysBridges_l28 (x1 : Int) (x2 : Int) (s : Sg) : Option (Sg) :=
  bnd (whl (fun σ : Int × Sg => Mo_laysBridges_t28 x1 σ.1 σ.2) (x2, s)) fun ρ28 =>
    some ρ28
noncomputable def Mo_laysBridges_l7 (x1 : Int) (x2 : Int) (s : Sg) : Option (Sg) :=
  bnd (whl (fun σ : Int × Sg => Mo_laysBridges_t7 x1 σ.1 σ.2) (x2, s)) fun ρ7 =>
    Mo_laysBridges_l28 x1 0 ρ7
noncomputable def Mo_laysBridges (x1 : Int) (s : Sg) : Option (Sg) :=
  lett (si s 80 24 0) fun s1 =>
  Mo_laysBridges_l7 x1 0 s1
noncomputable def Mo_laysChains_b81 (x2 : Int) (x3 : Int) (s : Sg) : Option (((Int × Int × Sg) ⊕ (Int × Sg))) :=
  some (.inl (x2, (x3 + 1), s))
noncomputable def Mo_laysChains_t30 (x2 : Int) (x3 : Int) (s : Sg) : Option (((Int × Int × Sg) ⊕ (Int × Sg))) :=
  ifLt x3 (gi s 80 24)
    (grd (0 ≤ x3 ∧ x3 < 405) <|
    ifEq (gi s 92 x3.toNat) 0
      (Mo_laysChains_b81 x2 x3 s)
      (grd (0 ≤ x3 ∧ x3 < 405) <|
      ifLt (gi s 89 x3.toNat) 0
        (Mo_laysChains_b81 x2 x3 s)
        (grd (0 ≤ x3 ∧ x3 < 405) <|
        grd (0 ≤ x3 ∧ x3 < 405) <|
        bnd2 (Mo_lowers 94 (gi s 88 x3.toNat) (gi s 89 x3.toNat) s) fun y11 s12 =>
        ifEq y11 0
          (Mo_laysChains_b81 x2 x3 s12)
          (Mo_laysChains_b81 1 x3 s12))))
    (some (.inr (x2, s)))
noncomputable def Mo_laysChains_l30 (x2 : Int) (x3 : Int) (s : Sg) : Option (((Int × Sg) ⊕ (Sg))) :=
  bnd (whl (fun σ : Int × Int × Sg => Mo_laysChains_t30 σ.1 σ.2.1 σ.2.2) (x2, x3, s)) fun ρ30 =>
    some (.inl (ρ30.1, ρ30.2))
noncomputable def Mo_laysChains_t15 (x2 : Int) (s : Sg) : Option (((Int × Sg) ⊕ (Sg))) :=
  ifEq x2 0
    (some (.inr s))
    (bnd2 (Mo_lowersNeighbours 94 s) fun y5 s6 =>
    Mo_laysChains_l30 y5 0 s6)
noncomputable def Mo_laysChains_l15 (x2 : Int) (s : Sg) : Option (Sg) :=
  bnd (whl (fun σ : Int × Sg => Mo_laysChains_t15 σ.1 σ.2) (x2, s)) fun ρ15 =>
    some ρ15
noncomputable def Mo_laysChains (x1 : Int) (s : Sg) : Option (Sg) :=
  bnd (Mo_laysBridges x1 s) fun s2 =>
  bnd (Mo_marksSelves 94 s2) fun s4 =>
  Mo_laysChains_l15 1 s4
noncomputable def Mo_chainBridges_b42 (x1 : Int) (x3 : Int) (t0 : Int) (t1 : Int) (s : Sg) : Option (((Int × Int) ⊕ (Int))) :=
  lett (t0 + t1) fun x2_2 =>
  some (.inl (x2_2, (x3 + 1)))
noncomputable def Mo_chainBridges_b41 (x1 : Int) (x3 : Int) (t0 : Int) (s : Sg) : Option (((Int × Int) ⊕ (Int))) :=
  Mo_chainBridges_b42 x1 x3 t0 0 s
noncomputable def Mo_chainBridges_t4 (x1 : Int) (x2 : Int) (x3 : Int) (s : Sg) : Option (((Int × Int) ⊕ (Int))) :=
  ifLt x3 (gi s 80 24)
    (grd (0 ≤ x3 ∧ x3 < 405) <|
    ifEq (gi s 92 x3.toNat) 0
      (Mo_chainBridges_b41 x1 x3 x2 s)
      (grd (0 ≤ x3 ∧ x3 < 405) <|
      grd (0 ≤ (gi s 88 x3.toNat) ∧ (gi s 88 x3.toNat) < 81) <|
      ifEq (gi s 94 (gi s 88 x3.toNat).toNat) x1
        (Mo_chainBridges_b42 x1 x3 x2 1 s)
        (Mo_chainBridges_b41 x1 x3 x2 s)))
    (some (.inr x2))
noncomputable def Mo_chainBridges_l4 (x1 : Int) (x2 : Int) (x3 : Int) (s : Sg) : Option (Int) :=
  bnd (whl (fun σ : Int × Int => Mo_chainBridges_t4 x1 σ.1 σ.2 s) (x2, x3)) fun ρ4 =>
    some ρ4
noncomputable def Mo_chainBridges (x1 : Int) (s : Sg) : Option (Int) :=
  Mo_chainBridges_l4 x1 0 0 s
noncomputable def Mo_chainStones_b41 (x1 : Int) (x2 : Int) (x4 : Int) (t0 : Int) (t1 : Int) (s : Sg) : Option (((Int × Int) ⊕ (Int))) :=
  lett (t0 + t1) fun x3_3 =>
  some (.inl (x3_3, (x4 + 1)))
noncomputable def Mo_chainStones_b40 (x1 : Int) (x2 : Int) (x4 : Int) (t0 : Int) (s : Sg) : Option (((Int × Int) ⊕ (Int))) :=
  Mo_chainStones_b41 x1 x2 x4 t0 0 s
noncomputable def Mo_chainStones_t5 (x1 : Int) (x2 : Int) (x3 : Int) (x4 : Int) (s : Sg) : Option (((Int × Int) ⊕ (Int))) :=
  bnd (Mo_cells s) fun y1 =>
  ifLt x4 y1
    (bnd (Mo_stone x4 s) fun y2 =>
    ifEq y2 x1
      (grd (0 ≤ x4 ∧ x4 < 81) <|
      ifEq (gi s 94 x4.toNat) x2
        (Mo_chainStones_b41 x1 x2 x4 x3 1 s)
        (Mo_chainStones_b40 x1 x2 x4 x3 s))
      (Mo_chainStones_b40 x1 x2 x4 x3 s))
    (some (.inr x3))
noncomputable def Mo_chainStones_l5 (x1 : Int) (x2 : Int) (x3 : Int) (x4 : Int) (s : Sg) : Option (Int) :=
  bnd (whl (fun σ : Int × Int => Mo_chainStones_t5 x1 x2 σ.1 σ.2 s) (x3, x4)) fun ρ5 =>
    some ρ5
noncomputable def Mo_chainStones (x1 : Int) (x2 : Int) (s : Sg) : Option (Int) :=
  Mo_chainStones_l5 x1 x2 0 0 s
noncomputable def Mo_chainEdges_b45 (x1 : Int) (x2 : Int) (x3 : Int) (x4 : Int) (s : Sg) : Option (((Int × Int) ⊕ (Int))) :=
  some (.inl (x3, (x4 + 1)))
noncomputable def Mo_chainEdges_t5 (x1 : Int) (x2 : Int) (x3 : Int) (x4 : Int) (s : Sg) : Option (((Int × Int) ⊕ (Int))) :=
  bnd (Mo_cells s) fun y1 =>
  ifLt x4 y1
    (bnd (Mo_stone x4 s) fun y2 =>
    ifEq y2 x1
      (grd (0 ≤ x4 ∧ x4 < 81) <|
      ifEq (gi s 94 x4.toNat) x2
        (bnd (Mo_edges x1 x4 s) fun y4 =>
        lett (iorI x3 y4) fun x3_5 =>
        Mo_chainEdges_b45 x1 x2 x3_5 x4 s)
        (Mo_chainEdges_b45 x1 x2 x3 x4 s))
      (Mo_chainEdges_b45 x1 x2 x3 x4 s))
    (some (.inr x3))
noncomputable def Mo_chainEdges_b114 (x2 : Int) (x3 : Int) (x4 : Int) (s : Sg) : Option (((Int × Int) ⊕ (Int))) :=
  some (.inl (x3, (x4 + 1)))
noncomputable def Mo_chainEdges_t54 (x2 : Int) (x3 : Int) (x4 : Int) (s : Sg) : Option (((Int × Int) ⊕ (Int))) :=
  ifLt x4 (gi s 80 24)
    (grd (0 ≤ x4 ∧ x4 < 405) <|
    ifEq (gi s 92 x4.toNat) 0
      (Mo_chainEdges_b114 x2 x3 x4 s)
      (grd (0 ≤ x4 ∧ x4 < 405) <|
      ifLt (gi s 89 x4.toNat) 0
        (grd (0 ≤ x4 ∧ x4 < 405) <|
        grd (0 ≤ (gi s 88 x4.toNat) ∧ (gi s 88 x4.toNat) < 81) <|
        ifEq (gi s 94 (gi s 88 x4.toNat).toNat) x2
          (grd (0 ≤ x4 ∧ x4 < 405) <|
          lett (iorI x3 (ishlI 1 ((-10) - (gi s 89 x4.toNat)))) fun x3_12 =>
          Mo_chainEdges_b114 x2 x3_12 x4 s)
          (Mo_chainEdges_b114 x2 x3 x4 s))
        (Mo_chainEdges_b114 x2 x3 x4 s)))
    (some (.inr x3))
noncomputable def Mo_chainEdges_l54 (x2 : Int) (x3 : Int) (x4 : Int) (s : Sg) : Option (Int) :=
  bnd (whl (fun σ : Int × Int => Mo_chainEdges_t54 x2 σ.1 σ.2 s) (x3, x4)) fun ρ54 =>
    some ρ54
noncomputable def Mo_chainEdges_l5 (x1 : Int) (x2 : Int) (x3 : Int) (x4 : Int) (s : Sg) : Option (Int) :=
  bnd (whl (fun σ : Int × Int => Mo_chainEdges_t5 x1 x2 σ.1 σ.2 s) (x3, x4)) fun ρ5 =>
    Mo_chainEdges_l54 x2 ρ5 0 s
noncomputable def Mo_chainEdges (x1 : Int) (x2 : Int) (s : Sg) : Option (Int) :=
  Mo_chainEdges_l5 x1 x2 0 0 s
noncomputable def Mo_canSwap  (s : Sg) : Option (Int × Sg) :=
  grd (0 ≤ 1 ∧ 1 < 286) <|
  ifEq (gi s 81 1) 0
    (some (0, s))
    (grd (0 ≤ 4 ∧ 4 < 286) <|
    ifEq (gi s 81 4) 1
      (bnd2 (Mo_winner s) fun y3 s4 =>
      ifEq y3 (-1)
        (grd (0 ≤ 86 ∧ 86 < 286) <|
        bnd (Mo_stone (gi s4 81 86) s4) fun y6 =>
        grd (0 ≤ 2 ∧ 2 < 286) <|
        ifEq y6 (1 - (gi s4 81 2))
          (bnd (Mo_stonesOf (-1) s4) fun y8 =>
          bnd (Mo_cells s4) fun y9 =>
          ifEq y8 (y9 - 1)
            (some (1, s4))
            (some (0, s4)))
          (some (0, s4)))
        (some (0, s4)))
      (some (0, s)))
noncomputable def Mo_size_b18 (x1 : Int) (t1 : Int) (s : Sg) : Option (Int × Sg) :=
  bnd2 (Mo_wrong t1 s) fun y3 s4 =>
  ifEq y3 0
    (ifEq x1 0
      (grd (0 ≤ 0 ∧ 0 < 286) <|
      some ((gi s4 81 0), s4))
      (ifEq x1 1
        (bnd (Mo_stonesOf 0 s4) fun y8 =>
        some (y8, s4))
        (ifEq x1 2
          (bnd (Mo_stonesOf 1 s4) fun y11 =>
          some (y11, s4))
          (ifEq x1 3
            (bnd (Mo_stonesOf (-1) s4) fun y14 =>
            some (y14, s4))
            (ifEq x1 4
              (grd (0 ≤ 4 ∧ 4 < 286) <|
              some ((gi s4 81 4), s4))
              (ifEq x1 5
                (grd (0 ≤ 2 ∧ 2 < 286) <|
                some ((gi s4 81 2), s4))
                (ifEq x1 6
                  (bnd2 (Mo_winner s4) fun y23 s24 =>
                  some (y23, s24))
                  (ifEq x1 7
                    (bnd2 (Mo_canSwap s4) fun y27 s28 =>
                    ifEq y27 0
                      (some (0, s28))
                      (some (1, s28)))
                    (ifEq x1 8
                      (grd (0 ≤ 3 ∧ 3 < 286) <|
                      some ((gi s4 81 3), s4))
                      (some ((gi s4 80 6), s4)))))))))))
    (some (0, s4))
noncomputable def Mo_size (x1 : Int) (s : Sg) : Option (Int × Sg) :=
  grd (R x1) <|
  bnd (Mo_in x1 0 9 s) fun y2 =>
  ifEq y2 0
    (Mo_size_b18 x1 1 s)
    (Mo_size_b18 x1 0 s)
noncomputable def Mo_noCell_b14 (t1 : Int) (s : Sg) : Option (Int × Sg) :=
  bnd2 (Mo_wrong t1 s) fun y2 s3 =>
  grd (b01 y2) <|
  some (y2, s3)
noncomputable def Mo_noCell (x1 : Int) (s : Sg) : Option (Int × Sg) :=
  bnd (Mo_isCell x1 s) fun y1 =>
  ifEq y1 0
    (Mo_noCell_b14 1 s)
    (Mo_noCell_b14 0 s)
noncomputable def Mo_noSide_b13 (t1 : Int) (s : Sg) : Option (Int × Sg) :=
  bnd2 (Mo_wrong t1 s) fun y2 s3 =>
  grd (b01 y2) <|
  some (y2, s3)
noncomputable def Mo_noSide (x1 : Int) (s : Sg) : Option (Int × Sg) :=
  bnd (Mo_isSide x1 s) fun y1 =>
  ifEq y1 0
    (Mo_noSide_b13 1 s)
    (Mo_noSide_b13 0 s)
noncomputable def Mo_cell (x1 : Int) (s : Sg) : Option (Int × Sg) :=
  bnd2 (Mo_noCell x1 s) fun y1 s2 =>
  ifEq y1 0
    (bnd (Mo_stone x1 s2) fun y3 =>
    some (y3, s2))
    (some (0, s2))
noncomputable def Mo_neighbour_b51 (x1 : Int) (x3 : Int) (x4 : Int) (s : Sg) : Option (((Int × Int) ⊕ ((Int) ⊕ (Unit)))) :=
  some (.inl (x3, (x4 + 1)))
noncomputable def Mo_neighbour_t15 (x1 : Int) (x3 : Int) (x4 : Int) (s : Sg) : Option (((Int × Int) ⊕ ((Int) ⊕ (Unit)))) :=
  ifLt x4 6
    (bnd (Mo_round x1 x4 s) fun y3 =>
    ifEq y3 (-1)
      (Mo_neighbour_b51 x1 x3 x4 s)
      (ifEq x3 0
        (some (.inr (.inl x4)))
        (Mo_neighbour_b51 x1 (dec32 x3) x4 s)))
    (some (.inr (.inr ())))
noncomputable def Mo_neighbour_l15 (x1 : Int) (x3 : Int) (x4 : Int) (s : Sg) : Option (Int × Sg) :=
  bnd (whl (fun σ : Int × Int => Mo_neighbour_t15 x1 σ.1 σ.2 s) (x3, x4)) fun ρ15 => match ρ15 with
  | .inl ρ15 =>
      bnd (Mo_round x1 ρ15 s) fun y5 =>
      some (y5, s)
  | .inr ρ15 =>
      some ((-1), s)
noncomputable def Mo_neighbour (x1 : Int) (x2 : Int) (s : Sg) : Option (Int × Sg) :=
  bnd2 (Mo_noCell x1 s) fun y1 s2 =>
  ifEq y1 0
    (Mo_neighbour_l15 x1 x2 0 s2)
    (some (0, s2))
noncomputable def Mo_freeBeside_b89 (x1 : Int) (x2 : Int) (x3 : Int) (x5 : Int) (t0 : Int) (s : Sg) : Option (((Int × Int) ⊕ (Int))) :=
  some (.inl (t0, (x5 + 1)))
noncomputable def Mo_freeBeside_b84 (x1 : Int) (x2 : Int) (x3 : Int) (x5 : Int) (s : Sg) : Option (((Int × Int) ⊕ (Int))) :=
  Mo_freeBeside_b89 x1 x2 x3 x5 1 s
noncomputable def Mo_freeBeside_b88 (x1 : Int) (x2 : Int) (x3 : Int) (x5 : Int) (s : Sg) : Option (((Int × Int) ⊕ (Int))) :=
  Mo_freeBeside_b89 x1 x2 x3 x5 0 s
noncomputable def Mo_freeBeside_t30 (x1 : Int) (x2 : Int) (x3 : Int) (x4 : Int) (x5 : Int) (s : Sg) : Option (((Int × Int) ⊕ (Int))) :=
  ifLt x5 6
    (ifEq x4 0
      (bnd (Mo_round x3 x5 s) fun y3 =>
      ifEq y3 (-1)
        (Mo_freeBeside_b88 x1 x2 x3 x5 s)
        (bnd (Mo_round x3 x5 s) fun y4 =>
        bnd (Mo_stone y4 s) fun y5 =>
        ifEq y5 (-1)
          (Mo_freeBeside_b88 x1 x2 x3 x5 s)
          (bnd (Mo_round x3 x5 s) fun y6 =>
          grd (0 ≤ y6 ∧ y6 < 81) <|
          ifEq (gi s 87 y6.toNat) x1
            (Mo_freeBeside_b84 x1 x2 x3 x5 s)
            (Mo_freeBeside_b88 x1 x2 x3 x5 s))))
      (Mo_freeBeside_b84 x1 x2 x3 x5 s))
    (some (.inr x4))
noncomputable def Mo_freeBeside_b110 (x1 : Int) (x2 : Int) (x3 : Int) (s : Sg) : Option (((Int × Int) ⊕ (Int))) :=
  some (.inl (x2, (x3 + 1)))
noncomputable def Mo_freeBeside_b108 (x1 : Int) (x3 : Int) (t0 : Int) (t1 : Int) (s : Sg) : Option (((Int × Int) ⊕ (Int))) :=
  lett (t0 + t1) fun x2_9 =>
  Mo_freeBeside_b110 x1 x2_9 x3 s
noncomputable def Mo_freeBeside_l30 (x1 : Int) (x2 : Int) (x3 : Int) (x4 : Int) (x5 : Int) (s : Sg) : Option (((Int × Int) ⊕ (Int))) :=
  bnd (whl (fun σ : Int × Int => Mo_freeBeside_t30 x1 x2 x3 σ.1 σ.2 s) (x4, x5)) fun ρ30 =>
    ifEq ρ30 0
      (Mo_freeBeside_b108 x1 x3 x2 0 s)
      (Mo_freeBeside_b108 x1 x3 x2 1 s)
noncomputable def Mo_freeBeside_t4 (x1 : Int) (x2 : Int) (x3 : Int) (s : Sg) : Option (((Int × Int) ⊕ (Int))) :=
  bnd (Mo_cells s) fun y1 =>
  ifLt x3 y1
    (bnd (Mo_stone x3 s) fun y2 =>
    ifEq y2 (-1)
      (Mo_freeBeside_l30 x1 x2 x3 0 0 s)
      (Mo_freeBeside_b110 x1 x2 x3 s))
    (some (.inr x2))
noncomputable def Mo_freeBeside_l4 (x1 : Int) (x2 : Int) (x3 : Int) (s : Sg) : Option (Int) :=
  bnd (whl (fun σ : Int × Int => Mo_freeBeside_t4 x1 σ.1 σ.2 s) (x2, x3)) fun ρ4 =>
    some ρ4
noncomputable def Mo_freeBeside (x1 : Int) (s : Sg) : Option (Int) :=
  Mo_freeBeside_l4 x1 0 0 s
noncomputable def Mo_groupStones_b37 (x1 : Int) (x3 : Int) (t0 : Int) (t1 : Int) (s : Sg) : Option (((Int × Int) ⊕ (Int))) :=
  lett (t0 + t1) fun x2_3 =>
  some (.inl (x2_3, (x3 + 1)))
noncomputable def Mo_groupStones_b36 (x1 : Int) (x3 : Int) (t0 : Int) (s : Sg) : Option (((Int × Int) ⊕ (Int))) :=
  Mo_groupStones_b37 x1 x3 t0 0 s
noncomputable def Mo_groupStones_t4 (x1 : Int) (x2 : Int) (x3 : Int) (s : Sg) : Option (((Int × Int) ⊕ (Int))) :=
  bnd (Mo_cells s) fun y1 =>
  ifLt x3 y1
    (bnd (Mo_stone x3 s) fun y2 =>
    ifEq y2 (-1)
      (Mo_groupStones_b36 x1 x3 x2 s)
      (grd (0 ≤ x3 ∧ x3 < 81) <|
      ifEq (gi s 87 x3.toNat) x1
        (Mo_groupStones_b37 x1 x3 x2 1 s)
        (Mo_groupStones_b36 x1 x3 x2 s)))
    (some (.inr x2))
noncomputable def Mo_groupStones_l4 (x1 : Int) (x2 : Int) (x3 : Int) (s : Sg) : Option (Int) :=
  bnd (whl (fun σ : Int × Int => Mo_groupStones_t4 x1 σ.1 σ.2 s) (x2, x3)) fun ρ4 =>
    some ρ4
noncomputable def Mo_groupStones (x1 : Int) (s : Sg) : Option (Int) :=
  Mo_groupStones_l4 x1 0 0 s
noncomputable def Mo_group_b26 (x1 : Int) (x2 : Int) (t1 : Int) (s : Sg) : Option (Int × Sg) :=
  bnd2 (Mo_throwsIf t1 2 s) fun y5 s6 =>
  ifEq y5 0
    (bnd (Mo_stone x1 s6) fun y7 =>
    ifEq y7 (-1)
      (some ((-1), s6))
      (bnd (Mo_laysGroups s6) fun s9 =>
      grd (0 ≤ x1 ∧ x1 < 81) <|
      lett (gi s9 87 x1.toNat) fun x3_11 =>
      ifEq x2 0
        (some (x3_11, s9))
        (ifEq x2 1
          (bnd (Mo_groupStones x3_11 s9) fun y15 =>
          some (y15, s9))
          (ifEq x2 2
            (bnd (Mo_freeBeside x3_11 s9) fun y14 =>
            some (y14, s9))
            (bnd (Mo_stone x1 s9) fun y12 =>
            bnd (Mo_groupEdges y12 x3_11 s9) fun y13 =>
            some (y13, s9))))))
    (some (0, s6))
noncomputable def Mo_group (x1 : Int) (x2 : Int) (s : Sg) : Option (Int × Sg) :=
  bnd2 (Mo_noCell x1 s) fun y1 s2 =>
  ifEq y1 0
    (grd (R x2) <|
    bnd (Mo_in x2 0 3 s2) fun y4 =>
    ifEq y4 0
      (Mo_group_b26 x1 x2 1 s2)
      (Mo_group_b26 x1 x2 0 s2))
    (some (0, s2))
noncomputable def Mo_groups_b51 (x1 : Int) (x3 : Int) (t0 : Int) (t1 : Int) (s : Sg) : Option (((Int × Int) ⊕ (Int))) :=
  lett (t0 + t1) fun x2_7 =>
  some (.inl (x2_7, (x3 + 1)))
noncomputable def Mo_groups_b50 (x1 : Int) (x3 : Int) (t0 : Int) (s : Sg) : Option (((Int × Int) ⊕ (Int))) :=
  Mo_groups_b51 x1 x3 t0 0 s
noncomputable def Mo_groups_t18 (x1 : Int) (x2 : Int) (x3 : Int) (s : Sg) : Option (((Int × Int) ⊕ (Int))) :=
  bnd (Mo_cells s) fun y5 =>
  ifLt x3 y5
    (bnd (Mo_stone x3 s) fun y6 =>
    ifEq y6 x1
      (grd (0 ≤ x3 ∧ x3 < 81) <|
      ifEq (gi s 87 x3.toNat) x3
        (Mo_groups_b51 x1 x3 x2 1 s)
        (Mo_groups_b50 x1 x3 x2 s))
      (Mo_groups_b50 x1 x3 x2 s))
    (some (.inr x2))
noncomputable def Mo_groups_l18 (x1 : Int) (x2 : Int) (x3 : Int) (s : Sg) : Option (Int × Sg) :=
  bnd (whl (fun σ : Int × Int => Mo_groups_t18 x1 σ.1 σ.2 s) (x2, x3)) fun ρ18 =>
    some (ρ18, s)
noncomputable def Mo_groups (x1 : Int) (s : Sg) : Option (Int × Sg) :=
  bnd2 (Mo_noSide x1 s) fun y1 s2 =>
  ifEq y1 0
    (bnd (Mo_laysGroups s2) fun s4 =>
    Mo_groups_l18 x1 0 0 s4)
    (some (0, s2))
noncomputable def Mo_largest_b68 (x1 : Int) (x2 : Int) (x3 : Int) (s : Sg) : Option (((Int × Int) ⊕ (Int))) :=
  some (.inl (x2, (x3 + 1)))
noncomputable def Mo_largest_b66 (x1 : Int) (x3 : Int) (s : Sg) : Option (((Int × Int) ⊕ (Int))) :=
  Mo_largest_b68 x1 x3 x3 s
noncomputable def Mo_largest_t18 (x1 : Int) (x2 : Int) (x3 : Int) (s : Sg) : Option (((Int × Int) ⊕ (Int))) :=
  bnd (Mo_cells s) fun y5 =>
  ifLt x3 y5
    (bnd (Mo_stone x3 s) fun y6 =>
    ifEq y6 x1
      (grd (0 ≤ x3 ∧ x3 < 81) <|
      ifEq (gi s 87 x3.toNat) x3
        (ifEq x2 (-1)
          (Mo_largest_b66 x1 x3 s)
          (bnd (Mo_groupStones x3 s) fun y8 =>
          bnd (Mo_groupStones x2 s) fun y9 =>
          ifLt y9 y8
            (Mo_largest_b66 x1 x3 s)
            (Mo_largest_b68 x1 x2 x3 s)))
        (Mo_largest_b68 x1 x2 x3 s))
      (Mo_largest_b68 x1 x2 x3 s))
    (some (.inr x2))
noncomputable def Mo_largest_l18 (x1 : Int) (x2 : Int) (x3 : Int) (s : Sg) : Option (Int × Sg) :=
  bnd (whl (fun σ : Int × Int => Mo_largest_t18 x1 σ.1 σ.2 s) (x2, x3)) fun ρ18 =>
    some (ρ18, s)
noncomputable def Mo_largest (x1 : Int) (s : Sg) : Option (Int × Sg) :=
  bnd2 (Mo_noSide x1 s) fun y1 s2 =>
  ifEq y1 0
    (bnd (Mo_laysGroups s2) fun s4 =>
    Mo_largest_l18 x1 (-1) 0 s4)
    (some (0, s2))
noncomputable def Mo_isBridge_b22 (x1 : Int) (x2 : Int) (t1 : Int) (s : Sg) : Option (Int × Sg) :=
  bnd2 (Mo_wrong t1 s) fun y2 s3 =>
  ifEq y2 0
    (bnd2 (Mo_joinsCells x1 x2 s3) fun y4 s5 =>
    grd (b01 y4) <|
    some (y4, s5))
    (some (0, s3))
noncomputable def Mo_isBridge_b17 (x1 : Int) (x2 : Int) (s : Sg) : Option (Int × Sg) :=
  Mo_isBridge_b22 x1 x2 1 s
noncomputable def Mo_isBridge (x1 : Int) (x2 : Int) (s : Sg) : Option (Int × Sg) :=
  bnd (Mo_isCell x1 s) fun y1 =>
  ifEq y1 0
    (Mo_isBridge_b17 x1 x2 s)
    (bnd (Mo_isCell x2 s) fun y7 =>
    ifEq y7 0
      (Mo_isBridge_b17 x1 x2 s)
      (Mo_isBridge_b22 x1 x2 0 s))
noncomputable def Mo_bridges_b49 (x2 : Int) (x4 : Int) (t0 : Int) (t1 : Int) (s : Sg) : Option (((Int × Int) ⊕ (Int))) :=
  lett (t0 + t1) fun x3_6 =>
  some (.inl (x3_6, (x4 + 1)))
noncomputable def Mo_bridges_b44 (x2 : Int) (x4 : Int) (t0 : Int) (s : Sg) : Option (((Int × Int) ⊕ (Int))) :=
  Mo_bridges_b49 x2 x4 t0 1 s
noncomputable def Mo_bridges_t20 (x2 : Int) (x3 : Int) (x4 : Int) (s : Sg) : Option (((Int × Int) ⊕ (Int))) :=
  ifLt x4 (gi s 80 24)
    (grd (0 ≤ x4 ∧ x4 < 405) <|
    ifEq (gi s 92 x4.toNat) 0
      (ifEq x2 0
        (Mo_bridges_b44 x2 x4 x3 s)
        (Mo_bridges_b49 x2 x4 x3 0 s))
      (Mo_bridges_b44 x2 x4 x3 s))
    (some (.inr x3))
noncomputable def Mo_bridges_l20 (x2 : Int) (x3 : Int) (x4 : Int) (s : Sg) : Option (Int × Sg) :=
  bnd (whl (fun σ : Int × Int => Mo_bridges_t20 x2 σ.1 σ.2 s) (x3, x4)) fun ρ20 =>
    some (ρ20, s)
noncomputable def Mo_bridges (x1 : Int) (x2 : Int) (s : Sg) : Option (Int × Sg) :=
  bnd2 (Mo_noSide x1 s) fun y1 s2 =>
  ifEq y1 0
    (bnd (Mo_laysBridges x1 s2) fun s4 =>
    Mo_bridges_l20 x2 0 0 s4)
    (some (0, s2))
noncomputable def Mo_bridge_b25 (x1 : Int) (x2 : Int) (x3 : Int) (t1 : Int) (s : Sg) : Option (Int × Sg) :=
  bnd2 (Mo_wrong t1 s) fun y2 s3 =>
  ifEq y2 0
    (bnd (Mo_laysBridges x1 s3) fun s5 =>
    grd (R x2) <|
    grd (R ((gi s5 80 24) - 1)) <|
    bnd (Mo_in x2 0 ((gi s5 80 24) - 1) s5) fun y8 =>
    ifEq y8 0
      (some ((-1), s5))
      (ifEq x3 0
        (grd (0 ≤ x2 ∧ x2 < 405) <|
        some ((gi s5 88 x2.toNat), s5))
        (ifEq x3 1
          (grd (0 ≤ x2 ∧ x2 < 405) <|
          some ((gi s5 89 x2.toNat), s5))
          (ifEq x3 2
            (grd (0 ≤ x2 ∧ x2 < 405) <|
            some ((gi s5 90 x2.toNat), s5))
            (ifEq x3 3
              (grd (0 ≤ x2 ∧ x2 < 405) <|
              some ((gi s5 91 x2.toNat), s5))
              (grd (0 ≤ x2 ∧ x2 < 405) <|
              ifEq (gi s5 92 x2.toNat) 0
                (some (0, s5))
                (some (1, s5))))))))
    (some (0, s3))
noncomputable def Mo_bridge_b20 (x1 : Int) (x2 : Int) (x3 : Int) (s : Sg) : Option (Int × Sg) :=
  Mo_bridge_b25 x1 x2 x3 1 s
noncomputable def Mo_bridge (x1 : Int) (x2 : Int) (x3 : Int) (s : Sg) : Option (Int × Sg) :=
  bnd (Mo_isSide x1 s) fun y1 =>
  ifEq y1 0
    (Mo_bridge_b20 x1 x2 x3 s)
    (grd (R x3) <|
    bnd (Mo_in x3 0 4 s) fun y23 =>
    ifEq y23 0
      (Mo_bridge_b20 x1 x2 x3 s)
      (Mo_bridge_b25 x1 x2 x3 0 s))
noncomputable def Mo_chain_b26 (x1 : Int) (x2 : Int) (t1 : Int) (s : Sg) : Option (Int × Sg) :=
  bnd2 (Mo_throwsIf t1 2 s) fun y5 s6 =>
  ifEq y5 0
    (bnd (Mo_stone x1 s6) fun y7 =>
    ifEq y7 (-1)
      (some ((-1), s6))
      (bnd (Mo_laysChains y7 s6) fun s9 =>
      grd (0 ≤ x1 ∧ x1 < 81) <|
      lett (gi s9 94 x1.toNat) fun x4_11 =>
      ifEq x2 0
        (some (x4_11, s9))
        (ifEq x2 1
          (bnd (Mo_chainStones y7 x4_11 s9) fun y14 =>
          some (y14, s9))
          (ifEq x2 2
            (bnd (Mo_chainBridges x4_11 s9) fun y13 =>
            some (y13, s9))
            (bnd (Mo_chainEdges y7 x4_11 s9) fun y12 =>
            some (y12, s9))))))
    (some (0, s6))
noncomputable def Mo_chain (x1 : Int) (x2 : Int) (s : Sg) : Option (Int × Sg) :=
  bnd2 (Mo_noCell x1 s) fun y1 s2 =>
  ifEq y1 0
    (grd (R x2) <|
    bnd (Mo_in x2 0 3 s2) fun y4 =>
    ifEq y4 0
      (Mo_chain_b26 x1 x2 1 s2)
      (Mo_chain_b26 x1 x2 0 s2))
    (some (0, s2))
noncomputable def Mo_chains_b52 (x1 : Int) (x3 : Int) (t0 : Int) (t1 : Int) (s : Sg) : Option (((Int × Int) ⊕ (Int))) :=
  lett (t0 + t1) fun x2_7 =>
  some (.inl (x2_7, (x3 + 1)))
noncomputable def Mo_chains_b51 (x1 : Int) (x3 : Int) (t0 : Int) (s : Sg) : Option (((Int × Int) ⊕ (Int))) :=
  Mo_chains_b52 x1 x3 t0 0 s
noncomputable def Mo_chains_t19 (x1 : Int) (x2 : Int) (x3 : Int) (s : Sg) : Option (((Int × Int) ⊕ (Int))) :=
  bnd (Mo_cells s) fun y5 =>
  ifLt x3 y5
    (bnd (Mo_stone x3 s) fun y6 =>
    ifEq y6 x1
      (grd (0 ≤ x3 ∧ x3 < 81) <|
      ifEq (gi s 94 x3.toNat) x3
        (Mo_chains_b52 x1 x3 x2 1 s)
        (Mo_chains_b51 x1 x3 x2 s))
      (Mo_chains_b51 x1 x3 x2 s))
    (some (.inr x2))
noncomputable def Mo_chains_l19 (x1 : Int) (x2 : Int) (x3 : Int) (s : Sg) : Option (Int × Sg) :=
  bnd (whl (fun σ : Int × Int => Mo_chains_t19 x1 σ.1 σ.2 s) (x2, x3)) fun ρ19 =>
    some (ρ19, s)
noncomputable def Mo_chains (x1 : Int) (s : Sg) : Option (Int × Sg) :=
  bnd2 (Mo_noSide x1 s) fun y1 s2 =>
  ifEq y1 0
    (bnd (Mo_laysChains x1 s2) fun s4 =>
    Mo_chains_l19 x1 0 0 s4)
    (some (0, s2))
noncomputable def Mo_isSafe_b56 (x1 : Int) (x2 : Int) (s : Sg) : Option (((Int) ⊕ ((Unit) ⊕ (Unit)))) :=
  some (.inl (x2 + 1))
noncomputable def Mo_isSafe_t17 (x1 : Int) (x2 : Int) (s : Sg) : Option (((Int) ⊕ ((Unit) ⊕ (Unit)))) :=
  bnd (Mo_cells s) fun y5 =>
  ifLt x2 y5
    (bnd (Mo_stone x2 s) fun y6 =>
    ifEq y6 x1
      (grd (0 ≤ x2 ∧ x2 < 81) <|
      ifEq (gi s 94 x2.toNat) x2
        (bnd (Mo_chainEdges x1 x2 s) fun y8 =>
        ifEq y8 3
          (some (.inr (.inl ())))
          (Mo_isSafe_b56 x1 x2 s))
        (Mo_isSafe_b56 x1 x2 s))
      (Mo_isSafe_b56 x1 x2 s))
    (some (.inr (.inr ())))
noncomputable def Mo_isSafe_l17 (x1 : Int) (x2 : Int) (s : Sg) : Option (Int × Sg) :=
  bnd (whl (fun σ : Int => Mo_isSafe_t17 x1 σ s) x2) fun ρ17 => match ρ17 with
  | .inl ρ17 =>
      some (1, s)
  | .inr ρ17 =>
      some (0, s)
noncomputable def Mo_isSafe (x1 : Int) (s : Sg) : Option (Int × Sg) :=
  bnd2 (Mo_noSide x1 s) fun y1 s2 =>
  ifEq y1 0
    (bnd (Mo_laysChains x1 s2) fun s4 =>
    Mo_isSafe_l17 x1 0 s4)
    (some (0, s2))
noncomputable def Mo_answerBy_b61 (x2 : Int) (x3 : Int) (s : Sg) : Option (((Int) ⊕ ((Int) ⊕ ((Int) ⊕ (Unit))))) :=
  some (.inl (x3 + 1))
noncomputable def Mo_answerBy_t7 (x2 : Int) (x3 : Int) (s : Sg) : Option (((Int) ⊕ ((Int) ⊕ ((Int) ⊕ (Unit))))) :=
  ifLt x3 (gi s 80 24)
    (grd (0 ≤ x3 ∧ x3 < 405) <|
    ifEq (gi s 92 x3.toNat) 0
      (Mo_answerBy_b61 x2 x3 s)
      (grd (0 ≤ x3 ∧ x3 < 405) <|
      ifEq (gi s 90 x3.toNat) x2
        (some (.inr (.inl x3)))
        (grd (0 ≤ x3 ∧ x3 < 405) <|
        ifEq (gi s 91 x3.toNat) x2
          (some (.inr (.inr (.inl x3))))
          (Mo_answerBy_b61 x2 x3 s))))
    (some (.inr (.inr (.inr ()))))
noncomputable def Mo_answerBy_l7 (x2 : Int) (x3 : Int) (s : Sg) : Option (Int × Sg) :=
  bnd (whl (fun σ : Int => Mo_answerBy_t7 x2 σ s) x3) fun ρ7 => match ρ7 with
  | .inl ρ7 =>
      grd (0 ≤ ρ7 ∧ ρ7 < 405) <|
      some ((gi s 91 ρ7.toNat), s)
  | .inr (.inl ρ7) =>
      grd (0 ≤ ρ7 ∧ ρ7 < 405) <|
      some ((gi s 90 ρ7.toNat), s)
  | .inr (.inr ρ7) =>
      some ((-1), s)
noncomputable def Mo_answerBy (x1 : Int) (x2 : Int) (s : Sg) : Option (Int × Sg) :=
  bnd (Mo_laysBridges x1 s) fun s2 =>
  Mo_answerBy_l7 x2 0 s2
noncomputable def Mo_answer (x1 : Int) (s : Sg) : Option (Int × Sg) :=
  bnd2 (Mo_noCell x1 s) fun y1 s2 =>
  ifEq y1 0
    (bnd (Mo_stone x1 s2) fun y3 =>
    ifEq y3 (-1)
      (grd (0 ≤ 2 ∧ 2 < 286) <|
      bnd2 (Mo_answerBy (1 - (gi s2 81 2)) x1 s2) fun y5 s6 =>
      some (y5, s6))
      (some ((-1), s2)))
    (some (0, s2))
noncomputable def Mo_isThreat (x1 : Int) (x2 : Int) (s : Sg) : Option (Int × Sg) :=
  bnd (Mo_stone x2 s) fun y1 =>
  ifEq y1 (-1)
    (grd (0 ≤ (5 + x2) ∧ (5 + x2) < 286) <|
    lett (si s 81 (5 + x2).toNat x1) fun s3 =>
    bnd2 (Mo_hasJoined x1 s3) fun y4 s5 =>
    grd (0 ≤ (5 + x2) ∧ (5 + x2) < 286) <|
    lett (si s5 81 (5 + x2).toNat (-1)) fun s7 =>
    grd (b01 y4) <|
    some (y4, s7))
    (some (0, s))
noncomputable def Mo_threatOf_b47 (x1 : Int) (x3 : Int) (x4 : Int) (s : Sg) : Option (((Int × Int × Sg) ⊕ ((Int × Sg) ⊕ (Sg)))) :=
  some (.inl (x3, (x4 + 1), s))
noncomputable def Mo_threatOf_t15 (x1 : Int) (x3 : Int) (x4 : Int) (s : Sg) : Option (((Int × Int × Sg) ⊕ ((Int × Sg) ⊕ (Sg)))) :=
  bnd (Mo_cells s) fun y3 =>
  ifLt x4 y3
    (bnd2 (Mo_isThreat x1 x4 s) fun y4 s5 =>
    ifEq y4 0
      (Mo_threatOf_b47 x1 x3 x4 s5)
      (ifEq x3 0
        (some (.inr (.inl (x4, s5))))
        (Mo_threatOf_b47 x1 (dec32 x3) x4 s5)))
    (some (.inr (.inr s)))
noncomputable def Mo_threatOf_l15 (x1 : Int) (x3 : Int) (x4 : Int) (s : Sg) : Option (Int × Sg) :=
  bnd (whl (fun σ : Int × Int × Sg => Mo_threatOf_t15 x1 σ.1 σ.2.1 σ.2.2) (x3, x4, s)) fun ρ15 => match ρ15 with
  | .inl ρ15 =>
      some (ρ15.1, ρ15.2)
  | .inr ρ15 =>
      some ((-1), ρ15)
noncomputable def Mo_threatOf (x1 : Int) (x2 : Int) (s : Sg) : Option (Int × Sg) :=
  bnd2 (Mo_hasJoined x1 s) fun y1 s2 =>
  ifEq y1 0
    (Mo_threatOf_l15 x1 x2 0 s2)
    (some ((-1), s2))
noncomputable def Mo_threats_b45 (x1 : Int) (x3 : Int) (t0 : Int) (t1 : Int) (s : Sg) : Option (((Int × Int × Sg) ⊕ (Int × Sg))) :=
  lett (t0 + t1) fun x2_8 =>
  some (.inl (x2_8, (x3 + 1), s))
noncomputable def Mo_threats_t22 (x1 : Int) (x2 : Int) (x3 : Int) (s : Sg) : Option (((Int × Int × Sg) ⊕ (Int × Sg))) :=
  bnd (Mo_cells s) fun y5 =>
  ifLt x3 y5
    (bnd2 (Mo_isThreat x1 x3 s) fun y6 s7 =>
    ifEq y6 0
      (Mo_threats_b45 x1 x3 x2 0 s7)
      (Mo_threats_b45 x1 x3 x2 1 s7))
    (some (.inr (x2, s)))
noncomputable def Mo_threats_l22 (x1 : Int) (x2 : Int) (x3 : Int) (s : Sg) : Option (Int × Sg) :=
  bnd (whl (fun σ : Int × Int × Sg => Mo_threats_t22 x1 σ.1 σ.2.1 σ.2.2) (x2, x3, s)) fun ρ22 =>
    some (ρ22.1, ρ22.2)
noncomputable def Mo_threats (x1 : Int) (s : Sg) : Option (Int × Sg) :=
  bnd2 (Mo_noSide x1 s) fun y1 s2 =>
  ifEq y1 0
    (bnd2 (Mo_hasJoined x1 s2) fun y3 s4 =>
    ifEq y3 0
      (Mo_threats_l22 x1 0 0 s4)
      (some (0, s4)))
    (some (0, s2))
noncomputable def Mo_threat (x1 : Int) (x2 : Int) (s : Sg) : Option (Int × Sg) :=
  bnd2 (Mo_noSide x1 s) fun y1 s2 =>
  ifEq y1 0
    (bnd2 (Mo_threatOf x1 x2 s2) fun y3 s4 =>
    some (y3, s4))
    (some (0, s2))
noncomputable def Mo_answerToLatest  (s : Sg) : Option (Int × Sg) :=
  grd (0 ≤ 4 ∧ 4 < 286) <|
  ifEq (gi s 81 4) 0
    (some ((-1), s))
    (grd (0 ≤ 4 ∧ 4 < 286) <|
    grd (0 ≤ ((86 + (gi s 81 4)) - 1) ∧ ((86 + (gi s 81 4)) - 1) < 286) <|
    lett (gi s 81 ((86 + (gi s 81 4)) - 1).toNat) fun x1_4 =>
    bnd (Mo_stone x1_4 s) fun y5 =>
    grd (0 ≤ 2 ∧ 2 < 286) <|
    ifEq y5 (1 - (gi s 81 2))
      (grd (0 ≤ (5 + x1_4) ∧ (5 + x1_4) < 286) <|
      lett (si s 81 (5 + x1_4).toNat (-1)) fun s8 =>
      grd (0 ≤ 2 ∧ 2 < 286) <|
      bnd2 (Mo_answerBy (gi s8 81 2) x1_4 s8) fun y10 s11 =>
      grd (0 ≤ 2 ∧ 2 < 286) <|
      grd (0 ≤ (5 + x1_4) ∧ (5 + x1_4) < 286) <|
      lett (si s11 81 (5 + x1_4).toNat (1 - (gi s11 81 2))) fun s14 =>
      some (y10, s14))
      (some ((-1), s)))
noncomputable def Mo_forcedNow  (s : Sg) : Option (Int × Sg) :=
  bnd2 (Mo_winner s) fun y1 s2 =>
  ifEq y1 (-1)
    (grd (0 ≤ 2 ∧ 2 < 286) <|
    bnd2 (Mo_threatOf (gi s2 81 2) 0 s2) fun y4 s5 =>
    ifEq y4 (-1)
      (grd (0 ≤ 2 ∧ 2 < 286) <|
      bnd2 (Mo_threatOf (1 - (gi s5 81 2)) 0 s5) fun y7 s8 =>
      ifEq y7 (-1)
        (bnd2 (Mo_answerToLatest s8) fun y12 s13 =>
        some (y12, s13))
        (grd (0 ≤ 2 ∧ 2 < 286) <|
        bnd2 (Mo_threatOf (1 - (gi s8 81 2)) 1 s8) fun y10 s11 =>
        ifEq y10 (-1)
          (some (y7, s11))
          (some ((-1), s11))))
      (some (y4, s5)))
    (some ((-1), s2))
noncomputable def Mo_forced  (s : Sg) : Option (Int × Sg) :=
  lett (si s 80 0 0) fun s1 =>
  bnd2 (Mo_forcedNow s1) fun y2 s3 =>
  some (y2, s3)
noncomputable def Mo_cost (x1 : Int) (x2 : Int) (s : Sg) : Option (Int) :=
  bnd (Mo_stone x2 s) fun y1 =>
  ifEq y1 x1
    (some 0)
    (bnd (Mo_stone x2 s) fun y2 =>
    ifEq y2 (-1)
      (some 1)
      (some 1000))
noncomputable def Mo_laysCosts_b43 (r1 : Nat) (x2 : Int) (x3 : Int) (x4 : Int) (t1 : Int) (t2 : Int) (s : Sg) : Option (((Int × Sg) ⊕ (Sg))) :=
  grd (0 ≤ t1 ∧ t1 < (alen r1 : Int)) <|
  lett (si s r1 t1.toNat t2) fun s4 =>
  some (.inl ((x4 + 1), s4))
noncomputable def Mo_laysCosts_t3 (r1 : Nat) (x2 : Int) (x3 : Int) (x4 : Int) (s : Sg) : Option (((Int × Sg) ⊕ (Sg))) :=
  bnd (Mo_cells s) fun y1 =>
  ifLt x4 y1
    (bnd (Mo_edges x2 x4 s) fun y2 =>
    ifEq (iandI (ishrI y2 x3) 1) 1
      (bnd (Mo_cost x2 x4 s) fun y5 =>
      Mo_laysCosts_b43 r1 x2 x3 x4 x4 y5 s)
      (Mo_laysCosts_b43 r1 x2 x3 x4 x4 1000 s))
    (some (.inr s))
noncomputable def Mo_laysCosts_b140 (r1 : Nat) (x2 : Int) (x4 : Int) (x5 : Int) (x6 : Int) (s : Sg) : Option (((Int × Int × Sg) ⊕ (Int × Sg))) :=
  some (.inl (x4, (x6 + 1), s))
noncomputable def Mo_laysCosts_t76 (r1 : Nat) (x2 : Int) (x4 : Int) (x5 : Int) (x6 : Int) (s : Sg) : Option (((Int × Int × Sg) ⊕ (Int × Sg))) :=
  ifLt x6 6
    (bnd (Mo_round x5 x6 s) fun y8 =>
    ifEq y8 (-1)
      (Mo_laysCosts_b140 r1 x2 x4 x5 x6 s)
      (grd (0 ≤ y8 ∧ y8 < (alen r1 : Int)) <|
      bnd (Mo_cost x2 x5 s) fun y10 =>
      grd (0 ≤ x5 ∧ x5 < (alen r1 : Int)) <|
      ifLt ((gi s r1 y8.toNat) + y10) (gi s r1 x5.toNat)
        (grd (0 ≤ y8 ∧ y8 < (alen r1 : Int)) <|
        bnd (Mo_cost x2 x5 s) fun y13 =>
        grd (0 ≤ x5 ∧ x5 < (alen r1 : Int)) <|
        lett (si s r1 x5.toNat ((gi s r1 y8.toNat) + y13)) fun s15 =>
        Mo_laysCosts_b140 r1 x2 1 x5 x6 s15)
        (Mo_laysCosts_b140 r1 x2 x4 x5 x6 s)))
    (some (.inr (x4, s)))
noncomputable def Mo_laysCosts_l76 (r1 : Nat) (x2 : Int) (x4 : Int) (x5 : Int) (x6 : Int) (s : Sg) : Option (((Int × Int × Sg) ⊕ (Int × Sg))) :=
  bnd (whl (fun σ : Int × Int × Sg => Mo_laysCosts_t76 r1 x2 σ.1 x5 σ.2.1 σ.2.2) (x4, x6, s)) fun ρ76 =>
    some (.inl (ρ76.1, (x5 + 1), ρ76.2))
noncomputable def Mo_laysCosts_t64 (r1 : Nat) (x2 : Int) (x4 : Int) (x5 : Int) (s : Sg) : Option (((Int × Int × Sg) ⊕ (Int × Sg))) :=
  bnd (Mo_cells s) fun y7 =>
  ifLt x5 y7
    (Mo_laysCosts_l76 r1 x2 x4 x5 0 s)
    (some (.inr (x4, s)))
noncomputable def Mo_laysCosts_l64 (r1 : Nat) (x2 : Int) (x4 : Int) (x5 : Int) (s : Sg) : Option (((Int × Sg) ⊕ (Sg))) :=
  bnd (whl (fun σ : Int × Int × Sg => Mo_laysCosts_t64 r1 x2 σ.1 σ.2.1 σ.2.2) (x4, x5, s)) fun ρ64 =>
    some (.inl (ρ64.1, ρ64.2))
noncomputable def Mo_laysCosts_t53 (r1 : Nat) (x2 : Int) (x4 : Int) (s : Sg) : Option (((Int × Sg) ⊕ (Sg))) :=
  ifEq x4 0
    (some (.inr s))
    (Mo_laysCosts_l64 r1 x2 0 0 s)
noncomputable def Mo_laysCosts_l53 (r1 : Nat) (x2 : Int) (x4 : Int) (s : Sg) : Option (Sg) :=
  bnd (whl (fun σ : Int × Sg => Mo_laysCosts_t53 r1 x2 σ.1 σ.2) (x4, s)) fun ρ53 =>
    some ρ53
noncomputable def Mo_laysCosts_l3 (r1 : Nat) (x2 : Int) (x3 : Int) (x4 : Int) (s : Sg) : Option (Sg) :=
  bnd (whl (fun σ : Int × Sg => Mo_laysCosts_t3 r1 x2 x3 σ.1 σ.2) (x4, s)) fun ρ3 =>
    Mo_laysCosts_l53 r1 x2 1 ρ3
noncomputable def Mo_laysCosts (r1 : Nat) (x2 : Int) (x3 : Int) (s : Sg) : Option (Sg) :=
  Mo_laysCosts_l3 r1 x2 x3 0 s
noncomputable def Mo_laysWays (x1 : Int) (s : Sg) : Option (Sg) :=
  bnd (Mo_laysCosts 95 x1 0 s) fun s2 =>
  bnd (Mo_laysCosts 96 x1 1 s2) fun s4 =>
  some s4
noncomputable def Mo_by_b39  (s : Sg) : Option (Int) :=
  some (-1)
noncomputable def Mo_by (x1 : Int) (x2 : Int) (s : Sg) : Option (Int) :=
  grd (0 ≤ x2 ∧ x2 < 81) <|
  grd (0 ≤ x2 ∧ x2 < 81) <|
  bnd (Mo_cost x1 x2 s) fun y3 =>
  lett (((gi s 95 x2.toNat) + (gi s 96 x2.toNat)) - y3) fun x3_4 =>
  bnd (Mo_stone x2 s) fun y5 =>
  ifEq y5 (1 - x1)
    (Mo_by_b39  s)
    (ifLt x3_4 1000
      (some x3_4)
      (Mo_by_b39  s))
noncomputable def Mo_leastOf_b40 (x1 : Int) (x2 : Int) (x3 : Int) (s : Sg) : Option (((Int × Int) ⊕ (Int))) :=
  some (.inl (x2, (x3 + 1)))
noncomputable def Mo_leastOf_b37 (x1 : Int) (x3 : Int) (x4 : Int) (s : Sg) : Option (((Int × Int) ⊕ (Int))) :=
  Mo_leastOf_b40 x1 x4 x3 s
noncomputable def Mo_leastOf_t4 (x1 : Int) (x2 : Int) (x3 : Int) (s : Sg) : Option (((Int × Int) ⊕ (Int))) :=
  bnd (Mo_cells s) fun y1 =>
  ifLt x3 y1
    (bnd (Mo_by x1 x3 s) fun y2 =>
    ifEq y2 (-1)
      (Mo_leastOf_b40 x1 x2 x3 s)
      (ifEq x2 (-1)
        (Mo_leastOf_b37 x1 x3 y2 s)
        (ifLt y2 x2
          (Mo_leastOf_b37 x1 x3 y2 s)
          (Mo_leastOf_b40 x1 x2 x3 s))))
    (some (.inr x2))
noncomputable def Mo_leastOf_l4 (x1 : Int) (x2 : Int) (x3 : Int) (s : Sg) : Option (Int) :=
  bnd (whl (fun σ : Int × Int => Mo_leastOf_t4 x1 σ.1 σ.2 s) (x2, x3)) fun ρ4 =>
    some ρ4
noncomputable def Mo_leastOf (x1 : Int) (s : Sg) : Option (Int) :=
  Mo_leastOf_l4 x1 (-1) 0 s
noncomputable def Mo_distance (x1 : Int) (s : Sg) : Option (Int × Sg) :=
  bnd2 (Mo_noSide x1 s) fun y1 s2 =>
  ifEq y1 0
    (bnd (Mo_laysWays x1 s2) fun s4 =>
    bnd (Mo_leastOf x1 s4) fun y5 =>
    some (y5, s4))
    (some (0, s2))
noncomputable def Mo_through_b22 (x1 : Int) (x2 : Int) (t1 : Int) (s : Sg) : Option (Int × Sg) :=
  bnd2 (Mo_throwsIf t1 2 s) fun y4 s5 =>
  ifEq y4 0
    (bnd (Mo_laysWays x1 s5) fun s7 =>
    bnd (Mo_by x1 x2 s7) fun y8 =>
    some (y8, s7))
    (some (0, s5))
noncomputable def Mo_through (x1 : Int) (x2 : Int) (s : Sg) : Option (Int × Sg) :=
  bnd2 (Mo_noSide x1 s) fun y1 s2 =>
  ifEq y1 0
    (bnd (Mo_isCell x2 s2) fun y3 =>
    ifEq y3 0
      (Mo_through_b22 x1 x2 1 s2)
      (Mo_through_b22 x1 x2 0 s2))
    (some (0, s2))
noncomputable def Mo_useful_b67 (x1 : Int) (x2 : Int) (x4 : Int) (t0 : Int) (t1 : Int) (s : Sg) : Option (((Int × Int) ⊕ (Int))) :=
  lett (t0 + t1) fun x3_8 =>
  some (.inl (x3_8, (x4 + 1)))
noncomputable def Mo_useful_b66 (x1 : Int) (x2 : Int) (x4 : Int) (t0 : Int) (s : Sg) : Option (((Int × Int) ⊕ (Int))) :=
  Mo_useful_b67 x1 x2 x4 t0 0 s
noncomputable def Mo_useful_t26 (x1 : Int) (x2 : Int) (x3 : Int) (x4 : Int) (s : Sg) : Option (((Int × Int) ⊕ (Int))) :=
  bnd (Mo_cells s) fun y6 =>
  ifLt x4 y6
    (bnd (Mo_stone x4 s) fun y7 =>
    ifEq y7 (-1)
      (ifEq x2 (-1)
        (Mo_useful_b66 x1 x2 x4 x3 s)
        (bnd (Mo_by x1 x4 s) fun y9 =>
        ifEq y9 x2
          (Mo_useful_b67 x1 x2 x4 x3 1 s)
          (Mo_useful_b66 x1 x2 x4 x3 s)))
      (Mo_useful_b66 x1 x2 x4 x3 s))
    (some (.inr x3))
noncomputable def Mo_useful_l26 (x1 : Int) (x2 : Int) (x3 : Int) (x4 : Int) (s : Sg) : Option (Int × Sg) :=
  bnd (whl (fun σ : Int × Int => Mo_useful_t26 x1 x2 σ.1 σ.2 s) (x3, x4)) fun ρ26 =>
    some (ρ26, s)
noncomputable def Mo_useful (x1 : Int) (s : Sg) : Option (Int × Sg) :=
  bnd2 (Mo_noSide x1 s) fun y1 s2 =>
  ifEq y1 0
    (bnd (Mo_laysWays x1 s2) fun s4 =>
    bnd (Mo_leastOf x1 s4) fun y5 =>
    Mo_useful_l26 x1 y5 0 0 s4)
    (some (0, s2))
noncomputable def Mo_shared_t12 (x1 : Int) (s : Sg) : Option (((Int × Sg) ⊕ (Sg))) :=
  bnd (Mo_cells s) fun y4 =>
  ifLt x1 y4
    (bnd (Mo_by 0 x1 s) fun y5 =>
    grd (0 ≤ x1 ∧ x1 < 81) <|
    lett (si s 97 x1.toNat y5) fun s7 =>
    some (.inl ((x1 + 1), s7)))
    (some (.inr s))
noncomputable def Mo_shared_b123 (x1 : Int) (x2 : Int) (x3 : Int) (s : Sg) : Option (((Int × Int × Int) ⊕ (Int))) :=
  some (.inl (x1, x2, (x3 + 1)))
noncomputable def Mo_shared_b118 (x3 : Int) (x4 : Int) (s : Sg) : Option (((Int × Int × Int) ⊕ (Int))) :=
  Mo_shared_b123 x3 x4 x3 s
noncomputable def Mo_shared_t49 (x1 : Int) (x2 : Int) (x3 : Int) (s : Sg) : Option (((Int × Int × Int) ⊕ (Int))) :=
  bnd (Mo_cells s) fun y11 =>
  ifLt x3 y11
    (bnd (Mo_stone x3 s) fun y12 =>
    ifEq y12 (-1)
      (grd (0 ≤ x3 ∧ x3 < 81) <|
      ifEq (gi s 97 x3.toNat) (-1)
        (Mo_shared_b123 x1 x2 x3 s)
        (bnd (Mo_by 1 x3 s) fun y14 =>
        ifEq y14 (-1)
          (Mo_shared_b123 x1 x2 x3 s)
          (grd (0 ≤ x3 ∧ x3 < 81) <|
          bnd (Mo_by 1 x3 s) fun y16 =>
          lett ((gi s 97 x3.toNat) + y16) fun x4_17 =>
          ifEq x1 (-1)
            (Mo_shared_b118 x3 x4_17 s)
            (ifLt x4_17 x2
              (Mo_shared_b118 x3 x4_17 s)
              (Mo_shared_b123 x1 x2 x3 s)))))
      (Mo_shared_b123 x1 x2 x3 s))
    (some (.inr x1))
noncomputable def Mo_shared_l49 (x1 : Int) (x2 : Int) (x3 : Int) (s : Sg) : Option (Int × Sg) :=
  bnd (whl (fun σ : Int × Int × Int => Mo_shared_t49 σ.1 σ.2.1 σ.2.2 s) (x1, x2, x3)) fun ρ49 =>
    some (ρ49, s)
noncomputable def Mo_shared_l12 (x1 : Int) (s : Sg) : Option (Int × Sg) :=
  bnd (whl (fun σ : Int × Sg => Mo_shared_t12 σ.1 σ.2) (x1, s)) fun ρ12 =>
    bnd (Mo_laysWays 1 ρ12) fun s10 =>
    Mo_shared_l49 (-1) 0 0 s10
noncomputable def Mo_shared  (s : Sg) : Option (Int × Sg) :=
  lett (si s 80 0 0) fun s1 =>
  bnd (Mo_laysWays 0 s1) fun s3 =>
  Mo_shared_l12 0 s3
noncomputable def Mo_weight (x1 : Int) (x2 : Int) (s : Sg) : Option (Int) :=
  bnd (Mo_stone x2 s) fun y1 =>
  ifEq y1 x1
    (some 3)
    (bnd (Mo_stone x2 s) fun y2 =>
    ifEq y2 (-1)
      (some 1)
      (some 0))
noncomputable def Mo_sweepsCell_b92 (x1 : Int) (x2 : Int) (x4 : Int) (x5 : Int) (x6 : Int) (s : Sg) : Option (((Int × Int × Int) ⊕ (Int × Int))) :=
  some (.inl (x4, x5, (x6 + 1)))
noncomputable def Mo_sweepsCell_t35 (x1 : Int) (x2 : Int) (x4 : Int) (x5 : Int) (x6 : Int) (s : Sg) : Option (((Int × Int × Int) ⊕ (Int × Int))) :=
  ifLt x6 6
    (bnd (Mo_round x2 x6 s) fun y3 =>
    ifEq y3 (-1)
      (Mo_sweepsCell_b92 x1 x2 x4 x5 x6 s)
      (bnd (Mo_weight x1 y3 s) fun y4 =>
      grd (0 ≤ y3 ∧ y3 < 81) <|
      lett (x4 + (y4 * (gi s 98 y3.toNat))) fun x4_6 =>
      bnd (Mo_weight x1 y3 s) fun y7 =>
      lett (x5 + y7) fun x5_8 =>
      Mo_sweepsCell_b92 x1 x2 x4_6 x5_8 x6 s))
    (some (.inr (x4, x5)))
noncomputable def Mo_sweepsCell_l35 (x1 : Int) (x2 : Int) (x4 : Int) (x5 : Int) (x6 : Int) (s : Sg) : Option (Sg) :=
  bnd (whl (fun σ : Int × Int × Int => Mo_sweepsCell_t35 x1 x2 σ.1 σ.2.1 σ.2.2 s) (x4, x5, x6)) fun ρ35 =>
    ifLt 0 ρ35.2
      (grd ((0 ≤ ρ35.1 ∧ R ρ35.1) ∧ (0 < ρ35.2 ∧ R ρ35.2)) <|
      grd (0 ≤ x2 ∧ x2 < 81) <|
      lett (si s 98 x2.toNat (ρ35.1 / ρ35.2)) fun s13 =>
      some s13)
      (some s)
noncomputable def Mo_sweepsCell_b21 (x1 : Int) (x2 : Int) (x3 : Int) (t0 : Int) (s : Sg) : Option (Sg) :=
  lett ((iandI x3 1) + (ishrI x3 1)) fun x5_2 =>
  Mo_sweepsCell_l35 x1 x2 t0 x5_2 0 s
noncomputable def Mo_sweepsCell (x1 : Int) (x2 : Int) (s : Sg) : Option (Sg) :=
  bnd (Mo_edges x1 x2 s) fun y1 =>
  ifEq (iandI y1 2) 2
    (Mo_sweepsCell_b21 x1 x2 y1 1000000 s)
    (Mo_sweepsCell_b21 x1 x2 y1 0 s)
noncomputable def Mo_sweeps_t2 (x1 : Int) (x2 : Int) (x3 : Int) (s : Sg) : Option (((Int × Sg) ⊕ (Sg))) :=
  bnd (Mo_cells s) fun y1 =>
  ifLt x3 y1
    (grd (0 ≤ x3 ∧ x3 < 81) <|
    lett (si s 98 x3.toNat 500000) fun s3 =>
    some (.inl ((x3 + 1), s3)))
    (some (.inr s))
noncomputable def Mo_sweeps_b61 (x1 : Int) (x2 : Int) (x3 : Int) (x4 : Int) (s : Sg) : Option (((Int × Sg) ⊕ (Sg))) :=
  some (.inl ((x4 + 1), s))
noncomputable def Mo_sweeps_t35 (x1 : Int) (x2 : Int) (x3 : Int) (x4 : Int) (s : Sg) : Option (((Int × Sg) ⊕ (Sg))) :=
  bnd (Mo_cells s) fun y5 =>
  ifLt x4 y5
    (bnd (Mo_weight x1 x4 s) fun y6 =>
    ifLt 0 y6
      (bnd (Mo_sweepsCell x1 x4 s) fun s8 =>
      Mo_sweeps_b61 x1 x2 x3 x4 s8)
      (Mo_sweeps_b61 x1 x2 x3 x4 s))
    (some (.inr s))
noncomputable def Mo_sweeps_l35 (x1 : Int) (x2 : Int) (x3 : Int) (x4 : Int) (s : Sg) : Option (((Int × Sg) ⊕ (Sg))) :=
  bnd (whl (fun σ : Int × Sg => Mo_sweeps_t35 x1 x2 x3 σ.1 σ.2) (x4, s)) fun ρ35 =>
    some (.inl ((x3 + 1), ρ35))
noncomputable def Mo_sweeps_t27 (x1 : Int) (x2 : Int) (x3 : Int) (s : Sg) : Option (((Int × Sg) ⊕ (Sg))) :=
  ifLt x3 x2
    (Mo_sweeps_l35 x1 x2 x3 0 s)
    (some (.inr s))
noncomputable def Mo_sweeps_l27 (x1 : Int) (x2 : Int) (x3 : Int) (s : Sg) : Option (Sg) :=
  bnd (whl (fun σ : Int × Sg => Mo_sweeps_t27 x1 x2 σ.1 σ.2) (x3, s)) fun ρ27 =>
    some ρ27
noncomputable def Mo_sweeps_l2 (x1 : Int) (x2 : Int) (x3 : Int) (s : Sg) : Option (Sg) :=
  bnd (whl (fun σ : Int × Sg => Mo_sweeps_t2 x1 x2 σ.1 σ.2) (x3, s)) fun ρ2 =>
    Mo_sweeps_l27 x1 x2 0 ρ2
noncomputable def Mo_sweeps (x1 : Int) (x2 : Int) (s : Sg) : Option (Sg) :=
  Mo_sweeps_l2 x1 x2 0 s
noncomputable def Mo_currentOf_b53 (x1 : Int) (x4 : Int) (t0 : Int) (t1 : Int) (s : Sg) : Option (((Int × Int) ⊕ (Int))) :=
  lett (t0 + t1) fun x3_5 =>
  some (.inl (x3_5, (x4 + 1)))
noncomputable def Mo_currentOf_t11 (x1 : Int) (x3 : Int) (x4 : Int) (s : Sg) : Option (((Int × Int) ⊕ (Int))) :=
  bnd (Mo_cells s) fun y3 =>
  ifLt x4 y3
    (bnd (Mo_edges x1 x4 s) fun y4 =>
    ifEq (iandI y4 1) 1
      (bnd (Mo_weight x1 x4 s) fun y6 =>
      grd (0 ≤ x4 ∧ x4 < 81) <|
      Mo_currentOf_b53 x1 x4 x3 (y6 * (gi s 98 x4.toNat)) s)
      (Mo_currentOf_b53 x1 x4 x3 0 s))
    (some (.inr x3))
noncomputable def Mo_currentOf_l11 (x1 : Int) (x3 : Int) (x4 : Int) (s : Sg) : Option (Int × Sg) :=
  bnd (whl (fun σ : Int × Int => Mo_currentOf_t11 x1 σ.1 σ.2 s) (x3, x4)) fun ρ11 =>
    some (ρ11, s)
noncomputable def Mo_currentOf (x1 : Int) (x2 : Int) (s : Sg) : Option (Int × Sg) :=
  bnd (Mo_sweeps x1 x2 s) fun s2 =>
  Mo_currentOf_l11 x1 0 0 s2
noncomputable def Mo_areSweeps (x0 : Int) (s : Sg) : Option (Int) :=
  grd (R x0) <|
  bnd (Mo_in x0 0 100 s) fun y2 =>
  grd (b01 y2) <|
  some y2
noncomputable def Mo_potential_b40 (x1 : Int) (x2 : Int) (x3 : Int) (t1 : Int) (s : Sg) : Option (Int × Sg) :=
  bnd2 (Mo_throwsIf t1 2 s) fun y5 s6 =>
  ifEq y5 0
    (bnd (Mo_sweeps x1 x3 s6) fun s8 =>
    bnd (Mo_weight x1 x2 s8) fun y9 =>
    ifEq y9 0
      (some ((-1), s8))
      (grd (0 ≤ x2 ∧ x2 < 81) <|
      some ((gi s8 98 x2.toNat), s8)))
    (some (0, s6))
noncomputable def Mo_potential_b20 (x1 : Int) (x2 : Int) (x3 : Int) (t1 : Int) (s : Sg) : Option (Int × Sg) :=
  bnd2 (Mo_wrong t1 s) fun y2 s3 =>
  ifEq y2 0
    (bnd (Mo_isCell x2 s3) fun y4 =>
    ifEq y4 0
      (Mo_potential_b40 x1 x2 x3 1 s3)
      (Mo_potential_b40 x1 x2 x3 0 s3))
    (some (0, s3))
noncomputable def Mo_potential_b15 (x1 : Int) (x2 : Int) (x3 : Int) (s : Sg) : Option (Int × Sg) :=
  Mo_potential_b20 x1 x2 x3 1 s
noncomputable def Mo_potential (x1 : Int) (x2 : Int) (x3 : Int) (s : Sg) : Option (Int × Sg) :=
  bnd (Mo_isSide x1 s) fun y1 =>
  ifEq y1 0
    (Mo_potential_b15 x1 x2 x3 s)
    (bnd (Mo_areSweeps x3 s) fun y11 =>
    ifEq y11 0
      (Mo_potential_b15 x1 x2 x3 s)
      (Mo_potential_b20 x1 x2 x3 0 s))
noncomputable def Mo_current_b20 (x1 : Int) (x2 : Int) (t1 : Int) (s : Sg) : Option (Int × Sg) :=
  bnd2 (Mo_wrong t1 s) fun y2 s3 =>
  ifEq y2 0
    (bnd2 (Mo_currentOf x1 x2 s3) fun y4 s5 =>
    some (y4, s5))
    (some (0, s3))
noncomputable def Mo_current_b15 (x1 : Int) (x2 : Int) (s : Sg) : Option (Int × Sg) :=
  Mo_current_b20 x1 x2 1 s
noncomputable def Mo_current (x1 : Int) (x2 : Int) (s : Sg) : Option (Int × Sg) :=
  bnd (Mo_isSide x1 s) fun y1 =>
  ifEq y1 0
    (Mo_current_b15 x1 x2 s)
    (bnd (Mo_areSweeps x2 s) fun y6 =>
    ifEq y6 0
      (Mo_current_b15 x1 x2 s)
      (Mo_current_b20 x1 x2 0 s))
noncomputable def Mo_resistance_b20 (x1 : Int) (x2 : Int) (t1 : Int) (s : Sg) : Option (UInt32 × Sg) :=
  bnd2 (Mo_wrong t1 s) fun y2 s3 =>
  ifEq y2 0
    (bnd2 (Mo_currentOf x1 x2 s3) fun y4 s5 =>
    ifEq y4 0
      (some ((0 : UInt32), s5))
      (grd (vf_n32 (FP.fdiv (1232348160 : UInt32) (FP.i2f (Int32.ofInt y4)))) <|
      some ((FP.fdiv (1232348160 : UInt32) (FP.i2f (Int32.ofInt y4))), s5)))
    (some ((0 : UInt32), s3))
noncomputable def Mo_resistance_b15 (x1 : Int) (x2 : Int) (s : Sg) : Option (UInt32 × Sg) :=
  Mo_resistance_b20 x1 x2 1 s
noncomputable def Mo_resistance (x1 : Int) (x2 : Int) (s : Sg) : Option (UInt32 × Sg) :=
  bnd (Mo_isSide x1 s) fun y1 =>
  ifEq y1 0
    (Mo_resistance_b15 x1 x2 s)
    (bnd (Mo_areSweeps x2 s) fun y7 =>
    ifEq y7 0
      (Mo_resistance_b15 x1 x2 s)
      (Mo_resistance_b20 x1 x2 0 s))
noncomputable def Mo_balance_b13 (x1 : Int) (t1 : Int) (s : Sg) : Option (UInt64 × Sg) :=
  bnd2 (Mo_wrong t1 s) fun y2 s3 =>
  ifEq y2 0
    (bnd2 (Mo_currentOf 0 x1 s3) fun y4 s5 =>
    bnd2 (Mo_currentOf 1 x1 s5) fun y6 s7 =>
    lett (y4 + y6) fun x3_8 =>
    ifEq x3_8 0
      (some ((4602678819172646912 : UInt64), s7))
      (grd (vf_n64 (FP.ddiv (FP.i2d (Int32.ofInt y4)) (FP.i2d (Int32.ofInt x3_8)))) <|
      some ((FP.ddiv (FP.i2d (Int32.ofInt y4)) (FP.i2d (Int32.ofInt x3_8))), s7)))
    (some ((0 : UInt64), s3))
noncomputable def Mo_balance (x1 : Int) (s : Sg) : Option (UInt64 × Sg) :=
  bnd (Mo_areSweeps x1 s) fun y1 =>
  ifEq y1 0
    (Mo_balance_b13 x1 1 s)
    (Mo_balance_b13 x1 0 s)
noncomputable def Mo_best_b69 (rec : Int → Sg → Option (Int × Sg)) (x1 : Int) (x3 : Int) (s : Sg) : Option (((Int × Sg) ⊕ ((Sg) ⊕ (Sg)))) :=
  some (.inl ((x3 + 1), s))
noncomputable def Mo_best_t14 (rec : Int → Sg → Option (Int × Sg)) (x1 : Int) (x3 : Int) (s : Sg) : Option (((Int × Sg) ⊕ ((Sg) ⊕ (Sg)))) :=
  bnd (Mo_cells s) fun y3 =>
  ifLt x3 y3
    (bnd (Mo_stone x3 s) fun y4 =>
    ifEq y4 (-1)
      (grd (0 ≤ (5 + x3) ∧ (5 + x3) < 286) <|
      lett (si s 81 (5 + x3).toNat x1) fun s6 =>
      bnd2 (rec (1 - x1) s6) fun y7 s8 =>
      grd (0 ≤ (5 + x3) ∧ (5 + x3) < 286) <|
      lett (si s8 81 (5 + x3).toNat (-1)) fun s10 =>
      ifEq y7 x1
        (some (.inr (.inl s10)))
        (Mo_best_b69 rec x1 x3 s10))
      (Mo_best_b69 rec x1 x3 s))
    (some (.inr (.inr s)))
noncomputable def Mo_best_l14 (rec : Int → Sg → Option (Int × Sg)) (x1 : Int) (x3 : Int) (s : Sg) : Option (Int × Sg) :=
  bnd (whl (fun σ : Int × Sg => Mo_best_t14 rec x1 σ.1 σ.2) (x3, s)) fun ρ14 => match ρ14 with
  | .inl ρ14 =>
      some (x1, ρ14)
  | .inr ρ14 =>
      some ((1 - x1), ρ14)
noncomputable def Mo_best_r (rec : Int → Sg → Option (Int × Sg)) (x1 : Int) (s : Sg) : Option (Int × Sg) :=
  bnd2 (Mo_joined s) fun y1 s2 =>
  ifEq y1 (-1)
    (Mo_best_l14 rec x1 0 s2)
    (some (y1, s2))
noncomputable def Mo_best : Nat → Int → Sg → Option (Int × Sg)
  | 0 => fun _ _ => none
  | n + 1 => Mo_best_r (Mo_best n)
noncomputable def Mo_isFew  (s : Sg) : Option (Int) :=
  bnd (Mo_stonesOf (-1) s) fun y1 =>
  ifLt 6 y1
    (some 0)
    (some 1)
noncomputable def Mo_solved  (s : Sg) : Option (Int × Sg) :=
  lett (si s 80 0 0) fun s1 =>
  bnd2 (Mo_winner s1) fun y2 s3 =>
  ifEq y2 (-1)
    (bnd (Mo_isFew s3) fun y4 =>
    ifEq y4 0
      (some ((-1), s3))
      (grd (0 ≤ 2 ∧ 2 < 286) <|
      bnd2 (Mo_best 8 (gi s3 81 2) s3) fun y6 s7 =>
      some (y6, s7)))
    (some (y2, s3))
noncomputable def Mo_isGood_b51 (x1 : Int) (t0 : Int) (s : Sg) : Option (Int × Sg) :=
  grd (0 ≤ (5 + x1) ∧ (5 + x1) < 286) <|
  lett (si s 81 (5 + x1).toNat (-1)) fun s10 =>
  grd (b01 t0) <|
  some (t0, s10)
noncomputable def Mo_isGood (x1 : Int) (s : Sg) : Option (Int × Sg) :=
  bnd (Mo_stone x1 s) fun y1 =>
  ifEq y1 (-1)
    (grd (0 ≤ 2 ∧ 2 < 286) <|
    grd (0 ≤ (5 + x1) ∧ (5 + x1) < 286) <|
    lett (si s 81 (5 + x1).toNat (gi s 81 2)) fun s4 =>
    grd (0 ≤ 2 ∧ 2 < 286) <|
    bnd2 (Mo_best 8 (1 - (gi s4 81 2)) s4) fun y6 s7 =>
    grd (0 ≤ 2 ∧ 2 < 286) <|
    ifEq y6 (gi s7 81 2)
      (Mo_isGood_b51 x1 1 s7)
      (Mo_isGood_b51 x1 0 s7))
    (some (0, s))
noncomputable def Mo_goodMoves_b50 (x2 : Int) (t0 : Int) (t1 : Int) (s : Sg) : Option (((Int × Int × Sg) ⊕ (Int × Sg))) :=
  lett (t0 + t1) fun x1_8 =>
  some (.inl (x1_8, (x2 + 1), s))
noncomputable def Mo_goodMoves_t28 (x1 : Int) (x2 : Int) (s : Sg) : Option (((Int × Int × Sg) ⊕ (Int × Sg))) :=
  bnd (Mo_cells s) fun y5 =>
  ifLt x2 y5
    (bnd2 (Mo_isGood x2 s) fun y6 s7 =>
    ifEq y6 0
      (Mo_goodMoves_b50 x2 x1 0 s7)
      (Mo_goodMoves_b50 x2 x1 1 s7))
    (some (.inr (x1, s)))
noncomputable def Mo_goodMoves_l28 (x1 : Int) (x2 : Int) (s : Sg) : Option (Int × Sg) :=
  bnd (whl (fun σ : Int × Int × Sg => Mo_goodMoves_t28 σ.1 σ.2.1 σ.2.2) (x1, x2, s)) fun ρ28 =>
    some (ρ28.1, ρ28.2)
noncomputable def Mo_goodMoves  (s : Sg) : Option (Int × Sg) :=
  lett (si s 80 0 0) fun s1 =>
  bnd2 (Mo_winner s1) fun y2 s3 =>
  ifEq y2 (-1)
    (bnd (Mo_isFew s3) fun y4 =>
    ifEq y4 0
      (some ((-1), s3))
      (Mo_goodMoves_l28 0 0 s3))
    (some (0, s3))
noncomputable def Mo_bestMove_t24 (x1 : Int) (s : Sg) : Option (((Int × Sg) ⊕ ((Int × Sg) ⊕ (Sg)))) :=
  bnd (Mo_cells s) fun y5 =>
  ifLt x1 y5
    (bnd2 (Mo_isGood x1 s) fun y6 s7 =>
    ifEq y6 0
      (some (.inl ((x1 + 1), s7)))
      (some (.inr (.inl (x1, s7)))))
    (some (.inr (.inr s)))
noncomputable def Mo_bestMove_l24 (x1 : Int) (s : Sg) : Option (Int × Sg) :=
  bnd (whl (fun σ : Int × Sg => Mo_bestMove_t24 σ.1 σ.2) (x1, s)) fun ρ24 => match ρ24 with
  | .inl ρ24 =>
      some (ρ24.1, ρ24.2)
  | .inr ρ24 =>
      some ((-1), ρ24)
noncomputable def Mo_bestMove  (s : Sg) : Option (Int × Sg) :=
  lett (si s 80 0 0) fun s1 =>
  bnd2 (Mo_winner s1) fun y2 s3 =>
  ifEq y2 (-1)
    (bnd (Mo_isFew s3) fun y4 =>
    ifEq y4 0
      (some ((-1), s3))
      (Mo_bestMove_l24 0 s3))
    (some ((-1), s3))
noncomputable def Mo_fills_b72 (x1 : Int) (s : Sg) : Option (((Int × Sg) ⊕ (Sg))) :=
  some (.inl ((x1 + 1), s))
noncomputable def Mo_fills_b71 (x1 : Int) (t1 : Int) (t2 : Int) (s : Sg) : Option (((Int × Sg) ⊕ (Sg))) :=
  grd (0 ≤ t1 ∧ t1 < 286) <|
  lett (si s 81 t1.toNat t2) fun s9 =>
  Mo_fills_b72 x1 s9
noncomputable def Mo_fills_t2 (x1 : Int) (s : Sg) : Option (((Int × Sg) ⊕ (Sg))) :=
  bnd (Mo_cells s) fun y1 =>
  ifLt x1 y1
    (bnd (Mo_stone x1 s) fun y2 =>
    ifEq y2 (-1)
      (grd ((0 ≤ ((1103515245 * (gl s 80 33)) + 12345) ∧ RL64 ((1103515245 * (gl s 80 33)) + 12345)) ∧ (0 < 2147483648 ∧ RL64 2147483648)) <|
      lett (sl s 80 33 (((1103515245 * (gl s 80 33)) + 12345) % 2147483648)) fun s4 =>
      grd ((0 ≤ (gl s4 80 33) ∧ RL64 (gl s4 80 33)) ∧ (0 < 65536 ∧ RL64 65536)) <|
      grd ((0 ≤ ((gl s4 80 33) / 65536) ∧ RL64 ((gl s4 80 33) / 65536)) ∧ (0 < 2 ∧ RL64 2)) <|
      grd (RL64 (((gl s4 80 33) / 65536) % 2) ∧ RL64 0) <|
      ifEq (lcmpI (((gl s4 80 33) / 65536) % 2) 0) 0
        (Mo_fills_b71 x1 (5 + x1) 0 s4)
        (Mo_fills_b71 x1 (5 + x1) 1 s4))
      (Mo_fills_b72 x1 s))
    (some (.inr s))
noncomputable def Mo_fills_l2 (x1 : Int) (s : Sg) : Option (Sg) :=
  bnd (whl (fun σ : Int × Sg => Mo_fills_t2 σ.1 σ.2) (x1, s)) fun ρ2 =>
    some ρ2
noncomputable def Mo_fills  (s : Sg) : Option (Sg) :=
  Mo_fills_l2 0 s
noncomputable def Mo_filled_b10 (x1 : Int) (t1 : Int) (s : Sg) : Option (Int × Sg) :=
  bnd2 (Mo_wrong t1 s) fun y1 s2 =>
  ifEq y1 0
    (grd (R x1) <|
    lett (sl s2 80 33 x1) fun s4 =>
    bnd (Mo_goesAside s4) fun s6 =>
    bnd (Mo_fills s6) fun s8 =>
    bnd2 (Mo_joined s8) fun y9 s10 =>
    bnd2 (Mo_comesBack y9 s10) fun y11 s12 =>
    some (y11, s12))
    (some (0, s2))
noncomputable def Mo_filled (x1 : Int) (s : Sg) : Option (Int × Sg) :=
  ifLt x1 0
    (Mo_filled_b10 x1 1 s)
    (Mo_filled_b10 x1 0 s)
noncomputable def Mo_fillings_b78 (x1 : Int) (x3 : Int) (x5 : Int) (t0 : Int) (t1 : Int) (s : Sg) : Option (((Int × Int × Sg) ⊕ (Int × Sg))) :=
  lett (t0 + t1) fun x4_12 =>
  bnd2 (Mo_comesBack 0 s) fun y13 s14 =>
  some (.inl (x4_12, (x5 + 1), s14))
noncomputable def Mo_fillings_t53 (x1 : Int) (x3 : Int) (x4 : Int) (x5 : Int) (s : Sg) : Option (((Int × Int × Sg) ⊕ (Int × Sg))) :=
  ifLt x5 x3
    (bnd (Mo_fills s) fun s9 =>
    bnd2 (Mo_hasJoined x1 s9) fun y10 s11 =>
    ifEq y10 0
      (Mo_fillings_b78 x1 x3 x5 x4 0 s11)
      (Mo_fillings_b78 x1 x3 x5 x4 1 s11))
    (some (.inr (x4, s)))
noncomputable def Mo_fillings_l53 (x1 : Int) (x3 : Int) (x4 : Int) (x5 : Int) (s : Sg) : Option (Int × Sg) :=
  bnd (whl (fun σ : Int × Int × Sg => Mo_fillings_t53 x1 x3 σ.1 σ.2.1 σ.2.2) (x4, x5, s)) fun ρ53 =>
    some (ρ53.1, ρ53.2)
noncomputable def Mo_fillings_b29 (x1 : Int) (x2 : Int) (x3 : Int) (t1 : Int) (s : Sg) : Option (Int × Sg) :=
  bnd2 (Mo_wrong t1 s) fun y2 s3 =>
  ifEq y2 0
    (grd (R x2) <|
    lett (sl s3 80 33 x2) fun s5 =>
    bnd (Mo_goesAside s5) fun s7 =>
    Mo_fillings_l53 x1 x3 0 0 s7)
    (some (0, s3))
noncomputable def Mo_fillings_b24 (x1 : Int) (x2 : Int) (x3 : Int) (s : Sg) : Option (Int × Sg) :=
  Mo_fillings_b29 x1 x2 x3 1 s
noncomputable def Mo_fillings (x1 : Int) (x2 : Int) (x3 : Int) (s : Sg) : Option (Int × Sg) :=
  bnd (Mo_isSide x1 s) fun y1 =>
  ifEq y1 0
    (Mo_fillings_b24 x1 x2 x3 s)
    (ifLt x2 0
      (Mo_fillings_b24 x1 x2 x3 s)
      (grd (R x3) <|
      bnd (Mo_in x3 1 100 s) fun y18 =>
      ifEq y18 0
        (Mo_fillings_b24 x1 x2 x3 s)
        (Mo_fillings_b29 x1 x2 x3 0 s)))
noncomputable def Mo_idle_b123 (x2 : Int) (x3 : Int) (x4 : Int) (s : Sg) : Option (((Int × Int × Sg) ⊕ (Int × Sg))) :=
  some (.inl (x3, (x4 + 1), s))
noncomputable def Mo_idle_b101 (x2 : Int) (x4 : Int) (t0 : Int) (t1 : Int) (s : Sg) : Option (((Int × Int × Sg) ⊕ (Int × Sg))) :=
  lett (t0 + t1) fun x3_18 =>
  grd (0 ≤ (5 + x4) ∧ (5 + x4) < 286) <|
  grd (0 ≤ (5 + x4) ∧ (5 + x4) < 286) <|
  lett (si s 81 (5 + x4).toNat (1 - (gi s 81 (5 + x4).toNat))) fun s21 =>
  Mo_idle_b123 x2 x3_18 x4 s21
noncomputable def Mo_idle_t42 (x2 : Int) (x3 : Int) (x4 : Int) (s : Sg) : Option (((Int × Int × Sg) ⊕ (Int × Sg))) :=
  bnd (Mo_cells s) fun y11 =>
  ifLt x4 y11
    (grd (0 ≤ (5 + x4) ∧ (5 + x4) < 286) <|
    ifEq (gi s 82 (5 + x4).toNat) (-1)
      (grd (0 ≤ (5 + x4) ∧ (5 + x4) < 286) <|
      grd (0 ≤ (5 + x4) ∧ (5 + x4) < 286) <|
      lett (si s 81 (5 + x4).toNat (1 - (gi s 81 (5 + x4).toNat))) fun s15 =>
      bnd2 (Mo_joined s15) fun y16 s17 =>
      ifEq y16 x2
        (Mo_idle_b101 x2 x4 x3 1 s17)
        (Mo_idle_b101 x2 x4 x3 0 s17))
      (Mo_idle_b123 x2 x3 x4 s))
    (some (.inr (x3, s)))
noncomputable def Mo_idle_l42 (x2 : Int) (x3 : Int) (x4 : Int) (s : Sg) : Option (Int × Sg) :=
  bnd (whl (fun σ : Int × Int × Sg => Mo_idle_t42 x2 σ.1 σ.2.1 σ.2.2) (x3, x4, s)) fun ρ42 =>
    bnd2 (Mo_comesBack ρ42.1 ρ42.2) fun y24 s25 =>
    some (y24, s25)
noncomputable def Mo_idle_b10 (x1 : Int) (t1 : Int) (s : Sg) : Option (Int × Sg) :=
  bnd2 (Mo_wrong t1 s) fun y1 s2 =>
  ifEq y1 0
    (grd (R x1) <|
    lett (sl s2 80 33 x1) fun s4 =>
    bnd (Mo_goesAside s4) fun s6 =>
    bnd (Mo_fills s6) fun s8 =>
    bnd2 (Mo_joined s8) fun y9 s10 =>
    Mo_idle_l42 y9 0 0 s10)
    (some (0, s2))
noncomputable def Mo_idle (x1 : Int) (s : Sg) : Option (Int × Sg) :=
  ifLt x1 0
    (Mo_idle_b10 x1 1 s)
    (Mo_idle_b10 x1 0 s)
noncomputable def Mo_moveAt (x1 : Int) (s : Sg) : Option (Int × Sg) :=
  lett (si s 80 0 0) fun s1 =>
  grd (R x1) <|
  grd (0 ≤ 4 ∧ 4 < 286) <|
  grd (R ((gi s1 81 4) - 1)) <|
  bnd (Mo_in x1 0 ((gi s1 81 4) - 1) s1) fun y5 =>
  ifEq y5 0
    (some ((-1), s1))
    (grd (0 ≤ (86 + x1) ∧ (86 + x1) < 286) <|
    some ((gi s1 81 (86 + x1).toNat), s1))
noncomputable def Mo_move (x1 : Int) (s : Sg) : Option (Int × Sg) :=
  bnd2 (Mo_noCell x1 s) fun y1 s2 =>
  ifEq y1 0
    (bnd (Mo_stone x1 s2) fun y3 =>
    ifEq y3 (-1)
      (bnd2 (Mo_winner s2) fun y4 s5 =>
      ifEq y4 (-1)
        (grd (0 ≤ 4 ∧ 4 < 286) <|
        ifEq (gi s5 81 4) 200
          (some ((-2), s5))
          (bnd (Mo_keeps s5) fun s8 =>
          bnd (Mo_moves x1 s8) fun s10 =>
          bnd2 (Mo_winner s10) fun y11 s12 =>
          some (y11, s12)))
        (some ((-3), s5)))
      (some ((-3), s2)))
    (some (0, s2))
noncomputable def Mo_swap  (s : Sg) : Option (Int × Sg) :=
  lett (si s 80 0 0) fun s1 =>
  bnd2 (Mo_canSwap s1) fun y2 s3 =>
  ifEq y2 0
    (some ((-3), s3))
    (bnd (Mo_keeps s3) fun s5 =>
    grd (0 ≤ 86 ∧ 86 < 286) <|
    lett (gi s5 81 86) fun x1_7 =>
    bnd (Mo_exchanged x1_7 s5) fun y8 =>
    grd (0 ≤ (5 + x1_7) ∧ (5 + x1_7) < 286) <|
    lett (si s5 81 (5 + x1_7).toNat (-1)) fun s10 =>
    bnd (Mo_moves y8 s10) fun s12 =>
    some (y8, s12))
noncomputable def Mo_giveUp  (s : Sg) : Option (Int × Sg) :=
  lett (si s 80 0 0) fun s1 =>
  bnd2 (Mo_winner s1) fun y2 s3 =>
  ifEq y2 (-1)
    (bnd (Mo_keeps s3) fun s5 =>
    grd (0 ≤ 2 ∧ 2 < 286) <|
    grd (0 ≤ 3 ∧ 3 < 286) <|
    lett (si s5 81 3 (gi s5 81 2)) fun s8 =>
    bnd2 (Mo_winner s8) fun y9 s10 =>
    some (y9, s10))
    (some ((-3), s3))
noncomputable def Mo_put_b26 (x1 : Int) (x2 : Int) (t1 : Int) (s : Sg) : Option (Int × Sg) :=
  bnd2 (Mo_throwsIf t1 2 s) fun y5 s6 =>
  ifEq y5 0
    (bnd (Mo_keeps s6) fun s8 =>
    bnd (Mo_stone x1 s8) fun y9 =>
    grd (0 ≤ (5 + x1) ∧ (5 + x1) < 286) <|
    lett (si s8 81 (5 + x1).toNat x2) fun s11 =>
    some (y9, s11))
    (some (0, s6))
noncomputable def Mo_put (x1 : Int) (x2 : Int) (s : Sg) : Option (Int × Sg) :=
  bnd2 (Mo_noCell x1 s) fun y1 s2 =>
  ifEq y1 0
    (grd (R x2) <|
    bnd (Mo_in x2 (-1) 1 s2) fun y4 =>
    ifEq y4 0
      (Mo_put_b26 x1 x2 1 s2)
      (Mo_put_b26 x1 x2 0 s2))
    (some (0, s2))
noncomputable def Mo_setTurn (x1 : Int) (s : Sg) : Option (Int × Sg) :=
  bnd2 (Mo_noSide x1 s) fun y1 s2 =>
  ifEq y1 0
    (bnd (Mo_keeps s2) fun s4 =>
    grd (0 ≤ 2 ∧ 2 < 286) <|
    lett (gi s4 81 2) fun x2_6 =>
    grd (0 ≤ 2 ∧ 2 < 286) <|
    lett (si s4 81 2 x1) fun s8 =>
    some (x2_6, s8))
    (some (0, s2))
noncomputable def Mo_otherSide (x0 : Int) (s : Sg) : Option (Int) :=
  ifEq x0 (-1)
    (some (-1))
    (some (1 - x0))
noncomputable def Mo_turnOver_t15 (x1 : Int) (s : Sg) : Option (((Int × Sg) ⊕ (Sg))) :=
  bnd (Mo_cells s) fun y6 =>
  ifLt x1 y6
    (bnd (Mo_exchanged x1 s) fun y7 =>
    grd (0 ≤ (5 + x1) ∧ (5 + x1) < 286) <|
    bnd (Mo_otherSide (gi s 82 (5 + x1).toNat) s) fun y9 =>
    grd (0 ≤ (5 + y7) ∧ (5 + y7) < 286) <|
    lett (si s 81 (5 + y7).toNat y9) fun s11 =>
    some (.inl ((x1 + 1), s11)))
    (some (.inr s))
noncomputable def Mo_turnOver_t54 (x1 : Int) (s : Sg) : Option (((Int × Sg) ⊕ (Sg))) :=
  grd (0 ≤ 4 ∧ 4 < 286) <|
  ifLt x1 (gi s 81 4)
    (grd (0 ≤ (86 + x1) ∧ (86 + x1) < 286) <|
    bnd (Mo_exchanged (gi s 82 (86 + x1).toNat) s) fun y15 =>
    grd (0 ≤ (86 + x1) ∧ (86 + x1) < 286) <|
    lett (si s 81 (86 + x1).toNat y15) fun s17 =>
    some (.inl ((x1 + 1), s17)))
    (some (.inr s))
noncomputable def Mo_turnOver_l54 (x1 : Int) (s : Sg) : Option (Int × Sg) :=
  bnd (whl (fun σ : Int × Sg => Mo_turnOver_t54 σ.1 σ.2) (x1, s)) fun ρ54 =>
    grd (0 ≤ 2 ∧ 2 < 286) <|
    grd (0 ≤ 2 ∧ 2 < 286) <|
    lett (si ρ54 81 2 (1 - (gi ρ54 81 2))) fun s21 =>
    grd (0 ≤ 3 ∧ 3 < 286) <|
    bnd (Mo_otherSide (gi s21 81 3) s21) fun y23 =>
    grd (0 ≤ 3 ∧ 3 < 286) <|
    lett (si s21 81 3 y23) fun s25 =>
    grd (0 ≤ 0 ∧ 0 < 286) <|
    some ((gi s25 81 0), s25)
noncomputable def Mo_turnOver_l15 (x1 : Int) (s : Sg) : Option (Int × Sg) :=
  bnd (whl (fun σ : Int × Sg => Mo_turnOver_t15 σ.1 σ.2) (x1, s)) fun ρ15 =>
    Mo_turnOver_l54 0 ρ15
noncomputable def Mo_turnOver  (s : Sg) : Option (Int × Sg) :=
  lett (si s 80 0 0) fun s1 =>
  bnd (Mo_keeps s1) fun s3 =>
  bnd (Mo_goesAside s3) fun s5 =>
  Mo_turnOver_l15 0 s5
noncomputable def Mo_plays_t7 (x1 : Int) (x2 : Int) (x3 : Int) (s : Sg) : Option (((Int × Int × Sg) ⊕ (Int × Sg))) :=
  ifLt x2 x1
    (ifEq x3 (-1)
      (some (.inr (x2, s)))
      (grd (0 ≤ 4 ∧ 4 < 286) <|
      ifLt (gi s 81 4) 200
        (bnd (Mo_moves x3 s) fun s5 =>
        bnd2 (Mo_forcedNow s5) fun y6 s7 =>
        some (.inl ((x2 + 1), y6, s7)))
        (some (.inr (x2, s)))))
    (some (.inr (x2, s)))
noncomputable def Mo_plays_l7 (x1 : Int) (x2 : Int) (x3 : Int) (s : Sg) : Option (Int × Sg) :=
  bnd (whl (fun σ : Int × Int × Sg => Mo_plays_t7 x1 σ.1 σ.2.1 σ.2.2) (x2, x3, s)) fun ρ7 =>
    some (ρ7.1, ρ7.2)
noncomputable def Mo_plays (x1 : Int) (s : Sg) : Option (Int × Sg) :=
  bnd2 (Mo_forcedNow s) fun y1 s2 =>
  Mo_plays_l7 x1 0 y1 s2
noncomputable def Mo_playForced_b18 (x1 : Int) (t1 : Int) (s : Sg) : Option (Int × Sg) :=
  bnd2 (Mo_wrong t1 s) fun y3 s4 =>
  ifEq y3 0
    (bnd (Mo_keeps s4) fun s6 =>
    bnd2 (Mo_plays x1 s6) fun y7 s8 =>
    some (y7, s8))
    (some (0, s4))
noncomputable def Mo_playForced (x1 : Int) (s : Sg) : Option (Int × Sg) :=
  grd (R x1) <|
  bnd (Mo_in x1 1 81 s) fun y2 =>
  ifEq y2 0
    (Mo_playForced_b18 x1 1 s)
    (Mo_playForced_b18 x1 0 s)
noncomputable def Mo_forcedWinner  (s : Sg) : Option (Int × Sg) :=
  lett (si s 80 0 0) fun s1 =>
  bnd (Mo_goesAside s1) fun s3 =>
  bnd2 (Mo_plays 81 s3) fun y4 s5 =>
  bnd2 (Mo_winner s5) fun y6 s7 =>
  bnd2 (Mo_comesBack y6 s7) fun y8 s9 =>
  some (y8, s9)
noncomputable def Mo_forcedRow  (s : Sg) : Option (Int × Sg) :=
  lett (si s 80 0 0) fun s1 =>
  bnd (Mo_goesAside s1) fun s3 =>
  bnd2 (Mo_plays 81 s3) fun y4 s5 =>
  bnd2 (Mo_comesBack y4 s5) fun y6 s7 =>
  some (y6, s7)
noncomputable def Mo_fullness  (s : Sg) : Option (UInt64 × Sg) :=
  lett (si s 80 0 0) fun s1 =>
  bnd (Mo_cells s1) fun y2 =>
  bnd (Mo_stonesOf (-1) s1) fun y3 =>
  bnd (Mo_cells s1) fun y4 =>
  grd (vf_n64 (FP.ddiv (FP.i2d (Int32.ofInt (y2 - y3))) (FP.i2d (Int32.ofInt y4)))) <|
  some ((FP.ddiv (FP.i2d (Int32.ofInt (y2 - y3))) (FP.i2d (Int32.ofInt y4))), s1)
noncomputable def Mo_says (x1 : Int) (s : Sg) : Option (Sg) :=
  grd (0 ≤ (gi s 80 35) ∧ (gi s 80 35) < 9) <|
  lett (si s 99 (gi s 80 35).toNat x1) fun s2 =>
  lett (si s2 80 35 ((gi s2 80 35) + 1)) fun s3 =>
  some s3
noncomputable def Mo_writeRow_b86 (x1 : Int) (x2 : Int) (t1 : Int) (s : Sg) : Option (((Int × Sg) ⊕ (Sg))) :=
  bnd (Mo_says t1 s) fun s12 =>
  some (.inl ((x2 + 1), s12))
noncomputable def Mo_writeRow_t39 (x1 : Int) (x2 : Int) (s : Sg) : Option (((Int × Sg) ⊕ (Sg))) :=
  grd (0 ≤ 0 ∧ 0 < 286) <|
  ifLt x2 (gi s 81 0)
    (grd (0 ≤ 0 ∧ 0 < 286) <|
    bnd (Mo_stone (((gi s 81 0) * x1) + x2) s) fun y10 =>
    ifEq y10 0
      (Mo_writeRow_b86 x1 x2 114 s)
      (ifEq y10 1
        (Mo_writeRow_b86 x1 x2 98 s)
        (Mo_writeRow_b86 x1 x2 46 s)))
    (some (.inr s))
noncomputable def Mo_writeRow_l39 (x1 : Int) (x2 : Int) (s : Sg) : Option (Int × Sg) :=
  bnd (whl (fun σ : Int × Sg => Mo_writeRow_t39 x1 σ.1 σ.2) (x2, s)) fun ρ39 =>
    some ((gi ρ39 80 35), ρ39)
noncomputable def Mo_writeRow_b24 (x1 : Int) (t1 : Int) (s : Sg) : Option (Int × Sg) :=
  bnd2 (Mo_wrong t1 s) fun y5 s6 =>
  ifEq y5 0
    (lett (si s6 80 35 0) fun s7 =>
    Mo_writeRow_l39 x1 0 s7)
    (some (0, s6))
noncomputable def Mo_writeRow (x1 : Int) (s : Sg) : Option (Int × Sg) :=
  grd (R x1) <|
  grd (0 ≤ 0 ∧ 0 < 286) <|
  grd (R ((gi s 81 0) - 1)) <|
  bnd (Mo_in x1 0 ((gi s 81 0) - 1) s) fun y4 =>
  ifEq y4 0
    (Mo_writeRow_b24 x1 1 s)
    (Mo_writeRow_b24 x1 0 s)
noncomputable def Mo_writeCell (x1 : Int) (s : Sg) : Option (Int × Sg) :=
  bnd2 (Mo_noCell x1 s) fun y1 s2 =>
  ifEq y1 0
    (lett (si s2 80 35 0) fun s3 =>
    bnd (Mo_column x1 s3) fun y4 =>
    bnd (Mo_says (97 + y4) s3) fun s6 =>
    bnd (Mo_row x1 s6) fun y7 =>
    bnd (Mo_says (49 + y7) s6) fun s9 =>
    some ((gi s9 80 35), s9))
    (some (0, s2))
noncomputable def Mo_outputByte (x1 : Int) (s : Sg) : Option (Int × Sg) :=
  lett (si s 80 0 0) fun s1 =>
  grd (R x1) <|
  grd (R ((gi s1 80 35) - 1)) <|
  bnd (Mo_in x1 0 ((gi s1 80 35) - 1) s1) fun y4 =>
  ifEq y4 0
    (some ((-1), s1))
    (grd (0 ≤ x1 ∧ x1 < 9) <|
    some ((gi s1 99 x1.toNat), s1))
noncomputable def Mo_undo_t26 (x1 : Int) (s : Sg) : Option (((Int × Sg) ⊕ (Sg))) :=
  ifLt x1 286
    (grd (0 ≤ ((286 * (gi s 80 6)) + x1) ∧ ((286 * (gi s 80 6)) + x1) < 2288) <|
    grd (0 ≤ x1 ∧ x1 < 286) <|
    lett (si s 81 x1.toNat (gi s 85 ((286 * (gi s 80 6)) + x1).toNat)) fun s5 =>
    some (.inl ((x1 + 1), s5)))
    (some (.inr s))
noncomputable def Mo_undo_l26 (x1 : Int) (s : Sg) : Option (Int × Sg) :=
  bnd (whl (fun σ : Int × Sg => Mo_undo_t26 σ.1 σ.2) (x1, s)) fun ρ26 =>
    some ((gi ρ26 80 6), ρ26)
noncomputable def Mo_undo  (s : Sg) : Option (Int × Sg) :=
  lett (si s 80 0 0) fun s1 =>
  ifEq (gi s1 80 6) 0
    (some ((-1), s1))
    (lett (si s1 80 6 ((gi s1 80 6) - 1)) fun s2 =>
    Mo_undo_l26 0 s2)
noncomputable def Mo_saveSnapshot_t26 (x1 : Int) (x2 : Int) (s : Sg) : Option (((Int × Sg) ⊕ (Sg))) :=
  ifLt x2 286
    (grd (0 ≤ x2 ∧ x2 < 286) <|
    grd (0 ≤ ((286 * x1) + x2) ∧ ((286 * x1) + x2) < 572) <|
    lett (si s 83 ((286 * x1) + x2).toNat (gi s 81 x2.toNat)) fun s7 =>
    some (.inl ((x2 + 1), s7)))
    (some (.inr s))
noncomputable def Mo_saveSnapshot_l26 (x1 : Int) (x2 : Int) (s : Sg) : Option (Int × Sg) :=
  bnd (whl (fun σ : Int × Sg => Mo_saveSnapshot_t26 x1 σ.1 σ.2) (x2, s)) fun ρ26 =>
    grd (0 ≤ x1 ∧ x1 < 2) <|
    lett (si ρ26 84 x1.toNat 1) fun s10 =>
    bnd (Mo_stonesOf (-1) s10) fun y11 =>
    some (y11, s10)
noncomputable def Mo_saveSnapshot_b16 (x1 : Int) (t1 : Int) (s : Sg) : Option (Int × Sg) :=
  bnd2 (Mo_wrong t1 s) fun y3 s4 =>
  ifEq y3 0
    (Mo_saveSnapshot_l26 x1 0 s4)
    (some (0, s4))
noncomputable def Mo_saveSnapshot (x1 : Int) (s : Sg) : Option (Int × Sg) :=
  grd (R x1) <|
  bnd (Mo_in x1 0 1 s) fun y2 =>
  ifEq y2 0
    (Mo_saveSnapshot_b16 x1 1 s)
    (Mo_saveSnapshot_b16 x1 0 s)
noncomputable def Mo_restoreSnapshot_t37 (x1 : Int) (x2 : Int) (s : Sg) : Option (((Int × Sg) ⊕ (Sg))) :=
  ifLt x2 286
    (grd (0 ≤ ((286 * x1) + x2) ∧ ((286 * x1) + x2) < 572) <|
    grd (0 ≤ x2 ∧ x2 < 286) <|
    lett (si s 81 x2.toNat (gi s 83 ((286 * x1) + x2).toNat)) fun s8 =>
    some (.inl ((x2 + 1), s8)))
    (some (.inr s))
noncomputable def Mo_restoreSnapshot_l37 (x1 : Int) (x2 : Int) (s : Sg) : Option (Int × Sg) :=
  bnd (whl (fun σ : Int × Sg => Mo_restoreSnapshot_t37 x1 σ.1 σ.2) (x2, s)) fun ρ37 =>
    lett (si ρ37 80 6 0) fun s10 =>
    bnd (Mo_stonesOf (-1) s10) fun y11 =>
    some (y11, s10)
noncomputable def Mo_restoreSnapshot_b16 (x1 : Int) (t1 : Int) (s : Sg) : Option (Int × Sg) :=
  bnd2 (Mo_wrong t1 s) fun y3 s4 =>
  ifEq y3 0
    (grd (0 ≤ x1 ∧ x1 < 2) <|
    ifEq (gi s4 84 x1.toNat) 0
      (some ((-1), s4))
      (Mo_restoreSnapshot_l37 x1 0 s4))
    (some (0, s4))
noncomputable def Mo_restoreSnapshot (x1 : Int) (s : Sg) : Option (Int × Sg) :=
  grd (R x1) <|
  bnd (Mo_in x1 0 1 s) fun y2 =>
  ifEq y2 0
    (Mo_restoreSnapshot_b16 x1 1 s)
    (Mo_restoreSnapshot_b16 x1 0 s)

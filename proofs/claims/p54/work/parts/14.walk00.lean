set_option maxRecDepth 100000 in
theorem c_Gr_row {C : Cx} {nx : Nat} (hnx : 80 ≤ nx) (x1 : Int) (s : Sg) : ∀ o, Gr_row x1 s = some o → mm C M_X5_row 0 0 0 nx nx [.ref 1, vi x1] (hp nx s) (QI nx s o) (XF) := by
  intro o hs
  unfold Gr_row at hs
  refine mm_of rfl rfl (Nat.le_of_ble_eq_true rfl) ?_
  show ww C M_X5_row 0 0 0 nx (QI nx s o) (XF) nx 0 0 0 [(0, .ref 1), (1, vi x1)] [] (hp nx s)
  refine w_aload_n 0 dX5_row_0 rfl rfl ?_
  refine x_getI 5 3 dX5_row_1 (fxX5_21 rfl) rfl rfl (lt_of hnx (Nat.le_of_ble_eq_true rfl)) ?_
  refine x_ifne hs dX5_row_4 rfl (fun hs => ?_) (fun hs => ?_)
  · refine w_iload_n 1 dX5_row_11 rfl rfl ?_
    refine w_aload_n 0 dX5_row_12 rfl rfl ?_
    refine x_getI 5 3 dX5_row_13 (fxX5_21 rfl) rfl rfl (lt_of hnx (Nat.le_of_ble_eq_true rfl)) ?_
    refine grd_e hs (fun hg1 hs => ?_)
    refine x_idiv dX5_row_16 hg1 ?_
    cases hs
    exact x_ireturn dX5_row_17 rfl rfl (Nat.le_of_ble_eq_true rfl) (Nat.le_of_ble_eq_true rfl) ⟨rfl, rfl⟩
  · refine x_iconst dX5_row_7 ?_
    refine w_goto dX5_row_8 rfl ?_
    cases hs
    exact x_ireturn dX5_row_17 rfl rfl (Nat.le_of_ble_eq_true rfl) (Nat.le_of_ble_eq_true rfl) ⟨rfl, rfl⟩
set_option maxRecDepth 100000 in
theorem c_Gr_edgesOfLine {C : Cx} {nx : Nat} (hnx : 80 ≤ nx) (x1 : Int) (s : Sg) : ∀ o, Gr_edgesOfLine x1 s = some o → mm C M_X5_edgesOfLine 0 0 0 nx nx [.ref 1, vi x1] (hp nx s) (QI nx s o) (XF) := by
  intro o hs
  unfold Gr_edgesOfLine at hs
  refine mm_of rfl rfl (Nat.le_of_ble_eq_true rfl) ?_
  show ww C M_X5_edgesOfLine 0 0 0 nx (QI nx s o) (XF) nx 0 0 0 [(0, .ref 1), (1, vi x1)] [] (hp nx s)
  refine w_iload_n 1 dX5_edgesOfLine_0 rfl rfl ?_
  refine x_ifne hs dX5_edgesOfLine_1 rfl (fun hs => ?_) (fun hs => ?_)
  · refine w_iload_n 1 dX5_edgesOfLine_8 rfl rfl ?_
    refine w_aload_n 0 dX5_edgesOfLine_9 rfl rfl ?_
    refine x_getI 5 3 dX5_edgesOfLine_10 (fxX5_21 rfl) rfl rfl (lt_of hnx (Nat.le_of_ble_eq_true rfl)) ?_
    refine x_iconst dX5_edgesOfLine_13 ?_
    refine x_isub dX5_edgesOfLine_14 ?_
    refine x_icmpne hs dX5_edgesOfLine_15 rfl (fun hs => ?_) (fun hs => ?_)
    · refine x_iconst dX5_edgesOfLine_22 ?_
      cases hs
      exact x_ireturn dX5_edgesOfLine_23 rfl rfl (Nat.le_of_ble_eq_true rfl) (Nat.le_of_ble_eq_true rfl) ⟨rfl, rfl⟩
    · refine x_iconst dX5_edgesOfLine_18 ?_
      refine w_goto dX5_edgesOfLine_19 rfl ?_
      cases hs
      exact x_ireturn dX5_edgesOfLine_23 rfl rfl (Nat.le_of_ble_eq_true rfl) (Nat.le_of_ble_eq_true rfl) ⟨rfl, rfl⟩
  · refine x_iconst dX5_edgesOfLine_4 ?_
    refine w_goto dX5_edgesOfLine_5 rfl ?_
    cases hs
    exact x_ireturn dX5_edgesOfLine_23 rfl rfl (Nat.le_of_ble_eq_true rfl) (Nat.le_of_ble_eq_true rfl) ⟨rfl, rfl⟩
set_option maxRecDepth 100000 in
theorem c_Hx_set {C : Cx} {nx : Nat} (hnx : 80 ≤ nx) (r0 : Nat) (h_r0 : isRowW nx r0) (x1 : Int) (x2 : Int) (s : Sg) : ∀ o, Hx_set r0 x1 x2 s = some o → mm C M_X11_set 0 0 0 nx nx [.ref r0, vi x1, vi x2] (hp nx s) (QV nx o) (XF) := by
  intro o hs
  unfold Hx_set at hs
  refine mm_of rfl rfl (Nat.le_of_ble_eq_true rfl) ?_
  show ww C M_X11_set 0 0 0 nx (QV nx o) (XF) nx 0 0 0 [(0, .ref r0), (1, vi x1), (2, vi x2)] [] (hp nx s)
  refine w_iload_n 1 dX11_set_0 rfl rfl ?_
  refine x_iflt hs dX11_set_1 rfl (fun hs => ?_) (fun hs => ?_)
  · cases hs
    exact w_return rfl dX11_set_14 rfl (Nat.le_of_ble_eq_true rfl) (Nat.le_of_ble_eq_true rfl) ⟨rfl, rfl⟩
  · refine w_iload_n 1 dX11_set_4 rfl rfl ?_
    refine w_aload_n 0 dX11_set_5 rfl rfl ?_
    refine x_alen dX11_set_6 (isRow_A (Or.inl h_r0)) ?_
    refine x_icmpge hs dX11_set_7 rfl (fun hs => ?_) (fun hs => ?_)
    · cases hs
      exact w_return rfl dX11_set_14 rfl (Nat.le_of_ble_eq_true rfl) (Nat.le_of_ble_eq_true rfl) ⟨rfl, rfl⟩
    · refine w_aload_n 0 dX11_set_10 rfl rfl ?_
      refine w_iload_n 1 dX11_set_11 rfl rfl ?_
      refine w_iload_n 2 dX11_set_12 rfl rfl ?_
      refine grd_e hs (fun hg1 hs => ?_)
      refine x_iast hg1 (alen_le _) dX11_set_13 h_r0.1 h_r0.2 ?_
      refine nam_s hs (fun s2 hs => ?_)
      cases hs
      exact w_return rfl dX11_set_14 rfl (Nat.le_of_ble_eq_true rfl) (Nat.le_of_ble_eq_true rfl) ⟨rfl, rfl⟩
set_option maxRecDepth 100000 in
theorem c_Gr_column {C : Cx} {nx : Nat} (hnx : 80 ≤ nx) (x1 : Int) (s : Sg) : ∀ o, Gr_column x1 s = some o → mm C M_X5_column 0 0 0 nx nx [.ref 1, vi x1] (hp nx s) (QI nx s o) (XF) := by
  intro o hs
  unfold Gr_column at hs
  refine mm_of rfl rfl (Nat.le_of_ble_eq_true rfl) ?_
  show ww C M_X5_column 0 0 0 nx (QI nx s o) (XF) nx 0 0 0 [(0, .ref 1), (1, vi x1)] [] (hp nx s)
  refine w_aload_n 0 dX5_column_0 rfl rfl ?_
  refine x_getI 5 3 dX5_column_1 (fxX5_21 rfl) rfl rfl (lt_of hnx (Nat.le_of_ble_eq_true rfl)) ?_
  refine x_ifne hs dX5_column_4 rfl (fun hs => ?_) (fun hs => ?_)
  · refine w_iload_n 1 dX5_column_11 rfl rfl ?_
    refine w_aload_n 0 dX5_column_12 rfl rfl ?_
    refine x_getI 5 3 dX5_column_13 (fxX5_21 rfl) rfl rfl (lt_of hnx (Nat.le_of_ble_eq_true rfl)) ?_
    refine grd_e hs (fun hg1 hs => ?_)
    refine x_irem dX5_column_16 hg1 ?_
    cases hs
    exact x_ireturn dX5_column_17 rfl rfl (Nat.le_of_ble_eq_true rfl) (Nat.le_of_ble_eq_true rfl) ⟨rfl, rfl⟩
  · refine x_iconst dX5_column_7 ?_
    refine w_goto dX5_column_8 rfl ?_
    cases hs
    exact x_ireturn dX5_column_17 rfl rfl (Nat.le_of_ble_eq_true rfl) (Nat.le_of_ble_eq_true rfl) ⟨rfl, rfl⟩
set_option maxRecDepth 100000 in
theorem q_Hx_at_b10 {C : Cx} {nx : Nat} (hnx : 80 ≤ nx)  (s : Sg) {o : Int} (hs : Hx_at_b10  s = some o) : ww C M_X11_at 0 0 0 nx (QI nx s o) (XF) nx 0 0 10 [] [] (hp nx s) := by
  unfold Hx_at_b10 at hs
  refine x_iconst dX11_at_10 ?_
  refine w_goto dX11_at_11 rfl ?_
  cases hs
  exact x_ireturn dX11_at_17 rfl rfl (Nat.le_of_ble_eq_true rfl) (Nat.le_of_ble_eq_true rfl) ⟨rfl, rfl⟩
set_option maxRecDepth 100000 in
theorem c_Hx_at {C : Cx} {nx : Nat} (hnx : 80 ≤ nx) (r0 : Nat) (h_r0 : isRow nx r0) (x1 : Int) (s : Sg) : ∀ o, Hx_at r0 x1 s = some o → mm C M_X11_at 0 0 0 nx nx [.ref r0, vi x1] (hp nx s) (QI nx s o) (XF) := by
  intro o hs
  unfold Hx_at at hs
  refine mm_of rfl rfl (Nat.le_of_ble_eq_true rfl) ?_
  show ww C M_X11_at 0 0 0 nx (QI nx s o) (XF) nx 0 0 0 [(0, .ref r0), (1, vi x1)] [] (hp nx s)
  refine w_iload_n 1 dX11_at_0 rfl rfl ?_
  refine x_iflt hs dX11_at_1 rfl (fun hs => ?_) (fun hs => ?_)
  · refine w_lv (lv' := []) [] rfl ?_
    exact q_Hx_at_b10 hnx  s hs
  · refine w_iload_n 1 dX11_at_4 rfl rfl ?_
    refine w_aload_n 0 dX11_at_5 rfl rfl ?_
    refine x_alen dX11_at_6 (isRow_A h_r0) ?_
    refine x_icmplt hs dX11_at_7 rfl (fun hs => ?_) (fun hs => ?_)
    · refine w_aload_n 0 dX11_at_14 rfl rfl ?_
      refine w_iload_n 1 dX11_at_15 rfl rfl ?_
      refine grd_e hs (fun hg1 hs => ?_)
      refine x_iald hg1 (alen_le _) dX11_at_16 (isRow_A h_r0) ?_
      cases hs
      exact x_ireturn dX11_at_17 rfl rfl (Nat.le_of_ble_eq_true rfl) (Nat.le_of_ble_eq_true rfl) ⟨rfl, rfl⟩
    · refine w_lv (lv' := []) [] rfl ?_
      exact q_Hx_at_b10 hnx  s hs
set_option maxRecDepth 100000 in
theorem q_Gr_cellAt_b29 {C : Cx} {nx : Nat} (hnx : 80 ≤ nx) (x1 : Int) (x2 : Int) (t0 : Int) (s : Sg) {o : Int} (hs : Gr_cellAt_b29 x1 x2 t0 s = some o) : ww C M_X5_cellAt 0 0 0 nx (QI nx s o) (XF) nx 0 0 29 [(0, .ref 1), (1, vi x1), (2, vi x2)] [vi t0] (hp nx s) := by
  unfold Gr_cellAt_b29 at hs
  refine w_istore_n (lv' := [(3, vi t0), (0, .ref 1), (1, vi x1), (2, vi x2)]) dX5_cellAt_29 rfl (Nat.le_of_ble_eq_true rfl) rfl ?_
  refine w_iload_n 0 dX5_cellAt_30 rfl rfl ?_
  refine x_ifeq hs dX5_cellAt_31 rfl (fun hs => ?_) (fun hs => ?_)
  · refine w_aload_n 1 dX5_cellAt_38 rfl rfl ?_
    refine x_getI 5 3 dX5_cellAt_39 (fxX5_21 rfl) rfl rfl (lt_of hnx (Nat.le_of_ble_eq_true rfl)) ?_
    refine w_iload_n 2 dX5_cellAt_42 rfl rfl ?_
    refine x_imul dX5_cellAt_43 ?_
    refine w_iload_n 3 dX5_cellAt_44 rfl rfl ?_
    refine x_iadd dX5_cellAt_45 ?_
    cases hs
    exact x_ireturn dX5_cellAt_46 rfl rfl (Nat.le_of_ble_eq_true rfl) (Nat.le_of_ble_eq_true rfl) ⟨rfl, rfl⟩
  · refine x_iconst dX5_cellAt_34 ?_
    refine w_goto dX5_cellAt_35 rfl ?_
    cases hs
    exact x_ireturn dX5_cellAt_46 rfl rfl (Nat.le_of_ble_eq_true rfl) (Nat.le_of_ble_eq_true rfl) ⟨rfl, rfl⟩
set_option maxRecDepth 100000 in
theorem q_Gr_cellAt_b24 {C : Cx} {nx : Nat} (hnx : 80 ≤ nx) (x1 : Int) (x2 : Int) (s : Sg) {o : Int} (hs : Gr_cellAt_b24 x1 x2 s = some o) : ww C M_X5_cellAt 0 0 0 nx (QI nx s o) (XF) nx 0 0 24 [(0, .ref 1), (1, vi x1), (2, vi x2)] [] (hp nx s) := by
  unfold Gr_cellAt_b24 at hs
  refine x_iconst dX5_cellAt_24 ?_
  refine w_goto dX5_cellAt_25 rfl ?_
  exact q_Gr_cellAt_b29 hnx x1 x2 1 s hs
set_option maxRecDepth 100000 in
theorem c_Gr_cellAt {C : Cx} {nx : Nat} (hnx : 80 ≤ nx) (x1 : Int) (x2 : Int) (s : Sg) : ∀ o, Gr_cellAt x1 x2 s = some o → mm C M_X5_cellAt 0 0 0 nx nx [.ref 1, vi x1, vi x2] (hp nx s) (QI nx s o) (XF) := by
  intro o hs
  unfold Gr_cellAt at hs
  refine mm_of rfl rfl (Nat.le_of_ble_eq_true rfl) ?_
  show ww C M_X5_cellAt 0 0 0 nx (QI nx s o) (XF) nx 0 0 0 [(0, .ref 1), (1, vi x1), (2, vi x2)] [] (hp nx s)
  refine w_iload_n 1 dX5_cellAt_0 rfl rfl ?_
  refine x_iflt hs dX5_cellAt_1 rfl (fun hs => ?_) (fun hs => ?_)
  · exact q_Gr_cellAt_b24 hnx x1 x2 s hs
  · refine w_iload_n 1 dX5_cellAt_4 rfl rfl ?_
    refine w_aload_n 0 dX5_cellAt_5 rfl rfl ?_
    refine x_getI 5 3 dX5_cellAt_6 (fxX5_21 rfl) rfl rfl (lt_of hnx (Nat.le_of_ble_eq_true rfl)) ?_
    refine x_icmpge hs dX5_cellAt_9 rfl (fun hs => ?_) (fun hs => ?_)
    · exact q_Gr_cellAt_b24 hnx x1 x2 s hs
    · refine w_iload_n 2 dX5_cellAt_12 rfl rfl ?_
      refine x_iflt hs dX5_cellAt_13 rfl (fun hs => ?_) (fun hs => ?_)
      · exact q_Gr_cellAt_b24 hnx x1 x2 s hs
      · refine w_iload_n 2 dX5_cellAt_16 rfl rfl ?_
        refine w_aload_n 0 dX5_cellAt_17 rfl rfl ?_
        refine x_getI 5 3 dX5_cellAt_18 (fxX5_21 rfl) rfl rfl (lt_of hnx (Nat.le_of_ble_eq_true rfl)) ?_
        refine x_icmplt hs dX5_cellAt_21 rfl (fun hs => ?_) (fun hs => ?_)
        · refine x_iconst dX5_cellAt_28 ?_
          exact q_Gr_cellAt_b29 hnx x1 x2 0 s hs
        · exact q_Gr_cellAt_b24 hnx x1 x2 s hs
set_option maxRecDepth 100000 in
theorem q_Gr_listNeighbours_b66 {C : Cx} {nx : Nat} (hnx : 80 ≤ nx) {Qr : Option Value → Hp → Prop} {Qx : String → Hp → Prop}  (x1 : Int) (x2 : Int) (x3 : Int) (s : Sg) {o : ((Int × Int × Sg) ⊕ (Int × Sg))} (hs : Gr_listNeighbours_b66 x1 x2 x3 s = some o) (hb : ∀ σ : Int × Int × Sg, o = .inl σ → ww C M_X5_listNeighbours 1 0 0 nx (Qr) (Qx) nx 0 0 4 [(0, .ref 1), (1, vi x1), (2, vi σ.1), (3, vi σ.2.1)] [] (hp nx σ.2.2)) (he0 : ∀ ρ : Int × Sg, o = .inr ρ → ww C M_X5_listNeighbours 1 0 0 nx (Qr) (Qx) nx 0 0 72 [(0, .ref 1), (1, vi x1), (2, vi ρ.1)] [] (hp nx ρ.2)) : ww C M_X5_listNeighbours 1 0 0 nx (Qr) (Qx) nx 0 0 66 [(0, .ref 1), (1, vi x1), (2, vi x2), (3, vi x3)] [] (hp nx s) := by
  unfold Gr_listNeighbours_b66 at hs
  refine x_iinc (lv' := [(3, vi (x3 + 1)), (0, .ref 1), (1, vi x1), (2, vi x2)]) 3 dX5_listNeighbours_66 rfl (Nat.le_of_ble_eq_true rfl) rfl ?_
  refine w_goto dX5_listNeighbours_69 rfl ?_
  refine w_lv (lv' := [(0, .ref 1), (1, vi x1), (2, vi x2), (3, vi (x3 + 1))]) [1, 2, 3, 0] rfl ?_
  cases hs
  exact hb _ rfl
set_option maxRecDepth 100000 in
theorem q_Gr_listNeighbours_t4 {C : Cx} {nx : Nat} (hnx : 80 ≤ nx) {Qr : Option Value → Hp → Prop} {Qx : String → Hp → Prop}  (x1 : Int) (x2 : Int) (x3 : Int) (s : Sg) {o : ((Int × Int × Sg) ⊕ (Int × Sg))} (hs : Gr_listNeighbours_t4 x1 x2 x3 s = some o) (hb : ∀ σ : Int × Int × Sg, o = .inl σ → ww C M_X5_listNeighbours 1 0 0 nx (Qr) (Qx) nx 0 0 4 [(0, .ref 1), (1, vi x1), (2, vi σ.1), (3, vi σ.2.1)] [] (hp nx σ.2.2)) (he0 : ∀ ρ : Int × Sg, o = .inr ρ → ww C M_X5_listNeighbours 1 0 0 nx (Qr) (Qx) nx 0 0 72 [(0, .ref 1), (1, vi x1), (2, vi ρ.1)] [] (hp nx ρ.2)) : ww C M_X5_listNeighbours 1 0 0 nx (Qr) (Qx) nx 0 0 4 [(0, .ref 1), (1, vi x1), (2, vi x2), (3, vi x3)] [] (hp nx s) := by
  unfold Gr_listNeighbours_t4 at hs
  refine w_iload_n 3 dX5_listNeighbours_4 rfl rfl ?_
  refine x_bipush dX5_listNeighbours_5 (by decide) ?_
  refine x_icmpge hs dX5_listNeighbours_7 rfl (fun hs => ?_) (fun hs => ?_)
  · refine w_lv (lv' := [(0, .ref 1), (1, vi x1), (2, vi x2)]) [0, 1, 2] rfl ?_
    cases hs
    exact he0 _ rfl
  · refine w_aload_n 0 dX5_listNeighbours_10 rfl rfl ?_
    refine w_aload_n 0 dX5_listNeighbours_11 rfl rfl ?_
    refine w_iload_n 1 dX5_listNeighbours_12 rfl rfl ?_
    refine x_V_I M_X5_row [vi x1] [.ref 1] hs rfl dX5_listNeighbours_13 (lkX5_28 _ rfl) (lt_of hnx (Nat.le_of_ble_eq_true rfl)) rfl rfl (Nat.le_of_ble_eq_true rfl) (Nat.le_of_ble_eq_true rfl) (Nat.le_of_ble_eq_true rfl) (Nat.le_of_ble_eq_true rfl) (c_Gr_row hnx x1 s) (fun y1 hy1 hs => ?_)
    refine x_gets (i := 1000) (Nat.le_of_ble_eq_true rfl) (List.mem_of_getElem? (i := 0) rfl) dX5_listNeighbours_16 (gsX5_46 rfl) ?_
    refine w_iload_n 3 dX5_listNeighbours_19 rfl rfl ?_
    refine x_N_I M_X11_at [.ref 1000, vi x3] [vi y1, .ref 1] hs rfl dX5_listNeighbours_20 (lkX5_49 _ rfl) (Nat.le_of_ble_eq_true rfl) (Nat.le_of_ble_eq_true rfl) (Nat.le_of_ble_eq_true rfl) (Nat.le_of_ble_eq_true rfl) (c_Hx_at hnx 1000 (Or.inr ⟨by decide, by decide⟩) x3 s) (fun y2 hy2 hs => ?_)
    refine x_iadd dX5_listNeighbours_23 ?_
    refine w_aload_n 0 dX5_listNeighbours_24 rfl rfl ?_
    refine w_iload_n 1 dX5_listNeighbours_25 rfl rfl ?_
    refine x_V_I M_X5_column [vi x1] [vi (y1 + y2), .ref 1] hs rfl dX5_listNeighbours_26 (lkX5_39 _ rfl) (lt_of hnx (Nat.le_of_ble_eq_true rfl)) rfl rfl (Nat.le_of_ble_eq_true rfl) (Nat.le_of_ble_eq_true rfl) (Nat.le_of_ble_eq_true rfl) (Nat.le_of_ble_eq_true rfl) (c_Gr_column hnx x1 s) (fun y3 hy3 hs => ?_)
    refine x_gets (i := 1001) (Nat.le_of_ble_eq_true rfl) (List.mem_of_getElem? (i := 1) rfl) dX5_listNeighbours_29 (gsX5_53 rfl) ?_
    refine w_iload_n 3 dX5_listNeighbours_32 rfl rfl ?_
    refine x_N_I M_X11_at [.ref 1001, vi x3] [vi y3, vi (y1 + y2), .ref 1] hs rfl dX5_listNeighbours_33 (lkX5_49 _ rfl) (Nat.le_of_ble_eq_true rfl) (Nat.le_of_ble_eq_true rfl) (Nat.le_of_ble_eq_true rfl) (Nat.le_of_ble_eq_true rfl) (c_Hx_at hnx 1001 (Or.inr ⟨by decide, by decide⟩) x3 s) (fun y4 hy4 hs => ?_)
    refine x_iadd dX5_listNeighbours_36 ?_
    refine x_V_I M_X5_cellAt [vi (y1 + y2), vi (y3 + y4)] [] hs rfl dX5_listNeighbours_37 (lkX5_56 _ rfl) (lt_of hnx (Nat.le_of_ble_eq_true rfl)) rfl rfl (Nat.le_of_ble_eq_true rfl) (Nat.le_of_ble_eq_true rfl) (Nat.le_of_ble_eq_true rfl) (Nat.le_of_ble_eq_true rfl) (c_Gr_cellAt hnx (y1 + y2) (y3 + y4) s) (fun y5 hy5 hs => ?_)
    refine w_istore (lv' := [(4, vi y5), (0, .ref 1), (1, vi x1), (2, vi x2), (3, vi x3)]) dX5_listNeighbours_40 (Nat.le_of_ble_eq_true rfl) rfl ?_
    refine w_iload 0 dX5_listNeighbours_42 rfl ?_
    refine x_iconst dX5_listNeighbours_44 ?_
    refine x_icmpeq hs dX5_listNeighbours_45 rfl (fun hs => ?_) (fun hs => ?_)
    · refine w_lv (lv' := [(0, .ref 1), (1, vi x1), (2, vi x2), (3, vi x3)]) [1, 2, 3, 4] rfl ?_
      exact q_Gr_listNeighbours_b66 hnx x1 x2 x3 s hs hb he0
    · refine w_aload_n 1 dX5_listNeighbours_48 rfl rfl ?_
      refine x_getR 5 0 (b := 2) dX5_listNeighbours_49 (fxX5_9 rfl) rfl rfl (lt_of hnx (Nat.le_of_ble_eq_true rfl)) rfl ?_
      refine w_iload_n 2 dX5_listNeighbours_52 rfl rfl ?_
      refine x_bipush dX5_listNeighbours_53 (by decide) ?_
      refine x_imul dX5_listNeighbours_55 ?_
      refine w_iload_n 3 dX5_listNeighbours_56 rfl rfl ?_
      refine x_iadd dX5_listNeighbours_57 ?_
      refine w_iload 0 dX5_listNeighbours_58 rfl ?_
      refine x_N_V M_X11_set [.ref 2, vi ((x1 * 6) + x2), vi y5] [] hs rfl dX5_listNeighbours_60 (lkX5_35 _ rfl) (Nat.le_of_ble_eq_true rfl) (Nat.le_of_ble_eq_true rfl) (Nat.le_of_ble_eq_true rfl) (Nat.le_of_ble_eq_true rfl) (c_Hx_set hnx 2 (rowW_of rfl (lt_of hnx (Nat.le_of_ble_eq_true rfl))) ((x1 * 6) + x2) y5 s) (fun s7 hs7 hs => ?_)
      refine x_iinc (lv' := [(2, vi (x2 + 1)), (4, vi y5), (0, .ref 1), (1, vi x1), (3, vi x3)]) 3 dX5_listNeighbours_63 rfl (Nat.le_of_ble_eq_true rfl) rfl ?_
      refine w_lv (lv' := [(0, .ref 1), (1, vi x1), (2, vi (x2 + 1)), (3, vi x3)]) [2, 3, 0, 4] rfl ?_
      exact q_Gr_listNeighbours_b66 hnx x1 (x2 + 1) x3 s7 hs hb he0
set_option maxRecDepth 100000 in
theorem q_Gr_listNeighbours_t74 {C : Cx} {nx : Nat} (hnx : 80 ≤ nx) {Qr : Option Value → Hp → Prop} {Qx : String → Hp → Prop}  (x1 : Int) (x3 : Int) (s : Sg) {o : ((Int × Sg) ⊕ (Sg))} (hs : Gr_listNeighbours_t74 x1 x3 s = some o) (hb : ∀ σ : Int × Sg, o = .inl σ → ww C M_X5_listNeighbours 1 0 0 nx (Qr) (Qx) nx 0 0 74 [(0, .ref 1), (1, vi x1), (3, vi σ.1)] [] (hp nx σ.2)) (he0 : ∀ ρ : Sg, o = .inr ρ → ww C M_X5_listNeighbours 1 0 0 nx (Qr) (Qx) nx 0 0 100 [] [] (hp nx ρ)) : ww C M_X5_listNeighbours 1 0 0 nx (Qr) (Qx) nx 0 0 74 [(0, .ref 1), (1, vi x1), (3, vi x3)] [] (hp nx s) := by
  unfold Gr_listNeighbours_t74 at hs
  refine w_iload_n 2 dX5_listNeighbours_74 rfl rfl ?_
  refine x_bipush dX5_listNeighbours_75 (by decide) ?_
  refine x_icmpge hs dX5_listNeighbours_77 rfl (fun hs => ?_) (fun hs => ?_)
  · refine w_lv (lv' := []) [] rfl ?_
    cases hs
    exact he0 _ rfl
  · refine w_aload_n 0 dX5_listNeighbours_80 rfl rfl ?_
    refine x_getR 5 0 (b := 2) dX5_listNeighbours_81 (fxX5_9 rfl) rfl rfl (lt_of hnx (Nat.le_of_ble_eq_true rfl)) rfl ?_
    refine w_iload_n 1 dX5_listNeighbours_84 rfl rfl ?_
    refine x_bipush dX5_listNeighbours_85 (by decide) ?_
    refine x_imul dX5_listNeighbours_87 ?_
    refine w_iload_n 2 dX5_listNeighbours_88 rfl rfl ?_
    refine x_iadd dX5_listNeighbours_89 ?_
    refine x_iconst dX5_listNeighbours_90 ?_
    refine x_N_V M_X11_set [.ref 2, vi ((x1 * 6) + x3), vi (-1)] [] hs rfl dX5_listNeighbours_91 (lkX5_35 _ rfl) (Nat.le_of_ble_eq_true rfl) (Nat.le_of_ble_eq_true rfl) (Nat.le_of_ble_eq_true rfl) (Nat.le_of_ble_eq_true rfl) (c_Hx_set hnx 2 (rowW_of rfl (lt_of hnx (Nat.le_of_ble_eq_true rfl))) ((x1 * 6) + x3) (-1) s) (fun s11 hs11 hs => ?_)
    refine x_iinc (lv' := [(3, vi (x3 + 1)), (0, .ref 1), (1, vi x1)]) 2 dX5_listNeighbours_94 rfl (Nat.le_of_ble_eq_true rfl) rfl ?_
    refine w_goto dX5_listNeighbours_97 rfl ?_
    refine w_lv (lv' := [(0, .ref 1), (1, vi x1), (3, vi (x3 + 1))]) [1, 2, 0] rfl ?_
    cases hs
    exact hb _ rfl
set_option maxRecDepth 100000 in
theorem q_Gr_listNeighbours_l74 {C : Cx} {nx : Nat} (hnx : 80 ≤ nx) (x1 : Int) (x3 : Int) (s : Sg) {o : Sg} (hs : Gr_listNeighbours_l74 x1 x3 s = some o) : ww C M_X5_listNeighbours 1 0 0 nx (QV nx o) (XF) nx 0 0 74 [(0, .ref 1), (1, vi x1), (3, vi x3)] [] (hp nx s) := by
  unfold Gr_listNeighbours_l74 at hs
  refine bnd_e hs (fun s_12 hw hs => ?_)
  have hE : ww C M_X5_listNeighbours 1 0 0 nx (QV nx o) (XF) nx 0 0 100 [] [] (hp nx s_12) := by
    cases hs
    exact w_return rfl dX5_listNeighbours_100 rfl (Nat.le_of_ble_eq_true rfl) (Nat.le_of_ble_eq_true rfl) ⟨rfl, rfl⟩
  refine whl_w (P := fun σ => ww C M_X5_listNeighbours 1 0 0 nx (QV nx o) (XF) nx 0 0 74 [(0, .ref 1), (1, vi x1), (3, vi σ.1)] [] (hp nx σ.2)) (E := fun ρ => ρ = s_12) hw rfl ?_
  intro σ o' hs' hb' he'
  exact q_Gr_listNeighbours_t74 hnx x1 σ.1 σ.2 hs' hb' (fun ρ e => by cases he' _ e; exact hE)
set_option maxRecDepth 100000 in
theorem q_Gr_listNeighbours_l4 {C : Cx} {nx : Nat} (hnx : 80 ≤ nx) (x1 : Int) (x2 : Int) (x3 : Int) (s : Sg) {o : Sg} (hs : Gr_listNeighbours_l4 x1 x2 x3 s = some o) : ww C M_X5_listNeighbours 1 0 0 nx (QV nx o) (XF) nx 0 0 4 [(0, .ref 1), (1, vi x1), (2, vi x2), (3, vi x3)] [] (hp nx s) := by
  unfold Gr_listNeighbours_l4 at hs
  refine bnd_e hs (fun ρ hw hs => ?_)
  obtain ⟨x2_8, s_9⟩ := ρ
  have hE : ww C M_X5_listNeighbours 1 0 0 nx (QV nx o) (XF) nx 0 0 72 [(0, .ref 1), (1, vi x1), (2, vi x2_8)] [] (hp nx s_9) := by
    refine w_iload_n 2 dX5_listNeighbours_72 rfl rfl ?_
    refine w_istore_n (lv' := [(3, vi x2_8), (0, .ref 1), (1, vi x1), (2, vi x2_8)]) dX5_listNeighbours_73 rfl (Nat.le_of_ble_eq_true rfl) rfl ?_
    refine w_lv (lv' := [(0, .ref 1), (1, vi x1), (3, vi x2_8)]) [1, 2, 0] rfl ?_
    exact q_Gr_listNeighbours_l74 hnx x1 x2_8 s_9 hs
  refine whl_w (P := fun σ => ww C M_X5_listNeighbours 1 0 0 nx (QV nx o) (XF) nx 0 0 4 [(0, .ref 1), (1, vi x1), (2, vi σ.1), (3, vi σ.2.1)] [] (hp nx σ.2.2)) (E := fun ρ => ρ = (x2_8, s_9)) hw rfl ?_
  intro σ o' hs' hb' he'
  exact q_Gr_listNeighbours_t4 hnx x1 σ.1 σ.2.1 σ.2.2 hs' hb' (fun ρ e => by cases he' _ e; exact hE)
set_option maxRecDepth 100000 in
theorem c_Gr_listNeighbours {C : Cx} {nx : Nat} (hnx : 80 ≤ nx) (x1 : Int) (s : Sg) : ∀ o, Gr_listNeighbours x1 s = some o → mm C M_X5_listNeighbours 1 0 0 nx nx [.ref 1, vi x1] (hp nx s) (QV nx o) (XF) := by
  intro o hs
  unfold Gr_listNeighbours at hs
  refine mm_of rfl rfl (Nat.le_of_ble_eq_true rfl) ?_
  show ww C M_X5_listNeighbours 1 0 0 nx (QV nx o) (XF) nx 0 0 0 [(0, .ref 1), (1, vi x1)] [] (hp nx s)
  refine x_iconst dX5_listNeighbours_0 ?_
  refine w_istore_n (lv' := [(2, vi 0), (0, .ref 1), (1, vi x1)]) dX5_listNeighbours_1 rfl (Nat.le_of_ble_eq_true rfl) rfl ?_
  refine x_iconst dX5_listNeighbours_2 ?_
  refine w_istore_n (lv' := [(3, vi 0), (2, vi 0), (0, .ref 1), (1, vi x1)]) dX5_listNeighbours_3 rfl (Nat.le_of_ble_eq_true rfl) rfl ?_
  refine w_lv (lv' := [(0, .ref 1), (1, vi x1), (2, vi 0), (3, vi 0)]) [2, 3, 1, 0] rfl ?_
  exact q_Gr_listNeighbours_l4 hnx x1 0 0 s hs
set_option maxRecDepth 100000 in
theorem q_Gr_fit_t23 {C : Cx} {nx : Nat} (hnx : 80 ≤ nx) {Qr : Option Value → Hp → Prop} {Qx : String → Hp → Prop}  (x2 : Int) (s : Sg) {o : ((Int × Sg) ⊕ (Sg))} (hs : Gr_fit_t23 x2 s = some o) (hb : ∀ σ : Int × Sg, o = .inl σ → ww C M_X5_fit 2 0 0 nx (Qr) (Qx) nx 0 0 23 [(0, .ref 1), (2, vi σ.1)] [] (hp nx σ.2)) (he0 : ∀ ρ : Sg, o = .inr ρ → ww C M_X5_fit 2 0 0 nx (Qr) (Qx) nx 0 0 76 [] [] (hp nx ρ)) : ww C M_X5_fit 2 0 0 nx (Qr) (Qx) nx 0 0 23 [(0, .ref 1), (2, vi x2)] [] (hp nx s) := by
  unfold Gr_fit_t23 at hs
  refine w_iload_n 1 dX5_fit_23 rfl rfl ?_
  refine w_aload_n 0 dX5_fit_24 rfl rfl ?_
  refine x_getI 5 4 dX5_fit_25 (fxX5_25 rfl) rfl rfl (lt_of hnx (Nat.le_of_ble_eq_true rfl)) ?_
  refine x_icmpge hs dX5_fit_28 rfl (fun hs => ?_) (fun hs => ?_)
  · refine w_lv (lv' := []) [] rfl ?_
    cases hs
    exact he0 _ rfl
  · refine w_aload_n 0 dX5_fit_31 rfl rfl ?_
    refine x_getR 5 1 (b := 3) dX5_fit_32 (fxX5_15 rfl) rfl rfl (lt_of hnx (Nat.le_of_ble_eq_true rfl)) rfl ?_
    refine w_iload_n 1 dX5_fit_35 rfl rfl ?_
    refine w_aload_n 0 dX5_fit_36 rfl rfl ?_
    refine w_aload_n 0 dX5_fit_37 rfl rfl ?_
    refine w_iload_n 1 dX5_fit_38 rfl rfl ?_
    refine x_V_I M_X5_row [vi x2] [.ref 1, vi x2, .ref 3] hs rfl dX5_fit_39 (lkX5_28 _ rfl) (lt_of hnx (Nat.le_of_ble_eq_true rfl)) rfl rfl (Nat.le_of_ble_eq_true rfl) (Nat.le_of_ble_eq_true rfl) (Nat.le_of_ble_eq_true rfl) (Nat.le_of_ble_eq_true rfl) (c_Gr_row hnx x2 s) (fun y3 hy3 hs => ?_)
    refine x_V_I M_X5_edgesOfLine [vi y3] [vi x2, .ref 3] hs rfl dX5_fit_42 (lkX5_32 _ rfl) (lt_of hnx (Nat.le_of_ble_eq_true rfl)) rfl rfl (Nat.le_of_ble_eq_true rfl) (Nat.le_of_ble_eq_true rfl) (Nat.le_of_ble_eq_true rfl) (Nat.le_of_ble_eq_true rfl) (c_Gr_edgesOfLine hnx y3 s) (fun y4 hy4 hs => ?_)
    refine x_N_V M_X11_set [.ref 3, vi x2, vi y4] [] hs rfl dX5_fit_45 (lkX5_35 _ rfl) (Nat.le_of_ble_eq_true rfl) (Nat.le_of_ble_eq_true rfl) (Nat.le_of_ble_eq_true rfl) (Nat.le_of_ble_eq_true rfl) (c_Hx_set hnx 3 (rowW_of rfl (lt_of hnx (Nat.le_of_ble_eq_true rfl))) x2 y4 s) (fun s6 hs6 hs => ?_)
    refine w_aload_n 0 dX5_fit_48 rfl rfl ?_
    refine x_getR 5 2 (b := 4) dX5_fit_49 (fxX5_18 rfl) rfl rfl (lt_of hnx (Nat.le_of_ble_eq_true rfl)) rfl ?_
    refine w_iload_n 1 dX5_fit_52 rfl rfl ?_
    refine w_aload_n 0 dX5_fit_53 rfl rfl ?_
    refine w_aload_n 0 dX5_fit_54 rfl rfl ?_
    refine w_iload_n 1 dX5_fit_55 rfl rfl ?_
    refine x_V_I M_X5_column [vi x2] [.ref 1, vi x2, .ref 4] hs rfl dX5_fit_56 (lkX5_39 _ rfl) (lt_of hnx (Nat.le_of_ble_eq_true rfl)) rfl rfl (Nat.le_of_ble_eq_true rfl) (Nat.le_of_ble_eq_true rfl) (Nat.le_of_ble_eq_true rfl) (Nat.le_of_ble_eq_true rfl) (c_Gr_column hnx x2 s6) (fun y7 hy7 hs => ?_)
    refine x_V_I M_X5_edgesOfLine [vi y7] [vi x2, .ref 4] hs rfl dX5_fit_59 (lkX5_32 _ rfl) (lt_of hnx (Nat.le_of_ble_eq_true rfl)) rfl rfl (Nat.le_of_ble_eq_true rfl) (Nat.le_of_ble_eq_true rfl) (Nat.le_of_ble_eq_true rfl) (Nat.le_of_ble_eq_true rfl) (c_Gr_edgesOfLine hnx y7 s6) (fun y8 hy8 hs => ?_)
    refine x_N_V M_X11_set [.ref 4, vi x2, vi y8] [] hs rfl dX5_fit_62 (lkX5_35 _ rfl) (Nat.le_of_ble_eq_true rfl) (Nat.le_of_ble_eq_true rfl) (Nat.le_of_ble_eq_true rfl) (Nat.le_of_ble_eq_true rfl) (c_Hx_set hnx 4 (rowW_of rfl (lt_of hnx (Nat.le_of_ble_eq_true rfl))) x2 y8 s6) (fun s10 hs10 hs => ?_)
    refine w_aload_n 0 dX5_fit_65 rfl rfl ?_
    refine w_iload_n 1 dX5_fit_66 rfl rfl ?_
    refine x_V_V M_X5_listNeighbours [vi x2] [] hs rfl dX5_fit_67 (lkX5_42 _ rfl) (lt_of hnx (Nat.le_of_ble_eq_true rfl)) rfl rfl (Nat.le_of_ble_eq_true rfl) (Nat.le_of_ble_eq_true rfl) (Nat.le_of_ble_eq_true rfl) (Nat.le_of_ble_eq_true rfl) (c_Gr_listNeighbours hnx x2 s10) (fun s12 hs12 hs => ?_)
    refine x_iinc (lv' := [(2, vi (x2 + 1)), (0, .ref 1)]) 1 dX5_fit_70 rfl (Nat.le_of_ble_eq_true rfl) rfl ?_
    refine w_goto dX5_fit_73 rfl ?_
    refine w_lv (lv' := [(0, .ref 1), (2, vi (x2 + 1))]) [1, 0] rfl ?_
    cases hs
    exact hb _ rfl
set_option maxRecDepth 100000 in
theorem q_Gr_fit_l23 {C : Cx} {nx : Nat} (hnx : 80 ≤ nx) (x2 : Int) (s : Sg) {o : Sg} (hs : Gr_fit_l23 x2 s = some o) : ww C M_X5_fit 2 0 0 nx (QV nx o) (XF) nx 0 0 23 [(0, .ref 1), (2, vi x2)] [] (hp nx s) := by
  unfold Gr_fit_l23 at hs
  refine bnd_e hs (fun s_13 hw hs => ?_)
  have hE : ww C M_X5_fit 2 0 0 nx (QV nx o) (XF) nx 0 0 76 [] [] (hp nx s_13) := by
    cases hs
    exact w_return rfl dX5_fit_76 rfl (Nat.le_of_ble_eq_true rfl) (Nat.le_of_ble_eq_true rfl) ⟨rfl, rfl⟩
  refine whl_w (P := fun σ => ww C M_X5_fit 2 0 0 nx (QV nx o) (XF) nx 0 0 23 [(0, .ref 1), (2, vi σ.1)] [] (hp nx σ.2)) (E := fun ρ => ρ = s_13) hw rfl ?_
  intro σ o' hs' hb' he'
  exact q_Gr_fit_t23 hnx σ.1 σ.2 hs' hb' (fun ρ e => by cases he' _ e; exact hE)
set_option maxRecDepth 100000 in
theorem c_Gr_fit {C : Cx} {nx : Nat} (hnx : 80 ≤ nx) (x1 : Int) (s : Sg) : ∀ o, Gr_fit x1 s = some o → mm C M_X5_fit 2 0 0 nx nx [.ref 1, vi x1] (hp nx s) (QV nx o) (XF) := by
  intro o hs
  unfold Gr_fit at hs
  refine mm_of rfl rfl (Nat.le_of_ble_eq_true rfl) ?_
  show ww C M_X5_fit 2 0 0 nx (QV nx o) (XF) nx 0 0 0 [(0, .ref 1), (1, vi x1)] [] (hp nx s)
  refine w_iload_n 1 dX5_fit_0 rfl rfl ?_
  refine w_aload_n 0 dX5_fit_1 rfl rfl ?_
  refine x_getI 5 3 dX5_fit_2 (fxX5_21 rfl) rfl rfl (lt_of hnx (Nat.le_of_ble_eq_true rfl)) ?_
  refine x_icmpne hs dX5_fit_5 rfl (fun hs => ?_) (fun hs => ?_)
  · refine w_aload_n 0 dX5_fit_9 rfl rfl ?_
    refine w_iload_n 1 dX5_fit_10 rfl rfl ?_
    refine x_putI 5 3 dX5_fit_11 (poX5_21 rfl) rfl rfl (lt_of hnx (Nat.le_of_ble_eq_true rfl)) ?_
    refine nam_s hs (fun s1 hs => ?_)
    refine w_aload_n 0 dX5_fit_14 rfl rfl ?_
    refine w_iload_n 1 dX5_fit_15 rfl rfl ?_
    refine w_iload_n 1 dX5_fit_16 rfl rfl ?_
    refine x_imul dX5_fit_17 ?_
    refine x_putI 5 4 dX5_fit_18 (poX5_25 rfl) rfl rfl (lt_of hnx (Nat.le_of_ble_eq_true rfl)) ?_
    refine nam_s hs (fun s2 hs => ?_)
    refine x_iconst dX5_fit_21 ?_
    refine w_istore_n (lv' := [(2, vi 0), (0, .ref 1), (1, vi x1)]) dX5_fit_22 rfl (Nat.le_of_ble_eq_true rfl) rfl ?_
    refine w_lv (lv' := [(0, .ref 1), (2, vi 0)]) [1, 0] rfl ?_
    exact q_Gr_fit_l23 hnx 0 s2 hs
  · cases hs
    exact w_return rfl dX5_fit_8 rfl (Nat.le_of_ble_eq_true rfl) (Nat.le_of_ble_eq_true rfl) ⟨rfl, rfl⟩
set_option maxRecDepth 100000 in
theorem q_Po_begin_t27 {C : Cx} {nx : Nat} (hnx : 80 ≤ nx) {Qr : Option Value → Hp → Prop} {Qx : String → Hp → Prop}  (r0 : Nat) (h_r0 : isPos r0) (x2 : Int) (s : Sg) {o : ((Int × Sg) ⊕ (Sg))} (hs : Po_begin_t27 r0 x2 s = some o) (hb : ∀ σ : Int × Sg, o = .inl σ → ww C M_X9_begin 1 0 0 nx (Qr) (Qx) nx 0 0 27 [(0, .ref r0), (2, vi σ.1)] [] (hp nx σ.2)) (he0 : ∀ ρ : Sg, o = .inr ρ → ww C M_X9_begin 1 0 0 nx (Qr) (Qx) nx 0 0 48 [] [] (hp nx ρ)) : ww C M_X9_begin 1 0 0 nx (Qr) (Qx) nx 0 0 27 [(0, .ref r0), (2, vi x2)] [] (hp nx s) := by
  unfold Po_begin_t27 at hs
  refine w_iload_n 1 dX9_begin_27 rfl rfl ?_
  refine x_bipush dX9_begin_28 (by decide) ?_
  refine x_icmpge hs dX9_begin_30 rfl (fun hs => ?_) (fun hs => ?_)
  · refine w_lv (lv' := []) [] rfl ?_
    cases hs
    exact he0 _ rfl
  · refine w_aload_n 0 dX9_begin_33 rfl rfl ?_
    refine x_getR 9 0 (b := (r0 + 1)) dX9_begin_34 (fxX9_9 rfl) rfl (pos_s0 _ h_r0) (pos_n0 h_r0 hnx) (pos_r0 _ h_r0) ?_
    refine w_iload_n 1 dX9_begin_37 rfl rfl ?_
    refine x_iconst dX9_begin_38 ?_
    refine x_N_V M_X11_set [.ref (r0 + 1), vi x2, vi (-1)] [] hs rfl dX9_begin_39 (lkX9_35 _ rfl) (Nat.le_of_ble_eq_true rfl) (Nat.le_of_ble_eq_true rfl) (Nat.le_of_ble_eq_true rfl) (Nat.le_of_ble_eq_true rfl) (c_Hx_set hnx (r0 + 1) (rowW_of (pos_s1 _ h_r0) (pos_n1 h_r0 hnx)) x2 (-1) s) (fun s7 hs7 hs => ?_)
    refine x_iinc (lv' := [(2, vi (x2 + 1)), (0, .ref r0)]) 1 dX9_begin_42 rfl (Nat.le_of_ble_eq_true rfl) rfl ?_
    refine w_goto dX9_begin_45 rfl ?_
    refine w_lv (lv' := [(0, .ref r0), (2, vi (x2 + 1))]) [1, 0] rfl ?_
    cases hs
    exact hb _ rfl
set_option maxRecDepth 100000 in
theorem q_Po_begin_l27 {C : Cx} {nx : Nat} (hnx : 80 ≤ nx) (r0 : Nat) (h_r0 : isPos r0) (x2 : Int) (s : Sg) {o : Sg} (hs : Po_begin_l27 r0 x2 s = some o) : ww C M_X9_begin 1 0 0 nx (QV nx o) (XF) nx 0 0 27 [(0, .ref r0), (2, vi x2)] [] (hp nx s) := by
  unfold Po_begin_l27 at hs
  refine bnd_e hs (fun s_8 hw hs => ?_)
  have hE : ww C M_X9_begin 1 0 0 nx (QV nx o) (XF) nx 0 0 48 [] [] (hp nx s_8) := by
    cases hs
    exact w_return rfl dX9_begin_48 rfl (Nat.le_of_ble_eq_true rfl) (Nat.le_of_ble_eq_true rfl) ⟨rfl, rfl⟩
  refine whl_w (P := fun σ => ww C M_X9_begin 1 0 0 nx (QV nx o) (XF) nx 0 0 27 [(0, .ref r0), (2, vi σ.1)] [] (hp nx σ.2)) (E := fun ρ => ρ = s_8) hw rfl ?_
  intro σ o' hs' hb' he'
  exact q_Po_begin_t27 hnx r0 h_r0 σ.1 σ.2 hs' hb' (fun ρ e => by cases he' _ e; exact hE)
set_option maxRecDepth 100000 in
theorem c_Po_begin {C : Cx} {nx : Nat} (hnx : 80 ≤ nx) (r0 : Nat) (h_r0 : isPos r0) (x1 : Int) (s : Sg) : ∀ o, Po_begin r0 x1 s = some o → mm C M_X9_begin 1 0 0 nx nx [.ref r0, vi x1] (hp nx s) (QV nx o) (XF) := by
  intro o hs
  unfold Po_begin at hs
  refine mm_of rfl rfl (Nat.le_of_ble_eq_true rfl) ?_
  show ww C M_X9_begin 1 0 0 nx (QV nx o) (XF) nx 0 0 0 [(0, .ref r0), (1, vi x1)] [] (hp nx s)
  refine w_aload_n 0 dX9_begin_0 rfl rfl ?_
  refine w_iload_n 1 dX9_begin_1 rfl rfl ?_
  refine x_putI 9 2 dX9_begin_2 (poX9_18 rfl) rfl (pos_s0 _ h_r0) (pos_n0 h_r0 hnx) ?_
  refine nam_s hs (fun s1 hs => ?_)
  refine w_aload_n 0 dX9_begin_5 rfl rfl ?_
  refine x_iconst dX9_begin_6 ?_
  refine x_putZ 9 3 (Or.inl rfl) dX9_begin_7 (poX9_22 rfl) rfl (pos_s0 _ h_r0) (pos_n0 h_r0 hnx) ?_
  refine nam_s hs (fun s2 hs => ?_)
  refine w_aload_n 0 dX9_begin_10 rfl rfl ?_
  refine x_iconst dX9_begin_11 ?_
  refine x_putI 9 4 dX9_begin_12 (poX9_26 rfl) rfl (pos_s0 _ h_r0) (pos_n0 h_r0 hnx) ?_
  refine nam_s hs (fun s3 hs => ?_)
  refine w_aload_n 0 dX9_begin_15 rfl rfl ?_
  refine x_iconst dX9_begin_16 ?_
  refine x_putI 9 5 dX9_begin_17 (poX9_29 rfl) rfl (pos_s0 _ h_r0) (pos_n0 h_r0 hnx) ?_
  refine nam_s hs (fun s4 hs => ?_)
  refine w_aload_n 0 dX9_begin_20 rfl rfl ?_
  refine x_iconst dX9_begin_21 ?_
  refine x_putI 9 6 dX9_begin_22 (poX9_32 rfl) rfl (pos_s0 _ h_r0) (pos_n0 h_r0 hnx) ?_
  refine nam_s hs (fun s5 hs => ?_)
  refine x_iconst dX9_begin_25 ?_
  refine w_istore_n (lv' := [(2, vi 0), (0, .ref r0), (1, vi x1)]) dX9_begin_26 rfl (Nat.le_of_ble_eq_true rfl) rfl ?_
  refine w_lv (lv' := [(0, .ref r0), (2, vi 0)]) [1, 0] rfl ?_
  exact q_Po_begin_l27 hnx r0 h_r0 0 s5 hs
set_option maxRecDepth 100000 in
theorem c_By_add {C : Cx} {nx : Nat} (hnx : 80 ≤ nx) (r0 : Nat) (h_r0 : isBytes r0) (x1 : Int) (s : Sg) : ∀ o, By_add r0 x1 s = some o → mm C M_X1_add 0 0 0 nx nx [.ref r0, vi x1] (hp nx s) (QV nx o) (XF) := by
  intro o hs
  unfold By_add at hs
  refine mm_of rfl rfl (Nat.le_of_ble_eq_true rfl) ?_
  show ww C M_X1_add 0 0 0 nx (QV nx o) (XF) nx 0 0 0 [(0, .ref r0), (1, vi x1)] [] (hp nx s)
  refine w_aload_n 0 dX1_add_0 rfl rfl ?_
  refine x_getI 1 1 dX1_add_1 (fxX1_21 rfl) rfl (bytes_s0 h_r0) (bytes_n (j := 0) h_r0 (by decide) hnx) ?_
  refine x_iflt hs dX1_add_4 rfl (fun hs => ?_) (fun hs => ?_)
  · cases hs
    exact w_return rfl dX1_add_39 rfl (Nat.le_of_ble_eq_true rfl) (Nat.le_of_ble_eq_true rfl) ⟨rfl, rfl⟩
  · refine w_aload_n 0 dX1_add_7 rfl rfl ?_
    refine x_getI 1 1 dX1_add_8 (fxX1_21 rfl) rfl (bytes_s0 h_r0) (bytes_n (j := 0) h_r0 (by decide) hnx) ?_
    refine w_aload_n 0 dX1_add_11 rfl rfl ?_
    refine x_getR 1 0 (b := (r0 + 1)) dX1_add_12 (fxX1_15 rfl) rfl (bytes_s0 h_r0) (bytes_n (j := 0) h_r0 (by decide) hnx) (bytes_r0 h_r0) ?_
    refine x_alen dX1_add_15 (Or.inl ⟨(bytes_s1 h_r0), (bytes_n (j := 1) h_r0 (by decide) hnx)⟩) ?_
    refine x_icmpge hs dX1_add_16 rfl (fun hs => ?_) (fun hs => ?_)
    · cases hs
      exact w_return rfl dX1_add_39 rfl (Nat.le_of_ble_eq_true rfl) (Nat.le_of_ble_eq_true rfl) ⟨rfl, rfl⟩
    · refine w_aload_n 0 dX1_add_19 rfl rfl ?_
      refine x_getR 1 0 (b := (r0 + 1)) dX1_add_20 (fxX1_15 rfl) rfl (bytes_s0 h_r0) (bytes_n (j := 0) h_r0 (by decide) hnx) (bytes_r0 h_r0) ?_
      refine w_aload_n 0 dX1_add_23 rfl rfl ?_
      refine x_getI 1 1 dX1_add_24 (fxX1_21 rfl) rfl (bytes_s0 h_r0) (bytes_n (j := 0) h_r0 (by decide) hnx) ?_
      refine w_iload_n 1 dX1_add_27 rfl rfl ?_
      refine grd_e hs (fun hg1 hs => ?_)
      refine x_iast hg1 (alen_le _) dX1_add_28 (bytes_s1 h_r0) (bytes_n (j := 1) h_r0 (by decide) hnx) ?_
      refine nam_s hs (fun s2 hs => ?_)
      refine w_aload_n 0 dX1_add_29 rfl rfl ?_
      refine w_dup dX1_add_30 rfl ?_
      refine x_getI 1 1 dX1_add_31 (fxX1_21 rfl) rfl (bytes_s0 h_r0) (bytes_n (j := 0) h_r0 (by decide) hnx) ?_
      refine x_iconst dX1_add_34 ?_
      refine x_iadd dX1_add_35 ?_
      refine x_putI 1 1 dX1_add_36 (poX1_21 rfl) rfl (bytes_s0 h_r0) (bytes_n (j := 0) h_r0 (by decide) hnx) ?_
      refine nam_s hs (fun s3 hs => ?_)
      cases hs
      exact w_return rfl dX1_add_39 rfl (Nat.le_of_ble_eq_true rfl) (Nat.le_of_ble_eq_true rfl) ⟨rfl, rfl⟩
set_option maxRecDepth 100000 in
theorem q_Hx_append_b27 {C : Cx} {nx : Nat} (hnx : 80 ≤ nx) {Qr : Option Value → Hp → Prop} {Qx : String → Hp → Prop}  (x1 : Int) (x3 : Int) (x4 : Int) (s : Sg) {o : ((Int × Int) ⊕ (Int))} (hs : Hx_append_b27 x1 x3 x4 s = some o) (hb : ∀ σ : Int × Int, o = .inl σ → ww C M_X11_append 1 0 0 nx (Qr) (Qx) nx 0 0 6 [(0, .ref 0), (1, vl x1), (3, vi σ.1), (4, vi σ.2)] [] (hp nx s)) (he0 : ∀ ρ : Int, o = .inr ρ → ww C M_X11_append 1 0 0 nx (Qr) (Qx) nx 0 0 33 [(0, .ref 0), (1, vl x1), (3, vi ρ)] [] (hp nx s)) : ww C M_X11_append 1 0 0 nx (Qr) (Qx) nx 0 0 27 [(0, .ref 0), (1, vl x1), (3, vi x3), (4, vi x4)] [] (hp nx s) := by
  unfold Hx_append_b27 at hs
  refine x_iinc (lv' := [(4, vi (x4 + (-8))), (0, .ref 0), (1, vl x1), (3, vi x3)]) 3 dX11_append_27 rfl (Nat.le_of_ble_eq_true rfl) rfl ?_
  refine w_goto dX11_append_30 rfl ?_
  refine w_lv (lv' := [(0, .ref 0), (1, vl x1), (3, vi x3), (4, vi (x4 + (-8)))]) [1, 2, 3, 0] rfl ?_
  cases hs
  exact hb _ rfl
set_option maxRecDepth 100000 in
theorem q_Hx_append_t6 {C : Cx} {nx : Nat} (hnx : 80 ≤ nx) {Qr : Option Value → Hp → Prop} {Qx : String → Hp → Prop}  (x1 : Int) (x3 : Int) (x4 : Int) (s : Sg) {o : ((Int × Int) ⊕ (Int))} (hs : Hx_append_t6 x1 x3 x4 s = some o) (hb : ∀ σ : Int × Int, o = .inl σ → ww C M_X11_append 1 0 0 nx (Qr) (Qx) nx 0 0 6 [(0, .ref 0), (1, vl x1), (3, vi σ.1), (4, vi σ.2)] [] (hp nx s)) (he0 : ∀ ρ : Int, o = .inr ρ → ww C M_X11_append 1 0 0 nx (Qr) (Qx) nx 0 0 33 [(0, .ref 0), (1, vl x1), (3, vi ρ)] [] (hp nx s)) : ww C M_X11_append 1 0 0 nx (Qr) (Qx) nx 0 0 6 [(0, .ref 0), (1, vl x1), (3, vi x3), (4, vi x4)] [] (hp nx s) := by
  unfold Hx_append_t6 at hs
  refine w_iload 3 dX11_append_6 rfl ?_
  refine x_iflt hs dX11_append_8 rfl (fun hs => ?_) (fun hs => ?_)
  · refine w_lv (lv' := [(0, .ref 0), (1, vl x1), (3, vi x3)]) [0, 1, 2] rfl ?_
    cases hs
    exact he0 _ rfl
  · refine w_lload_n 1 dX11_append_11 rfl rfl ?_
    refine w_iload 3 dX11_append_12 rfl ?_
    refine x_lushr dX11_append_14 ?_
    refine x_ldc2 255 dX11_append_15 (csX11_115 rfl) ?_
    refine x_land dX11_append_18 ?_
    refine x_lconst (x := 0) dX11_append_19 (by decide) ?_
    refine grd_e hs (fun hg1 hs => ?_)
    refine x_lcmp dX11_append_20 hg1.1 hg1.2 ?_
    refine x_ifeq hs dX11_append_21 rfl (fun hs => ?_) (fun hs => ?_)
    · exact q_Hx_append_b27 hnx x1 x3 x4 s hs hb he0
    · refine x_iinc (lv' := [(3, vi (x3 + 1)), (0, .ref 0), (1, vl x1), (4, vi x4)]) 2 dX11_append_24 rfl (Nat.le_of_ble_eq_true rfl) rfl ?_
      refine w_lv (lv' := [(0, .ref 0), (1, vl x1), (3, vi (x3 + 1)), (4, vi x4)]) [1, 2, 0, 3] rfl ?_
      exact q_Hx_append_b27 hnx x1 (x3 + 1) x4 s hs hb he0
set_option maxRecDepth 100000 in
theorem q_Hx_append_b85 {C : Cx} {nx : Nat} (hnx : 80 ≤ nx) {Qr : Option Value → Hp → Prop} {Qx : String → Hp → Prop}  (x1 : Int) (x4 : Int) (s : Sg) {o : ((Int × Sg) ⊕ (Sg))} (hs : Hx_append_b85 x1 x4 s = some o) (hb : ∀ σ : Int × Sg, o = .inl σ → ww C M_X11_append 1 0 0 nx (Qr) (Qx) nx 0 0 55 [(0, .ref 0), (1, vl x1), (4, vi σ.1)] [] (hp nx σ.2)) (he0 : ∀ ρ : Sg, o = .inr ρ → ww C M_X11_append 1 0 0 nx (Qr) (Qx) nx 0 0 91 [(0, .ref 0)] [] (hp nx ρ)) : ww C M_X11_append 1 0 0 nx (Qr) (Qx) nx 0 0 85 [(0, .ref 0), (1, vl x1), (4, vi x4)] [] (hp nx s) := by
  unfold Hx_append_b85 at hs
  refine x_iinc (lv' := [(4, vi (x4 + (-8))), (0, .ref 0), (1, vl x1)]) 2 dX11_append_85 rfl (Nat.le_of_ble_eq_true rfl) rfl ?_
  refine w_goto dX11_append_88 rfl ?_
  refine w_lv (lv' := [(0, .ref 0), (1, vl x1), (4, vi (x4 + (-8)))]) [1, 2, 0] rfl ?_
  cases hs
  exact hb _ rfl
set_option maxRecDepth 100000 in
theorem q_Hx_append_t55 {C : Cx} {nx : Nat} (hnx : 80 ≤ nx) {Qr : Option Value → Hp → Prop} {Qx : String → Hp → Prop}  (x1 : Int) (x4 : Int) (s : Sg) {o : ((Int × Sg) ⊕ (Sg))} (hs : Hx_append_t55 x1 x4 s = some o) (hb : ∀ σ : Int × Sg, o = .inl σ → ww C M_X11_append 1 0 0 nx (Qr) (Qx) nx 0 0 55 [(0, .ref 0), (1, vl x1), (4, vi σ.1)] [] (hp nx σ.2)) (he0 : ∀ ρ : Sg, o = .inr ρ → ww C M_X11_append 1 0 0 nx (Qr) (Qx) nx 0 0 91 [(0, .ref 0)] [] (hp nx ρ)) : ww C M_X11_append 1 0 0 nx (Qr) (Qx) nx 0 0 55 [(0, .ref 0), (1, vl x1), (4, vi x4)] [] (hp nx s) := by
  unfold Hx_append_t55 at hs
  refine w_iload 2 dX11_append_55 rfl ?_
  refine x_iflt hs dX11_append_57 rfl (fun hs => ?_) (fun hs => ?_)
  · refine w_lv (lv' := [(0, .ref 0)]) [0] rfl ?_
    cases hs
    exact he0 _ rfl
  · refine w_lload_n 1 dX11_append_60 rfl rfl ?_
    refine w_iload 2 dX11_append_61 rfl ?_
    refine x_lushr dX11_append_63 ?_
    refine x_ldc2 255 dX11_append_64 (csX11_115 rfl) ?_
    refine x_land dX11_append_67 ?_
    refine x_l2i dX11_append_68 ?_
    refine x_istore (fun x5_3 => [(5, vi x5_3), (0, .ref 0), (1, vl x1), (4, vi x4)]) hs dX11_append_69 (Nat.le_of_ble_eq_true rfl) (fun _ => rfl) (fun x5_3 hs => ?_)
    refine w_iload 0 dX11_append_71 rfl ?_
    refine x_ifeq hs dX11_append_73 rfl (fun hs => ?_) (fun hs => ?_)
    · refine w_lv (lv' := [(0, .ref 0), (1, vl x1), (4, vi x4)]) [1, 2, 3] rfl ?_
      exact q_Hx_append_b85 hnx x1 x4 s hs hb he0
    · refine w_aload_n 1 dX11_append_76 rfl rfl ?_
      refine x_getR 11 7 (b := 48) dX11_append_77 (fxX11_53 rfl) rfl rfl (lt_of hnx (Nat.le_of_ble_eq_true rfl)) rfl ?_
      refine w_iload 0 dX11_append_80 rfl ?_
      refine x_V_V M_X1_add [vi x5_3] [] hs rfl dX11_append_82 (lkX11_121 _ rfl) (lt_of hnx (Nat.le_of_ble_eq_true rfl)) rfl rfl (Nat.le_of_ble_eq_true rfl) (Nat.le_of_ble_eq_true rfl) (Nat.le_of_ble_eq_true rfl) (Nat.le_of_ble_eq_true rfl) (c_By_add hnx 48 (Or.inl rfl) x5_3 s) (fun s5 hs5 hs => ?_)
      refine w_lv (lv' := [(0, .ref 0), (1, vl x1), (4, vi x4)]) [1, 2, 3] rfl ?_
      exact q_Hx_append_b85 hnx x1 x4 s5 hs hb he0
set_option maxRecDepth 100000 in
theorem q_Hx_append_l55 {C : Cx} {nx : Nat} (hnx : 80 ≤ nx) (x1 : Int) (x4 : Int) (s : Sg) {o : Int × Sg} (hs : Hx_append_l55 x1 x4 s = some o) : ww C M_X11_append 1 0 0 nx (QI nx o.2 o.1) (XF) nx 0 0 55 [(0, .ref 0), (1, vl x1), (4, vi x4)] [] (hp nx s) := by
  unfold Hx_append_l55 at hs
  refine bnd_e hs (fun s_6 hw hs => ?_)
  have hE : ww C M_X11_append 1 0 0 nx (QI nx o.2 o.1) (XF) nx 0 0 91 [(0, .ref 0)] [] (hp nx s_6) := by
    refine w_aload_n 0 dX11_append_91 rfl rfl ?_
    refine x_getR 11 7 (b := 48) dX11_append_92 (fxX11_53 rfl) rfl rfl (lt_of hnx (Nat.le_of_ble_eq_true rfl)) rfl ?_
    refine x_getI 1 1 dX11_append_95 (fxX11_117 rfl) rfl rfl (lt_of hnx (Nat.le_of_ble_eq_true rfl)) ?_
    cases hs
    exact x_ireturn dX11_append_98 rfl rfl (Nat.le_of_ble_eq_true rfl) (Nat.le_of_ble_eq_true rfl) ⟨rfl, rfl⟩
  refine whl_w (P := fun σ => ww C M_X11_append 1 0 0 nx (QI nx o.2 o.1) (XF) nx 0 0 55 [(0, .ref 0), (1, vl x1), (4, vi σ.1)] [] (hp nx σ.2)) (E := fun ρ => ρ = s_6) hw rfl ?_
  intro σ o' hs' hb' he'
  exact q_Hx_append_t55 hnx x1 σ.1 σ.2 hs' hb' (fun ρ e => by cases he' _ e; exact hE)
set_option maxRecDepth 100000 in
theorem q_Hx_append_l6 {C : Cx} {nx : Nat} (hnx : 80 ≤ nx) (x1 : Int) (x3 : Int) (x4 : Int) (s : Sg) {o : Int × Sg} (hs : Hx_append_l6 x1 x3 x4 s = some o) : ww C M_X11_append 1 0 0 nx (QI nx o.2 o.1) (XF) nx 0 0 6 [(0, .ref 0), (1, vl x1), (3, vi x3), (4, vi x4)] [] (hp nx s) := by
  unfold Hx_append_l6 at hs
  refine bnd_e hs (fun x3_2 hw hs => ?_)
  have hE : ww C M_X11_append 1 0 0 nx (QI nx o.2 o.1) (XF) nx 0 0 33 [(0, .ref 0), (1, vl x1), (3, vi x3_2)] [] (hp nx s) := by
    refine w_aload_n 0 dX11_append_33 rfl rfl ?_
    refine x_getR 11 7 (b := 48) dX11_append_34 (fxX11_53 rfl) rfl rfl (lt_of hnx (Nat.le_of_ble_eq_true rfl)) rfl ?_
    refine x_getI 1 1 dX11_append_37 (fxX11_117 rfl) rfl rfl (lt_of hnx (Nat.le_of_ble_eq_true rfl)) ?_
    refine w_iload_n 2 dX11_append_40 rfl rfl ?_
    refine x_iadd dX11_append_41 ?_
    refine x_sipush dX11_append_42 (by decide) ?_
    refine x_icmple hs dX11_append_45 rfl (fun hs => ?_) (fun hs => ?_)
    · refine x_bipush dX11_append_51 (by decide) ?_
      refine w_istore (lv' := [(4, vi 56), (0, .ref 0), (1, vl x1), (3, vi x3_2)]) dX11_append_53 (Nat.le_of_ble_eq_true rfl) rfl ?_
      refine w_lv (lv' := [(0, .ref 0), (1, vl x1), (4, vi 56)]) [1, 2, 0] rfl ?_
      exact q_Hx_append_l55 hnx x1 56 s hs
    · refine x_bipush dX11_append_48 (by decide) ?_
      cases hs
      exact x_ireturn dX11_append_50 rfl rfl (Nat.le_of_ble_eq_true rfl) (Nat.le_of_ble_eq_true rfl) ⟨rfl, rfl⟩
  refine whl_w (P := fun σ => ww C M_X11_append 1 0 0 nx (QI nx o.2 o.1) (XF) nx 0 0 6 [(0, .ref 0), (1, vl x1), (3, vi σ.1), (4, vi σ.2)] [] (hp nx s)) (E := fun ρ => ρ = x3_2) hw rfl ?_
  intro σ o' hs' hb' he'
  exact q_Hx_append_t6 hnx x1 σ.1 σ.2 s hs' hb' (fun ρ e => by cases he' _ e; exact hE)
set_option maxRecDepth 100000 in
theorem c_Hx_append {C : Cx} {nx : Nat} (hnx : 80 ≤ nx) (x1 : Int) (s : Sg) : ∀ o, Hx_append x1 s = some o → mm C M_X11_append 1 0 0 nx nx [.ref 0, vl x1] (hp nx s) (QI nx o.2 o.1) (XF) := by
  intro o hs
  unfold Hx_append at hs
  refine mm_of rfl rfl (Nat.le_of_ble_eq_true rfl) ?_
  show ww C M_X11_append 1 0 0 nx (QI nx o.2 o.1) (XF) nx 0 0 0 [(0, .ref 0), (1, vl x1)] [] (hp nx s)
  refine x_iconst dX11_append_0 ?_
  refine w_istore_n (lv' := [(3, vi 0), (0, .ref 0), (1, vl x1)]) dX11_append_1 rfl (Nat.le_of_ble_eq_true rfl) rfl ?_
  refine x_bipush dX11_append_2 (by decide) ?_
  refine w_istore (lv' := [(4, vi 56), (3, vi 0), (0, .ref 0), (1, vl x1)]) dX11_append_4 (Nat.le_of_ble_eq_true rfl) rfl ?_
  refine w_lv (lv' := [(0, .ref 0), (1, vl x1), (3, vi 0), (4, vi 56)]) [2, 3, 1, 0] rfl ?_
  exact q_Hx_append_l6 hnx x1 0 56 s hs
set_option maxRecDepth 100000 in
theorem q_By_get_b26 {C : Cx} {nx : Nat} (hnx : 80 ≤ nx) (r0 : Nat) (h_r0 : isBytes r0) (x1 : Int) (t0 : Int) (s : Sg) {o : Int} (hs : By_get_b26 r0 x1 t0 s = some o) : ww C M_X1_get 0 0 0 nx (QI nx s o) (XF) nx 0 0 26 [(0, .ref r0), (1, vi x1)] [vi t0] (hp nx s) := by
  unfold By_get_b26 at hs
  refine w_istore_n (lv' := [(2, vi t0), (0, .ref r0), (1, vi x1)]) dX1_get_26 rfl (Nat.le_of_ble_eq_true rfl) rfl ?_
  refine w_iload_n 0 dX1_get_27 rfl rfl ?_
  refine x_ifeq hs dX1_get_28 rfl (fun hs => ?_) (fun hs => ?_)
  · refine w_aload_n 1 dX1_get_35 rfl rfl ?_
    refine x_getR 1 0 (b := (r0 + 1)) dX1_get_36 (fxX1_15 rfl) rfl (bytes_s0 h_r0) (bytes_n (j := 0) h_r0 (by decide) hnx) (bytes_r0 h_r0) ?_
    refine w_iload_n 2 dX1_get_39 rfl rfl ?_
    refine grd_e hs (fun hg1 hs => ?_)
    refine x_iald hg1 (alen_le _) dX1_get_40 (Or.inl ⟨(bytes_s1 h_r0), (bytes_n (j := 1) h_r0 (by decide) hnx)⟩) ?_
    cases hs
    exact x_ireturn dX1_get_41 rfl rfl (Nat.le_of_ble_eq_true rfl) (Nat.le_of_ble_eq_true rfl) ⟨rfl, rfl⟩
  · refine x_iconst dX1_get_31 ?_
    refine w_goto dX1_get_32 rfl ?_
    cases hs
    exact x_ireturn dX1_get_41 rfl rfl (Nat.le_of_ble_eq_true rfl) (Nat.le_of_ble_eq_true rfl) ⟨rfl, rfl⟩
set_option maxRecDepth 100000 in
theorem q_By_get_b21 {C : Cx} {nx : Nat} (hnx : 80 ≤ nx) (r0 : Nat) (h_r0 : isBytes r0) (x1 : Int) (s : Sg) {o : Int} (hs : By_get_b21 r0 x1 s = some o) : ww C M_X1_get 0 0 0 nx (QI nx s o) (XF) nx 0 0 21 [(0, .ref r0), (1, vi x1)] [] (hp nx s) := by
  unfold By_get_b21 at hs
  refine x_iconst dX1_get_21 ?_
  refine w_goto dX1_get_22 rfl ?_
  exact q_By_get_b26 hnx r0 h_r0 x1 1 s hs
set_option maxRecDepth 100000 in
theorem c_By_get {C : Cx} {nx : Nat} (hnx : 80 ≤ nx) (r0 : Nat) (h_r0 : isBytes r0) (x1 : Int) (s : Sg) : ∀ o, By_get r0 x1 s = some o → mm C M_X1_get 0 0 0 nx nx [.ref r0, vi x1] (hp nx s) (QI nx s o) (XF) := by
  intro o hs
  unfold By_get at hs
  refine mm_of rfl rfl (Nat.le_of_ble_eq_true rfl) ?_
  show ww C M_X1_get 0 0 0 nx (QI nx s o) (XF) nx 0 0 0 [(0, .ref r0), (1, vi x1)] [] (hp nx s)
  refine w_iload_n 1 dX1_get_0 rfl rfl ?_
  refine x_iflt hs dX1_get_1 rfl (fun hs => ?_) (fun hs => ?_)
  · exact q_By_get_b21 hnx r0 h_r0 x1 s hs
  · refine w_iload_n 1 dX1_get_4 rfl rfl ?_
    refine w_aload_n 0 dX1_get_5 rfl rfl ?_
    refine x_getI 1 1 dX1_get_6 (fxX1_21 rfl) rfl (bytes_s0 h_r0) (bytes_n (j := 0) h_r0 (by decide) hnx) ?_
    refine x_icmpge hs dX1_get_9 rfl (fun hs => ?_) (fun hs => ?_)
    · exact q_By_get_b21 hnx r0 h_r0 x1 s hs
    · refine w_iload_n 1 dX1_get_12 rfl rfl ?_
      refine w_aload_n 0 dX1_get_13 rfl rfl ?_
      refine x_getR 1 0 (b := (r0 + 1)) dX1_get_14 (fxX1_15 rfl) rfl (bytes_s0 h_r0) (bytes_n (j := 0) h_r0 (by decide) hnx) (bytes_r0 h_r0) ?_
      refine x_alen dX1_get_17 (Or.inl ⟨(bytes_s1 h_r0), (bytes_n (j := 1) h_r0 (by decide) hnx)⟩) ?_
      refine x_icmplt hs dX1_get_18 rfl (fun hs => ?_) (fun hs => ?_)
      · refine x_iconst dX1_get_25 ?_
        exact q_By_get_b26 hnx r0 h_r0 x1 0 s hs
      · exact q_By_get_b21 hnx r0 h_r0 x1 s hs
set_option maxRecDepth 100000 in
theorem q_Re_runEnd_t3 {C : Cx} {nx : Nat} (hnx : 80 ≤ nx) {Qr : Option Value → Hp → Prop} {Qx : String → Hp → Prop}  (x2 : Int) (x3 : Int) (x4 : Int) (s : Sg) {o : ((Int) ⊕ (Int))} (hs : Re_runEnd_t3 x2 x3 x4 s = some o) (hb : ∀ σ : Int, o = .inl σ → ww C M_X10_runEnd 1 0 0 nx (Qr) (Qx) nx 0 0 3 [(0, .ref 52), (2, vi x2), (3, vi x3), (4, vi σ)] [] (hp nx s)) (he0 : ∀ ρ : Int, o = .inr ρ → ww C M_X10_runEnd 1 0 0 nx (Qr) (Qx) nx 0 0 47 [(4, vi ρ)] [] (hp nx s)) : ww C M_X10_runEnd 1 0 0 nx (Qr) (Qx) nx 0 0 3 [(0, .ref 52), (2, vi x2), (3, vi x3), (4, vi x4)] [] (hp nx s) := by
  unfold Re_runEnd_t3 at hs
  refine w_iload 3 dX10_runEnd_3 rfl ?_
  refine w_aload_n 0 dX10_runEnd_5 rfl rfl ?_
  refine x_getR 10 0 (b := 48) dX10_runEnd_6 (fxX10_9 rfl) rfl rfl (lt_of hnx (Nat.le_of_ble_eq_true rfl)) rfl ?_
  refine x_getI 1 1 dX10_runEnd_9 (fxX10_155 rfl) rfl rfl (lt_of hnx (Nat.le_of_ble_eq_true rfl)) ?_
  refine x_icmpge hs dX10_runEnd_12 rfl (fun hs => ?_) (fun hs => ?_)
  · refine w_lv (lv' := [(4, vi x4)]) [3] rfl ?_
    cases hs
    exact he0 _ rfl
  · refine w_aload_n 0 dX10_runEnd_15 rfl rfl ?_
    refine x_getR 10 0 (b := 48) dX10_runEnd_16 (fxX10_9 rfl) rfl rfl (lt_of hnx (Nat.le_of_ble_eq_true rfl)) rfl ?_
    refine w_iload 3 dX10_runEnd_19 rfl ?_
    refine x_V_I M_X1_get [vi x4] [] hs rfl dX10_runEnd_21 (lkX10_125 _ rfl) (lt_of hnx (Nat.le_of_ble_eq_true rfl)) rfl rfl (Nat.le_of_ble_eq_true rfl) (Nat.le_of_ble_eq_true rfl) (Nat.le_of_ble_eq_true rfl) (Nat.le_of_ble_eq_true rfl) (c_By_get hnx 48 (Or.inl rfl) x4 s) (fun y1 hy1 hs => ?_)
    refine w_iload_n 1 dX10_runEnd_24 rfl rfl ?_
    refine x_icmplt hs dX10_runEnd_25 rfl (fun hs => ?_) (fun hs => ?_)
    · refine w_lv (lv' := [(4, vi x4)]) [3] rfl ?_
      cases hs
      exact he0 _ rfl
    · refine w_aload_n 0 dX10_runEnd_28 rfl rfl ?_
      refine x_getR 10 0 (b := 48) dX10_runEnd_29 (fxX10_9 rfl) rfl rfl (lt_of hnx (Nat.le_of_ble_eq_true rfl)) rfl ?_
      refine w_iload 3 dX10_runEnd_32 rfl ?_
      refine x_V_I M_X1_get [vi x4] [] hs rfl dX10_runEnd_34 (lkX10_125 _ rfl) (lt_of hnx (Nat.le_of_ble_eq_true rfl)) rfl rfl (Nat.le_of_ble_eq_true rfl) (Nat.le_of_ble_eq_true rfl) (Nat.le_of_ble_eq_true rfl) (Nat.le_of_ble_eq_true rfl) (c_By_get hnx 48 (Or.inl rfl) x4 s) (fun y2 hy2 hs => ?_)
      refine w_iload_n 2 dX10_runEnd_37 rfl rfl ?_
      refine x_icmpgt hs dX10_runEnd_38 rfl (fun hs => ?_) (fun hs => ?_)
      · refine w_lv (lv' := [(4, vi x4)]) [3] rfl ?_
        cases hs
        exact he0 _ rfl
      · refine x_iinc (lv' := [(4, vi (x4 + 1)), (0, .ref 52), (2, vi x2), (3, vi x3)]) 3 dX10_runEnd_41 rfl (Nat.le_of_ble_eq_true rfl) rfl ?_
        refine w_goto dX10_runEnd_44 rfl ?_
        refine w_lv (lv' := [(0, .ref 52), (2, vi x2), (3, vi x3), (4, vi (x4 + 1))]) [1, 2, 3, 0] rfl ?_
        cases hs
        exact hb _ rfl
set_option maxRecDepth 100000 in
theorem q_Re_runEnd_l3 {C : Cx} {nx : Nat} (hnx : 80 ≤ nx) (x2 : Int) (x3 : Int) (x4 : Int) (s : Sg) {o : Int} (hs : Re_runEnd_l3 x2 x3 x4 s = some o) : ww C M_X10_runEnd 1 0 0 nx (QI nx s o) (XF) nx 0 0 3 [(0, .ref 52), (2, vi x2), (3, vi x3), (4, vi x4)] [] (hp nx s) := by
  unfold Re_runEnd_l3 at hs
  refine bnd_e hs (fun x4_3 hw hs => ?_)
  have hE : ww C M_X10_runEnd 1 0 0 nx (QI nx s o) (XF) nx 0 0 47 [(4, vi x4_3)] [] (hp nx s) := by
    refine w_iload 0 dX10_runEnd_47 rfl ?_
    cases hs
    exact x_ireturn dX10_runEnd_49 rfl rfl (Nat.le_of_ble_eq_true rfl) (Nat.le_of_ble_eq_true rfl) ⟨rfl, rfl⟩
  refine whl_w (P := fun σ => ww C M_X10_runEnd 1 0 0 nx (QI nx s o) (XF) nx 0 0 3 [(0, .ref 52), (2, vi x2), (3, vi x3), (4, vi σ)] [] (hp nx s)) (E := fun ρ => ρ = x4_3) hw rfl ?_
  intro σ o' hs' hb' he'
  exact q_Re_runEnd_t3 hnx x2 x3 σ s hs' hb' (fun ρ e => by cases he' _ e; exact hE)
set_option maxRecDepth 100000 in
theorem c_Re_runEnd {C : Cx} {nx : Nat} (hnx : 80 ≤ nx) (x1 : Int) (x2 : Int) (x3 : Int) (s : Sg) : ∀ o, Re_runEnd x1 x2 x3 s = some o → mm C M_X10_runEnd 1 0 0 nx nx [.ref 52, vi x1, vi x2, vi x3] (hp nx s) (QI nx s o) (XF) := by
  intro o hs
  unfold Re_runEnd at hs
  refine mm_of rfl rfl (Nat.le_of_ble_eq_true rfl) ?_
  show ww C M_X10_runEnd 1 0 0 nx (QI nx s o) (XF) nx 0 0 0 [(0, .ref 52), (1, vi x1), (2, vi x2), (3, vi x3)] [] (hp nx s)
  refine w_iload_n 1 dX10_runEnd_0 rfl rfl ?_
  refine w_istore (lv' := [(4, vi x1), (0, .ref 52), (1, vi x1), (2, vi x2), (3, vi x3)]) dX10_runEnd_1 (Nat.le_of_ble_eq_true rfl) rfl ?_
  refine w_lv (lv' := [(0, .ref 52), (2, vi x2), (3, vi x3), (4, vi x1)]) [1, 3, 4, 0] rfl ?_
  exact q_Re_runEnd_l3 hnx x2 x3 x1 s hs
set_option maxRecDepth 100000 in
theorem q_Re_readNumber_t7 {C : Cx} {nx : Nat} (hnx : 80 ≤ nx) {Qr : Option Value → Hp → Prop} {Qx : String → Hp → Prop}  (x1 : Int) (x2 : Int) (s : Sg) {o : ((Int × Int) ⊕ (Int))} (hs : Re_readNumber_t7 x1 x2 s = some o) (hb : ∀ σ : Int × Int, o = .inl σ → ww C M_X10_readNumber 1 0 0 nx (Qr) (Qx) nx 0 0 7 [(0, .ref 52), (1, vi σ.1), (2, vi σ.2)] [] (hp nx s)) (he0 : ∀ ρ : Int, o = .inr ρ → ww C M_X10_readNumber 1 0 0 nx (Qr) (Qx) nx 0 0 44 [(1, vi ρ)] [] (hp nx s)) : ww C M_X10_readNumber 1 0 0 nx (Qr) (Qx) nx 0 0 7 [(0, .ref 52), (1, vi x1), (2, vi x2)] [] (hp nx s) := by
  unfold Re_readNumber_t7 at hs
  refine w_iload_n 2 dX10_readNumber_7 rfl rfl ?_
  refine w_aload_n 0 dX10_readNumber_8 rfl rfl ?_
  refine x_getI 10 6 dX10_readNumber_9 (fxX10_37 rfl) rfl rfl (lt_of hnx (Nat.le_of_ble_eq_true rfl)) ?_
  refine x_icmpge hs dX10_readNumber_12 rfl (fun hs => ?_) (fun hs => ?_)
  · refine w_lv (lv' := [(1, vi x1)]) [1] rfl ?_
    cases hs
    exact he0 _ rfl
  · refine x_sipush dX10_readNumber_15 (by decide) ?_
    refine x_bipush dX10_readNumber_18 (by decide) ?_
    refine w_iload_n 1 dX10_readNumber_20 rfl rfl ?_
    refine x_imul dX10_readNumber_21 ?_
    refine w_aload_n 0 dX10_readNumber_22 rfl rfl ?_
    refine x_getR 10 0 (b := 48) dX10_readNumber_23 (fxX10_9 rfl) rfl rfl (lt_of hnx (Nat.le_of_ble_eq_true rfl)) rfl ?_
    refine w_iload_n 2 dX10_readNumber_26 rfl rfl ?_
    refine x_V_I M_X1_get [vi x2] [vi (10 * x1), vi 1000] hs rfl dX10_readNumber_27 (lkX10_125 _ rfl) (lt_of hnx (Nat.le_of_ble_eq_true rfl)) rfl rfl (Nat.le_of_ble_eq_true rfl) (Nat.le_of_ble_eq_true rfl) (Nat.le_of_ble_eq_true rfl) (Nat.le_of_ble_eq_true rfl) (c_By_get hnx 48 (Or.inl rfl) x2 s) (fun y2 hy2 hs => ?_)
    refine x_iadd dX10_readNumber_30 ?_
    refine x_bipush dX10_readNumber_31 (by decide) ?_
    refine x_isub dX10_readNumber_33 ?_
    refine grd_e hs (fun hg3 hs => ?_)
    refine x_mmin hg3.1 hg3.2 dX10_readNumber_34 (lkX10_157 rfl) (Nat.le_of_ble_eq_true rfl) (Nat.le_of_ble_eq_true rfl) (Nat.le_of_ble_eq_true rfl) (Nat.le_of_ble_eq_true rfl) ?_
    refine x_istore_n (fun x1_4 => [(1, vi x1_4), (0, .ref 52), (2, vi x2)]) hs dX10_readNumber_37 rfl (Nat.le_of_ble_eq_true rfl) (fun _ => rfl) (fun x1_4 hs => ?_)
    refine x_iinc (lv' := [(2, vi (x2 + 1)), (1, vi x1_4), (0, .ref 52)]) 2 dX10_readNumber_38 rfl (Nat.le_of_ble_eq_true rfl) rfl ?_
    refine w_goto dX10_readNumber_41 rfl ?_
    refine w_lv (lv' := [(0, .ref 52), (1, vi x1_4), (2, vi (x2 + 1))]) [2, 1, 0] rfl ?_
    cases hs
    exact hb _ rfl
set_option maxRecDepth 100000 in
theorem q_Re_readNumber_l7 {C : Cx} {nx : Nat} (hnx : 80 ≤ nx) (x1 : Int) (x2 : Int) (s : Sg) {o : Int} (hs : Re_readNumber_l7 x1 x2 s = some o) : ww C M_X10_readNumber 1 0 0 nx (QI nx s o) (XF) nx 0 0 7 [(0, .ref 52), (1, vi x1), (2, vi x2)] [] (hp nx s) := by
  unfold Re_readNumber_l7 at hs
  refine bnd_e hs (fun x1_5 hw hs => ?_)
  have hE : ww C M_X10_readNumber 1 0 0 nx (QI nx s o) (XF) nx 0 0 44 [(1, vi x1_5)] [] (hp nx s) := by
    refine w_iload_n 0 dX10_readNumber_44 rfl rfl ?_
    cases hs
    exact x_ireturn dX10_readNumber_45 rfl rfl (Nat.le_of_ble_eq_true rfl) (Nat.le_of_ble_eq_true rfl) ⟨rfl, rfl⟩
  refine whl_w (P := fun σ => ww C M_X10_readNumber 1 0 0 nx (QI nx s o) (XF) nx 0 0 7 [(0, .ref 52), (1, vi σ.1), (2, vi σ.2)] [] (hp nx s)) (E := fun ρ => ρ = x1_5) hw rfl ?_
  intro σ o' hs' hb' he'
  exact q_Re_readNumber_t7 hnx σ.1 σ.2 s hs' hb' (fun ρ e => by cases he' _ e; exact hE)
set_option maxRecDepth 100000 in
theorem c_Re_readNumber {C : Cx} {nx : Nat} (hnx : 80 ≤ nx)  (s : Sg) : ∀ o, Re_readNumber  s = some o → mm C M_X10_readNumber 1 0 0 nx nx [.ref 52] (hp nx s) (QI nx s o) (XF) := by
  intro o hs
  unfold Re_readNumber at hs
  refine mm_of rfl rfl (Nat.le_of_ble_eq_true rfl) ?_
  show ww C M_X10_readNumber 1 0 0 nx (QI nx s o) (XF) nx 0 0 0 [(0, .ref 52)] [] (hp nx s)
  refine x_iconst dX10_readNumber_0 ?_
  refine w_istore_n (lv' := [(1, vi 0), (0, .ref 52)]) dX10_readNumber_1 rfl (Nat.le_of_ble_eq_true rfl) rfl ?_
  refine w_aload_n 1 dX10_readNumber_2 rfl rfl ?_
  refine x_getI 10 5 dX10_readNumber_3 (fxX10_52 rfl) rfl rfl (lt_of hnx (Nat.le_of_ble_eq_true rfl)) ?_
  refine x_istore_n (fun x2_1 => [(2, vi x2_1), (1, vi 0), (0, .ref 52)]) hs dX10_readNumber_6 rfl (Nat.le_of_ble_eq_true rfl) (fun _ => rfl) (fun x2_1 hs => ?_)
  refine w_lv (lv' := [(0, .ref 52), (1, vi 0), (2, vi x2_1)]) [2, 1, 0] rfl ?_
  exact q_Re_readNumber_l7 hnx 0 x2_1 s hs
set_option maxRecDepth 100000 in
theorem q_Re_advance_b151 {C : Cx} {nx : Nat} (hnx : 80 ≤ nx) (t1 : Int) (s : Sg) {o : Sg} (hs : Re_advance_b151 t1 s = some o) : ww C M_X10_advance 2 0 0 nx (QV nx o) (XF) nx 0 0 151 [] [vi t1, .ref 52] (hp nx s) := by
  unfold Re_advance_b151 at hs
  refine x_putI 10 6 dX10_advance_151 (poX10_37 rfl) rfl rfl (lt_of hnx (Nat.le_of_ble_eq_true rfl)) ?_
  refine nam_s hs (fun s5 hs => ?_)
  cases hs
  exact w_return rfl dX10_advance_154 rfl (Nat.le_of_ble_eq_true rfl) (Nat.le_of_ble_eq_true rfl) ⟨rfl, rfl⟩
set_option maxRecDepth 100000 in
theorem q_Re_advance_b129 {C : Cx} {nx : Nat} (hnx : 80 ≤ nx) (x1 : Int) (t1 : Int) (s : Sg) {o : Sg} (hs : Re_advance_b129 x1 t1 s = some o) : ww C M_X10_advance 2 0 0 nx (QV nx o) (XF) nx 0 0 129 [(0, .ref 52), (1, vi x1)] [vi t1, .ref 52] (hp nx s) := by
  unfold Re_advance_b129 at hs
  refine x_putI 10 4 dX10_advance_129 (poX10_46 rfl) rfl rfl (lt_of hnx (Nat.le_of_ble_eq_true rfl)) ?_
  refine nam_s hs (fun s4 hs => ?_)
  refine w_aload_n 0 dX10_advance_132 rfl rfl ?_
  refine w_iload_n 1 dX10_advance_133 rfl rfl ?_
  refine x_iconst dX10_advance_134 ?_
  refine x_icmpne hs dX10_advance_135 rfl (fun hs => ?_) (fun hs => ?_)
  · refine w_aload_n 0 dX10_advance_145 rfl rfl ?_
    refine x_getI 10 5 dX10_advance_146 (fxX10_52 rfl) rfl rfl (lt_of hnx (Nat.le_of_ble_eq_true rfl)) ?_
    refine x_iconst dX10_advance_149 ?_
    refine x_iadd dX10_advance_150 ?_
    refine w_lv (lv' := []) [] rfl ?_
    exact q_Re_advance_b151 hnx ((gi s4 52 5) + 1) s4 hs
  · refine w_aload_n 0 dX10_advance_138 rfl rfl ?_
    refine x_getI 10 5 dX10_advance_139 (fxX10_52 rfl) rfl rfl (lt_of hnx (Nat.le_of_ble_eq_true rfl)) ?_
    refine w_goto dX10_advance_142 rfl ?_
    refine w_lv (lv' := []) [] rfl ?_
    exact q_Re_advance_b151 hnx (gi s4 52 5) s4 hs
set_option maxRecDepth 100000 in
theorem q_Re_advance_b108 {C : Cx} {nx : Nat} (hnx : 80 ≤ nx) (x1 : Int) (s : Sg) {o : Sg} (hs : Re_advance_b108 x1 s = some o) : ww C M_X10_advance 2 0 0 nx (QV nx o) (XF) nx 0 0 108 [(0, .ref 52), (1, vi x1)] [] (hp nx s) := by
  unfold Re_advance_b108 at hs
  refine w_aload_n 0 dX10_advance_108 rfl rfl ?_
  refine w_iload_n 1 dX10_advance_109 rfl rfl ?_
  refine x_iconst dX10_advance_110 ?_
  refine x_icmpne hs dX10_advance_111 rfl (fun hs => ?_) (fun hs => ?_)
  · refine w_iload_n 1 dX10_advance_118 rfl rfl ?_
    refine x_bipush dX10_advance_119 (by decide) ?_
    refine x_icmpne hs dX10_advance_121 rfl (fun hs => ?_) (fun hs => ?_)
    · refine x_iconst dX10_advance_128 ?_
      exact q_Re_advance_b129 hnx x1 4 s hs
    · refine x_iconst dX10_advance_124 ?_
      refine w_goto dX10_advance_125 rfl ?_
      exact q_Re_advance_b129 hnx x1 3 s hs
  · refine x_iconst dX10_advance_114 ?_
    refine w_goto dX10_advance_115 rfl ?_
    exact q_Re_advance_b129 hnx x1 0 s hs
set_option maxRecDepth 100000 in
theorem q_Re_advance_b64 {C : Cx} {nx : Nat} (hnx : 80 ≤ nx) (x1 : Int) (s : Sg) {o : Sg} (hs : Re_advance_b64 x1 s = some o) : ww C M_X10_advance 2 0 0 nx (QV nx o) (XF) nx 0 0 64 [(0, .ref 52), (1, vi x1)] [] (hp nx s) := by
  unfold Re_advance_b64 at hs
  refine w_iload_n 1 dX10_advance_64 rfl rfl ?_
  refine x_bipush dX10_advance_65 (by decide) ?_
  refine x_icmplt hs dX10_advance_67 rfl (fun hs => ?_) (fun hs => ?_)
  · exact q_Re_advance_b108 hnx x1 s hs
  · refine w_iload_n 1 dX10_advance_70 rfl rfl ?_
    refine x_bipush dX10_advance_71 (by decide) ?_
    refine x_icmpgt hs dX10_advance_73 rfl (fun hs => ?_) (fun hs => ?_)
    · exact q_Re_advance_b108 hnx x1 s hs
    · refine w_aload_n 0 dX10_advance_76 rfl rfl ?_
      refine x_iconst dX10_advance_77 ?_
      refine x_putI 10 4 dX10_advance_78 (poX10_46 rfl) rfl rfl (lt_of hnx (Nat.le_of_ble_eq_true rfl)) ?_
      refine nam_s hs (fun s6 hs => ?_)
      refine w_aload_n 0 dX10_advance_81 rfl rfl ?_
      refine w_aload_n 0 dX10_advance_82 rfl rfl ?_
      refine w_aload_n 0 dX10_advance_83 rfl rfl ?_
      refine x_getI 10 5 dX10_advance_84 (fxX10_52 rfl) rfl rfl (lt_of hnx (Nat.le_of_ble_eq_true rfl)) ?_
      refine x_bipush dX10_advance_87 (by decide) ?_
      refine x_bipush dX10_advance_89 (by decide) ?_
      refine x_V_I M_X10_runEnd [vi (gi s6 52 5), vi 48, vi 57] [.ref 52] hs rfl dX10_advance_91 (lkX10_148 _ rfl) (lt_of hnx (Nat.le_of_ble_eq_true rfl)) rfl rfl (Nat.le_of_ble_eq_true rfl) (Nat.le_of_ble_eq_true rfl) (Nat.le_of_ble_eq_true rfl) (Nat.le_of_ble_eq_true rfl) (c_Re_runEnd hnx (gi s6 52 5) 48 57 s6) (fun y7 hy7 hs => ?_)
      refine x_putI 10 6 dX10_advance_94 (poX10_37 rfl) rfl rfl (lt_of hnx (Nat.le_of_ble_eq_true rfl)) ?_
      refine nam_s hs (fun s8 hs => ?_)
      refine w_aload_n 0 dX10_advance_97 rfl rfl ?_
      refine w_aload_n 0 dX10_advance_98 rfl rfl ?_
      refine x_V_I M_X10_readNumber [] [.ref 52] hs rfl dX10_advance_99 (lkX10_152 _ rfl) (lt_of hnx (Nat.le_of_ble_eq_true rfl)) rfl rfl (Nat.le_of_ble_eq_true rfl) (Nat.le_of_ble_eq_true rfl) (Nat.le_of_ble_eq_true rfl) (Nat.le_of_ble_eq_true rfl) (c_Re_readNumber hnx s8) (fun y9 hy9 hs => ?_)
      refine x_putI 10 7 dX10_advance_102 (poX10_65 rfl) rfl rfl (lt_of hnx (Nat.le_of_ble_eq_true rfl)) ?_
      refine nam_s hs (fun s10 hs => ?_)
      refine w_goto dX10_advance_105 rfl ?_
      cases hs
      exact w_return rfl dX10_advance_154 rfl (Nat.le_of_ble_eq_true rfl) (Nat.le_of_ble_eq_true rfl) ⟨rfl, rfl⟩
set_option maxRecDepth 100000 in
theorem c_Re_advance {C : Cx} {nx : Nat} (hnx : 80 ≤ nx)  (s : Sg) : ∀ o, Re_advance  s = some o → mm C M_X10_advance 2 0 0 nx nx [.ref 52] (hp nx s) (QV nx o) (XF) := by
  intro o hs
  unfold Re_advance at hs
  refine mm_of rfl rfl (Nat.le_of_ble_eq_true rfl) ?_
  show ww C M_X10_advance 2 0 0 nx (QV nx o) (XF) nx 0 0 0 [(0, .ref 52)] [] (hp nx s)
  refine w_aload_n 0 dX10_advance_0 rfl rfl ?_
  refine w_aload_n 0 dX10_advance_1 rfl rfl ?_
  refine w_aload_n 0 dX10_advance_2 rfl rfl ?_
  refine x_getI 10 6 dX10_advance_3 (fxX10_37 rfl) rfl rfl (lt_of hnx (Nat.le_of_ble_eq_true rfl)) ?_
  refine x_bipush dX10_advance_6 (by decide) ?_
  refine x_bipush dX10_advance_8 (by decide) ?_
  refine x_V_I M_X10_runEnd [vi (gi s 52 6), vi 32, vi 32] [.ref 52] hs rfl dX10_advance_10 (lkX10_148 _ rfl) (lt_of hnx (Nat.le_of_ble_eq_true rfl)) rfl rfl (Nat.le_of_ble_eq_true rfl) (Nat.le_of_ble_eq_true rfl) (Nat.le_of_ble_eq_true rfl) (Nat.le_of_ble_eq_true rfl) (c_Re_runEnd hnx (gi s 52 6) 32 32 s) (fun y1 hy1 hs => ?_)
  refine x_putI 10 5 dX10_advance_13 (poX10_52 rfl) rfl rfl (lt_of hnx (Nat.le_of_ble_eq_true rfl)) ?_
  refine nam_s hs (fun s2 hs => ?_)
  refine w_aload_n 0 dX10_advance_16 rfl rfl ?_
  refine x_getR 10 0 (b := 48) dX10_advance_17 (fxX10_9 rfl) rfl rfl (lt_of hnx (Nat.le_of_ble_eq_true rfl)) rfl ?_
  refine w_aload_n 0 dX10_advance_20 rfl rfl ?_
  refine x_getI 10 5 dX10_advance_21 (fxX10_52 rfl) rfl rfl (lt_of hnx (Nat.le_of_ble_eq_true rfl)) ?_
  refine x_V_I M_X1_get [vi (gi s2 52 5)] [] hs rfl dX10_advance_24 (lkX10_125 _ rfl) (lt_of hnx (Nat.le_of_ble_eq_true rfl)) rfl rfl (Nat.le_of_ble_eq_true rfl) (Nat.le_of_ble_eq_true rfl) (Nat.le_of_ble_eq_true rfl) (Nat.le_of_ble_eq_true rfl) (c_By_get hnx 48 (Or.inl rfl) (gi s2 52 5) s2) (fun y3 hy3 hs => ?_)
  refine w_istore_n (lv' := [(1, vi y3), (0, .ref 52)]) dX10_advance_27 rfl (Nat.le_of_ble_eq_true rfl) rfl ?_
  refine w_iload_n 0 dX10_advance_28 rfl rfl ?_
  refine x_bipush dX10_advance_29 (by decide) ?_
  refine x_icmplt hs dX10_advance_31 rfl (fun hs => ?_) (fun hs => ?_)
  · refine w_lv (lv' := [(0, .ref 52), (1, vi y3)]) [1, 0] rfl ?_
    exact q_Re_advance_b64 hnx y3 s2 hs
  · refine w_iload_n 0 dX10_advance_34 rfl rfl ?_
    refine x_bipush dX10_advance_35 (by decide) ?_
    refine x_icmpgt hs dX10_advance_37 rfl (fun hs => ?_) (fun hs => ?_)
    · refine w_lv (lv' := [(0, .ref 52), (1, vi y3)]) [1, 0] rfl ?_
      exact q_Re_advance_b64 hnx y3 s2 hs
    · refine w_aload_n 1 dX10_advance_40 rfl rfl ?_
      refine x_iconst dX10_advance_41 ?_
      refine x_putI 10 4 dX10_advance_42 (poX10_46 rfl) rfl rfl (lt_of hnx (Nat.le_of_ble_eq_true rfl)) ?_
      refine nam_s hs (fun s11 hs => ?_)
      refine w_aload_n 1 dX10_advance_45 rfl rfl ?_
      refine w_aload_n 1 dX10_advance_46 rfl rfl ?_
      refine w_aload_n 1 dX10_advance_47 rfl rfl ?_
      refine x_getI 10 5 dX10_advance_48 (fxX10_52 rfl) rfl rfl (lt_of hnx (Nat.le_of_ble_eq_true rfl)) ?_
      refine x_bipush dX10_advance_51 (by decide) ?_
      refine x_bipush dX10_advance_53 (by decide) ?_
      refine x_V_I M_X10_runEnd [vi (gi s11 52 5), vi 97, vi 122] [.ref 52] hs rfl dX10_advance_55 (lkX10_148 _ rfl) (lt_of hnx (Nat.le_of_ble_eq_true rfl)) rfl rfl (Nat.le_of_ble_eq_true rfl) (Nat.le_of_ble_eq_true rfl) (Nat.le_of_ble_eq_true rfl) (Nat.le_of_ble_eq_true rfl) (c_Re_runEnd hnx (gi s11 52 5) 97 122 s11) (fun y12 hy12 hs => ?_)
      refine x_putI 10 6 dX10_advance_58 (poX10_37 rfl) rfl rfl (lt_of hnx (Nat.le_of_ble_eq_true rfl)) ?_
      refine nam_s hs (fun s13 hs => ?_)
      refine w_goto dX10_advance_61 rfl ?_
      cases hs
      exact w_return rfl dX10_advance_154 rfl (Nat.le_of_ble_eq_true rfl) (Nat.le_of_ble_eq_true rfl) ⟨rfl, rfl⟩
set_option maxRecDepth 100000 in
theorem q_Re_isWord_t28 {C : Cx} {nx : Nat} (hnx : 80 ≤ nx) {Qr : Option Value → Hp → Prop} {Qx : String → Hp → Prop}  (r1 : Nat) (h_r1 : isStr r1) (x2 : Int) (s : Sg) {o : ((Int) ⊕ ((Unit) ⊕ (Unit)))} (hs : Re_isWord_t28 r1 x2 s = some o) (hb : ∀ σ : Int, o = .inl σ → ww C M_X10_isWord 9 0 0 nx (Qr) (Qx) nx 0 0 28 [(0, .ref 52), (1, .ref (2000 + r1)), (2, vi σ)] [] (hp nx s)) (he0 : ∀ ρ : Unit, o = .inr (.inl ρ) → ww C M_X10_isWord 9 0 0 nx (Qr) (Qx) nx 0 0 57 [] [] (hp nx s)) (he1 : ∀ ρ : Unit, o = .inr (.inr ρ) → ww C M_X10_isWord 9 0 0 nx (Qr) (Qx) nx 0 0 65 [] [] (hp nx s)) : ww C M_X10_isWord 9 0 0 nx (Qr) (Qx) nx 0 0 28 [(0, .ref 52), (1, .ref (2000 + r1)), (2, vi x2)] [] (hp nx s) := by
  unfold Re_isWord_t28 at hs
  refine w_iload_n 2 dX10_isWord_28 rfl rfl ?_
  refine w_aload_n 1 dX10_isWord_29 rfl rfl ?_
  refine x_slen dX10_isWord_30 (lkstX10_139 _ rfl) h_r1 (Nat.le_of_ble_eq_true rfl) (Nat.le_of_ble_eq_true rfl) (Nat.le_of_ble_eq_true rfl) (Nat.le_of_ble_eq_true rfl) ?_
  refine x_icmpge hs dX10_isWord_33 rfl (fun hs => ?_) (fun hs => ?_)
  · refine w_lv (lv' := []) [] rfl ?_
    cases hs
    exact he1 _ rfl
  · refine w_aload_n 0 dX10_isWord_36 rfl rfl ?_
    refine x_getR 10 0 (b := 48) dX10_isWord_37 (fxX10_9 rfl) rfl rfl (lt_of hnx (Nat.le_of_ble_eq_true rfl)) rfl ?_
    refine w_aload_n 0 dX10_isWord_40 rfl rfl ?_
    refine x_getI 10 5 dX10_isWord_41 (fxX10_52 rfl) rfl rfl (lt_of hnx (Nat.le_of_ble_eq_true rfl)) ?_
    refine w_iload_n 2 dX10_isWord_44 rfl rfl ?_
    refine x_iadd dX10_isWord_45 ?_
    refine x_V_I M_X1_get [vi ((gi s 52 5) + x2)] [] hs rfl dX10_isWord_46 (lkX10_125 _ rfl) (lt_of hnx (Nat.le_of_ble_eq_true rfl)) rfl rfl (Nat.le_of_ble_eq_true rfl) (Nat.le_of_ble_eq_true rfl) (Nat.le_of_ble_eq_true rfl) (Nat.le_of_ble_eq_true rfl) (c_By_get hnx 48 (Or.inl rfl) ((gi s 52 5) + x2) s) (fun y1 hy1 hs => ?_)
    refine w_aload_n 1 dX10_isWord_49 rfl rfl ?_
    refine w_iload_n 2 dX10_isWord_50 rfl rfl ?_
    refine grd_e hs (fun hg2 hs => ?_)
    refine x_schr hg2 dX10_isWord_51 (lkstX10_144 _ rfl) h_r1 (Nat.le_of_ble_eq_true rfl) (Nat.le_of_ble_eq_true rfl) (Nat.le_of_ble_eq_true rfl) (Nat.le_of_ble_eq_true rfl) ?_
    refine x_icmpeq hs dX10_isWord_54 rfl (fun hs => ?_) (fun hs => ?_)
    · refine x_iinc (lv' := [(2, vi (x2 + 1)), (0, .ref 52), (1, .ref (2000 + r1))]) 2 dX10_isWord_59 rfl (Nat.le_of_ble_eq_true rfl) rfl ?_
      refine w_goto dX10_isWord_62 rfl ?_
      refine w_lv (lv' := [(0, .ref 52), (1, .ref (2000 + r1)), (2, vi (x2 + 1))]) [1, 2, 0] rfl ?_
      cases hs
      exact hb _ rfl
    · refine w_lv (lv' := []) [] rfl ?_
      cases hs
      exact he0 _ rfl
set_option maxRecDepth 100000 in
theorem q_Re_isWord_l28 {C : Cx} {nx : Nat} (hnx : 80 ≤ nx) (r1 : Nat) (h_r1 : isStr r1) (x2 : Int) (s : Sg) {o : Int} (hs : Re_isWord_l28 r1 x2 s = some o) : ww C M_X10_isWord 9 0 0 nx (QI nx s o) (XF) nx 0 0 28 [(0, .ref 52), (1, .ref (2000 + r1)), (2, vi x2)] [] (hp nx s) := by
  unfold Re_isWord_l28 at hs
  refine bnd_e hs (fun ρ hw hs => ?_)
  rcases ρ with ⟨⟩ | ⟨⟩
  · have hE : ww C M_X10_isWord 9 0 0 nx (QI nx s o) (XF) nx 0 0 57 [] [] (hp nx s) := by
      refine x_iconst dX10_isWord_57 ?_
      cases hs
      exact x_zreturn (Or.inl rfl) dX10_isWord_58 rfl rfl (Nat.le_of_ble_eq_true rfl) (Nat.le_of_ble_eq_true rfl) ⟨rfl, rfl⟩
    refine whl_w (P := fun σ => ww C M_X10_isWord 9 0 0 nx (QI nx s o) (XF) nx 0 0 28 [(0, .ref 52), (1, .ref (2000 + r1)), (2, vi σ)] [] (hp nx s)) (E := fun ρ => ρ = (.inl ())) hw rfl ?_
    intro σ o' hs' hb' he'
    exact q_Re_isWord_t28 hnx r1 h_r1 σ s hs' hb' (fun ρ e => by cases he' _ e; exact hE) (fun ρ e => by cases he' _ e)
  · have hE : ww C M_X10_isWord 9 0 0 nx (QI nx s o) (XF) nx 0 0 65 [] [] (hp nx s) := by
      refine x_iconst dX10_isWord_65 ?_
      cases hs
      exact x_zreturn (Or.inr rfl) dX10_isWord_66 rfl rfl (Nat.le_of_ble_eq_true rfl) (Nat.le_of_ble_eq_true rfl) ⟨rfl, rfl⟩
    refine whl_w (P := fun σ => ww C M_X10_isWord 9 0 0 nx (QI nx s o) (XF) nx 0 0 28 [(0, .ref 52), (1, .ref (2000 + r1)), (2, vi σ)] [] (hp nx s)) (E := fun ρ => ρ = (.inr ())) hw rfl ?_
    intro σ o' hs' hb' he'
    exact q_Re_isWord_t28 hnx r1 h_r1 σ s hs' hb' (fun ρ e => by cases he' _ e) (fun ρ e => by cases he' _ e; exact hE)
set_option maxRecDepth 100000 in
theorem c_Re_isWord {C : Cx} {nx : Nat} (hnx : 80 ≤ nx) (r1 : Nat) (h_r1 : isStr r1) (s : Sg) : ∀ o, Re_isWord r1 s = some o → mm C M_X10_isWord 9 0 0 nx nx [.ref 52, .ref (2000 + r1)] (hp nx s) (QI nx s o) (XF) := by
  intro o hs
  unfold Re_isWord at hs
  refine mm_of rfl rfl (Nat.le_of_ble_eq_true rfl) ?_
  show ww C M_X10_isWord 9 0 0 nx (QI nx s o) (XF) nx 0 0 0 [(0, .ref 52), (1, .ref (2000 + r1))] [] (hp nx s)
  refine w_aload_n 0 dX10_isWord_0 rfl rfl ?_
  refine x_getI 10 4 dX10_isWord_1 (fxX10_46 rfl) rfl rfl (lt_of hnx (Nat.le_of_ble_eq_true rfl)) ?_
  refine x_iconst dX10_isWord_4 ?_
  refine x_icmpne hs dX10_isWord_5 rfl (fun hs => ?_) (fun hs => ?_)
  · refine x_iconst dX10_isWord_24 ?_
    cases hs
    exact x_zreturn (Or.inl rfl) dX10_isWord_25 rfl rfl (Nat.le_of_ble_eq_true rfl) (Nat.le_of_ble_eq_true rfl) ⟨rfl, rfl⟩
  · refine w_aload_n 0 dX10_isWord_8 rfl rfl ?_
    refine x_getI 10 6 dX10_isWord_9 (fxX10_37 rfl) rfl rfl (lt_of hnx (Nat.le_of_ble_eq_true rfl)) ?_
    refine w_aload_n 0 dX10_isWord_12 rfl rfl ?_
    refine x_getI 10 5 dX10_isWord_13 (fxX10_52 rfl) rfl rfl (lt_of hnx (Nat.le_of_ble_eq_true rfl)) ?_
    refine x_isub dX10_isWord_16 ?_
    refine w_aload_n 1 dX10_isWord_17 rfl rfl ?_
    refine x_slen dX10_isWord_18 (lkstX10_139 _ rfl) h_r1 (Nat.le_of_ble_eq_true rfl) (Nat.le_of_ble_eq_true rfl) (Nat.le_of_ble_eq_true rfl) (Nat.le_of_ble_eq_true rfl) ?_
    refine x_icmpeq hs dX10_isWord_21 rfl (fun hs => ?_) (fun hs => ?_)
    · refine x_iconst dX10_isWord_26 ?_
      refine w_istore_n (lv' := [(2, vi 0), (0, .ref 52), (1, .ref (2000 + r1))]) dX10_isWord_27 rfl (Nat.le_of_ble_eq_true rfl) rfl ?_
      refine w_lv (lv' := [(0, .ref 52), (1, .ref (2000 + r1)), (2, vi 0)]) [1, 2, 0] rfl ?_
      exact q_Re_isWord_l28 hnx r1 h_r1 0 s hs
    · refine x_iconst dX10_isWord_24 ?_
      cases hs
      exact x_zreturn (Or.inl rfl) dX10_isWord_25 rfl rfl (Nat.le_of_ble_eq_true rfl) (Nat.le_of_ble_eq_true rfl) ⟨rfl, rfl⟩
set_option maxRecDepth 100000 in
theorem c_Re_fail {C : Cx} {nx : Nat} (hnx : 80 ≤ nx) (x1 : Int) (x2 : Int) (s : Sg) : ∀ o, Re_fail x1 x2 s = some o → mm C M_X10_fail 0 0 0 nx nx [.ref 52, vi x1, vi x2] (hp nx s) (QV nx o) (XF) := by
  intro o hs
  unfold Re_fail at hs
  refine mm_of rfl rfl (Nat.le_of_ble_eq_true rfl) ?_
  show ww C M_X10_fail 0 0 0 nx (QV nx o) (XF) nx 0 0 0 [(0, .ref 52), (1, vi x1), (2, vi x2)] [] (hp nx s)
  refine w_aload_n 0 dX10_fail_0 rfl rfl ?_
  refine w_iload_n 1 dX10_fail_1 rfl rfl ?_
  refine x_putI 10 8 dX10_fail_2 (poX10_30 rfl) rfl rfl (lt_of hnx (Nat.le_of_ble_eq_true rfl)) ?_
  refine nam_s hs (fun s1 hs => ?_)
  refine w_aload_n 0 dX10_fail_5 rfl rfl ?_
  refine w_iload_n 2 dX10_fail_6 rfl rfl ?_
  refine x_putI 10 9 dX10_fail_7 (poX10_133 rfl) rfl rfl (lt_of hnx (Nat.le_of_ble_eq_true rfl)) ?_
  refine nam_s hs (fun s2 hs => ?_)
  cases hs
  exact w_return rfl dX10_fail_10 rfl (Nat.le_of_ble_eq_true rfl) (Nat.le_of_ble_eq_true rfl) ⟨rfl, rfl⟩
set_option maxRecDepth 100000 in
theorem q_Re_readBoard_b58 {C : Cx} {nx : Nat} (hnx : 80 ≤ nx)  (s : Sg) {o : Sg} (hs : Re_readBoard_b58  s = some o) : ww C M_X10_readBoard 10 0 0 nx (QV nx o) (XF) nx 0 0 58 [(0, .ref 52)] [] (hp nx s) := by
  unfold Re_readBoard_b58 at hs
  refine w_aload_n 0 dX10_readBoard_58 rfl rfl ?_
  refine x_iconst dX10_readBoard_59 ?_
  refine w_aload_n 0 dX10_readBoard_60 rfl rfl ?_
  refine x_getI 10 5 dX10_readBoard_61 (fxX10_52 rfl) rfl rfl (lt_of hnx (Nat.le_of_ble_eq_true rfl)) ?_
  refine x_V_V M_X10_fail [vi 2, vi (gi s 52 5)] [] hs rfl dX10_readBoard_64 (lkX10_55 _ rfl) (lt_of hnx (Nat.le_of_ble_eq_true rfl)) rfl rfl (Nat.le_of_ble_eq_true rfl) (Nat.le_of_ble_eq_true rfl) (Nat.le_of_ble_eq_true rfl) (Nat.le_of_ble_eq_true rfl) (c_Re_fail hnx 2 (gi s 52 5) s) (fun s5 hs5 hs => ?_)
  cases hs
  exact w_return rfl dX10_readBoard_67 rfl (Nat.le_of_ble_eq_true rfl) (Nat.le_of_ble_eq_true rfl) ⟨rfl, rfl⟩
set_option maxRecDepth 100000 in
theorem c_Re_readBoard {C : Cx} {nx : Nat} (hnx : 80 ≤ nx)  (s : Sg) : ∀ o, Re_readBoard  s = some o → mm C M_X10_readBoard 10 0 0 nx nx [.ref 52] (hp nx s) (QV nx o) (XF) := by
  intro o hs
  unfold Re_readBoard at hs
  refine mm_of rfl rfl (Nat.le_of_ble_eq_true rfl) ?_
  show ww C M_X10_readBoard 10 0 0 nx (QV nx o) (XF) nx 0 0 0 [(0, .ref 52)] [] (hp nx s)
  refine w_aload_n 0 dX10_readBoard_0 rfl rfl ?_
  refine x_ldcS dX10_readBoard_1 (srX10_59 (M := M_X10_readBoard) rfl) (by decide) ?_
  refine x_V_I M_X10_isWord [.ref 2000] [] hs rfl dX10_readBoard_3 (lkX10_61 _ rfl) (lt_of hnx (Nat.le_of_ble_eq_true rfl)) rfl rfl (Nat.le_of_ble_eq_true rfl) (Nat.le_of_ble_eq_true rfl) (Nat.le_of_ble_eq_true rfl) (Nat.le_of_ble_eq_true rfl) (c_Re_isWord hnx 0 (Or.inl (by decide)) s) (fun y1 hy1 hs => ?_)
  refine x_ifne hs dX10_readBoard_6 rfl (fun hs => ?_) (fun hs => ?_)
  · refine w_aload_n 0 dX10_readBoard_19 rfl rfl ?_
    refine x_V_V M_X10_advance [] [] hs rfl dX10_readBoard_20 (lkX10_40 _ rfl) (lt_of hnx (Nat.le_of_ble_eq_true rfl)) rfl rfl (Nat.le_of_ble_eq_true rfl) (Nat.le_of_ble_eq_true rfl) (Nat.le_of_ble_eq_true rfl) (Nat.le_of_ble_eq_true rfl) (c_Re_advance hnx s) (fun s3 hs3 hs => ?_)
    refine w_aload_n 0 dX10_readBoard_23 rfl rfl ?_
    refine x_getI 10 4 dX10_readBoard_24 (fxX10_46 rfl) rfl rfl (lt_of hnx (Nat.le_of_ble_eq_true rfl)) ?_
    refine x_iconst dX10_readBoard_27 ?_
    refine x_icmpeq hs dX10_readBoard_28 rfl (fun hs => ?_) (fun hs => ?_)
    · refine w_aload_n 0 dX10_readBoard_41 rfl rfl ?_
      refine x_getI 10 7 dX10_readBoard_42 (fxX10_65 rfl) rfl rfl (lt_of hnx (Nat.le_of_ble_eq_true rfl)) ?_
      refine x_iconst dX10_readBoard_45 ?_
      refine x_icmplt hs dX10_readBoard_46 rfl (fun hs => ?_) (fun hs => ?_)
      · exact q_Re_readBoard_b58 hnx  s3 hs
      · refine w_aload_n 0 dX10_readBoard_49 rfl rfl ?_
        refine x_getI 10 7 dX10_readBoard_50 (fxX10_65 rfl) rfl rfl (lt_of hnx (Nat.le_of_ble_eq_true rfl)) ?_
        refine x_bipush dX10_readBoard_53 (by decide) ?_
        refine x_icmple hs dX10_readBoard_55 rfl (fun hs => ?_) (fun hs => ?_)
        · refine w_aload_n 0 dX10_readBoard_68 rfl rfl ?_
          refine x_getR 10 3 (b := 53) dX10_readBoard_69 (fxX10_26 rfl) rfl rfl (lt_of hnx (Nat.le_of_ble_eq_true rfl)) rfl ?_
          refine w_aload_n 0 dX10_readBoard_72 rfl rfl ?_
          refine x_getI 10 7 dX10_readBoard_73 (fxX10_65 rfl) rfl rfl (lt_of hnx (Nat.le_of_ble_eq_true rfl)) ?_
          refine x_V_V M_X9_begin [vi (gi s3 52 7)] [] hs rfl dX10_readBoard_76 (lkX10_68 _ rfl) (lt_of hnx (Nat.le_of_ble_eq_true rfl)) rfl rfl (Nat.le_of_ble_eq_true rfl) (Nat.le_of_ble_eq_true rfl) (Nat.le_of_ble_eq_true rfl) (Nat.le_of_ble_eq_true rfl) (c_Po_begin hnx 53 (show 53 ∈ posL by decide) (gi s3 52 7) s3) (fun s7 hs7 hs => ?_)
          refine w_aload_n 0 dX10_readBoard_79 rfl rfl ?_
          refine x_getR 10 1 (b := 1) dX10_readBoard_80 (fxX10_15 rfl) rfl rfl (lt_of hnx (Nat.le_of_ble_eq_true rfl)) rfl ?_
          refine w_aload_n 0 dX10_readBoard_83 rfl rfl ?_
          refine x_getI 10 7 dX10_readBoard_84 (fxX10_65 rfl) rfl rfl (lt_of hnx (Nat.le_of_ble_eq_true rfl)) ?_
          refine x_V_V M_X5_fit [vi (gi s7 52 7)] [] hs rfl dX10_readBoard_87 (lkX10_72 _ rfl) (lt_of hnx (Nat.le_of_ble_eq_true rfl)) rfl rfl (Nat.le_of_ble_eq_true rfl) (Nat.le_of_ble_eq_true rfl) (Nat.le_of_ble_eq_true rfl) (Nat.le_of_ble_eq_true rfl) (c_Gr_fit hnx (gi s7 52 7) s7) (fun s9 hs9 hs => ?_)
          refine w_aload_n 0 dX10_readBoard_90 rfl rfl ?_
          refine x_V_V M_X10_advance [] [] hs rfl dX10_readBoard_91 (lkX10_40 _ rfl) (lt_of hnx (Nat.le_of_ble_eq_true rfl)) rfl rfl (Nat.le_of_ble_eq_true rfl) (Nat.le_of_ble_eq_true rfl) (Nat.le_of_ble_eq_true rfl) (Nat.le_of_ble_eq_true rfl) (c_Re_advance hnx s9) (fun s11 hs11 hs => ?_)
          refine w_aload_n 0 dX10_readBoard_94 rfl rfl ?_
          refine x_ldcS dX10_readBoard_95 (srX10_77 (M := M_X10_readBoard) rfl) (by decide) ?_
          refine x_V_I M_X10_isWord [.ref 2001] [] hs rfl dX10_readBoard_97 (lkX10_61 _ rfl) (lt_of hnx (Nat.le_of_ble_eq_true rfl)) rfl rfl (Nat.le_of_ble_eq_true rfl) (Nat.le_of_ble_eq_true rfl) (Nat.le_of_ble_eq_true rfl) (Nat.le_of_ble_eq_true rfl) (c_Re_isWord hnx 1 (Or.inl (by decide)) s11) (fun y12 hy12 hs => ?_)
          refine x_ifeq hs dX10_readBoard_100 rfl (fun hs => ?_) (fun hs => ?_)
          · cases hs
            exact w_return rfl dX10_readBoard_115 rfl (Nat.le_of_ble_eq_true rfl) (Nat.le_of_ble_eq_true rfl) ⟨rfl, rfl⟩
          · refine w_aload_n 0 dX10_readBoard_103 rfl rfl ?_
            refine x_getR 10 3 (b := 53) dX10_readBoard_104 (fxX10_26 rfl) rfl rfl (lt_of hnx (Nat.le_of_ble_eq_true rfl)) rfl ?_
            refine x_iconst dX10_readBoard_107 ?_
            refine x_putZ 9 3 (Or.inr rfl) dX10_readBoard_108 (poX10_79 rfl) rfl rfl (lt_of hnx (Nat.le_of_ble_eq_true rfl)) ?_
            refine nam_s hs (fun s13 hs => ?_)
            refine w_aload_n 0 dX10_readBoard_111 rfl rfl ?_
            refine x_V_V M_X10_advance [] [] hs rfl dX10_readBoard_112 (lkX10_40 _ rfl) (lt_of hnx (Nat.le_of_ble_eq_true rfl)) rfl rfl (Nat.le_of_ble_eq_true rfl) (Nat.le_of_ble_eq_true rfl) (Nat.le_of_ble_eq_true rfl) (Nat.le_of_ble_eq_true rfl) (c_Re_advance hnx s13) (fun s15 hs15 hs => ?_)
            cases hs
            exact w_return rfl dX10_readBoard_115 rfl (Nat.le_of_ble_eq_true rfl) (Nat.le_of_ble_eq_true rfl) ⟨rfl, rfl⟩
        · exact q_Re_readBoard_b58 hnx  s3 hs
    · refine w_aload_n 0 dX10_readBoard_31 rfl rfl ?_
      refine x_iconst dX10_readBoard_32 ?_
      refine w_aload_n 0 dX10_readBoard_33 rfl rfl ?_
      refine x_getI 10 5 dX10_readBoard_34 (fxX10_52 rfl) rfl rfl (lt_of hnx (Nat.le_of_ble_eq_true rfl)) ?_
      refine x_V_V M_X10_fail [vi 1, vi (gi s3 52 5)] [] hs rfl dX10_readBoard_37 (lkX10_55 _ rfl) (lt_of hnx (Nat.le_of_ble_eq_true rfl)) rfl rfl (Nat.le_of_ble_eq_true rfl) (Nat.le_of_ble_eq_true rfl) (Nat.le_of_ble_eq_true rfl) (Nat.le_of_ble_eq_true rfl) (c_Re_fail hnx 1 (gi s3 52 5) s3) (fun s17 hs17 hs => ?_)
      cases hs
      exact w_return rfl dX10_readBoard_40 rfl (Nat.le_of_ble_eq_true rfl) (Nat.le_of_ble_eq_true rfl) ⟨rfl, rfl⟩
  · refine w_aload_n 0 dX10_readBoard_9 rfl rfl ?_
    refine x_iconst dX10_readBoard_10 ?_
    refine w_aload_n 0 dX10_readBoard_11 rfl rfl ?_
    refine x_getI 10 5 dX10_readBoard_12 (fxX10_52 rfl) rfl rfl (lt_of hnx (Nat.le_of_ble_eq_true rfl)) ?_
    refine x_V_V M_X10_fail [vi 1, vi (gi s 52 5)] [] hs rfl dX10_readBoard_15 (lkX10_55 _ rfl) (lt_of hnx (Nat.le_of_ble_eq_true rfl)) rfl rfl (Nat.le_of_ble_eq_true rfl) (Nat.le_of_ble_eq_true rfl) (Nat.le_of_ble_eq_true rfl) (Nat.le_of_ble_eq_true rfl) (c_Re_fail hnx 1 (gi s 52 5) s) (fun s19 hs19 hs => ?_)
    cases hs
    exact w_return rfl dX10_readBoard_18 rfl (Nat.le_of_ble_eq_true rfl) (Nat.le_of_ble_eq_true rfl) ⟨rfl, rfl⟩
set_option maxRecDepth 100000 in
theorem c_Re_sideWord {C : Cx} {nx : Nat} (hnx : 80 ≤ nx)  (s : Sg) : ∀ o, Re_sideWord  s = some o → mm C M_X10_sideWord 10 0 0 nx nx [.ref 52] (hp nx s) (QI nx s o) (XF) := by
  intro o hs
  unfold Re_sideWord at hs
  refine mm_of rfl rfl (Nat.le_of_ble_eq_true rfl) ?_
  show ww C M_X10_sideWord 10 0 0 nx (QI nx s o) (XF) nx 0 0 0 [(0, .ref 52)] [] (hp nx s)
  refine w_aload_n 0 dX10_sideWord_0 rfl rfl ?_
  refine x_ldcS dX10_sideWord_1 (srX10_135 (M := M_X10_sideWord) rfl) (by decide) ?_
  refine x_V_I M_X10_isWord [.ref 2004] [] hs rfl dX10_sideWord_3 (lkX10_61 _ rfl) (lt_of hnx (Nat.le_of_ble_eq_true rfl)) rfl rfl (Nat.le_of_ble_eq_true rfl) (Nat.le_of_ble_eq_true rfl) (Nat.le_of_ble_eq_true rfl) (Nat.le_of_ble_eq_true rfl) (c_Re_isWord hnx 4 (Or.inl (by decide)) s) (fun y1 hy1 hs => ?_)
  refine x_ifeq hs dX10_sideWord_6 rfl (fun hs => ?_) (fun hs => ?_)
  · refine w_aload_n 0 dX10_sideWord_13 rfl rfl ?_
    refine x_ldcS dX10_sideWord_14 (srX10_137 (M := M_X10_sideWord) rfl) (by decide) ?_
    refine x_V_I M_X10_isWord [.ref 2005] [] hs rfl dX10_sideWord_16 (lkX10_61 _ rfl) (lt_of hnx (Nat.le_of_ble_eq_true rfl)) rfl rfl (Nat.le_of_ble_eq_true rfl) (Nat.le_of_ble_eq_true rfl) (Nat.le_of_ble_eq_true rfl) (Nat.le_of_ble_eq_true rfl) (c_Re_isWord hnx 5 (Or.inl (by decide)) s) (fun y2 hy2 hs => ?_)
    refine x_ifeq hs dX10_sideWord_19 rfl (fun hs => ?_) (fun hs => ?_)
    · refine x_iconst dX10_sideWord_26 ?_
      cases hs
      exact x_ireturn dX10_sideWord_27 rfl rfl (Nat.le_of_ble_eq_true rfl) (Nat.le_of_ble_eq_true rfl) ⟨rfl, rfl⟩
    · refine x_iconst dX10_sideWord_22 ?_
      refine w_goto dX10_sideWord_23 rfl ?_
      cases hs
      exact x_ireturn dX10_sideWord_27 rfl rfl (Nat.le_of_ble_eq_true rfl) (Nat.le_of_ble_eq_true rfl) ⟨rfl, rfl⟩
  · refine x_iconst dX10_sideWord_9 ?_
    refine w_goto dX10_sideWord_10 rfl ?_
    cases hs
    exact x_ireturn dX10_sideWord_27 rfl rfl (Nat.le_of_ble_eq_true rfl) (Nat.le_of_ble_eq_true rfl) ⟨rfl, rfl⟩
set_option maxRecDepth 100000 in
theorem c_Re_readTurn {C : Cx} {nx : Nat} (hnx : 80 ≤ nx)  (s : Sg) : ∀ o, Re_readTurn  s = some o → mm C M_X10_readTurn 11 0 0 nx nx [.ref 52] (hp nx s) (QV nx o) (XF) := by
  intro o hs
  unfold Re_readTurn at hs
  refine mm_of rfl rfl (Nat.le_of_ble_eq_true rfl) ?_
  show ww C M_X10_readTurn 11 0 0 nx (QV nx o) (XF) nx 0 0 0 [(0, .ref 52)] [] (hp nx s)
  refine w_aload_n 0 dX10_readTurn_0 rfl rfl ?_
  refine x_V_I M_X10_sideWord [] [] hs rfl dX10_readTurn_1 (lkX10_87 _ rfl) (lt_of hnx (Nat.le_of_ble_eq_true rfl)) rfl rfl (Nat.le_of_ble_eq_true rfl) (Nat.le_of_ble_eq_true rfl) (Nat.le_of_ble_eq_true rfl) (Nat.le_of_ble_eq_true rfl) (c_Re_sideWord hnx s) (fun y1 hy1 hs => ?_)
  refine w_istore_n (lv' := [(1, vi y1), (0, .ref 52)]) dX10_readTurn_4 rfl (Nat.le_of_ble_eq_true rfl) rfl ?_
  refine w_iload_n 0 dX10_readTurn_5 rfl rfl ?_
  refine x_iconst dX10_readTurn_6 ?_
  refine x_icmpne hs dX10_readTurn_7 rfl (fun hs => ?_) (fun hs => ?_)
  · refine w_aload_n 1 dX10_readTurn_20 rfl rfl ?_
    refine x_getR 10 3 (b := 53) dX10_readTurn_21 (fxX10_26 rfl) rfl rfl (lt_of hnx (Nat.le_of_ble_eq_true rfl)) rfl ?_
    refine w_iload_n 0 dX10_readTurn_24 rfl rfl ?_
    refine x_putI 9 5 dX10_readTurn_25 (poX10_98 rfl) rfl rfl (lt_of hnx (Nat.le_of_ble_eq_true rfl)) ?_
    refine nam_s hs (fun s2 hs => ?_)
    refine w_aload_n 1 dX10_readTurn_28 rfl rfl ?_
    refine x_V_V M_X10_advance [] [] hs rfl dX10_readTurn_29 (lkX10_40 _ rfl) (lt_of hnx (Nat.le_of_ble_eq_true rfl)) rfl rfl (Nat.le_of_ble_eq_true rfl) (Nat.le_of_ble_eq_true rfl) (Nat.le_of_ble_eq_true rfl) (Nat.le_of_ble_eq_true rfl) (c_Re_advance hnx s2) (fun s4 hs4 hs => ?_)
    cases hs
    exact w_return rfl dX10_readTurn_32 rfl (Nat.le_of_ble_eq_true rfl) (Nat.le_of_ble_eq_true rfl) ⟨rfl, rfl⟩
  · refine w_aload_n 1 dX10_readTurn_10 rfl rfl ?_
    refine x_iconst dX10_readTurn_11 ?_
    refine w_aload_n 1 dX10_readTurn_12 rfl rfl ?_
    refine x_getI 10 5 dX10_readTurn_13 (fxX10_52 rfl) rfl rfl (lt_of hnx (Nat.le_of_ble_eq_true rfl)) ?_
    refine x_V_V M_X10_fail [vi 1, vi (gi s 52 5)] [] hs rfl dX10_readTurn_16 (lkX10_55 _ rfl) (lt_of hnx (Nat.le_of_ble_eq_true rfl)) rfl rfl (Nat.le_of_ble_eq_true rfl) (Nat.le_of_ble_eq_true rfl) (Nat.le_of_ble_eq_true rfl) (Nat.le_of_ble_eq_true rfl) (c_Re_fail hnx 1 (gi s 52 5) s) (fun s6 hs6 hs => ?_)
    cases hs
    exact w_return rfl dX10_readTurn_19 rfl (Nat.le_of_ble_eq_true rfl) (Nat.le_of_ble_eq_true rfl) ⟨rfl, rfl⟩
set_option maxRecDepth 100000 in
theorem q_Gr_edges_b26 {C : Cx} {nx : Nat} (hnx : 80 ≤ nx)  (s : Sg) {o : Int} (hs : Gr_edges_b26  s = some o) : ww C M_X5_edges 0 0 0 nx (QI nx s o) (XF) nx 0 0 26 [] [] (hp nx s) := by
  unfold Gr_edges_b26 at hs
  refine x_iconst dX5_edges_26 ?_
  refine w_goto dX5_edges_27 rfl ?_
  cases hs
  exact x_ireturn dX5_edges_33 rfl rfl (Nat.le_of_ble_eq_true rfl) (Nat.le_of_ble_eq_true rfl) ⟨rfl, rfl⟩
set_option maxRecDepth 100000 in
theorem q_Gr_edges_b15 {C : Cx} {nx : Nat} (hnx : 80 ≤ nx) (x1 : Int) (u_0 : Nat) (h_u_0 : isRowW nx u_0) (s : Sg) {o : Int} (hs : Gr_edges_b15 x1 u_0 s = some o) : ww C M_X5_edges 0 0 0 nx (QI nx s o) (XF) nx 0 0 15 [(1, vi x1)] [.ref u_0] (hp nx s) := by
  unfold Gr_edges_b15 at hs
  refine w_astore_n (lv' := [(3, .ref u_0), (1, vi x1)]) dX5_edges_15 rfl (Nat.le_of_ble_eq_true rfl) rfl ?_
  refine w_iload_n 1 dX5_edges_16 rfl rfl ?_
  refine x_iflt hs dX5_edges_17 rfl (fun hs => ?_) (fun hs => ?_)
  · refine w_lv (lv' := []) [] rfl ?_
    exact q_Gr_edges_b26 hnx  s hs
  · refine w_iload_n 1 dX5_edges_20 rfl rfl ?_
    refine w_aload_n 0 dX5_edges_21 rfl rfl ?_
    refine x_alen dX5_edges_22 (isRow_A (Or.inl h_u_0)) ?_
    refine x_icmplt hs dX5_edges_23 rfl (fun hs => ?_) (fun hs => ?_)
    · refine w_aload_n 0 dX5_edges_30 rfl rfl ?_
      refine w_iload_n 1 dX5_edges_31 rfl rfl ?_
      refine grd_e hs (fun hg1 hs => ?_)
      refine x_iald hg1 (alen_le _) dX5_edges_32 (isRow_A (Or.inl h_u_0)) ?_
      cases hs
      exact x_ireturn dX5_edges_33 rfl rfl (Nat.le_of_ble_eq_true rfl) (Nat.le_of_ble_eq_true rfl) ⟨rfl, rfl⟩
    · refine w_lv (lv' := []) [] rfl ?_
      exact q_Gr_edges_b26 hnx  s hs
set_option maxRecDepth 100000 in
theorem c_Gr_edges {C : Cx} {nx : Nat} (hnx : 80 ≤ nx) (x1 : Int) (x2 : Int) (s : Sg) : ∀ o, Gr_edges x1 x2 s = some o → mm C M_X5_edges 0 0 0 nx nx [.ref 1, vi x1, vi x2] (hp nx s) (QI nx s o) (XF) := by
  intro o hs
  unfold Gr_edges at hs
  refine mm_of rfl rfl (Nat.le_of_ble_eq_true rfl) ?_
  show ww C M_X5_edges 0 0 0 nx (QI nx s o) (XF) nx 0 0 0 [(0, .ref 1), (1, vi x1), (2, vi x2)] [] (hp nx s)
  refine w_iload_n 2 dX5_edges_0 rfl rfl ?_
  refine x_ifne hs dX5_edges_1 rfl (fun hs => ?_) (fun hs => ?_)
  · refine w_aload_n 0 dX5_edges_11 rfl rfl ?_
    refine x_getR 5 2 (b := 4) dX5_edges_12 (fxX5_18 rfl) rfl rfl (lt_of hnx (Nat.le_of_ble_eq_true rfl)) rfl ?_
    refine w_lv (lv' := [(1, vi x1)]) [1] rfl ?_
    exact q_Gr_edges_b15 hnx x1 4 (rowW_of rfl (lt_of hnx (Nat.le_of_ble_eq_true rfl))) s hs
  · refine w_aload_n 0 dX5_edges_4 rfl rfl ?_
    refine x_getR 5 1 (b := 3) dX5_edges_5 (fxX5_15 rfl) rfl rfl (lt_of hnx (Nat.le_of_ble_eq_true rfl)) rfl ?_
    refine w_goto dX5_edges_8 rfl ?_
    refine w_lv (lv' := [(1, vi x1)]) [1] rfl ?_
    exact q_Gr_edges_b15 hnx x1 3 (rowW_of rfl (lt_of hnx (Nat.le_of_ble_eq_true rfl))) s hs
set_option maxRecDepth 100000 in
theorem q_Gr_near_b35 {C : Cx} {nx : Nat} (hnx : 80 ≤ nx) (x3 : Int) (t0 : Int) (s : Sg) {o : Int} (hs : Gr_near_b35 x3 t0 s = some o) : ww C M_X5_near 0 0 0 nx (QI nx s o) (XF) nx 0 0 35 [(0, .ref 1), (3, vi x3)] [vi t0] (hp nx s) := by
  unfold Gr_near_b35 at hs
  refine w_istore (lv' := [(4, vi t0), (0, .ref 1), (3, vi x3)]) dX5_near_35 (Nat.le_of_ble_eq_true rfl) rfl ?_
  refine w_iload 0 dX5_near_37 rfl ?_
  refine x_ifeq hs dX5_near_39 rfl (fun hs => ?_) (fun hs => ?_)
  · refine w_aload_n 1 dX5_near_46 rfl rfl ?_
    refine x_getR 5 0 (b := 2) dX5_near_47 (fxX5_9 rfl) rfl rfl (lt_of hnx (Nat.le_of_ble_eq_true rfl)) rfl ?_
    refine w_iload_n 2 dX5_near_50 rfl rfl ?_
    refine grd_e hs (fun hg2 hs => ?_)
    refine x_iald hg2 (Nat.le_of_ble_eq_true rfl) dX5_near_51 (Or.inl ⟨rfl, (lt_of hnx (Nat.le_of_ble_eq_true rfl))⟩) ?_
    cases hs
    exact x_ireturn dX5_near_52 rfl rfl (Nat.le_of_ble_eq_true rfl) (Nat.le_of_ble_eq_true rfl) ⟨rfl, rfl⟩
  · refine x_iconst dX5_near_42 ?_
    refine w_goto dX5_near_43 rfl ?_
    cases hs
    exact x_ireturn dX5_near_52 rfl rfl (Nat.le_of_ble_eq_true rfl) (Nat.le_of_ble_eq_true rfl) ⟨rfl, rfl⟩
set_option maxRecDepth 100000 in
theorem q_Gr_near_b30 {C : Cx} {nx : Nat} (hnx : 80 ≤ nx) (x3 : Int) (s : Sg) {o : Int} (hs : Gr_near_b30 x3 s = some o) : ww C M_X5_near 0 0 0 nx (QI nx s o) (XF) nx 0 0 30 [(0, .ref 1), (3, vi x3)] [] (hp nx s) := by
  unfold Gr_near_b30 at hs
  refine x_iconst dX5_near_30 ?_
  refine w_goto dX5_near_31 rfl ?_
  exact q_Gr_near_b35 hnx x3 1 s hs
set_option maxRecDepth 100000 in
theorem c_Gr_near {C : Cx} {nx : Nat} (hnx : 80 ≤ nx) (x1 : Int) (x2 : Int) (s : Sg) : ∀ o, Gr_near x1 x2 s = some o → mm C M_X5_near 0 0 0 nx nx [.ref 1, vi x1, vi x2] (hp nx s) (QI nx s o) (XF) := by
  intro o hs
  unfold Gr_near at hs
  refine mm_of rfl rfl (Nat.le_of_ble_eq_true rfl) ?_
  show ww C M_X5_near 0 0 0 nx (QI nx s o) (XF) nx 0 0 0 [(0, .ref 1), (1, vi x1), (2, vi x2)] [] (hp nx s)
  refine w_iload_n 1 dX5_near_0 rfl rfl ?_
  refine x_bipush dX5_near_1 (by decide) ?_
  refine x_imul dX5_near_3 ?_
  refine w_iload_n 2 dX5_near_4 rfl rfl ?_
  refine x_iadd dX5_near_5 ?_
  refine x_istore_n (fun x3_1 => [(3, vi x3_1), (0, .ref 1), (1, vi x1), (2, vi x2)]) hs dX5_near_6 rfl (Nat.le_of_ble_eq_true rfl) (fun _ => rfl) (fun x3_1 hs => ?_)
  refine w_iload_n 3 dX5_near_7 rfl rfl ?_
  refine x_iflt hs dX5_near_8 rfl (fun hs => ?_) (fun hs => ?_)
  · refine w_lv (lv' := [(0, .ref 1), (3, vi x3_1)]) [1, 0] rfl ?_
    exact q_Gr_near_b30 hnx x3_1 s hs
  · refine w_iload_n 3 dX5_near_11 rfl rfl ?_
    refine x_bipush dX5_near_12 (by decide) ?_
    refine x_icmpge hs dX5_near_14 rfl (fun hs => ?_) (fun hs => ?_)
    · refine w_lv (lv' := [(0, .ref 1), (3, vi x3_1)]) [1, 0] rfl ?_
      exact q_Gr_near_b30 hnx x3_1 s hs
    · refine w_iload_n 0 dX5_near_17 rfl rfl ?_
      refine x_iflt hs dX5_near_18 rfl (fun hs => ?_) (fun hs => ?_)
      · refine w_lv (lv' := [(0, .ref 1), (3, vi x3_1)]) [1, 0] rfl ?_
        exact q_Gr_near_b30 hnx x3_1 s hs
      · refine w_iload_n 0 dX5_near_21 rfl rfl ?_
        refine w_aload_n 1 dX5_near_22 rfl rfl ?_
        refine x_getR 5 0 (b := 2) dX5_near_23 (fxX5_9 rfl) rfl rfl (lt_of hnx (Nat.le_of_ble_eq_true rfl)) rfl ?_
        refine x_alen dX5_near_26 (Or.inl ⟨rfl, (lt_of hnx (Nat.le_of_ble_eq_true rfl))⟩) ?_
        refine x_icmplt hs dX5_near_27 rfl (fun hs => ?_) (fun hs => ?_)
        · refine x_iconst dX5_near_34 ?_
          refine w_lv (lv' := [(0, .ref 1), (3, vi x3_1)]) [1, 0] rfl ?_
          exact q_Gr_near_b35 hnx x3_1 0 s hs
        · refine w_lv (lv' := [(0, .ref 1), (3, vi x3_1)]) [1, 0] rfl ?_
          exact q_Gr_near_b30 hnx x3_1 s hs
set_option maxRecDepth 100000 in
theorem q_Li_flood_b146 {C : Cx} {nx : Nat} (hnx : 80 ≤ nx) {Qr : Option Value → Hp → Prop} {Qx : String → Hp → Prop}  (r1 : Nat) (h_r1 : isRow nx r1) (x2 : Int) (x3 : Int) (x4 : Int) (x5 : Int) (x6 : Int) (x7 : Int) (s : Sg) {o : ((Int × Int × Sg) ⊕ (Int × Sg))} (hs : Li_flood_b146 r1 x2 x3 x4 x5 x6 x7 s = some o) (hb : ∀ σ : Int × Int × Sg, o = .inl σ → ww C M_X7_flood 1 0 0 nx (Qr) (Qx) nx 0 0 70 [(0, .ref 5), (1, .ref r1), (2, vi x2), (3, vi x3), (4, vi σ.1), (5, vi x5), (6, vi x6), (7, vi σ.2.1)] [] (hp nx σ.2.2)) (he0 : ∀ ρ : Int × Sg, o = .inr ρ → ww C M_X7_flood 1 0 0 nx (Qr) (Qx) nx 0 0 152 [(0, .ref 5), (1, .ref r1), (2, vi x2), (3, vi x3), (4, vi ρ.1), (5, vi x5)] [] (hp nx ρ.2)) : ww C M_X7_flood 1 0 0 nx (Qr) (Qx) nx 0 0 146 [(0, .ref 5), (1, .ref r1), (2, vi x2), (3, vi x3), (4, vi x4), (5, vi x5), (6, vi x6), (7, vi x7)] [] (hp nx s) := by
  unfold Li_flood_b146 at hs
  refine x_iinc (lv' := [(7, vi (x7 + 1)), (0, .ref 5), (1, .ref r1), (2, vi x2), (3, vi x3), (4, vi x4), (5, vi x5), (6, vi x6)]) 7 dX7_flood_146 rfl (Nat.le_of_ble_eq_true rfl) rfl ?_
  refine w_goto dX7_flood_149 rfl ?_
  refine w_lv (lv' := [(0, .ref 5), (1, .ref r1), (2, vi x2), (3, vi x3), (4, vi x4), (5, vi x5), (6, vi x6), (7, vi (x7 + 1))]) [1, 2, 3, 4, 5, 6, 7, 0] rfl ?_
  cases hs
  exact hb _ rfl
set_option maxRecDepth 100000 in
theorem q_Li_flood_t70 {C : Cx} {nx : Nat} (hnx : 80 ≤ nx) {Qr : Option Value → Hp → Prop} {Qx : String → Hp → Prop}  (r1 : Nat) (h_r1 : isRow nx r1) (x2 : Int) (x3 : Int) (x4 : Int) (x5 : Int) (x6 : Int) (x7 : Int) (s : Sg) {o : ((Int × Int × Sg) ⊕ (Int × Sg))} (hs : Li_flood_t70 r1 x2 x3 x4 x5 x6 x7 s = some o) (hb : ∀ σ : Int × Int × Sg, o = .inl σ → ww C M_X7_flood 1 0 0 nx (Qr) (Qx) nx 0 0 70 [(0, .ref 5), (1, .ref r1), (2, vi x2), (3, vi x3), (4, vi σ.1), (5, vi x5), (6, vi x6), (7, vi σ.2.1)] [] (hp nx σ.2.2)) (he0 : ∀ ρ : Int × Sg, o = .inr ρ → ww C M_X7_flood 1 0 0 nx (Qr) (Qx) nx 0 0 152 [(0, .ref 5), (1, .ref r1), (2, vi x2), (3, vi x3), (4, vi ρ.1), (5, vi x5)] [] (hp nx ρ.2)) : ww C M_X7_flood 1 0 0 nx (Qr) (Qx) nx 0 0 70 [(0, .ref 5), (1, .ref r1), (2, vi x2), (3, vi x3), (4, vi x4), (5, vi x5), (6, vi x6), (7, vi x7)] [] (hp nx s) := by
  unfold Li_flood_t70 at hs
  refine w_iload 7 dX7_flood_70 rfl ?_
  refine x_bipush dX7_flood_72 (by decide) ?_
  refine x_icmpge hs dX7_flood_74 rfl (fun hs => ?_) (fun hs => ?_)
  · refine w_lv (lv' := [(0, .ref 5), (1, .ref r1), (2, vi x2), (3, vi x3), (4, vi x4), (5, vi x5)]) [0, 1, 2, 3, 4, 5] rfl ?_
    cases hs
    exact he0 _ rfl
  · refine w_aload_n 0 dX7_flood_77 rfl rfl ?_
    refine x_getR 7 0 (b := 1) dX7_flood_78 (fxX7_9 rfl) rfl rfl (lt_of hnx (Nat.le_of_ble_eq_true rfl)) rfl ?_
    refine w_iload 6 dX7_flood_81 rfl ?_
    refine w_iload 7 dX7_flood_83 rfl ?_
    refine x_V_I M_X5_near [vi x6, vi x7] [] hs rfl dX7_flood_85 (lkX7_53 _ rfl) (lt_of hnx (Nat.le_of_ble_eq_true rfl)) rfl rfl (Nat.le_of_ble_eq_true rfl) (Nat.le_of_ble_eq_true rfl) (Nat.le_of_ble_eq_true rfl) (Nat.le_of_ble_eq_true rfl) (c_Gr_near hnx x6 x7 s) (fun y8 hy8 hs => ?_)
    refine w_istore (lv' := [(8, vi y8), (0, .ref 5), (1, .ref r1), (2, vi x2), (3, vi x3), (4, vi x4), (5, vi x5), (6, vi x6), (7, vi x7)]) dX7_flood_88 (Nat.le_of_ble_eq_true rfl) rfl ?_
    refine w_iload 0 dX7_flood_90 rfl ?_
    refine x_iconst dX7_flood_92 ?_
    refine x_icmpeq hs dX7_flood_93 rfl (fun hs => ?_) (fun hs => ?_)
    · refine w_lv (lv' := [(0, .ref 5), (1, .ref r1), (2, vi x2), (3, vi x3), (4, vi x4), (5, vi x5), (6, vi x6), (7, vi x7)]) [1, 2, 3, 4, 5, 6, 7, 8] rfl ?_
      exact q_Li_flood_b146 hnx r1 h_r1 x2 x3 x4 x5 x6 x7 s hs hb he0
    · refine w_aload_n 2 dX7_flood_96 rfl rfl ?_
      refine w_iload 0 dX7_flood_97 rfl ?_
      refine x_N_I M_X11_at [.ref r1, vi y8] [] hs rfl dX7_flood_99 (lkX7_41 _ rfl) (Nat.le_of_ble_eq_true rfl) (Nat.le_of_ble_eq_true rfl) (Nat.le_of_ble_eq_true rfl) (Nat.le_of_ble_eq_true rfl) (c_Hx_at hnx r1 h_r1 y8 s) (fun y9 hy9 hs => ?_)
      refine w_aload_n 1 dX7_flood_102 rfl rfl ?_
      refine x_getI 7 5 dX7_flood_103 (fxX7_28 rfl) rfl rfl (lt_of hnx (Nat.le_of_ble_eq_true rfl)) ?_
      refine x_icmpne hs dX7_flood_106 rfl (fun hs => ?_) (fun hs => ?_)
      · refine w_lv (lv' := [(0, .ref 5), (1, .ref r1), (2, vi x2), (3, vi x3), (4, vi x4), (5, vi x5), (6, vi x6), (7, vi x7)]) [1, 2, 3, 4, 5, 6, 7, 8] rfl ?_
        exact q_Li_flood_b146 hnx r1 h_r1 x2 x3 x4 x5 x6 x7 s hs hb he0
      · refine w_aload_n 1 dX7_flood_109 rfl rfl ?_
        refine x_getR 7 1 (b := 6) dX7_flood_110 (fxX7_15 rfl) rfl rfl (lt_of hnx (Nat.le_of_ble_eq_true rfl)) rfl ?_
        refine w_iload 0 dX7_flood_113 rfl ?_
        refine x_N_I M_X11_at [.ref 6, vi y8] [] hs rfl dX7_flood_115 (lkX7_41 _ rfl) (Nat.le_of_ble_eq_true rfl) (Nat.le_of_ble_eq_true rfl) (Nat.le_of_ble_eq_true rfl) (Nat.le_of_ble_eq_true rfl) (c_Hx_at hnx 6 (Or.inl (rowW_of rfl (lt_of hnx (Nat.le_of_ble_eq_true rfl)))) y8 s) (fun y10 hy10 hs => ?_)
        refine x_iconst dX7_flood_118 ?_
        refine x_icmpne hs dX7_flood_119 rfl (fun hs => ?_) (fun hs => ?_)
        · refine w_lv (lv' := [(0, .ref 5), (1, .ref r1), (2, vi x2), (3, vi x3), (4, vi x4), (5, vi x5), (6, vi x6), (7, vi x7)]) [1, 2, 3, 4, 5, 6, 7, 8] rfl ?_
          exact q_Li_flood_b146 hnx r1 h_r1 x2 x3 x4 x5 x6 x7 s hs hb he0
        · refine w_aload_n 1 dX7_flood_122 rfl rfl ?_
          refine x_getR 7 1 (b := 6) dX7_flood_123 (fxX7_15 rfl) rfl rfl (lt_of hnx (Nat.le_of_ble_eq_true rfl)) rfl ?_
          refine w_iload 0 dX7_flood_126 rfl ?_
          refine w_iload_n 3 dX7_flood_128 rfl rfl ?_
          refine x_N_V M_X11_set [.ref 6, vi y8, vi x2] [] hs rfl dX7_flood_129 (lkX7_32 _ rfl) (Nat.le_of_ble_eq_true rfl) (Nat.le_of_ble_eq_true rfl) (Nat.le_of_ble_eq_true rfl) (Nat.le_of_ble_eq_true rfl) (c_Hx_set hnx 6 (rowW_of rfl (lt_of hnx (Nat.le_of_ble_eq_true rfl))) y8 x2 s) (fun s12 hs12 hs => ?_)
          refine w_aload_n 1 dX7_flood_132 rfl rfl ?_
          refine x_getR 7 4 (b := 9) dX7_flood_133 (fxX7_25 rfl) rfl rfl (lt_of hnx (Nat.le_of_ble_eq_true rfl)) rfl ?_
          refine w_iload 5 dX7_flood_136 rfl ?_
          refine w_iload 0 dX7_flood_138 rfl ?_
          refine x_N_V M_X11_set [.ref 9, vi x4, vi y8] [] hs rfl dX7_flood_140 (lkX7_32 _ rfl) (Nat.le_of_ble_eq_true rfl) (Nat.le_of_ble_eq_true rfl) (Nat.le_of_ble_eq_true rfl) (Nat.le_of_ble_eq_true rfl) (c_Hx_set hnx 9 (rowW_of rfl (lt_of hnx (Nat.le_of_ble_eq_true rfl))) x4 y8 s12) (fun s14 hs14 hs => ?_)
          refine x_iinc (lv' := [(4, vi (x4 + 1)), (8, vi y8), (0, .ref 5), (1, .ref r1), (2, vi x2), (3, vi x3), (5, vi x5), (6, vi x6), (7, vi x7)]) 5 dX7_flood_143 rfl (Nat.le_of_ble_eq_true rfl) rfl ?_
          refine w_lv (lv' := [(0, .ref 5), (1, .ref r1), (2, vi x2), (3, vi x3), (4, vi (x4 + 1)), (5, vi x5), (6, vi x6), (7, vi x7)]) [2, 3, 4, 5, 0, 6, 7, 8] rfl ?_
          exact q_Li_flood_b146 hnx r1 h_r1 x2 x3 (x4 + 1) x5 x6 x7 s14 hs hb he0
set_option maxRecDepth 100000 in
theorem q_Li_flood_l70 {C : Cx} {nx : Nat} (hnx : 80 ≤ nx) {Qr : Option Value → Hp → Prop} {Qx : String → Hp → Prop}  (r1 : Nat) (h_r1 : isRow nx r1) (x2 : Int) (x3 : Int) (x4 : Int) (x5 : Int) (x6 : Int) (x7 : Int) (s : Sg) {o : ((Int × Int × Int × Sg) ⊕ (Int × Int × Sg))} (hs : Li_flood_l70 r1 x2 x3 x4 x5 x6 x7 s = some o) (hb : ∀ σ : Int × Int × Int × Sg, o = .inl σ → ww C M_X7_flood 1 0 0 nx (Qr) (Qx) nx 0 0 26 [(0, .ref 5), (1, .ref r1), (2, vi x2), (3, vi σ.1), (4, vi σ.2.1), (5, vi σ.2.2.1)] [] (hp nx σ.2.2.2)) (he0 : ∀ ρ : Int × Int × Sg, o = .inr ρ → ww C M_X7_flood 1 0 0 nx (Qr) (Qx) nx 0 0 158 [(0, .ref 5), (2, vi x2), (3, vi ρ.1), (4, vi ρ.2.1)] [] (hp nx ρ.2.2)) : ww C M_X7_flood 1 0 0 nx (Qr) (Qx) nx 0 0 70 [(0, .ref 5), (1, .ref r1), (2, vi x2), (3, vi x3), (4, vi x4), (5, vi x5), (6, vi x6), (7, vi x7)] [] (hp nx s) := by
  unfold Li_flood_l70 at hs
  refine bnd_e hs (fun ρ hw hs => ?_)
  obtain ⟨x4_15, s_16⟩ := ρ
  have hE : ww C M_X7_flood 1 0 0 nx (Qr) (Qx) nx 0 0 152 [(0, .ref 5), (1, .ref r1), (2, vi x2), (3, vi x3), (4, vi x4_15), (5, vi x5)] [] (hp nx s_16) := by
    refine x_iinc (lv' := [(5, vi (x5 + 1)), (0, .ref 5), (1, .ref r1), (2, vi x2), (3, vi x3), (4, vi x4_15)]) 5 dX7_flood_152 rfl (Nat.le_of_ble_eq_true rfl) rfl ?_
    refine w_goto dX7_flood_155 rfl ?_
    refine w_lv (lv' := [(0, .ref 5), (1, .ref r1), (2, vi x2), (3, vi x3), (4, vi x4_15), (5, vi (x5 + 1))]) [1, 2, 3, 4, 5, 0] rfl ?_
    cases hs
    exact hb _ rfl
  refine whl_w (P := fun σ => ww C M_X7_flood 1 0 0 nx (Qr) (Qx) nx 0 0 70 [(0, .ref 5), (1, .ref r1), (2, vi x2), (3, vi x3), (4, vi σ.1), (5, vi x5), (6, vi x6), (7, vi σ.2.1)] [] (hp nx σ.2.2)) (E := fun ρ => ρ = (x4_15, s_16)) hw rfl ?_
  intro σ o' hs' hb' he'
  exact q_Li_flood_t70 hnx r1 h_r1 x2 x3 σ.1 x5 x6 σ.2.1 σ.2.2 hs' hb' (fun ρ e => by cases he' _ e; exact hE)
set_option maxRecDepth 100000 in
theorem q_Li_flood_t26 {C : Cx} {nx : Nat} (hnx : 80 ≤ nx) {Qr : Option Value → Hp → Prop} {Qx : String → Hp → Prop}  (r1 : Nat) (h_r1 : isRow nx r1) (x2 : Int) (x3 : Int) (x4 : Int) (x5 : Int) (s : Sg) {o : ((Int × Int × Int × Sg) ⊕ (Int × Int × Sg))} (hs : Li_flood_t26 r1 x2 x3 x4 x5 s = some o) (hb : ∀ σ : Int × Int × Int × Sg, o = .inl σ → ww C M_X7_flood 1 0 0 nx (Qr) (Qx) nx 0 0 26 [(0, .ref 5), (1, .ref r1), (2, vi x2), (3, vi σ.1), (4, vi σ.2.1), (5, vi σ.2.2.1)] [] (hp nx σ.2.2.2)) (he0 : ∀ ρ : Int × Int × Sg, o = .inr ρ → ww C M_X7_flood 1 0 0 nx (Qr) (Qx) nx 0 0 158 [(0, .ref 5), (2, vi x2), (3, vi ρ.1), (4, vi ρ.2.1)] [] (hp nx ρ.2.2)) : ww C M_X7_flood 1 0 0 nx (Qr) (Qx) nx 0 0 26 [(0, .ref 5), (1, .ref r1), (2, vi x2), (3, vi x3), (4, vi x4), (5, vi x5)] [] (hp nx s) := by
  unfold Li_flood_t26 at hs
  refine w_iload 5 dX7_flood_26 rfl ?_
  refine w_iload 4 dX7_flood_28 rfl ?_
  refine x_icmpge hs dX7_flood_30 rfl (fun hs => ?_) (fun hs => ?_)
  · refine w_lv (lv' := [(0, .ref 5), (2, vi x2), (3, vi x3), (4, vi x4)]) [0, 2, 3, 4] rfl ?_
    cases hs
    exact he0 _ rfl
  · refine w_iload 5 dX7_flood_33 rfl ?_
    refine x_bipush dX7_flood_35 (by decide) ?_
    refine x_icmpge hs dX7_flood_37 rfl (fun hs => ?_) (fun hs => ?_)
    · refine w_lv (lv' := [(0, .ref 5), (2, vi x2), (3, vi x3), (4, vi x4)]) [0, 2, 3, 4] rfl ?_
      cases hs
      exact he0 _ rfl
    · refine w_aload_n 0 dX7_flood_40 rfl rfl ?_
      refine x_getR 7 4 (b := 9) dX7_flood_41 (fxX7_25 rfl) rfl rfl (lt_of hnx (Nat.le_of_ble_eq_true rfl)) rfl ?_
      refine w_iload 5 dX7_flood_44 rfl ?_
      refine x_N_I M_X11_at [.ref 9, vi x5] [] hs rfl dX7_flood_46 (lkX7_41 _ rfl) (Nat.le_of_ble_eq_true rfl) (Nat.le_of_ble_eq_true rfl) (Nat.le_of_ble_eq_true rfl) (Nat.le_of_ble_eq_true rfl) (c_Hx_at hnx 9 (Or.inl (rowW_of rfl (lt_of hnx (Nat.le_of_ble_eq_true rfl)))) x5 s) (fun y5 hy5 hs => ?_)
      refine w_istore (lv' := [(6, vi y5), (0, .ref 5), (1, .ref r1), (2, vi x2), (3, vi x3), (4, vi x4), (5, vi x5)]) dX7_flood_49 (Nat.le_of_ble_eq_true rfl) rfl ?_
      refine w_iload_n 4 dX7_flood_51 rfl rfl ?_
      refine w_aload_n 1 dX7_flood_52 rfl rfl ?_
      refine x_getR 7 0 (b := 1) dX7_flood_53 (fxX7_9 rfl) rfl rfl (lt_of hnx (Nat.le_of_ble_eq_true rfl)) rfl ?_
      refine w_iload 0 dX7_flood_56 rfl ?_
      refine w_aload_n 1 dX7_flood_58 rfl rfl ?_
      refine x_getI 7 5 dX7_flood_59 (fxX7_28 rfl) rfl rfl (lt_of hnx (Nat.le_of_ble_eq_true rfl)) ?_
      refine x_V_I M_X5_edges [vi y5, vi (gi s 5 5)] [vi x3] hs rfl dX7_flood_62 (lkX7_49 _ rfl) (lt_of hnx (Nat.le_of_ble_eq_true rfl)) rfl rfl (Nat.le_of_ble_eq_true rfl) (Nat.le_of_ble_eq_true rfl) (Nat.le_of_ble_eq_true rfl) (Nat.le_of_ble_eq_true rfl) (c_Gr_edges hnx y5 (gi s 5 5) s) (fun y6 hy6 hs => ?_)
      refine x_ior dX7_flood_65 ?_
      refine x_istore_n (fun x3_7 => [(3, vi x3_7), (6, vi y5), (0, .ref 5), (1, .ref r1), (2, vi x2), (4, vi x4), (5, vi x5)]) hs dX7_flood_66 rfl (Nat.le_of_ble_eq_true rfl) (fun _ => rfl) (fun x3_7 hs => ?_)
      refine x_iconst dX7_flood_67 ?_
      refine w_istore (lv' := [(7, vi 0), (3, vi x3_7), (6, vi y5), (0, .ref 5), (1, .ref r1), (2, vi x2), (4, vi x4), (5, vi x5)]) dX7_flood_68 (Nat.le_of_ble_eq_true rfl) rfl ?_
      refine w_lv (lv' := [(0, .ref 5), (1, .ref r1), (2, vi x2), (3, vi x3_7), (4, vi x4), (5, vi x5), (6, vi y5), (7, vi 0)]) [3, 4, 5, 1, 6, 7, 2, 0] rfl ?_
      exact q_Li_flood_l70 hnx r1 h_r1 x2 x3_7 x4 x5 y5 0 s hs hb he0
set_option maxRecDepth 100000 in
theorem q_Li_flood_b158 {C : Cx} {nx : Nat} (hnx : 80 ≤ nx) (x2 : Int) (x3 : Int) (x4 : Int) (s : Sg) {o : Sg} (hs : Li_flood_b158 x2 x3 x4 s = some o) : ww C M_X7_flood 1 0 0 nx (QV nx o) (XF) nx 0 0 158 [(0, .ref 5), (2, vi x2), (3, vi x3), (4, vi x4)] [] (hp nx s) := by
  unfold Li_flood_b158 at hs
  refine w_aload_n 0 dX7_flood_158 rfl rfl ?_
  refine x_getR 7 2 (b := 7) dX7_flood_159 (fxX7_19 rfl) rfl rfl (lt_of hnx (Nat.le_of_ble_eq_true rfl)) rfl ?_
  refine w_iload_n 1 dX7_flood_162 rfl rfl ?_
  refine w_iload_n 2 dX7_flood_163 rfl rfl ?_
  refine x_N_V M_X11_set [.ref 7, vi x2, vi x3] [] hs rfl dX7_flood_164 (lkX7_32 _ rfl) (Nat.le_of_ble_eq_true rfl) (Nat.le_of_ble_eq_true rfl) (Nat.le_of_ble_eq_true rfl) (Nat.le_of_ble_eq_true rfl) (c_Hx_set hnx 7 (rowW_of rfl (lt_of hnx (Nat.le_of_ble_eq_true rfl))) x2 x3 s) (fun s21 hs21 hs => ?_)
  refine w_aload_n 0 dX7_flood_167 rfl rfl ?_
  refine x_getR 7 3 (b := 8) dX7_flood_168 (fxX7_22 rfl) rfl rfl (lt_of hnx (Nat.le_of_ble_eq_true rfl)) rfl ?_
  refine w_iload_n 1 dX7_flood_171 rfl rfl ?_
  refine w_iload 3 dX7_flood_172 rfl ?_
  refine x_N_V M_X11_set [.ref 8, vi x2, vi x4] [] hs rfl dX7_flood_174 (lkX7_32 _ rfl) (Nat.le_of_ble_eq_true rfl) (Nat.le_of_ble_eq_true rfl) (Nat.le_of_ble_eq_true rfl) (Nat.le_of_ble_eq_true rfl) (c_Hx_set hnx 8 (rowW_of rfl (lt_of hnx (Nat.le_of_ble_eq_true rfl))) x2 x4 s21) (fun s23 hs23 hs => ?_)
  cases hs
  exact w_return rfl dX7_flood_177 rfl (Nat.le_of_ble_eq_true rfl) (Nat.le_of_ble_eq_true rfl) ⟨rfl, rfl⟩
set_option maxRecDepth 100000 in
theorem q_Li_flood_l26 {C : Cx} {nx : Nat} (hnx : 80 ≤ nx) (r1 : Nat) (h_r1 : isRow nx r1) (x2 : Int) (x3 : Int) (x4 : Int) (x5 : Int) (s : Sg) {o : Sg} (hs : Li_flood_l26 r1 x2 x3 x4 x5 s = some o) : ww C M_X7_flood 1 0 0 nx (QV nx o) (XF) nx 0 0 26 [(0, .ref 5), (1, .ref r1), (2, vi x2), (3, vi x3), (4, vi x4), (5, vi x5)] [] (hp nx s) := by
  unfold Li_flood_l26 at hs
  refine bnd_e hs (fun ρ hw hs => ?_)
  obtain ⟨x3_17, x4_18, s_19⟩ := ρ
  have hE : ww C M_X7_flood 1 0 0 nx (QV nx o) (XF) nx 0 0 158 [(0, .ref 5), (2, vi x2), (3, vi x3_17), (4, vi x4_18)] [] (hp nx s_19) := by
    exact q_Li_flood_b158 hnx x2 x3_17 x4_18 s_19 hs
  refine whl_w (P := fun σ => ww C M_X7_flood 1 0 0 nx (QV nx o) (XF) nx 0 0 26 [(0, .ref 5), (1, .ref r1), (2, vi x2), (3, vi σ.1), (4, vi σ.2.1), (5, vi σ.2.2.1)] [] (hp nx σ.2.2.2)) (E := fun ρ => ρ = (x3_17, x4_18, s_19)) hw rfl ?_
  intro σ o' hs' hb' he'
  exact q_Li_flood_t26 hnx r1 h_r1 x2 σ.1 σ.2.1 σ.2.2.1 σ.2.2.2 hs' hb' (fun ρ e => by cases he' _ e; exact hE)
set_option maxRecDepth 100000 in
theorem c_Li_flood {C : Cx} {nx : Nat} (hnx : 80 ≤ nx) (r1 : Nat) (h_r1 : isRow nx r1) (x2 : Int) (s : Sg) : ∀ o, Li_flood r1 x2 s = some o → mm C M_X7_flood 1 0 0 nx nx [.ref 5, .ref r1, vi x2] (hp nx s) (QV nx o) (XF) := by
  intro o hs
  unfold Li_flood at hs
  refine mm_of rfl rfl (Nat.le_of_ble_eq_true rfl) ?_
  show ww C M_X7_flood 1 0 0 nx (QV nx o) (XF) nx 0 0 0 [(0, .ref 5), (1, .ref r1), (2, vi x2)] [] (hp nx s)
  refine x_iconst dX7_flood_0 ?_
  refine w_istore_n (lv' := [(3, vi 0), (0, .ref 5), (1, .ref r1), (2, vi x2)]) dX7_flood_1 rfl (Nat.le_of_ble_eq_true rfl) rfl ?_
  refine x_iconst dX7_flood_2 ?_
  refine w_istore (lv' := [(4, vi 1), (3, vi 0), (0, .ref 5), (1, .ref r1), (2, vi x2)]) dX7_flood_3 (Nat.le_of_ble_eq_true rfl) rfl ?_
  refine w_aload_n 2 dX7_flood_5 rfl rfl ?_
  refine x_getR 7 1 (b := 6) dX7_flood_6 (fxX7_15 rfl) rfl rfl (lt_of hnx (Nat.le_of_ble_eq_true rfl)) rfl ?_
  refine w_iload_n 4 dX7_flood_9 rfl rfl ?_
  refine w_iload_n 4 dX7_flood_10 rfl rfl ?_
  refine x_N_V M_X11_set [.ref 6, vi x2, vi x2] [] hs rfl dX7_flood_11 (lkX7_32 _ rfl) (Nat.le_of_ble_eq_true rfl) (Nat.le_of_ble_eq_true rfl) (Nat.le_of_ble_eq_true rfl) (Nat.le_of_ble_eq_true rfl) (c_Hx_set hnx 6 (rowW_of rfl (lt_of hnx (Nat.le_of_ble_eq_true rfl))) x2 x2 s) (fun s2 hs2 hs => ?_)
  refine w_aload_n 2 dX7_flood_14 rfl rfl ?_
  refine x_getR 7 4 (b := 9) dX7_flood_15 (fxX7_25 rfl) rfl rfl (lt_of hnx (Nat.le_of_ble_eq_true rfl)) rfl ?_
  refine x_iconst dX7_flood_18 ?_
  refine w_iload_n 4 dX7_flood_19 rfl rfl ?_
  refine x_N_V M_X11_set [.ref 9, vi 0, vi x2] [] hs rfl dX7_flood_20 (lkX7_32 _ rfl) (Nat.le_of_ble_eq_true rfl) (Nat.le_of_ble_eq_true rfl) (Nat.le_of_ble_eq_true rfl) (Nat.le_of_ble_eq_true rfl) (c_Hx_set hnx 9 (rowW_of rfl (lt_of hnx (Nat.le_of_ble_eq_true rfl))) 0 x2 s2) (fun s4 hs4 hs => ?_)
  refine x_iconst dX7_flood_23 ?_
  refine w_istore (lv' := [(5, vi 0), (4, vi 1), (3, vi 0), (0, .ref 5), (1, .ref r1), (2, vi x2)]) dX7_flood_24 (Nat.le_of_ble_eq_true rfl) rfl ?_
  refine w_lv (lv' := [(0, .ref 5), (1, .ref r1), (2, vi x2), (3, vi 0), (4, vi 1), (5, vi 0)]) [3, 4, 5, 2, 1, 0] rfl ?_
  exact q_Li_flood_l26 hnx r1 h_r1 x2 0 1 0 s4 hs
set_option maxRecDepth 100000 in
theorem q_Li_gather_t7 {C : Cx} {nx : Nat} (hnx : 80 ≤ nx) {Qr : Option Value → Hp → Prop} {Qx : String → Hp → Prop}  (r1 : Nat) (h_r1 : isRow nx r1) (x3 : Int) (s : Sg) {o : ((Int × Sg) ⊕ (Sg))} (hs : Li_gather_t7 r1 x3 s = some o) (hb : ∀ σ : Int × Sg, o = .inl σ → ww C M_X7_gather 2 0 0 nx (Qr) (Qx) nx 0 0 7 [(0, .ref 5), (1, .ref r1), (3, vi σ.1)] [] (hp nx σ.2)) (he0 : ∀ ρ : Sg, o = .inr ρ → ww C M_X7_gather 2 0 0 nx (Qr) (Qx) nx 0 0 28 [(0, .ref 5), (1, .ref r1)] [] (hp nx ρ)) : ww C M_X7_gather 2 0 0 nx (Qr) (Qx) nx 0 0 7 [(0, .ref 5), (1, .ref r1), (3, vi x3)] [] (hp nx s) := by
  unfold Li_gather_t7 at hs
  refine w_iload_n 2 dX7_gather_7 rfl rfl ?_
  refine x_bipush dX7_gather_8 (by decide) ?_
  refine x_icmpge hs dX7_gather_10 rfl (fun hs => ?_) (fun hs => ?_)
  · refine w_lv (lv' := [(0, .ref 5), (1, .ref r1)]) [0, 1] rfl ?_
    cases hs
    exact he0 _ rfl
  · refine w_aload_n 0 dX7_gather_13 rfl rfl ?_
    refine x_getR 7 1 (b := 6) dX7_gather_14 (fxX7_15 rfl) rfl rfl (lt_of hnx (Nat.le_of_ble_eq_true rfl)) rfl ?_
    refine w_iload_n 2 dX7_gather_17 rfl rfl ?_
    refine x_iconst dX7_gather_18 ?_
    refine x_N_V M_X11_set [.ref 6, vi x3, vi (-1)] [] hs rfl dX7_gather_19 (lkX7_32 _ rfl) (Nat.le_of_ble_eq_true rfl) (Nat.le_of_ble_eq_true rfl) (Nat.le_of_ble_eq_true rfl) (Nat.le_of_ble_eq_true rfl) (c_Hx_set hnx 6 (rowW_of rfl (lt_of hnx (Nat.le_of_ble_eq_true rfl))) x3 (-1) s) (fun s3 hs3 hs => ?_)
    refine x_iinc (lv' := [(3, vi (x3 + 1)), (0, .ref 5), (1, .ref r1)]) 2 dX7_gather_22 rfl (Nat.le_of_ble_eq_true rfl) rfl ?_
    refine w_goto dX7_gather_25 rfl ?_
    refine w_lv (lv' := [(0, .ref 5), (1, .ref r1), (3, vi (x3 + 1))]) [1, 2, 0] rfl ?_
    cases hs
    exact hb _ rfl
set_option maxRecDepth 100000 in
theorem q_Li_gather_b71 {C : Cx} {nx : Nat} (hnx : 80 ≤ nx) {Qr : Option Value → Hp → Prop} {Qx : String → Hp → Prop}  (r1 : Nat) (h_r1 : isRow nx r1) (x3 : Int) (s : Sg) {o : ((Int × Sg) ⊕ (Sg))} (hs : Li_gather_b71 r1 x3 s = some o) (hb : ∀ σ : Int × Sg, o = .inl σ → ww C M_X7_gather 2 0 0 nx (Qr) (Qx) nx 0 0 30 [(0, .ref 5), (1, .ref r1), (3, vi σ.1)] [] (hp nx σ.2)) (he0 : ∀ ρ : Sg, o = .inr ρ → ww C M_X7_gather 2 0 0 nx (Qr) (Qx) nx 0 0 77 [] [] (hp nx ρ)) : ww C M_X7_gather 2 0 0 nx (Qr) (Qx) nx 0 0 71 [(0, .ref 5), (1, .ref r1), (3, vi x3)] [] (hp nx s) := by
  unfold Li_gather_b71 at hs
  refine x_iinc (lv' := [(3, vi (x3 + 1)), (0, .ref 5), (1, .ref r1)]) 2 dX7_gather_71 rfl (Nat.le_of_ble_eq_true rfl) rfl ?_
  refine w_goto dX7_gather_74 rfl ?_
  refine w_lv (lv' := [(0, .ref 5), (1, .ref r1), (3, vi (x3 + 1))]) [1, 2, 0] rfl ?_
  cases hs
  exact hb _ rfl
set_option maxRecDepth 100000 in
theorem q_Li_gather_t30 {C : Cx} {nx : Nat} (hnx : 80 ≤ nx) {Qr : Option Value → Hp → Prop} {Qx : String → Hp → Prop}  (r1 : Nat) (h_r1 : isRow nx r1) (x3 : Int) (s : Sg) {o : ((Int × Sg) ⊕ (Sg))} (hs : Li_gather_t30 r1 x3 s = some o) (hb : ∀ σ : Int × Sg, o = .inl σ → ww C M_X7_gather 2 0 0 nx (Qr) (Qx) nx 0 0 30 [(0, .ref 5), (1, .ref r1), (3, vi σ.1)] [] (hp nx σ.2)) (he0 : ∀ ρ : Sg, o = .inr ρ → ww C M_X7_gather 2 0 0 nx (Qr) (Qx) nx 0 0 77 [] [] (hp nx ρ)) : ww C M_X7_gather 2 0 0 nx (Qr) (Qx) nx 0 0 30 [(0, .ref 5), (1, .ref r1), (3, vi x3)] [] (hp nx s) := by
  unfold Li_gather_t30 at hs
  refine w_iload_n 2 dX7_gather_30 rfl rfl ?_
  refine w_aload_n 0 dX7_gather_31 rfl rfl ?_
  refine x_getR 7 0 (b := 1) dX7_gather_32 (fxX7_9 rfl) rfl rfl (lt_of hnx (Nat.le_of_ble_eq_true rfl)) rfl ?_
  refine x_getI 5 4 dX7_gather_35 (fxX7_36 rfl) rfl rfl (lt_of hnx (Nat.le_of_ble_eq_true rfl)) ?_
  refine x_icmpge hs dX7_gather_38 rfl (fun hs => ?_) (fun hs => ?_)
  · refine w_lv (lv' := []) [] rfl ?_
    cases hs
    exact he0 _ rfl
  · refine w_aload_n 1 dX7_gather_41 rfl rfl ?_
    refine w_iload_n 2 dX7_gather_42 rfl rfl ?_
    refine x_N_I M_X11_at [.ref r1, vi x3] [] hs rfl dX7_gather_43 (lkX7_41 _ rfl) (Nat.le_of_ble_eq_true rfl) (Nat.le_of_ble_eq_true rfl) (Nat.le_of_ble_eq_true rfl) (Nat.le_of_ble_eq_true rfl) (c_Hx_at hnx r1 h_r1 x3 s) (fun y5 hy5 hs => ?_)
    refine w_aload_n 0 dX7_gather_46 rfl rfl ?_
    refine x_getI 7 5 dX7_gather_47 (fxX7_28 rfl) rfl rfl (lt_of hnx (Nat.le_of_ble_eq_true rfl)) ?_
    refine x_icmpne hs dX7_gather_50 rfl (fun hs => ?_) (fun hs => ?_)
    · exact q_Li_gather_b71 hnx r1 h_r1 x3 s hs hb he0
    · refine w_aload_n 0 dX7_gather_53 rfl rfl ?_
      refine x_getR 7 1 (b := 6) dX7_gather_54 (fxX7_15 rfl) rfl rfl (lt_of hnx (Nat.le_of_ble_eq_true rfl)) rfl ?_
      refine w_iload_n 2 dX7_gather_57 rfl rfl ?_
      refine x_N_I M_X11_at [.ref 6, vi x3] [] hs rfl dX7_gather_58 (lkX7_41 _ rfl) (Nat.le_of_ble_eq_true rfl) (Nat.le_of_ble_eq_true rfl) (Nat.le_of_ble_eq_true rfl) (Nat.le_of_ble_eq_true rfl) (c_Hx_at hnx 6 (Or.inl (rowW_of rfl (lt_of hnx (Nat.le_of_ble_eq_true rfl)))) x3 s) (fun y6 hy6 hs => ?_)
      refine x_iconst dX7_gather_61 ?_
      refine x_icmpne hs dX7_gather_62 rfl (fun hs => ?_) (fun hs => ?_)
      · exact q_Li_gather_b71 hnx r1 h_r1 x3 s hs hb he0
      · refine w_aload_n 0 dX7_gather_65 rfl rfl ?_
        refine w_aload_n 1 dX7_gather_66 rfl rfl ?_
        refine w_iload_n 2 dX7_gather_67 rfl rfl ?_
        refine x_V_V M_X7_flood [.ref r1, vi x3] [] hs rfl dX7_gather_68 (lkX7_45 _ rfl) (lt_of hnx (Nat.le_of_ble_eq_true rfl)) rfl rfl (Nat.le_of_ble_eq_true rfl) (Nat.le_of_ble_eq_true rfl) (Nat.le_of_ble_eq_true rfl) (Nat.le_of_ble_eq_true rfl) (c_Li_flood hnx r1 h_r1 x3 s) (fun s8 hs8 hs => ?_)
        exact q_Li_gather_b71 hnx r1 h_r1 x3 s8 hs hb he0
set_option maxRecDepth 100000 in
theorem q_Li_gather_l30 {C : Cx} {nx : Nat} (hnx : 80 ≤ nx) (r1 : Nat) (h_r1 : isRow nx r1) (x3 : Int) (s : Sg) {o : Sg} (hs : Li_gather_l30 r1 x3 s = some o) : ww C M_X7_gather 2 0 0 nx (QV nx o) (XF) nx 0 0 30 [(0, .ref 5), (1, .ref r1), (3, vi x3)] [] (hp nx s) := by
  unfold Li_gather_l30 at hs
  refine bnd_e hs (fun s_9 hw hs => ?_)
  have hE : ww C M_X7_gather 2 0 0 nx (QV nx o) (XF) nx 0 0 77 [] [] (hp nx s_9) := by
    cases hs
    exact w_return rfl dX7_gather_77 rfl (Nat.le_of_ble_eq_true rfl) (Nat.le_of_ble_eq_true rfl) ⟨rfl, rfl⟩
  refine whl_w (P := fun σ => ww C M_X7_gather 2 0 0 nx (QV nx o) (XF) nx 0 0 30 [(0, .ref 5), (1, .ref r1), (3, vi σ.1)] [] (hp nx σ.2)) (E := fun ρ => ρ = s_9) hw rfl ?_
  intro σ o' hs' hb' he'
  exact q_Li_gather_t30 hnx r1 h_r1 σ.1 σ.2 hs' hb' (fun ρ e => by cases he' _ e; exact hE)
set_option maxRecDepth 100000 in
theorem q_Li_gather_l7 {C : Cx} {nx : Nat} (hnx : 80 ≤ nx) (r1 : Nat) (h_r1 : isRow nx r1) (x3 : Int) (s : Sg) {o : Sg} (hs : Li_gather_l7 r1 x3 s = some o) : ww C M_X7_gather 2 0 0 nx (QV nx o) (XF) nx 0 0 7 [(0, .ref 5), (1, .ref r1), (3, vi x3)] [] (hp nx s) := by
  unfold Li_gather_l7 at hs
  refine bnd_e hs (fun s_4 hw hs => ?_)
  have hE : ww C M_X7_gather 2 0 0 nx (QV nx o) (XF) nx 0 0 28 [(0, .ref 5), (1, .ref r1)] [] (hp nx s_4) := by
    refine x_iconst dX7_gather_28 ?_
    refine w_istore_n (lv' := [(3, vi 0), (0, .ref 5), (1, .ref r1)]) dX7_gather_29 rfl (Nat.le_of_ble_eq_true rfl) rfl ?_
    refine w_lv (lv' := [(0, .ref 5), (1, .ref r1), (3, vi 0)]) [1, 2, 0] rfl ?_
    exact q_Li_gather_l30 hnx r1 h_r1 0 s_4 hs
  refine whl_w (P := fun σ => ww C M_X7_gather 2 0 0 nx (QV nx o) (XF) nx 0 0 7 [(0, .ref 5), (1, .ref r1), (3, vi σ.1)] [] (hp nx σ.2)) (E := fun ρ => ρ = s_4) hw rfl ?_
  intro σ o' hs' hb' he'
  exact q_Li_gather_t7 hnx r1 h_r1 σ.1 σ.2 hs' hb' (fun ρ e => by cases he' _ e; exact hE)
set_option maxRecDepth 100000 in
theorem c_Li_gather {C : Cx} {nx : Nat} (hnx : 80 ≤ nx) (r1 : Nat) (h_r1 : isRow nx r1) (x2 : Int) (s : Sg) : ∀ o, Li_gather r1 x2 s = some o → mm C M_X7_gather 2 0 0 nx nx [.ref 5, .ref r1, vi x2] (hp nx s) (QV nx o) (XF) := by
  intro o hs
  unfold Li_gather at hs
  refine mm_of rfl rfl (Nat.le_of_ble_eq_true rfl) ?_
  show ww C M_X7_gather 2 0 0 nx (QV nx o) (XF) nx 0 0 0 [(0, .ref 5), (1, .ref r1), (2, vi x2)] [] (hp nx s)
  refine w_aload_n 0 dX7_gather_0 rfl rfl ?_
  refine w_iload_n 2 dX7_gather_1 rfl rfl ?_
  refine x_putI 7 5 dX7_gather_2 (poX7_28 rfl) rfl rfl (lt_of hnx (Nat.le_of_ble_eq_true rfl)) ?_
  refine nam_s hs (fun s1 hs => ?_)
  refine x_iconst dX7_gather_5 ?_
  refine w_istore_n (lv' := [(3, vi 0), (0, .ref 5), (1, .ref r1), (2, vi x2)]) dX7_gather_6 rfl (Nat.le_of_ble_eq_true rfl) rfl ?_
  refine w_lv (lv' := [(0, .ref 5), (1, .ref r1), (3, vi 0)]) [1, 2, 0] rfl ?_
  exact q_Li_gather_l7 hnx r1 h_r1 0 s1 hs
set_option maxRecDepth 100000 in
theorem c_Li_top {C : Cx} {nx : Nat} (hnx : 80 ≤ nx) (x1 : Int) (s : Sg) : ∀ o, Li_top x1 s = some o → mm C M_X7_top 1 0 0 nx nx [.ref 5, vi x1] (hp nx s) (QI nx s o) (XF) := by
  intro o hs
  unfold Li_top at hs
  refine mm_of rfl rfl (Nat.le_of_ble_eq_true rfl) ?_
  show ww C M_X7_top 1 0 0 nx (QI nx s o) (XF) nx 0 0 0 [(0, .ref 5), (1, vi x1)] [] (hp nx s)
  refine w_aload_n 0 dX7_top_0 rfl rfl ?_
  refine x_getR 7 1 (b := 6) dX7_top_1 (fxX7_15 rfl) rfl rfl (lt_of hnx (Nat.le_of_ble_eq_true rfl)) rfl ?_
  refine w_iload_n 1 dX7_top_4 rfl rfl ?_
  refine x_N_I M_X11_at [.ref 6, vi x1] [] hs rfl dX7_top_5 (lkX7_41 _ rfl) (Nat.le_of_ble_eq_true rfl) (Nat.le_of_ble_eq_true rfl) (Nat.le_of_ble_eq_true rfl) (Nat.le_of_ble_eq_true rfl) (c_Hx_at hnx 6 (Or.inl (rowW_of rfl (lt_of hnx (Nat.le_of_ble_eq_true rfl)))) x1 s) (fun y1 hy1 hs => ?_)
  cases hs
  exact x_ireturn dX7_top_8 rfl rfl (Nat.le_of_ble_eq_true rfl) (Nat.le_of_ble_eq_true rfl) ⟨rfl, rfl⟩
set_option maxRecDepth 100000 in
theorem q_Li_joined_b36 {C : Cx} {nx : Nat} (hnx : 80 ≤ nx) {Qr : Option Value → Hp → Prop} {Qx : String → Hp → Prop}  (x1 : Int) (s : Sg) {o : ((Int) ⊕ ((Unit) ⊕ (Unit)))} (hs : Li_joined_b36 x1 s = some o) (hb : ∀ σ : Int, o = .inl σ → ww C M_X7_joined 2 0 0 nx (Qr) (Qx) nx 0 0 2 [(0, .ref 5), (1, vi σ)] [] (hp nx s)) (he0 : ∀ ρ : Unit, o = .inr (.inl ρ) → ww C M_X7_joined 2 0 0 nx (Qr) (Qx) nx 0 0 34 [] [] (hp nx s)) (he1 : ∀ ρ : Unit, o = .inr (.inr ρ) → ww C M_X7_joined 2 0 0 nx (Qr) (Qx) nx 0 0 42 [] [] (hp nx s)) : ww C M_X7_joined 2 0 0 nx (Qr) (Qx) nx 0 0 36 [(0, .ref 5), (1, vi x1)] [] (hp nx s) := by
  unfold Li_joined_b36 at hs
  refine x_iinc (lv' := [(1, vi (x1 + 1)), (0, .ref 5)]) 1 dX7_joined_36 rfl (Nat.le_of_ble_eq_true rfl) rfl ?_
  refine w_goto dX7_joined_39 rfl ?_
  refine w_lv (lv' := [(0, .ref 5), (1, vi (x1 + 1))]) [1, 0] rfl ?_
  cases hs
  exact hb _ rfl
set_option maxRecDepth 100000 in
theorem q_Li_joined_t2 {C : Cx} {nx : Nat} (hnx : 80 ≤ nx) {Qr : Option Value → Hp → Prop} {Qx : String → Hp → Prop}  (x1 : Int) (s : Sg) {o : ((Int) ⊕ ((Unit) ⊕ (Unit)))} (hs : Li_joined_t2 x1 s = some o) (hb : ∀ σ : Int, o = .inl σ → ww C M_X7_joined 2 0 0 nx (Qr) (Qx) nx 0 0 2 [(0, .ref 5), (1, vi σ)] [] (hp nx s)) (he0 : ∀ ρ : Unit, o = .inr (.inl ρ) → ww C M_X7_joined 2 0 0 nx (Qr) (Qx) nx 0 0 34 [] [] (hp nx s)) (he1 : ∀ ρ : Unit, o = .inr (.inr ρ) → ww C M_X7_joined 2 0 0 nx (Qr) (Qx) nx 0 0 42 [] [] (hp nx s)) : ww C M_X7_joined 2 0 0 nx (Qr) (Qx) nx 0 0 2 [(0, .ref 5), (1, vi x1)] [] (hp nx s) := by
  unfold Li_joined_t2 at hs
  refine w_iload_n 1 dX7_joined_2 rfl rfl ?_
  refine w_aload_n 0 dX7_joined_3 rfl rfl ?_
  refine x_getR 7 0 (b := 1) dX7_joined_4 (fxX7_9 rfl) rfl rfl (lt_of hnx (Nat.le_of_ble_eq_true rfl)) rfl ?_
  refine x_getI 5 4 dX7_joined_7 (fxX7_36 rfl) rfl rfl (lt_of hnx (Nat.le_of_ble_eq_true rfl)) ?_
  refine x_icmpge hs dX7_joined_10 rfl (fun hs => ?_) (fun hs => ?_)
  · refine w_lv (lv' := []) [] rfl ?_
    cases hs
    exact he1 _ rfl
  · refine w_aload_n 0 dX7_joined_13 rfl rfl ?_
    refine w_iload_n 1 dX7_joined_14 rfl rfl ?_
    refine x_V_I M_X7_top [vi x1] [] hs rfl dX7_joined_15 (lkX7_56 _ rfl) (lt_of hnx (Nat.le_of_ble_eq_true rfl)) rfl rfl (Nat.le_of_ble_eq_true rfl) (Nat.le_of_ble_eq_true rfl) (Nat.le_of_ble_eq_true rfl) (Nat.le_of_ble_eq_true rfl) (c_Li_top hnx x1 s) (fun y1 hy1 hs => ?_)
    refine w_iload_n 1 dX7_joined_18 rfl rfl ?_
    refine x_icmpne hs dX7_joined_19 rfl (fun hs => ?_) (fun hs => ?_)
    · exact q_Li_joined_b36 hnx x1 s hs hb he0 he1
    · refine w_aload_n 0 dX7_joined_22 rfl rfl ?_
      refine x_getR 7 2 (b := 7) dX7_joined_23 (fxX7_19 rfl) rfl rfl (lt_of hnx (Nat.le_of_ble_eq_true rfl)) rfl ?_
      refine w_iload_n 1 dX7_joined_26 rfl rfl ?_
      refine x_N_I M_X11_at [.ref 7, vi x1] [] hs rfl dX7_joined_27 (lkX7_41 _ rfl) (Nat.le_of_ble_eq_true rfl) (Nat.le_of_ble_eq_true rfl) (Nat.le_of_ble_eq_true rfl) (Nat.le_of_ble_eq_true rfl) (c_Hx_at hnx 7 (Or.inl (rowW_of rfl (lt_of hnx (Nat.le_of_ble_eq_true rfl)))) x1 s) (fun y2 hy2 hs => ?_)
      refine x_iconst dX7_joined_30 ?_
      refine x_icmpne hs dX7_joined_31 rfl (fun hs => ?_) (fun hs => ?_)
      · exact q_Li_joined_b36 hnx x1 s hs hb he0 he1
      · refine w_lv (lv' := []) [] rfl ?_
        cases hs
        exact he0 _ rfl
set_option maxRecDepth 100000 in
theorem q_Li_joined_l2 {C : Cx} {nx : Nat} (hnx : 80 ≤ nx) (x1 : Int) (s : Sg) {o : Int} (hs : Li_joined_l2 x1 s = some o) : ww C M_X7_joined 2 0 0 nx (QI nx s o) (XF) nx 0 0 2 [(0, .ref 5), (1, vi x1)] [] (hp nx s) := by
  unfold Li_joined_l2 at hs
  refine bnd_e hs (fun ρ hw hs => ?_)
  rcases ρ with ⟨⟩ | ⟨⟩
  · have hE : ww C M_X7_joined 2 0 0 nx (QI nx s o) (XF) nx 0 0 34 [] [] (hp nx s) := by
      refine x_iconst dX7_joined_34 ?_
      cases hs
      exact x_zreturn (Or.inr rfl) dX7_joined_35 rfl rfl (Nat.le_of_ble_eq_true rfl) (Nat.le_of_ble_eq_true rfl) ⟨rfl, rfl⟩
    refine whl_w (P := fun σ => ww C M_X7_joined 2 0 0 nx (QI nx s o) (XF) nx 0 0 2 [(0, .ref 5), (1, vi σ)] [] (hp nx s)) (E := fun ρ => ρ = (.inl ())) hw rfl ?_
    intro σ o' hs' hb' he'
    exact q_Li_joined_t2 hnx σ s hs' hb' (fun ρ e => by cases he' _ e; exact hE) (fun ρ e => by cases he' _ e)
  · have hE : ww C M_X7_joined 2 0 0 nx (QI nx s o) (XF) nx 0 0 42 [] [] (hp nx s) := by
      refine x_iconst dX7_joined_42 ?_
      cases hs
      exact x_zreturn (Or.inl rfl) dX7_joined_43 rfl rfl (Nat.le_of_ble_eq_true rfl) (Nat.le_of_ble_eq_true rfl) ⟨rfl, rfl⟩
    refine whl_w (P := fun σ => ww C M_X7_joined 2 0 0 nx (QI nx s o) (XF) nx 0 0 2 [(0, .ref 5), (1, vi σ)] [] (hp nx s)) (E := fun ρ => ρ = (.inr ())) hw rfl ?_
    intro σ o' hs' hb' he'
    exact q_Li_joined_t2 hnx σ s hs' hb' (fun ρ e => by cases he' _ e) (fun ρ e => by cases he' _ e; exact hE)
set_option maxRecDepth 100000 in
theorem c_Li_joined {C : Cx} {nx : Nat} (hnx : 80 ≤ nx)  (s : Sg) : ∀ o, Li_joined  s = some o → mm C M_X7_joined 2 0 0 nx nx [.ref 5] (hp nx s) (QI nx s o) (XF) := by
  intro o hs
  unfold Li_joined at hs
  refine mm_of rfl rfl (Nat.le_of_ble_eq_true rfl) ?_
  show ww C M_X7_joined 2 0 0 nx (QI nx s o) (XF) nx 0 0 0 [(0, .ref 5)] [] (hp nx s)
  refine x_iconst dX7_joined_0 ?_
  refine w_istore_n (lv' := [(1, vi 0), (0, .ref 5)]) dX7_joined_1 rfl (Nat.le_of_ble_eq_true rfl) rfl ?_
  refine w_lv (lv' := [(0, .ref 5), (1, vi 0)]) [1, 0] rfl ?_
  exact q_Li_joined_l2 hnx 0 s hs
set_option maxRecDepth 100000 in
theorem c_Hx_otherSide {C : Cx} {nx : Nat} (hnx : 80 ≤ nx) (x0 : Int) (s : Sg) : ∀ o, Hx_otherSide x0 s = some o → mm C M_X11_otherSide 0 0 0 nx nx [vi x0] (hp nx s) (QI nx s o) (XF) := by
  intro o hs
  unfold Hx_otherSide at hs
  refine mm_of rfl rfl (Nat.le_of_ble_eq_true rfl) ?_
  show ww C M_X11_otherSide 0 0 0 nx (QI nx s o) (XF) nx 0 0 0 [(0, vi x0)] [] (hp nx s)
  refine w_iload_n 0 dX11_otherSide_0 rfl rfl ?_
  refine x_ifne hs dX11_otherSide_1 rfl (fun hs => ?_) (fun hs => ?_)
  · refine x_iconst dX11_otherSide_8 ?_
    cases hs
    exact x_ireturn dX11_otherSide_9 rfl rfl (Nat.le_of_ble_eq_true rfl) (Nat.le_of_ble_eq_true rfl) ⟨rfl, rfl⟩
  · refine x_iconst dX11_otherSide_4 ?_
    refine w_goto dX11_otherSide_5 rfl ?_
    cases hs
    exact x_ireturn dX11_otherSide_9 rfl rfl (Nat.le_of_ble_eq_true rfl) (Nat.le_of_ble_eq_true rfl) ⟨rfl, rfl⟩
set_option maxRecDepth 100000 in
theorem q_Po_winner_t2 {C : Cx} {nx : Nat} (hnx : 80 ≤ nx) {Qr : Option Value → Hp → Prop} {Qx : String → Hp → Prop}  (r0 : Nat) (h_r0 : isPos r0) (x2 : Int) (s : Sg) {o : ((Int × Sg) ⊕ ((Int × Sg) ⊕ (Sg)))} (hs : Po_winner_t2 r0 x2 s = some o) (hb : ∀ σ : Int × Sg, o = .inl σ → ww C M_X9_winner 3 0 0 nx (Qr) (Qx) nx 0 0 2 [(0, .ref r0), (1, .ref 5), (2, vi σ.1)] [] (hp nx σ.2)) (he0 : ∀ ρ : Int × Sg, o = .inr (.inl ρ) → ww C M_X9_winner 3 0 0 nx (Qr) (Qx) nx 0 0 23 [(2, vi ρ.1)] [] (hp nx ρ.2)) (he1 : ∀ ρ : Sg, o = .inr (.inr ρ) → ww C M_X9_winner 3 0 0 nx (Qr) (Qx) nx 0 0 31 [(0, .ref r0)] [] (hp nx ρ)) : ww C M_X9_winner 3 0 0 nx (Qr) (Qx) nx 0 0 2 [(0, .ref r0), (1, .ref 5), (2, vi x2)] [] (hp nx s) := by
  unfold Po_winner_t2 at hs
  refine w_iload_n 2 dX9_winner_2 rfl rfl ?_
  refine x_iconst dX9_winner_3 ?_
  refine x_icmpgt hs dX9_winner_4 rfl (fun hs => ?_) (fun hs => ?_)
  · refine w_lv (lv' := [(0, .ref r0)]) [0] rfl ?_
    cases hs
    exact he1 _ rfl
  · refine w_aload_n 1 dX9_winner_7 rfl rfl ?_
    refine w_aload_n 0 dX9_winner_8 rfl rfl ?_
    refine x_getR 9 0 (b := (r0 + 1)) dX9_winner_9 (fxX9_9 rfl) rfl (pos_s0 _ h_r0) (pos_n0 h_r0 hnx) (pos_r0 _ h_r0) ?_
    refine w_iload_n 2 dX9_winner_12 rfl rfl ?_
    refine x_V_V M_X7_gather [.ref (r0 + 1), vi x2] [] hs rfl dX9_winner_13 (lkX9_56 _ rfl) (lt_of hnx (Nat.le_of_ble_eq_true rfl)) rfl rfl (Nat.le_of_ble_eq_true rfl) (Nat.le_of_ble_eq_true rfl) (Nat.le_of_ble_eq_true rfl) (Nat.le_of_ble_eq_true rfl) (c_Li_gather hnx (r0 + 1) (Or.inl (rowW_of (pos_s1 _ h_r0) (pos_n1 h_r0 hnx))) x2 s) (fun s2 hs2 hs => ?_)
    refine w_aload_n 1 dX9_winner_16 rfl rfl ?_
    refine x_V_I M_X7_joined [] [] hs rfl dX9_winner_17 (lkX9_62 _ rfl) (lt_of hnx (Nat.le_of_ble_eq_true rfl)) rfl rfl (Nat.le_of_ble_eq_true rfl) (Nat.le_of_ble_eq_true rfl) (Nat.le_of_ble_eq_true rfl) (Nat.le_of_ble_eq_true rfl) (c_Li_joined hnx s2) (fun y3 hy3 hs => ?_)
    refine x_ifeq hs dX9_winner_20 rfl (fun hs => ?_) (fun hs => ?_)
    · refine x_iinc (lv' := [(2, vi (x2 + 1)), (0, .ref r0), (1, .ref 5)]) 2 dX9_winner_25 rfl (Nat.le_of_ble_eq_true rfl) rfl ?_
      refine w_goto dX9_winner_28 rfl ?_
      refine w_lv (lv' := [(0, .ref r0), (1, .ref 5), (2, vi (x2 + 1))]) [1, 2, 0] rfl ?_
      cases hs
      exact hb _ rfl
    · refine w_lv (lv' := [(2, vi x2)]) [2] rfl ?_
      cases hs
      exact he0 _ rfl
set_option maxRecDepth 100000 in
theorem q_Po_winner_l2 {C : Cx} {nx : Nat} (hnx : 80 ≤ nx) (r0 : Nat) (h_r0 : isPos r0) (x2 : Int) (s : Sg) {o : Int × Sg} (hs : Po_winner_l2 r0 x2 s = some o) : ww C M_X9_winner 3 0 0 nx (QI nx o.2 o.1) (XF) nx 0 0 2 [(0, .ref r0), (1, .ref 5), (2, vi x2)] [] (hp nx s) := by
  unfold Po_winner_l2 at hs
  refine bnd_e hs (fun ρ hw hs => ?_)
  rcases ρ with ⟨x2_4, s_5⟩ | s_6
  · have hE : ww C M_X9_winner 3 0 0 nx (QI nx o.2 o.1) (XF) nx 0 0 23 [(2, vi x2_4)] [] (hp nx s_5) := by
      refine w_iload_n 0 dX9_winner_23 rfl rfl ?_
      cases hs
      exact x_ireturn dX9_winner_24 rfl rfl (Nat.le_of_ble_eq_true rfl) (Nat.le_of_ble_eq_true rfl) ⟨rfl, rfl⟩
    refine whl_w (P := fun σ => ww C M_X9_winner 3 0 0 nx (QI nx o.2 o.1) (XF) nx 0 0 2 [(0, .ref r0), (1, .ref 5), (2, vi σ.1)] [] (hp nx σ.2)) (E := fun ρ => ρ = (.inl (x2_4, s_5))) hw rfl ?_
    intro σ o' hs' hb' he'
    exact q_Po_winner_t2 hnx r0 h_r0 σ.1 σ.2 hs' hb' (fun ρ e => by cases he' _ e; exact hE) (fun ρ e => by cases he' _ e)
  · have hE : ww C M_X9_winner 3 0 0 nx (QI nx o.2 o.1) (XF) nx 0 0 31 [(0, .ref r0)] [] (hp nx s_6) := by
      refine w_aload_n 0 dX9_winner_31 rfl rfl ?_
      refine x_getI 9 6 dX9_winner_32 (fxX9_32 rfl) rfl (pos_s0 _ h_r0) (pos_n0 h_r0 hnx) ?_
      refine x_iconst dX9_winner_35 ?_
      refine x_icmpne hs dX9_winner_36 rfl (fun hs => ?_) (fun hs => ?_)
      · refine w_aload_n 0 dX9_winner_43 rfl rfl ?_
        refine x_getI 9 6 dX9_winner_44 (fxX9_32 rfl) rfl (pos_s0 _ h_r0) (pos_n0 h_r0 hnx) ?_
        refine x_N_I M_X11_otherSide [vi (gi s_6 r0 6)] [] hs rfl dX9_winner_47 (lkX9_49 _ rfl) (Nat.le_of_ble_eq_true rfl) (Nat.le_of_ble_eq_true rfl) (Nat.le_of_ble_eq_true rfl) (Nat.le_of_ble_eq_true rfl) (c_Hx_otherSide hnx (gi s_6 r0 6) s_6) (fun y7 hy7 hs => ?_)
        cases hs
        exact x_ireturn dX9_winner_50 rfl rfl (Nat.le_of_ble_eq_true rfl) (Nat.le_of_ble_eq_true rfl) ⟨rfl, rfl⟩
      · refine x_iconst dX9_winner_39 ?_
        refine w_goto dX9_winner_40 rfl ?_
        cases hs
        exact x_ireturn dX9_winner_50 rfl rfl (Nat.le_of_ble_eq_true rfl) (Nat.le_of_ble_eq_true rfl) ⟨rfl, rfl⟩
    refine whl_w (P := fun σ => ww C M_X9_winner 3 0 0 nx (QI nx o.2 o.1) (XF) nx 0 0 2 [(0, .ref r0), (1, .ref 5), (2, vi σ.1)] [] (hp nx σ.2)) (E := fun ρ => ρ = (.inr s_6)) hw rfl ?_
    intro σ o' hs' hb' he'
    exact q_Po_winner_t2 hnx r0 h_r0 σ.1 σ.2 hs' hb' (fun ρ e => by cases he' _ e) (fun ρ e => by cases he' _ e; exact hE)
set_option maxRecDepth 100000 in
theorem c_Po_winner {C : Cx} {nx : Nat} (hnx : 80 ≤ nx) (r0 : Nat) (h_r0 : isPos r0) (s : Sg) : ∀ o, Po_winner r0 s = some o → mm C M_X9_winner 3 0 0 nx nx [.ref r0, .ref 5] (hp nx s) (QI nx o.2 o.1) (XF) := by
  intro o hs
  unfold Po_winner at hs
  refine mm_of rfl rfl (Nat.le_of_ble_eq_true rfl) ?_
  show ww C M_X9_winner 3 0 0 nx (QI nx o.2 o.1) (XF) nx 0 0 0 [(0, .ref r0), (1, .ref 5)] [] (hp nx s)
  refine x_iconst dX9_winner_0 ?_
  refine w_istore_n (lv' := [(2, vi 0), (0, .ref r0), (1, .ref 5)]) dX9_winner_1 rfl (Nat.le_of_ble_eq_true rfl) rfl ?_
  refine w_lv (lv' := [(0, .ref r0), (1, .ref 5), (2, vi 0)]) [1, 2, 0] rfl ?_
  exact q_Po_winner_l2 hnx r0 h_r0 0 s hs
set_option maxRecDepth 100000 in
theorem q_Re_readColumn_b21 {C : Cx} {nx : Nat} (hnx : 80 ≤ nx)  (s : Sg) {o : Int × Sg} (hs : Re_readColumn_b21  s = some o) : ww C M_X10_readColumn 3 0 0 nx (QI nx o.2 o.1) (XF) nx 0 0 21 [(0, .ref 52)] [] (hp nx s) := by
  unfold Re_readColumn_b21 at hs
  refine w_aload_n 0 dX10_readColumn_21 rfl rfl ?_
  refine x_iconst dX10_readColumn_22 ?_
  refine w_aload_n 0 dX10_readColumn_23 rfl rfl ?_
  refine x_getI 10 5 dX10_readColumn_24 (fxX10_52 rfl) rfl rfl (lt_of hnx (Nat.le_of_ble_eq_true rfl)) ?_
  refine x_V_V M_X10_fail [vi 1, vi (gi s 52 5)] [] hs rfl dX10_readColumn_27 (lkX10_55 _ rfl) (lt_of hnx (Nat.le_of_ble_eq_true rfl)) rfl rfl (Nat.le_of_ble_eq_true rfl) (Nat.le_of_ble_eq_true rfl) (Nat.le_of_ble_eq_true rfl) (Nat.le_of_ble_eq_true rfl) (c_Re_fail hnx 1 (gi s 52 5) s) (fun s2 hs2 hs => ?_)
  refine x_iconst dX10_readColumn_30 ?_
  cases hs
  exact x_ireturn dX10_readColumn_31 rfl rfl (Nat.le_of_ble_eq_true rfl) (Nat.le_of_ble_eq_true rfl) ⟨rfl, rfl⟩
set_option maxRecDepth 100000 in
theorem c_Re_readColumn {C : Cx} {nx : Nat} (hnx : 80 ≤ nx) (x1 : Int) (s : Sg) : ∀ o, Re_readColumn x1 s = some o → mm C M_X10_readColumn 3 0 0 nx nx [.ref 52, vi x1] (hp nx s) (QI nx o.2 o.1) (XF) := by
  intro o hs
  unfold Re_readColumn at hs
  refine mm_of rfl rfl (Nat.le_of_ble_eq_true rfl) ?_
  show ww C M_X10_readColumn 3 0 0 nx (QI nx o.2 o.1) (XF) nx 0 0 0 [(0, .ref 52), (1, vi x1)] [] (hp nx s)
  refine w_aload_n 0 dX10_readColumn_0 rfl rfl ?_
  refine x_getI 10 4 dX10_readColumn_1 (fxX10_46 rfl) rfl rfl (lt_of hnx (Nat.le_of_ble_eq_true rfl)) ?_
  refine x_iconst dX10_readColumn_4 ?_
  refine x_icmpne hs dX10_readColumn_5 rfl (fun hs => ?_) (fun hs => ?_)
  · refine w_lv (lv' := [(0, .ref 52)]) [0] rfl ?_
    exact q_Re_readColumn_b21 hnx  s hs
  · refine w_aload_n 0 dX10_readColumn_8 rfl rfl ?_
    refine x_getI 10 6 dX10_readColumn_9 (fxX10_37 rfl) rfl rfl (lt_of hnx (Nat.le_of_ble_eq_true rfl)) ?_
    refine w_aload_n 0 dX10_readColumn_12 rfl rfl ?_
    refine x_getI 10 5 dX10_readColumn_13 (fxX10_52 rfl) rfl rfl (lt_of hnx (Nat.le_of_ble_eq_true rfl)) ?_
    refine x_isub dX10_readColumn_16 ?_
    refine x_iconst dX10_readColumn_17 ?_
    refine x_icmpeq hs dX10_readColumn_18 rfl (fun hs => ?_) (fun hs => ?_)
    · refine w_aload_n 0 dX10_readColumn_32 rfl rfl ?_
      refine x_getR 10 0 (b := 48) dX10_readColumn_33 (fxX10_9 rfl) rfl rfl (lt_of hnx (Nat.le_of_ble_eq_true rfl)) rfl ?_
      refine w_aload_n 0 dX10_readColumn_36 rfl rfl ?_
      refine x_getI 10 5 dX10_readColumn_37 (fxX10_52 rfl) rfl rfl (lt_of hnx (Nat.le_of_ble_eq_true rfl)) ?_
      refine x_V_I M_X1_get [vi (gi s 52 5)] [] hs rfl dX10_readColumn_40 (lkX10_125 _ rfl) (lt_of hnx (Nat.le_of_ble_eq_true rfl)) rfl rfl (Nat.le_of_ble_eq_true rfl) (Nat.le_of_ble_eq_true rfl) (Nat.le_of_ble_eq_true rfl) (Nat.le_of_ble_eq_true rfl) (c_By_get hnx 48 (Or.inl rfl) (gi s 52 5) s) (fun y3 hy3 hs => ?_)
      refine x_bipush dX10_readColumn_43 (by decide) ?_
      refine x_isub dX10_readColumn_45 ?_
      refine x_istore_n (fun x2_4 => [(2, vi x2_4), (0, .ref 52), (1, vi x1)]) hs dX10_readColumn_46 rfl (Nat.le_of_ble_eq_true rfl) (fun _ => rfl) (fun x2_4 hs => ?_)
      refine w_iload_n 0 dX10_readColumn_47 rfl rfl ?_
      refine w_aload_n 1 dX10_readColumn_48 rfl rfl ?_
      refine x_getR 10 3 (b := 53) dX10_readColumn_49 (fxX10_26 rfl) rfl rfl (lt_of hnx (Nat.le_of_ble_eq_true rfl)) rfl ?_
      refine x_getI 9 2 dX10_readColumn_52 (fxX10_130 rfl) rfl rfl (lt_of hnx (Nat.le_of_ble_eq_true rfl)) ?_
      refine x_icmplt hs dX10_readColumn_55 rfl (fun hs => ?_) (fun hs => ?_)
      · refine w_iload_n 2 dX10_readColumn_69 rfl rfl ?_
        refine x_ifeq hs dX10_readColumn_70 rfl (fun hs => ?_) (fun hs => ?_)
        · refine w_aload_n 1 dX10_readColumn_84 rfl rfl ?_
          refine x_V_V M_X10_advance [] [] hs rfl dX10_readColumn_85 (lkX10_40 _ rfl) (lt_of hnx (Nat.le_of_ble_eq_true rfl)) rfl rfl (Nat.le_of_ble_eq_true rfl) (Nat.le_of_ble_eq_true rfl) (Nat.le_of_ble_eq_true rfl) (Nat.le_of_ble_eq_true rfl) (c_Re_advance hnx s) (fun s6 hs6 hs => ?_)
          refine w_iload_n 0 dX10_readColumn_88 rfl rfl ?_
          cases hs
          exact x_ireturn dX10_readColumn_89 rfl rfl (Nat.le_of_ble_eq_true rfl) (Nat.le_of_ble_eq_true rfl) ⟨rfl, rfl⟩
        · refine w_aload_n 1 dX10_readColumn_73 rfl rfl ?_
          refine x_iconst dX10_readColumn_74 ?_
          refine w_aload_n 1 dX10_readColumn_75 rfl rfl ?_
          refine x_getI 10 5 dX10_readColumn_76 (fxX10_52 rfl) rfl rfl (lt_of hnx (Nat.le_of_ble_eq_true rfl)) ?_
          refine x_V_V M_X10_fail [vi 4, vi (gi s 52 5)] [] hs rfl dX10_readColumn_79 (lkX10_55 _ rfl) (lt_of hnx (Nat.le_of_ble_eq_true rfl)) rfl rfl (Nat.le_of_ble_eq_true rfl) (Nat.le_of_ble_eq_true rfl) (Nat.le_of_ble_eq_true rfl) (Nat.le_of_ble_eq_true rfl) (c_Re_fail hnx 4 (gi s 52 5) s) (fun s8 hs8 hs => ?_)
          refine x_iconst dX10_readColumn_82 ?_
          cases hs
          exact x_ireturn dX10_readColumn_83 rfl rfl (Nat.le_of_ble_eq_true rfl) (Nat.le_of_ble_eq_true rfl) ⟨rfl, rfl⟩
      · refine w_aload_n 1 dX10_readColumn_58 rfl rfl ?_
        refine x_iconst dX10_readColumn_59 ?_
        refine w_aload_n 1 dX10_readColumn_60 rfl rfl ?_
        refine x_getI 10 5 dX10_readColumn_61 (fxX10_52 rfl) rfl rfl (lt_of hnx (Nat.le_of_ble_eq_true rfl)) ?_
        refine x_V_V M_X10_fail [vi 2, vi (gi s 52 5)] [] hs rfl dX10_readColumn_64 (lkX10_55 _ rfl) (lt_of hnx (Nat.le_of_ble_eq_true rfl)) rfl rfl (Nat.le_of_ble_eq_true rfl) (Nat.le_of_ble_eq_true rfl) (Nat.le_of_ble_eq_true rfl) (Nat.le_of_ble_eq_true rfl) (c_Re_fail hnx 2 (gi s 52 5) s) (fun s10 hs10 hs => ?_)
        refine x_iconst dX10_readColumn_67 ?_
        cases hs
        exact x_ireturn dX10_readColumn_68 rfl rfl (Nat.le_of_ble_eq_true rfl) (Nat.le_of_ble_eq_true rfl) ⟨rfl, rfl⟩
    · refine w_lv (lv' := [(0, .ref 52)]) [0] rfl ?_
      exact q_Re_readColumn_b21 hnx  s hs

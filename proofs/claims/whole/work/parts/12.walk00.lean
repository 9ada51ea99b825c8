set_option maxRecDepth 100000 in
theorem c_Gr_row {C : Cx} {nx : Nat} (hnx : 80 ≤ nx) (x1 : Int) (s : Sg) : ∀ o, Gr_row x1 s = some o → mm C M_X5_row 0 0 0 nx nx [.ref 1, vi x1] (hp nx s) (QI nx s o) (XF) := by
  intro o hs
  unfold Gr_row at hs
  refine mm_of rfl rfl (Nat.le_of_ble_eq_true rfl) ?_
  show ww C M_X5_row 0 0 0 nx (QI nx s o) (XF) nx 0 0 0 [(0, .ref 1), (1, vi x1)] [] (hp nx s)
  refine w_aload_n 0 dX5_row_0 rfl rfl ?_
  refine x_getI 5 3 dX5_row_1 (fxX5_21 rfl) rfl rfl (lt_of hnx (Nat.le_of_ble_eq_true rfl)) ?_
  refine x_ifne hs dX5_row_4 rfl (fun hs => ?_) (fun hs => ?_)
  · refine w_iload_n 1 dX5_row_11 rfl rfl ?_
    refine w_aload_n 0 dX5_row_12 rfl rfl ?_
    refine x_getI 5 3 dX5_row_13 (fxX5_21 rfl) rfl rfl (lt_of hnx (Nat.le_of_ble_eq_true rfl)) ?_
    refine grd_e hs (fun hg1 hs => ?_)
    refine x_idiv dX5_row_16 hg1 ?_
    cases hs
    exact x_ireturn dX5_row_17 rfl rfl (Nat.le_of_ble_eq_true rfl) (Nat.le_of_ble_eq_true rfl) ⟨rfl, rfl⟩
  · refine x_iconst dX5_row_7 ?_
    refine w_goto dX5_row_8 rfl ?_
    cases hs
    exact x_ireturn dX5_row_17 rfl rfl (Nat.le_of_ble_eq_true rfl) (Nat.le_of_ble_eq_true rfl) ⟨rfl, rfl⟩
set_option maxRecDepth 100000 in
theorem c_Hx_set {C : Cx} {nx : Nat} (hnx : 80 ≤ nx) (r0 : Nat) (h_r0 : isRowW nx r0) (x1 : Int) (x2 : Int) (s : Sg) : ∀ o, Hx_set r0 x1 x2 s = some o → mm C M_X11_set 0 0 0 nx nx [.ref r0, vi x1, vi x2] (hp nx s) (QV nx o) (XF) := by
  intro o hs
  unfold Hx_set at hs
  refine mm_of rfl rfl (Nat.le_of_ble_eq_true rfl) ?_
  show ww C M_X11_set 0 0 0 nx (QV nx o) (XF) nx 0 0 0 [(0, .ref r0), (1, vi x1), (2, vi x2)] [] (hp nx s)
  refine w_iload_n 1 dX11_set_0 rfl rfl ?_
  refine x_iflt hs dX11_set_1 rfl (fun hs => ?_) (fun hs => ?_)
  · cases hs
    exact w_return rfl dX11_set_14 rfl (Nat.le_of_ble_eq_true rfl) (Nat.le_of_ble_eq_true rfl) ⟨rfl, rfl⟩
  · refine w_iload_n 1 dX11_set_4 rfl rfl ?_
    refine w_aload_n 0 dX11_set_5 rfl rfl ?_
    refine x_alen dX11_set_6 (isRow_A (Or.inl h_r0)) ?_
    refine x_icmpge hs dX11_set_7 rfl (fun hs => ?_) (fun hs => ?_)
    · cases hs
      exact w_return rfl dX11_set_14 rfl (Nat.le_of_ble_eq_true rfl) (Nat.le_of_ble_eq_true rfl) ⟨rfl, rfl⟩
    · refine w_aload_n 0 dX11_set_10 rfl rfl ?_
      refine w_iload_n 1 dX11_set_11 rfl rfl ?_
      refine w_iload_n 2 dX11_set_12 rfl rfl ?_
      refine grd_e hs (fun hg1 hs => ?_)
      refine x_iast hg1 (alen_le _) dX11_set_13 h_r0.1 h_r0.2 ?_
      refine nam_s hs (fun s2 hs => ?_)
      cases hs
      exact w_return rfl dX11_set_14 rfl (Nat.le_of_ble_eq_true rfl) (Nat.le_of_ble_eq_true rfl) ⟨rfl, rfl⟩
set_option maxRecDepth 100000 in
theorem c_Gr_column {C : Cx} {nx : Nat} (hnx : 80 ≤ nx) (x1 : Int) (s : Sg) : ∀ o, Gr_column x1 s = some o → mm C M_X5_column 0 0 0 nx nx [.ref 1, vi x1] (hp nx s) (QI nx s o) (XF) := by
  intro o hs
  unfold Gr_column at hs
  refine mm_of rfl rfl (Nat.le_of_ble_eq_true rfl) ?_
  show ww C M_X5_column 0 0 0 nx (QI nx s o) (XF) nx 0 0 0 [(0, .ref 1), (1, vi x1)] [] (hp nx s)
  refine w_aload_n 0 dX5_column_0 rfl rfl ?_
  refine x_getI 5 3 dX5_column_1 (fxX5_21 rfl) rfl rfl (lt_of hnx (Nat.le_of_ble_eq_true rfl)) ?_
  refine x_ifne hs dX5_column_4 rfl (fun hs => ?_) (fun hs => ?_)
  · refine w_iload_n 1 dX5_column_11 rfl rfl ?_
    refine w_aload_n 0 dX5_column_12 rfl rfl ?_
    refine x_getI 5 3 dX5_column_13 (fxX5_21 rfl) rfl rfl (lt_of hnx (Nat.le_of_ble_eq_true rfl)) ?_
    refine grd_e hs (fun hg1 hs => ?_)
    refine x_irem dX5_column_16 hg1 ?_
    cases hs
    exact x_ireturn dX5_column_17 rfl rfl (Nat.le_of_ble_eq_true rfl) (Nat.le_of_ble_eq_true rfl) ⟨rfl, rfl⟩
  · refine x_iconst dX5_column_7 ?_
    refine w_goto dX5_column_8 rfl ?_
    cases hs
    exact x_ireturn dX5_column_17 rfl rfl (Nat.le_of_ble_eq_true rfl) (Nat.le_of_ble_eq_true rfl) ⟨rfl, rfl⟩
set_option maxRecDepth 100000 in
theorem q_Hx_at_b10 {C : Cx} {nx : Nat} (hnx : 80 ≤ nx)  (s : Sg) {o : Int} (hs : Hx_at_b10  s = some o) : ww C M_X11_at 0 0 0 nx (QI nx s o) (XF) nx 0 0 10 [] [] (hp nx s) := by
  unfold Hx_at_b10 at hs
  refine x_iconst dX11_at_10 ?_
  refine w_goto dX11_at_11 rfl ?_
  cases hs
  exact x_ireturn dX11_at_17 rfl rfl (Nat.le_of_ble_eq_true rfl) (Nat.le_of_ble_eq_true rfl) ⟨rfl, rfl⟩
set_option maxRecDepth 100000 in
theorem c_Hx_at {C : Cx} {nx : Nat} (hnx : 80 ≤ nx) (r0 : Nat) (h_r0 : isRow nx r0) (x1 : Int) (s : Sg) : ∀ o, Hx_at r0 x1 s = some o → mm C M_X11_at 0 0 0 nx nx [.ref r0, vi x1] (hp nx s) (QI nx s o) (XF) := by
  intro o hs
  unfold Hx_at at hs
  refine mm_of rfl rfl (Nat.le_of_ble_eq_true rfl) ?_
  show ww C M_X11_at 0 0 0 nx (QI nx s o) (XF) nx 0 0 0 [(0, .ref r0), (1, vi x1)] [] (hp nx s)
  refine w_iload_n 1 dX11_at_0 rfl rfl ?_
  refine x_iflt hs dX11_at_1 rfl (fun hs => ?_) (fun hs => ?_)
  · refine w_lv (lv' := []) [] rfl ?_
    exact q_Hx_at_b10 hnx  s hs
  · refine w_iload_n 1 dX11_at_4 rfl rfl ?_
    refine w_aload_n 0 dX11_at_5 rfl rfl ?_
    refine x_alen dX11_at_6 (isRow_A h_r0) ?_
    refine x_icmplt hs dX11_at_7 rfl (fun hs => ?_) (fun hs => ?_)
    · refine w_aload_n 0 dX11_at_14 rfl rfl ?_
      refine w_iload_n 1 dX11_at_15 rfl rfl ?_
      refine grd_e hs (fun hg1 hs => ?_)
      refine x_iald hg1 (alen_le _) dX11_at_16 (isRow_A h_r0) ?_
      cases hs
      exact x_ireturn dX11_at_17 rfl rfl (Nat.le_of_ble_eq_true rfl) (Nat.le_of_ble_eq_true rfl) ⟨rfl, rfl⟩
    · refine w_lv (lv' := []) [] rfl ?_
      exact q_Hx_at_b10 hnx  s hs
set_option maxRecDepth 100000 in
theorem q_Gr_cellAt_b29 {C : Cx} {nx : Nat} (hnx : 80 ≤ nx) (x1 : Int) (x2 : Int) (t0 : Int) (s : Sg) {o : Int} (hs : Gr_cellAt_b29 x1 x2 t0 s = some o) : ww C M_X5_cellAt 0 0 0 nx (QI nx s o) (XF) nx 0 0 29 [(0, .ref 1), (1, vi x1), (2, vi x2)] [vi t0] (hp nx s) := by
  unfold Gr_cellAt_b29 at hs
  refine w_istore_n (lv' := [(3, vi t0), (0, .ref 1), (1, vi x1), (2, vi x2)]) dX5_cellAt_29 rfl (Nat.le_of_ble_eq_true rfl) rfl ?_
  refine w_iload_n 0 dX5_cellAt_30 rfl rfl ?_
  refine x_ifeq hs dX5_cellAt_31 rfl (fun hs => ?_) (fun hs => ?_)
  · refine w_aload_n 1 dX5_cellAt_38 rfl rfl ?_
    refine x_getI 5 3 dX5_cellAt_39 (fxX5_21 rfl) rfl rfl (lt_of hnx (Nat.le_of_ble_eq_true rfl)) ?_
    refine w_iload_n 2 dX5_cellAt_42 rfl rfl ?_
    refine x_imul dX5_cellAt_43 ?_
    refine w_iload_n 3 dX5_cellAt_44 rfl rfl ?_
    refine x_iadd dX5_cellAt_45 ?_
    cases hs
    exact x_ireturn dX5_cellAt_46 rfl rfl (Nat.le_of_ble_eq_true rfl) (Nat.le_of_ble_eq_true rfl) ⟨rfl, rfl⟩
  · refine x_iconst dX5_cellAt_34 ?_
    refine w_goto dX5_cellAt_35 rfl ?_
    cases hs
    exact x_ireturn dX5_cellAt_46 rfl rfl (Nat.le_of_ble_eq_true rfl) (Nat.le_of_ble_eq_true rfl) ⟨rfl, rfl⟩
set_option maxRecDepth 100000 in
theorem q_Gr_cellAt_b24 {C : Cx} {nx : Nat} (hnx : 80 ≤ nx) (x1 : Int) (x2 : Int) (s : Sg) {o : Int} (hs : Gr_cellAt_b24 x1 x2 s = some o) : ww C M_X5_cellAt 0 0 0 nx (QI nx s o) (XF) nx 0 0 24 [(0, .ref 1), (1, vi x1), (2, vi x2)] [] (hp nx s) := by
  unfold Gr_cellAt_b24 at hs
  refine x_iconst dX5_cellAt_24 ?_
  refine w_goto dX5_cellAt_25 rfl ?_
  exact q_Gr_cellAt_b29 hnx x1 x2 1 s hs
set_option maxRecDepth 100000 in
theorem c_Gr_cellAt {C : Cx} {nx : Nat} (hnx : 80 ≤ nx) (x1 : Int) (x2 : Int) (s : Sg) : ∀ o, Gr_cellAt x1 x2 s = some o → mm C M_X5_cellAt 0 0 0 nx nx [.ref 1, vi x1, vi x2] (hp nx s) (QI nx s o) (XF) := by
  intro o hs
  unfold Gr_cellAt at hs
  refine mm_of rfl rfl (Nat.le_of_ble_eq_true rfl) ?_
  show ww C M_X5_cellAt 0 0 0 nx (QI nx s o) (XF) nx 0 0 0 [(0, .ref 1), (1, vi x1), (2, vi x2)] [] (hp nx s)
  refine w_iload_n 1 dX5_cellAt_0 rfl rfl ?_
  refine x_iflt hs dX5_cellAt_1 rfl (fun hs => ?_) (fun hs => ?_)
  · exact q_Gr_cellAt_b24 hnx x1 x2 s hs
  · refine w_iload_n 1 dX5_cellAt_4 rfl rfl ?_
    refine w_aload_n 0 dX5_cellAt_5 rfl rfl ?_
    refine x_getI 5 3 dX5_cellAt_6 (fxX5_21 rfl) rfl rfl (lt_of hnx (Nat.le_of_ble_eq_true rfl)) ?_
    refine x_icmpge hs dX5_cellAt_9 rfl (fun hs => ?_) (fun hs => ?_)
    · exact q_Gr_cellAt_b24 hnx x1 x2 s hs
    · refine w_iload_n 2 dX5_cellAt_12 rfl rfl ?_
      refine x_iflt hs dX5_cellAt_13 rfl (fun hs => ?_) (fun hs => ?_)
      · exact q_Gr_cellAt_b24 hnx x1 x2 s hs
      · refine w_iload_n 2 dX5_cellAt_16 rfl rfl ?_
        refine w_aload_n 0 dX5_cellAt_17 rfl rfl ?_
        refine x_getI 5 3 dX5_cellAt_18 (fxX5_21 rfl) rfl rfl (lt_of hnx (Nat.le_of_ble_eq_true rfl)) ?_
        refine x_icmplt hs dX5_cellAt_21 rfl (fun hs => ?_) (fun hs => ?_)
        · refine x_iconst dX5_cellAt_28 ?_
          exact q_Gr_cellAt_b29 hnx x1 x2 0 s hs
        · exact q_Gr_cellAt_b24 hnx x1 x2 s hs
set_option maxRecDepth 100000 in
theorem q_Gr_edges_b26 {C : Cx} {nx : Nat} (hnx : 80 ≤ nx)  (s : Sg) {o : Int} (hs : Gr_edges_b26  s = some o) : ww C M_X5_edges 0 0 0 nx (QI nx s o) (XF) nx 0 0 26 [] [] (hp nx s) := by
  unfold Gr_edges_b26 at hs
  refine x_iconst dX5_edges_26 ?_
  refine w_goto dX5_edges_27 rfl ?_
  cases hs
  exact x_ireturn dX5_edges_33 rfl rfl (Nat.le_of_ble_eq_true rfl) (Nat.le_of_ble_eq_true rfl) ⟨rfl, rfl⟩
set_option maxRecDepth 100000 in
theorem q_Gr_edges_b15 {C : Cx} {nx : Nat} (hnx : 80 ≤ nx) (x1 : Int) (u_0 : Nat) (h_u_0 : isRowW nx u_0) (s : Sg) {o : Int} (hs : Gr_edges_b15 x1 u_0 s = some o) : ww C M_X5_edges 0 0 0 nx (QI nx s o) (XF) nx 0 0 15 [(1, vi x1)] [.ref u_0] (hp nx s) := by
  unfold Gr_edges_b15 at hs
  refine w_astore_n (lv' := [(3, .ref u_0), (1, vi x1)]) dX5_edges_15 rfl (Nat.le_of_ble_eq_true rfl) rfl ?_
  refine w_iload_n 1 dX5_edges_16 rfl rfl ?_
  refine x_iflt hs dX5_edges_17 rfl (fun hs => ?_) (fun hs => ?_)
  · refine w_lv (lv' := []) [] rfl ?_
    exact q_Gr_edges_b26 hnx  s hs
  · refine w_iload_n 1 dX5_edges_20 rfl rfl ?_
    refine w_aload_n 0 dX5_edges_21 rfl rfl ?_
    refine x_alen dX5_edges_22 (isRow_A (Or.inl h_u_0)) ?_
    refine x_icmplt hs dX5_edges_23 rfl (fun hs => ?_) (fun hs => ?_)
    · refine w_aload_n 0 dX5_edges_30 rfl rfl ?_
      refine w_iload_n 1 dX5_edges_31 rfl rfl ?_
      refine grd_e hs (fun hg1 hs => ?_)
      refine x_iald hg1 (alen_le _) dX5_edges_32 (isRow_A (Or.inl h_u_0)) ?_
      cases hs
      exact x_ireturn dX5_edges_33 rfl rfl (Nat.le_of_ble_eq_true rfl) (Nat.le_of_ble_eq_true rfl) ⟨rfl, rfl⟩
    · refine w_lv (lv' := []) [] rfl ?_
      exact q_Gr_edges_b26 hnx  s hs
set_option maxRecDepth 100000 in
theorem c_Gr_edges {C : Cx} {nx : Nat} (hnx : 80 ≤ nx) (x1 : Int) (x2 : Int) (s : Sg) : ∀ o, Gr_edges x1 x2 s = some o → mm C M_X5_edges 0 0 0 nx nx [.ref 1, vi x1, vi x2] (hp nx s) (QI nx s o) (XF) := by
  intro o hs
  unfold Gr_edges at hs
  refine mm_of rfl rfl (Nat.le_of_ble_eq_true rfl) ?_
  show ww C M_X5_edges 0 0 0 nx (QI nx s o) (XF) nx 0 0 0 [(0, .ref 1), (1, vi x1), (2, vi x2)] [] (hp nx s)
  refine w_iload_n 2 dX5_edges_0 rfl rfl ?_
  refine x_ifne hs dX5_edges_1 rfl (fun hs => ?_) (fun hs => ?_)
  · refine w_aload_n 0 dX5_edges_11 rfl rfl ?_
    refine x_getR 5 2 (b := 4) dX5_edges_12 (fxX5_18 rfl) rfl rfl (lt_of hnx (Nat.le_of_ble_eq_true rfl)) rfl ?_
    refine w_lv (lv' := [(1, vi x1)]) [1] rfl ?_
    exact q_Gr_edges_b15 hnx x1 4 (rowW_of rfl (lt_of hnx (Nat.le_of_ble_eq_true rfl))) s hs
  · refine w_aload_n 0 dX5_edges_4 rfl rfl ?_
    refine x_getR 5 1 (b := 3) dX5_edges_5 (fxX5_15 rfl) rfl rfl (lt_of hnx (Nat.le_of_ble_eq_true rfl)) rfl ?_
    refine w_goto dX5_edges_8 rfl ?_
    refine w_lv (lv' := [(1, vi x1)]) [1] rfl ?_
    exact q_Gr_edges_b15 hnx x1 3 (rowW_of rfl (lt_of hnx (Nat.le_of_ble_eq_true rfl))) s hs
set_option maxRecDepth 100000 in
theorem q_Gr_near_b35 {C : Cx} {nx : Nat} (hnx : 80 ≤ nx) (x3 : Int) (t0 : Int) (s : Sg) {o : Int} (hs : Gr_near_b35 x3 t0 s = some o) : ww C M_X5_near 0 0 0 nx (QI nx s o) (XF) nx 0 0 35 [(0, .ref 1), (3, vi x3)] [vi t0] (hp nx s) := by
  unfold Gr_near_b35 at hs
  refine w_istore (lv' := [(4, vi t0), (0, .ref 1), (3, vi x3)]) dX5_near_35 (Nat.le_of_ble_eq_true rfl) rfl ?_
  refine w_iload 0 dX5_near_37 rfl ?_
  refine x_ifeq hs dX5_near_39 rfl (fun hs => ?_) (fun hs => ?_)
  · refine w_aload_n 1 dX5_near_46 rfl rfl ?_
    refine x_getR 5 0 (b := 2) dX5_near_47 (fxX5_9 rfl) rfl rfl (lt_of hnx (Nat.le_of_ble_eq_true rfl)) rfl ?_
    refine w_iload_n 2 dX5_near_50 rfl rfl ?_
    refine grd_e hs (fun hg2 hs => ?_)
    refine x_iald hg2 (Nat.le_of_ble_eq_true rfl) dX5_near_51 (Or.inl ⟨rfl, (lt_of hnx (Nat.le_of_ble_eq_true rfl))⟩) ?_
    cases hs
    exact x_ireturn dX5_near_52 rfl rfl (Nat.le_of_ble_eq_true rfl) (Nat.le_of_ble_eq_true rfl) ⟨rfl, rfl⟩
  · refine x_iconst dX5_near_42 ?_
    refine w_goto dX5_near_43 rfl ?_
    cases hs
    exact x_ireturn dX5_near_52 rfl rfl (Nat.le_of_ble_eq_true rfl) (Nat.le_of_ble_eq_true rfl) ⟨rfl, rfl⟩
set_option maxRecDepth 100000 in
theorem q_Gr_near_b30 {C : Cx} {nx : Nat} (hnx : 80 ≤ nx) (x3 : Int) (s : Sg) {o : Int} (hs : Gr_near_b30 x3 s = some o) : ww C M_X5_near 0 0 0 nx (QI nx s o) (XF) nx 0 0 30 [(0, .ref 1), (3, vi x3)] [] (hp nx s) := by
  unfold Gr_near_b30 at hs
  refine x_iconst dX5_near_30 ?_
  refine w_goto dX5_near_31 rfl ?_
  exact q_Gr_near_b35 hnx x3 1 s hs
set_option maxRecDepth 100000 in
theorem c_Gr_near {C : Cx} {nx : Nat} (hnx : 80 ≤ nx) (x1 : Int) (x2 : Int) (s : Sg) : ∀ o, Gr_near x1 x2 s = some o → mm C M_X5_near 0 0 0 nx nx [.ref 1, vi x1, vi x2] (hp nx s) (QI nx s o) (XF) := by
  intro o hs
  unfold Gr_near at hs
  refine mm_of rfl rfl (Nat.le_of_ble_eq_true rfl) ?_
  show ww C M_X5_near 0 0 0 nx (QI nx s o) (XF) nx 0 0 0 [(0, .ref 1), (1, vi x1), (2, vi x2)] [] (hp nx s)
  refine w_iload_n 1 dX5_near_0 rfl rfl ?_
  refine x_bipush dX5_near_1 (by decide) ?_
  refine x_imul dX5_near_3 ?_
  refine w_iload_n 2 dX5_near_4 rfl rfl ?_
  refine x_iadd dX5_near_5 ?_
  refine x_istore_n (fun x3_1 => [(3, vi x3_1), (0, .ref 1), (1, vi x1), (2, vi x2)]) hs dX5_near_6 rfl (Nat.le_of_ble_eq_true rfl) (fun _ => rfl) (fun x3_1 hs => ?_)
  refine w_iload_n 3 dX5_near_7 rfl rfl ?_
  refine x_iflt hs dX5_near_8 rfl (fun hs => ?_) (fun hs => ?_)
  · refine w_lv (lv' := [(0, .ref 1), (3, vi x3_1)]) [1, 0] rfl ?_
    exact q_Gr_near_b30 hnx x3_1 s hs
  · refine w_iload_n 3 dX5_near_11 rfl rfl ?_
    refine x_bipush dX5_near_12 (by decide) ?_
    refine x_icmpge hs dX5_near_14 rfl (fun hs => ?_) (fun hs => ?_)
    · refine w_lv (lv' := [(0, .ref 1), (3, vi x3_1)]) [1, 0] rfl ?_
      exact q_Gr_near_b30 hnx x3_1 s hs
    · refine w_iload_n 0 dX5_near_17 rfl rfl ?_
      refine x_iflt hs dX5_near_18 rfl (fun hs => ?_) (fun hs => ?_)
      · refine w_lv (lv' := [(0, .ref 1), (3, vi x3_1)]) [1, 0] rfl ?_
        exact q_Gr_near_b30 hnx x3_1 s hs
      · refine w_iload_n 0 dX5_near_21 rfl rfl ?_
        refine w_aload_n 1 dX5_near_22 rfl rfl ?_
        refine x_getR 5 0 (b := 2) dX5_near_23 (fxX5_9 rfl) rfl rfl (lt_of hnx (Nat.le_of_ble_eq_true rfl)) rfl ?_
        refine x_alen dX5_near_26 (Or.inl ⟨rfl, (lt_of hnx (Nat.le_of_ble_eq_true rfl))⟩) ?_
        refine x_icmplt hs dX5_near_27 rfl (fun hs => ?_) (fun hs => ?_)
        · refine x_iconst dX5_near_34 ?_
          refine w_lv (lv' := [(0, .ref 1), (3, vi x3_1)]) [1, 0] rfl ?_
          exact q_Gr_near_b35 hnx x3_1 0 s hs
        · refine w_lv (lv' := [(0, .ref 1), (3, vi x3_1)]) [1, 0] rfl ?_
          exact q_Gr_near_b30 hnx x3_1 s hs
set_option maxRecDepth 100000 in
theorem q_Li_flood_b146 {C : Cx} {nx : Nat} (hnx : 80 ≤ nx) {Qr : Option Value → Hp → Prop} {Qx : String → Hp → Prop}  (r1 : Nat) (h_r1 : isRow nx r1) (x2 : Int) (x3 : Int) (x4 : Int) (x5 : Int) (x6 : Int) (x7 : Int) (s : Sg) {o : ((Int × Int × Sg) ⊕ (Int × Sg))} (hs : Li_flood_b146 r1 x2 x3 x4 x5 x6 x7 s = some o) (hb : ∀ σ : Int × Int × Sg, o = .inl σ → ww C M_X7_flood 1 0 0 nx (Qr) (Qx) nx 0 0 70 [(0, .ref 5), (1, .ref r1), (2, vi x2), (3, vi x3), (4, vi σ.1), (5, vi x5), (6, vi x6), (7, vi σ.2.1)] [] (hp nx σ.2.2)) (he0 : ∀ ρ : Int × Sg, o = .inr ρ → ww C M_X7_flood 1 0 0 nx (Qr) (Qx) nx 0 0 152 [(0, .ref 5), (1, .ref r1), (2, vi x2), (3, vi x3), (4, vi ρ.1), (5, vi x5)] [] (hp nx ρ.2)) : ww C M_X7_flood 1 0 0 nx (Qr) (Qx) nx 0 0 146 [(0, .ref 5), (1, .ref r1), (2, vi x2), (3, vi x3), (4, vi x4), (5, vi x5), (6, vi x6), (7, vi x7)] [] (hp nx s) := by
  unfold Li_flood_b146 at hs
  refine x_iinc (lv' := [(7, vi (x7 + 1)), (0, .ref 5), (1, .ref r1), (2, vi x2), (3, vi x3), (4, vi x4), (5, vi x5), (6, vi x6)]) 7 dX7_flood_146 rfl (Nat.le_of_ble_eq_true rfl) rfl ?_
  refine w_goto dX7_flood_149 rfl ?_
  refine w_lv (lv' := [(0, .ref 5), (1, .ref r1), (2, vi x2), (3, vi x3), (4, vi x4), (5, vi x5), (6, vi x6), (7, vi (x7 + 1))]) [1, 2, 3, 4, 5, 6, 7, 0] rfl ?_
  cases hs
  exact hb _ rfl
set_option maxRecDepth 100000 in
theorem q_Li_flood_t70 {C : Cx} {nx : Nat} (hnx : 80 ≤ nx) {Qr : Option Value → Hp → Prop} {Qx : String → Hp → Prop}  (r1 : Nat) (h_r1 : isRow nx r1) (x2 : Int) (x3 : Int) (x4 : Int) (x5 : Int) (x6 : Int) (x7 : Int) (s : Sg) {o : ((Int × Int × Sg) ⊕ (Int × Sg))} (hs : Li_flood_t70 r1 x2 x3 x4 x5 x6 x7 s = some o) (hb : ∀ σ : Int × Int × Sg, o = .inl σ → ww C M_X7_flood 1 0 0 nx (Qr) (Qx) nx 0 0 70 [(0, .ref 5), (1, .ref r1), (2, vi x2), (3, vi x3), (4, vi σ.1), (5, vi x5), (6, vi x6), (7, vi σ.2.1)] [] (hp nx σ.2.2)) (he0 : ∀ ρ : Int × Sg, o = .inr ρ → ww C M_X7_flood 1 0 0 nx (Qr) (Qx) nx 0 0 152 [(0, .ref 5), (1, .ref r1), (2, vi x2), (3, vi x3), (4, vi ρ.1), (5, vi x5)] [] (hp nx ρ.2)) : ww C M_X7_flood 1 0 0 nx (Qr) (Qx) nx 0 0 70 [(0, .ref 5), (1, .ref r1), (2, vi x2), (3, vi x3), (4, vi x4), (5, vi x5), (6, vi x6), (7, vi x7)] [] (hp nx s) := by
  unfold Li_flood_t70 at hs
  refine w_iload 7 dX7_flood_70 rfl ?_
  refine x_bipush dX7_flood_72 (by decide) ?_
  refine x_icmpge hs dX7_flood_74 rfl (fun hs => ?_) (fun hs => ?_)
  · refine w_lv (lv' := [(0, .ref 5), (1, .ref r1), (2, vi x2), (3, vi x3), (4, vi x4), (5, vi x5)]) [0, 1, 2, 3, 4, 5] rfl ?_
    cases hs
    exact he0 _ rfl
  · refine w_aload_n 0 dX7_flood_77 rfl rfl ?_
    refine x_getR 7 0 (b := 1) dX7_flood_78 (fxX7_9 rfl) rfl rfl (lt_of hnx (Nat.le_of_ble_eq_true rfl)) rfl ?_
    refine w_iload 6 dX7_flood_81 rfl ?_
    refine w_iload 7 dX7_flood_83 rfl ?_
    refine x_V_I M_X5_near [vi x6, vi x7] [] hs rfl dX7_flood_85 (lkX7_53 _ rfl) (lt_of hnx (Nat.le_of_ble_eq_true rfl)) rfl rfl (Nat.le_of_ble_eq_true rfl) (Nat.le_of_ble_eq_true rfl) (Nat.le_of_ble_eq_true rfl) (Nat.le_of_ble_eq_true rfl) (c_Gr_near hnx x6 x7 s) (fun y8 hy8 hs => ?_)
    refine w_istore (lv' := [(8, vi y8), (0, .ref 5), (1, .ref r1), (2, vi x2), (3, vi x3), (4, vi x4), (5, vi x5), (6, vi x6), (7, vi x7)]) dX7_flood_88 (Nat.le_of_ble_eq_true rfl) rfl ?_
    refine w_iload 0 dX7_flood_90 rfl ?_
    refine x_iconst dX7_flood_92 ?_
    refine x_icmpeq hs dX7_flood_93 rfl (fun hs => ?_) (fun hs => ?_)
    · refine w_lv (lv' := [(0, .ref 5), (1, .ref r1), (2, vi x2), (3, vi x3), (4, vi x4), (5, vi x5), (6, vi x6), (7, vi x7)]) [1, 2, 3, 4, 5, 6, 7, 8] rfl ?_
      exact q_Li_flood_b146 hnx r1 h_r1 x2 x3 x4 x5 x6 x7 s hs hb he0
    · refine w_aload_n 2 dX7_flood_96 rfl rfl ?_
      refine w_iload 0 dX7_flood_97 rfl ?_
      refine x_N_I M_X11_at [.ref r1, vi y8] [] hs rfl dX7_flood_99 (lkX7_41 _ rfl) (Nat.le_of_ble_eq_true rfl) (Nat.le_of_ble_eq_true rfl) (Nat.le_of_ble_eq_true rfl) (Nat.le_of_ble_eq_true rfl) (c_Hx_at hnx r1 h_r1 y8 s) (fun y9 hy9 hs => ?_)
      refine w_aload_n 1 dX7_flood_102 rfl rfl ?_
      refine x_getI 7 5 dX7_flood_103 (fxX7_28 rfl) rfl rfl (lt_of hnx (Nat.le_of_ble_eq_true rfl)) ?_
      refine x_icmpne hs dX7_flood_106 rfl (fun hs => ?_) (fun hs => ?_)
      · refine w_lv (lv' := [(0, .ref 5), (1, .ref r1), (2, vi x2), (3, vi x3), (4, vi x4), (5, vi x5), (6, vi x6), (7, vi x7)]) [1, 2, 3, 4, 5, 6, 7, 8] rfl ?_
        exact q_Li_flood_b146 hnx r1 h_r1 x2 x3 x4 x5 x6 x7 s hs hb he0
      · refine w_aload_n 1 dX7_flood_109 rfl rfl ?_
        refine x_getR 7 1 (b := 6) dX7_flood_110 (fxX7_15 rfl) rfl rfl (lt_of hnx (Nat.le_of_ble_eq_true rfl)) rfl ?_
        refine w_iload 0 dX7_flood_113 rfl ?_
        refine x_N_I M_X11_at [.ref 6, vi y8] [] hs rfl dX7_flood_115 (lkX7_41 _ rfl) (Nat.le_of_ble_eq_true rfl) (Nat.le_of_ble_eq_true rfl) (Nat.le_of_ble_eq_true rfl) (Nat.le_of_ble_eq_true rfl) (c_Hx_at hnx 6 (Or.inl (rowW_of rfl (lt_of hnx (Nat.le_of_ble_eq_true rfl)))) y8 s) (fun y10 hy10 hs => ?_)
        refine x_iconst dX7_flood_118 ?_
        refine x_icmpne hs dX7_flood_119 rfl (fun hs => ?_) (fun hs => ?_)
        · refine w_lv (lv' := [(0, .ref 5), (1, .ref r1), (2, vi x2), (3, vi x3), (4, vi x4), (5, vi x5), (6, vi x6), (7, vi x7)]) [1, 2, 3, 4, 5, 6, 7, 8] rfl ?_
          exact q_Li_flood_b146 hnx r1 h_r1 x2 x3 x4 x5 x6 x7 s hs hb he0
        · refine w_aload_n 1 dX7_flood_122 rfl rfl ?_
          refine x_getR 7 1 (b := 6) dX7_flood_123 (fxX7_15 rfl) rfl rfl (lt_of hnx (Nat.le_of_ble_eq_true rfl)) rfl ?_
          refine w_iload 0 dX7_flood_126 rfl ?_
          refine w_iload_n 3 dX7_flood_128 rfl rfl ?_
          refine x_N_V M_X11_set [.ref 6, vi y8, vi x2] [] hs rfl dX7_flood_129 (lkX7_32 _ rfl) (Nat.le_of_ble_eq_true rfl) (Nat.le_of_ble_eq_true rfl) (Nat.le_of_ble_eq_true rfl) (Nat.le_of_ble_eq_true rfl) (c_Hx_set hnx 6 (rowW_of rfl (lt_of hnx (Nat.le_of_ble_eq_true rfl))) y8 x2 s) (fun s12 hs12 hs => ?_)
          refine w_aload_n 1 dX7_flood_132 rfl rfl ?_
          refine x_getR 7 4 (b := 9) dX7_flood_133 (fxX7_25 rfl) rfl rfl (lt_of hnx (Nat.le_of_ble_eq_true rfl)) rfl ?_
          refine w_iload 5 dX7_flood_136 rfl ?_
          refine w_iload 0 dX7_flood_138 rfl ?_
          refine x_N_V M_X11_set [.ref 9, vi x4, vi y8] [] hs rfl dX7_flood_140 (lkX7_32 _ rfl) (Nat.le_of_ble_eq_true rfl) (Nat.le_of_ble_eq_true rfl) (Nat.le_of_ble_eq_true rfl) (Nat.le_of_ble_eq_true rfl) (c_Hx_set hnx 9 (rowW_of rfl (lt_of hnx (Nat.le_of_ble_eq_true rfl))) x4 y8 s12) (fun s14 hs14 hs => ?_)
          refine x_iinc (lv' := [(4, vi (x4 + 1)), (8, vi y8), (0, .ref 5), (1, .ref r1), (2, vi x2), (3, vi x3), (5, vi x5), (6, vi x6), (7, vi x7)]) 5 dX7_flood_143 rfl (Nat.le_of_ble_eq_true rfl) rfl ?_
          refine w_lv (lv' := [(0, .ref 5), (1, .ref r1), (2, vi x2), (3, vi x3), (4, vi (x4 + 1)), (5, vi x5), (6, vi x6), (7, vi x7)]) [2, 3, 4, 5, 0, 6, 7, 8] rfl ?_
          exact q_Li_flood_b146 hnx r1 h_r1 x2 x3 (x4 + 1) x5 x6 x7 s14 hs hb he0
set_option maxRecDepth 100000 in
theorem q_Li_flood_l70 {C : Cx} {nx : Nat} (hnx : 80 ≤ nx) {Qr : Option Value → Hp → Prop} {Qx : String → Hp → Prop}  (r1 : Nat) (h_r1 : isRow nx r1) (x2 : Int) (x3 : Int) (x4 : Int) (x5 : Int) (x6 : Int) (x7 : Int) (s : Sg) {o : ((Int × Int × Int × Sg) ⊕ (Int × Int × Sg))} (hs : Li_flood_l70 r1 x2 x3 x4 x5 x6 x7 s = some o) (hb : ∀ σ : Int × Int × Int × Sg, o = .inl σ → ww C M_X7_flood 1 0 0 nx (Qr) (Qx) nx 0 0 26 [(0, .ref 5), (1, .ref r1), (2, vi x2), (3, vi σ.1), (4, vi σ.2.1), (5, vi σ.2.2.1)] [] (hp nx σ.2.2.2)) (he0 : ∀ ρ : Int × Int × Sg, o = .inr ρ → ww C M_X7_flood 1 0 0 nx (Qr) (Qx) nx 0 0 158 [(0, .ref 5), (2, vi x2), (3, vi ρ.1), (4, vi ρ.2.1)] [] (hp nx ρ.2.2)) : ww C M_X7_flood 1 0 0 nx (Qr) (Qx) nx 0 0 70 [(0, .ref 5), (1, .ref r1), (2, vi x2), (3, vi x3), (4, vi x4), (5, vi x5), (6, vi x6), (7, vi x7)] [] (hp nx s) := by
  unfold Li_flood_l70 at hs
  refine bnd_e hs (fun ρ hw hs => ?_)
  obtain ⟨x4_15, s_16⟩ := ρ
  have hE : ww C M_X7_flood 1 0 0 nx (Qr) (Qx) nx 0 0 152 [(0, .ref 5), (1, .ref r1), (2, vi x2), (3, vi x3), (4, vi x4_15), (5, vi x5)] [] (hp nx s_16) := by
    refine x_iinc (lv' := [(5, vi (x5 + 1)), (0, .ref 5), (1, .ref r1), (2, vi x2), (3, vi x3), (4, vi x4_15)]) 5 dX7_flood_152 rfl (Nat.le_of_ble_eq_true rfl) rfl ?_
    refine w_goto dX7_flood_155 rfl ?_
    refine w_lv (lv' := [(0, .ref 5), (1, .ref r1), (2, vi x2), (3, vi x3), (4, vi x4_15), (5, vi (x5 + 1))]) [1, 2, 3, 4, 5, 0] rfl ?_
    cases hs
    exact hb _ rfl
  refine whl_w (P := fun σ => ww C M_X7_flood 1 0 0 nx (Qr) (Qx) nx 0 0 70 [(0, .ref 5), (1, .ref r1), (2, vi x2), (3, vi x3), (4, vi σ.1), (5, vi x5), (6, vi x6), (7, vi σ.2.1)] [] (hp nx σ.2.2)) (E := fun ρ => ρ = (x4_15, s_16)) hw rfl ?_
  intro σ o' hs' hb' he'
  exact q_Li_flood_t70 hnx r1 h_r1 x2 x3 σ.1 x5 x6 σ.2.1 σ.2.2 hs' hb' (fun ρ e => by cases he' _ e; exact hE)
set_option maxRecDepth 100000 in
theorem q_Li_flood_t26 {C : Cx} {nx : Nat} (hnx : 80 ≤ nx) {Qr : Option Value → Hp → Prop} {Qx : String → Hp → Prop}  (r1 : Nat) (h_r1 : isRow nx r1) (x2 : Int) (x3 : Int) (x4 : Int) (x5 : Int) (s : Sg) {o : ((Int × Int × Int × Sg) ⊕ (Int × Int × Sg))} (hs : Li_flood_t26 r1 x2 x3 x4 x5 s = some o) (hb : ∀ σ : Int × Int × Int × Sg, o = .inl σ → ww C M_X7_flood 1 0 0 nx (Qr) (Qx) nx 0 0 26 [(0, .ref 5), (1, .ref r1), (2, vi x2), (3, vi σ.1), (4, vi σ.2.1), (5, vi σ.2.2.1)] [] (hp nx σ.2.2.2)) (he0 : ∀ ρ : Int × Int × Sg, o = .inr ρ → ww C M_X7_flood 1 0 0 nx (Qr) (Qx) nx 0 0 158 [(0, .ref 5), (2, vi x2), (3, vi ρ.1), (4, vi ρ.2.1)] [] (hp nx ρ.2.2)) : ww C M_X7_flood 1 0 0 nx (Qr) (Qx) nx 0 0 26 [(0, .ref 5), (1, .ref r1), (2, vi x2), (3, vi x3), (4, vi x4), (5, vi x5)] [] (hp nx s) := by
  unfold Li_flood_t26 at hs
  refine w_iload 5 dX7_flood_26 rfl ?_
  refine w_iload 4 dX7_flood_28 rfl ?_
  refine x_icmpge hs dX7_flood_30 rfl (fun hs => ?_) (fun hs => ?_)
  · refine w_lv (lv' := [(0, .ref 5), (2, vi x2), (3, vi x3), (4, vi x4)]) [0, 2, 3, 4] rfl ?_
    cases hs
    exact he0 _ rfl
  · refine w_iload 5 dX7_flood_33 rfl ?_
    refine x_bipush dX7_flood_35 (by decide) ?_
    refine x_icmpge hs dX7_flood_37 rfl (fun hs => ?_) (fun hs => ?_)
    · refine w_lv (lv' := [(0, .ref 5), (2, vi x2), (3, vi x3), (4, vi x4)]) [0, 2, 3, 4] rfl ?_
      cases hs
      exact he0 _ rfl
    · refine w_aload_n 0 dX7_flood_40 rfl rfl ?_
      refine x_getR 7 4 (b := 9) dX7_flood_41 (fxX7_25 rfl) rfl rfl (lt_of hnx (Nat.le_of_ble_eq_true rfl)) rfl ?_
      refine w_iload 5 dX7_flood_44 rfl ?_
      refine x_N_I M_X11_at [.ref 9, vi x5] [] hs rfl dX7_flood_46 (lkX7_41 _ rfl) (Nat.le_of_ble_eq_true rfl) (Nat.le_of_ble_eq_true rfl) (Nat.le_of_ble_eq_true rfl) (Nat.le_of_ble_eq_true rfl) (c_Hx_at hnx 9 (Or.inl (rowW_of rfl (lt_of hnx (Nat.le_of_ble_eq_true rfl)))) x5 s) (fun y5 hy5 hs => ?_)
      refine w_istore (lv' := [(6, vi y5), (0, .ref 5), (1, .ref r1), (2, vi x2), (3, vi x3), (4, vi x4), (5, vi x5)]) dX7_flood_49 (Nat.le_of_ble_eq_true rfl) rfl ?_
      refine w_iload_n 4 dX7_flood_51 rfl rfl ?_
      refine w_aload_n 1 dX7_flood_52 rfl rfl ?_
      refine x_getR 7 0 (b := 1) dX7_flood_53 (fxX7_9 rfl) rfl rfl (lt_of hnx (Nat.le_of_ble_eq_true rfl)) rfl ?_
      refine w_iload 0 dX7_flood_56 rfl ?_
      refine w_aload_n 1 dX7_flood_58 rfl rfl ?_
      refine x_getI 7 5 dX7_flood_59 (fxX7_28 rfl) rfl rfl (lt_of hnx (Nat.le_of_ble_eq_true rfl)) ?_
      refine x_V_I M_X5_edges [vi y5, vi (gi s 5 5)] [vi x3] hs rfl dX7_flood_62 (lkX7_49 _ rfl) (lt_of hnx (Nat.le_of_ble_eq_true rfl)) rfl rfl (Nat.le_of_ble_eq_true rfl) (Nat.le_of_ble_eq_true rfl) (Nat.le_of_ble_eq_true rfl) (Nat.le_of_ble_eq_true rfl) (c_Gr_edges hnx y5 (gi s 5 5) s) (fun y6 hy6 hs => ?_)
      refine x_ior dX7_flood_65 ?_
      refine x_istore_n (fun x3_7 => [(3, vi x3_7), (6, vi y5), (0, .ref 5), (1, .ref r1), (2, vi x2), (4, vi x4), (5, vi x5)]) hs dX7_flood_66 rfl (Nat.le_of_ble_eq_true rfl) (fun _ => rfl) (fun x3_7 hs => ?_)
      refine x_iconst dX7_flood_67 ?_
      refine w_istore (lv' := [(7, vi 0), (3, vi x3_7), (6, vi y5), (0, .ref 5), (1, .ref r1), (2, vi x2), (4, vi x4), (5, vi x5)]) dX7_flood_68 (Nat.le_of_ble_eq_true rfl) rfl ?_
      refine w_lv (lv' := [(0, .ref 5), (1, .ref r1), (2, vi x2), (3, vi x3_7), (4, vi x4), (5, vi x5), (6, vi y5), (7, vi 0)]) [3, 4, 5, 1, 6, 7, 2, 0] rfl ?_
      exact q_Li_flood_l70 hnx r1 h_r1 x2 x3_7 x4 x5 y5 0 s hs hb he0
set_option maxRecDepth 100000 in
theorem q_Li_flood_b158 {C : Cx} {nx : Nat} (hnx : 80 ≤ nx) (x2 : Int) (x3 : Int) (x4 : Int) (s : Sg) {o : Sg} (hs : Li_flood_b158 x2 x3 x4 s = some o) : ww C M_X7_flood 1 0 0 nx (QV nx o) (XF) nx 0 0 158 [(0, .ref 5), (2, vi x2), (3, vi x3), (4, vi x4)] [] (hp nx s) := by
  unfold Li_flood_b158 at hs
  refine w_aload_n 0 dX7_flood_158 rfl rfl ?_
  refine x_getR 7 2 (b := 7) dX7_flood_159 (fxX7_19 rfl) rfl rfl (lt_of hnx (Nat.le_of_ble_eq_true rfl)) rfl ?_
  refine w_iload_n 1 dX7_flood_162 rfl rfl ?_
  refine w_iload_n 2 dX7_flood_163 rfl rfl ?_
  refine x_N_V M_X11_set [.ref 7, vi x2, vi x3] [] hs rfl dX7_flood_164 (lkX7_32 _ rfl) (Nat.le_of_ble_eq_true rfl) (Nat.le_of_ble_eq_true rfl) (Nat.le_of_ble_eq_true rfl) (Nat.le_of_ble_eq_true rfl) (c_Hx_set hnx 7 (rowW_of rfl (lt_of hnx (Nat.le_of_ble_eq_true rfl))) x2 x3 s) (fun s21 hs21 hs => ?_)
  refine w_aload_n 0 dX7_flood_167 rfl rfl ?_
  refine x_getR 7 3 (b := 8) dX7_flood_168 (fxX7_22 rfl) rfl rfl (lt_of hnx (Nat.le_of_ble_eq_true rfl)) rfl ?_
  refine w_iload_n 1 dX7_flood_171 rfl rfl ?_
  refine w_iload 3 dX7_flood_172 rfl ?_
  refine x_N_V M_X11_set [.ref 8, vi x2, vi x4] [] hs rfl dX7_flood_174 (lkX7_32 _ rfl) (Nat.le_of_ble_eq_true rfl) (Nat.le_of_ble_eq_true rfl) (Nat.le_of_ble_eq_true rfl) (Nat.le_of_ble_eq_true rfl) (c_Hx_set hnx 8 (rowW_of rfl (lt_of hnx (Nat.le_of_ble_eq_true rfl))) x2 x4 s21) (fun s23 hs23 hs => ?_)
  cases hs
  exact w_return rfl dX7_flood_177 rfl (Nat.le_of_ble_eq_true rfl) (Nat.le_of_ble_eq_true rfl) ⟨rfl, rfl⟩
set_option maxRecDepth 100000 in
theorem q_Li_flood_l26 {C : Cx} {nx : Nat} (hnx : 80 ≤ nx) (r1 : Nat) (h_r1 : isRow nx r1) (x2 : Int) (x3 : Int) (x4 : Int) (x5 : Int) (s : Sg) {o : Sg} (hs : Li_flood_l26 r1 x2 x3 x4 x5 s = some o) : ww C M_X7_flood 1 0 0 nx (QV nx o) (XF) nx 0 0 26 [(0, .ref 5), (1, .ref r1), (2, vi x2), (3, vi x3), (4, vi x4), (5, vi x5)] [] (hp nx s) := by
  unfold Li_flood_l26 at hs
  refine bnd_e hs (fun ρ hw hs => ?_)
  obtain ⟨x3_17, x4_18, s_19⟩ := ρ
  have hE : ww C M_X7_flood 1 0 0 nx (QV nx o) (XF) nx 0 0 158 [(0, .ref 5), (2, vi x2), (3, vi x3_17), (4, vi x4_18)] [] (hp nx s_19) := by
    exact q_Li_flood_b158 hnx x2 x3_17 x4_18 s_19 hs
  refine whl_w (P := fun σ => ww C M_X7_flood 1 0 0 nx (QV nx o) (XF) nx 0 0 26 [(0, .ref 5), (1, .ref r1), (2, vi x2), (3, vi σ.1), (4, vi σ.2.1), (5, vi σ.2.2.1)] [] (hp nx σ.2.2.2)) (E := fun ρ => ρ = (x3_17, x4_18, s_19)) hw rfl ?_
  intro σ o' hs' hb' he'
  exact q_Li_flood_t26 hnx r1 h_r1 x2 σ.1 σ.2.1 σ.2.2.1 σ.2.2.2 hs' hb' (fun ρ e => by cases he' _ e; exact hE)
set_option maxRecDepth 100000 in
theorem c_Li_flood {C : Cx} {nx : Nat} (hnx : 80 ≤ nx) (r1 : Nat) (h_r1 : isRow nx r1) (x2 : Int) (s : Sg) : ∀ o, Li_flood r1 x2 s = some o → mm C M_X7_flood 1 0 0 nx nx [.ref 5, .ref r1, vi x2] (hp nx s) (QV nx o) (XF) := by
  intro o hs
  unfold Li_flood at hs
  refine mm_of rfl rfl (Nat.le_of_ble_eq_true rfl) ?_
  show ww C M_X7_flood 1 0 0 nx (QV nx o) (XF) nx 0 0 0 [(0, .ref 5), (1, .ref r1), (2, vi x2)] [] (hp nx s)
  refine x_iconst dX7_flood_0 ?_
  refine w_istore_n (lv' := [(3, vi 0), (0, .ref 5), (1, .ref r1), (2, vi x2)]) dX7_flood_1 rfl (Nat.le_of_ble_eq_true rfl) rfl ?_
  refine x_iconst dX7_flood_2 ?_
  refine w_istore (lv' := [(4, vi 1), (3, vi 0), (0, .ref 5), (1, .ref r1), (2, vi x2)]) dX7_flood_3 (Nat.le_of_ble_eq_true rfl) rfl ?_
  refine w_aload_n 2 dX7_flood_5 rfl rfl ?_
  refine x_getR 7 1 (b := 6) dX7_flood_6 (fxX7_15 rfl) rfl rfl (lt_of hnx (Nat.le_of_ble_eq_true rfl)) rfl ?_
  refine w_iload_n 4 dX7_flood_9 rfl rfl ?_
  refine w_iload_n 4 dX7_flood_10 rfl rfl ?_
  refine x_N_V M_X11_set [.ref 6, vi x2, vi x2] [] hs rfl dX7_flood_11 (lkX7_32 _ rfl) (Nat.le_of_ble_eq_true rfl) (Nat.le_of_ble_eq_true rfl) (Nat.le_of_ble_eq_true rfl) (Nat.le_of_ble_eq_true rfl) (c_Hx_set hnx 6 (rowW_of rfl (lt_of hnx (Nat.le_of_ble_eq_true rfl))) x2 x2 s) (fun s2 hs2 hs => ?_)
  refine w_aload_n 2 dX7_flood_14 rfl rfl ?_
  refine x_getR 7 4 (b := 9) dX7_flood_15 (fxX7_25 rfl) rfl rfl (lt_of hnx (Nat.le_of_ble_eq_true rfl)) rfl ?_
  refine x_iconst dX7_flood_18 ?_
  refine w_iload_n 4 dX7_flood_19 rfl rfl ?_
  refine x_N_V M_X11_set [.ref 9, vi 0, vi x2] [] hs rfl dX7_flood_20 (lkX7_32 _ rfl) (Nat.le_of_ble_eq_true rfl) (Nat.le_of_ble_eq_true rfl) (Nat.le_of_ble_eq_true rfl) (Nat.le_of_ble_eq_true rfl) (c_Hx_set hnx 9 (rowW_of rfl (lt_of hnx (Nat.le_of_ble_eq_true rfl))) 0 x2 s2) (fun s4 hs4 hs => ?_)
  refine x_iconst dX7_flood_23 ?_
  refine w_istore (lv' := [(5, vi 0), (4, vi 1), (3, vi 0), (0, .ref 5), (1, .ref r1), (2, vi x2)]) dX7_flood_24 (Nat.le_of_ble_eq_true rfl) rfl ?_
  refine w_lv (lv' := [(0, .ref 5), (1, .ref r1), (2, vi x2), (3, vi 0), (4, vi 1), (5, vi 0)]) [3, 4, 5, 2, 1, 0] rfl ?_
  exact q_Li_flood_l26 hnx r1 h_r1 x2 0 1 0 s4 hs
set_option maxRecDepth 100000 in
theorem q_Li_gather_t7 {C : Cx} {nx : Nat} (hnx : 80 ≤ nx) {Qr : Option Value → Hp → Prop} {Qx : String → Hp → Prop}  (r1 : Nat) (h_r1 : isRow nx r1) (x3 : Int) (s : Sg) {o : ((Int × Sg) ⊕ (Sg))} (hs : Li_gather_t7 r1 x3 s = some o) (hb : ∀ σ : Int × Sg, o = .inl σ → ww C M_X7_gather 2 0 0 nx (Qr) (Qx) nx 0 0 7 [(0, .ref 5), (1, .ref r1), (3, vi σ.1)] [] (hp nx σ.2)) (he0 : ∀ ρ : Sg, o = .inr ρ → ww C M_X7_gather 2 0 0 nx (Qr) (Qx) nx 0 0 28 [(0, .ref 5), (1, .ref r1)] [] (hp nx ρ)) : ww C M_X7_gather 2 0 0 nx (Qr) (Qx) nx 0 0 7 [(0, .ref 5), (1, .ref r1), (3, vi x3)] [] (hp nx s) := by
  unfold Li_gather_t7 at hs
  refine w_iload_n 2 dX7_gather_7 rfl rfl ?_
  refine x_bipush dX7_gather_8 (by decide) ?_
  refine x_icmpge hs dX7_gather_10 rfl (fun hs => ?_) (fun hs => ?_)
  · refine w_lv (lv' := [(0, .ref 5), (1, .ref r1)]) [0, 1] rfl ?_
    cases hs
    exact he0 _ rfl
  · refine w_aload_n 0 dX7_gather_13 rfl rfl ?_
    refine x_getR 7 1 (b := 6) dX7_gather_14 (fxX7_15 rfl) rfl rfl (lt_of hnx (Nat.le_of_ble_eq_true rfl)) rfl ?_
    refine w_iload_n 2 dX7_gather_17 rfl rfl ?_
    refine x_iconst dX7_gather_18 ?_
    refine x_N_V M_X11_set [.ref 6, vi x3, vi (-1)] [] hs rfl dX7_gather_19 (lkX7_32 _ rfl) (Nat.le_of_ble_eq_true rfl) (Nat.le_of_ble_eq_true rfl) (Nat.le_of_ble_eq_true rfl) (Nat.le_of_ble_eq_true rfl) (c_Hx_set hnx 6 (rowW_of rfl (lt_of hnx (Nat.le_of_ble_eq_true rfl))) x3 (-1) s) (fun s3 hs3 hs => ?_)
    refine x_iinc (lv' := [(3, vi (x3 + 1)), (0, .ref 5), (1, .ref r1)]) 2 dX7_gather_22 rfl (Nat.le_of_ble_eq_true rfl) rfl ?_
    refine w_goto dX7_gather_25 rfl ?_
    refine w_lv (lv' := [(0, .ref 5), (1, .ref r1), (3, vi (x3 + 1))]) [1, 2, 0] rfl ?_
    cases hs
    exact hb _ rfl
set_option maxRecDepth 100000 in
theorem q_Li_gather_b71 {C : Cx} {nx : Nat} (hnx : 80 ≤ nx) {Qr : Option Value → Hp → Prop} {Qx : String → Hp → Prop}  (r1 : Nat) (h_r1 : isRow nx r1) (x3 : Int) (s : Sg) {o : ((Int × Sg) ⊕ (Sg))} (hs : Li_gather_b71 r1 x3 s = some o) (hb : ∀ σ : Int × Sg, o = .inl σ → ww C M_X7_gather 2 0 0 nx (Qr) (Qx) nx 0 0 30 [(0, .ref 5), (1, .ref r1), (3, vi σ.1)] [] (hp nx σ.2)) (he0 : ∀ ρ : Sg, o = .inr ρ → ww C M_X7_gather 2 0 0 nx (Qr) (Qx) nx 0 0 77 [] [] (hp nx ρ)) : ww C M_X7_gather 2 0 0 nx (Qr) (Qx) nx 0 0 71 [(0, .ref 5), (1, .ref r1), (3, vi x3)] [] (hp nx s) := by
  unfold Li_gather_b71 at hs
  refine x_iinc (lv' := [(3, vi (x3 + 1)), (0, .ref 5), (1, .ref r1)]) 2 dX7_gather_71 rfl (Nat.le_of_ble_eq_true rfl) rfl ?_
  refine w_goto dX7_gather_74 rfl ?_
  refine w_lv (lv' := [(0, .ref 5), (1, .ref r1), (3, vi (x3 + 1))]) [1, 2, 0] rfl ?_
  cases hs
  exact hb _ rfl
set_option maxRecDepth 100000 in
theorem q_Li_gather_t30 {C : Cx} {nx : Nat} (hnx : 80 ≤ nx) {Qr : Option Value → Hp → Prop} {Qx : String → Hp → Prop}  (r1 : Nat) (h_r1 : isRow nx r1) (x3 : Int) (s : Sg) {o : ((Int × Sg) ⊕ (Sg))} (hs : Li_gather_t30 r1 x3 s = some o) (hb : ∀ σ : Int × Sg, o = .inl σ → ww C M_X7_gather 2 0 0 nx (Qr) (Qx) nx 0 0 30 [(0, .ref 5), (1, .ref r1), (3, vi σ.1)] [] (hp nx σ.2)) (he0 : ∀ ρ : Sg, o = .inr ρ → ww C M_X7_gather 2 0 0 nx (Qr) (Qx) nx 0 0 77 [] [] (hp nx ρ)) : ww C M_X7_gather 2 0 0 nx (Qr) (Qx) nx 0 0 30 [(0, .ref 5), (1, .ref r1), (3, vi x3)] [] (hp nx s) := by
  unfold Li_gather_t30 at hs
  refine w_iload_n 2 dX7_gather_30 rfl rfl ?_
  refine w_aload_n 0 dX7_gather_31 rfl rfl ?_
  refine x_getR 7 0 (b := 1) dX7_gather_32 (fxX7_9 rfl) rfl rfl (lt_of hnx (Nat.le_of_ble_eq_true rfl)) rfl ?_
  refine x_getI 5 4 dX7_gather_35 (fxX7_36 rfl) rfl rfl (lt_of hnx (Nat.le_of_ble_eq_true rfl)) ?_
  refine x_icmpge hs dX7_gather_38 rfl (fun hs => ?_) (fun hs => ?_)
  · refine w_lv (lv' := []) [] rfl ?_
    cases hs
    exact he0 _ rfl
  · refine w_aload_n 1 dX7_gather_41 rfl rfl ?_
    refine w_iload_n 2 dX7_gather_42 rfl rfl ?_
    refine x_N_I M_X11_at [.ref r1, vi x3] [] hs rfl dX7_gather_43 (lkX7_41 _ rfl) (Nat.le_of_ble_eq_true rfl) (Nat.le_of_ble_eq_true rfl) (Nat.le_of_ble_eq_true rfl) (Nat.le_of_ble_eq_true rfl) (c_Hx_at hnx r1 h_r1 x3 s) (fun y5 hy5 hs => ?_)
    refine w_aload_n 0 dX7_gather_46 rfl rfl ?_
    refine x_getI 7 5 dX7_gather_47 (fxX7_28 rfl) rfl rfl (lt_of hnx (Nat.le_of_ble_eq_true rfl)) ?_
    refine x_icmpne hs dX7_gather_50 rfl (fun hs => ?_) (fun hs => ?_)
    · exact q_Li_gather_b71 hnx r1 h_r1 x3 s hs hb he0
    · refine w_aload_n 0 dX7_gather_53 rfl rfl ?_
      refine x_getR 7 1 (b := 6) dX7_gather_54 (fxX7_15 rfl) rfl rfl (lt_of hnx (Nat.le_of_ble_eq_true rfl)) rfl ?_
      refine w_iload_n 2 dX7_gather_57 rfl rfl ?_
      refine x_N_I M_X11_at [.ref 6, vi x3] [] hs rfl dX7_gather_58 (lkX7_41 _ rfl) (Nat.le_of_ble_eq_true rfl) (Nat.le_of_ble_eq_true rfl) (Nat.le_of_ble_eq_true rfl) (Nat.le_of_ble_eq_true rfl) (c_Hx_at hnx 6 (Or.inl (rowW_of rfl (lt_of hnx (Nat.le_of_ble_eq_true rfl)))) x3 s) (fun y6 hy6 hs => ?_)
      refine x_iconst dX7_gather_61 ?_
      refine x_icmpne hs dX7_gather_62 rfl (fun hs => ?_) (fun hs => ?_)
      · exact q_Li_gather_b71 hnx r1 h_r1 x3 s hs hb he0
      · refine w_aload_n 0 dX7_gather_65 rfl rfl ?_
        refine w_aload_n 1 dX7_gather_66 rfl rfl ?_
        refine w_iload_n 2 dX7_gather_67 rfl rfl ?_
        refine x_V_V M_X7_flood [.ref r1, vi x3] [] hs rfl dX7_gather_68 (lkX7_45 _ rfl) (lt_of hnx (Nat.le_of_ble_eq_true rfl)) rfl rfl (Nat.le_of_ble_eq_true rfl) (Nat.le_of_ble_eq_true rfl) (Nat.le_of_ble_eq_true rfl) (Nat.le_of_ble_eq_true rfl) (c_Li_flood hnx r1 h_r1 x3 s) (fun s8 hs8 hs => ?_)
        exact q_Li_gather_b71 hnx r1 h_r1 x3 s8 hs hb he0
set_option maxRecDepth 100000 in
theorem q_Li_gather_l30 {C : Cx} {nx : Nat} (hnx : 80 ≤ nx) (r1 : Nat) (h_r1 : isRow nx r1) (x3 : Int) (s : Sg) {o : Sg} (hs : Li_gather_l30 r1 x3 s = some o) : ww C M_X7_gather 2 0 0 nx (QV nx o) (XF) nx 0 0 30 [(0, .ref 5), (1, .ref r1), (3, vi x3)] [] (hp nx s) := by
  unfold Li_gather_l30 at hs
  refine bnd_e hs (fun s_9 hw hs => ?_)
  have hE : ww C M_X7_gather 2 0 0 nx (QV nx o) (XF) nx 0 0 77 [] [] (hp nx s_9) := by
    cases hs
    exact w_return rfl dX7_gather_77 rfl (Nat.le_of_ble_eq_true rfl) (Nat.le_of_ble_eq_true rfl) ⟨rfl, rfl⟩
  refine whl_w (P := fun σ => ww C M_X7_gather 2 0 0 nx (QV nx o) (XF) nx 0 0 30 [(0, .ref 5), (1, .ref r1), (3, vi σ.1)] [] (hp nx σ.2)) (E := fun ρ => ρ = s_9) hw rfl ?_
  intro σ o' hs' hb' he'
  exact q_Li_gather_t30 hnx r1 h_r1 σ.1 σ.2 hs' hb' (fun ρ e => by cases he' _ e; exact hE)
set_option maxRecDepth 100000 in
theorem q_Li_gather_l7 {C : Cx} {nx : Nat} (hnx : 80 ≤ nx) (r1 : Nat) (h_r1 : isRow nx r1) (x3 : Int) (s : Sg) {o : Sg} (hs : Li_gather_l7 r1 x3 s = some o) : ww C M_X7_gather 2 0 0 nx (QV nx o) (XF) nx 0 0 7 [(0, .ref 5), (1, .ref r1), (3, vi x3)] [] (hp nx s) := by
  unfold Li_gather_l7 at hs
  refine bnd_e hs (fun s_4 hw hs => ?_)
  have hE : ww C M_X7_gather 2 0 0 nx (QV nx o) (XF) nx 0 0 28 [(0, .ref 5), (1, .ref r1)] [] (hp nx s_4) := by
    refine x_iconst dX7_gather_28 ?_
    refine w_istore_n (lv' := [(3, vi 0), (0, .ref 5), (1, .ref r1)]) dX7_gather_29 rfl (Nat.le_of_ble_eq_true rfl) rfl ?_
    refine w_lv (lv' := [(0, .ref 5), (1, .ref r1), (3, vi 0)]) [1, 2, 0] rfl ?_
    exact q_Li_gather_l30 hnx r1 h_r1 0 s_4 hs
  refine whl_w (P := fun σ => ww C M_X7_gather 2 0 0 nx (QV nx o) (XF) nx 0 0 7 [(0, .ref 5), (1, .ref r1), (3, vi σ.1)] [] (hp nx σ.2)) (E := fun ρ => ρ = s_4) hw rfl ?_
  intro σ o' hs' hb' he'
  exact q_Li_gather_t7 hnx r1 h_r1 σ.1 σ.2 hs' hb' (fun ρ e => by cases he' _ e; exact hE)
set_option maxRecDepth 100000 in
theorem c_Li_gather {C : Cx} {nx : Nat} (hnx : 80 ≤ nx) (r1 : Nat) (h_r1 : isRow nx r1) (x2 : Int) (s : Sg) : ∀ o, Li_gather r1 x2 s = some o → mm C M_X7_gather 2 0 0 nx nx [.ref 5, .ref r1, vi x2] (hp nx s) (QV nx o) (XF) := by
  intro o hs
  unfold Li_gather at hs
  refine mm_of rfl rfl (Nat.le_of_ble_eq_true rfl) ?_
  show ww C M_X7_gather 2 0 0 nx (QV nx o) (XF) nx 0 0 0 [(0, .ref 5), (1, .ref r1), (2, vi x2)] [] (hp nx s)
  refine w_aload_n 0 dX7_gather_0 rfl rfl ?_
  refine w_iload_n 2 dX7_gather_1 rfl rfl ?_
  refine x_putI 7 5 dX7_gather_2 (poX7_28 rfl) rfl rfl (lt_of hnx (Nat.le_of_ble_eq_true rfl)) ?_
  refine nam_s hs (fun s1 hs => ?_)
  refine x_iconst dX7_gather_5 ?_
  refine w_istore_n (lv' := [(3, vi 0), (0, .ref 5), (1, .ref r1), (2, vi x2)]) dX7_gather_6 rfl (Nat.le_of_ble_eq_true rfl) rfl ?_
  refine w_lv (lv' := [(0, .ref 5), (1, .ref r1), (3, vi 0)]) [1, 2, 0] rfl ?_
  exact q_Li_gather_l7 hnx r1 h_r1 0 s1 hs
set_option maxRecDepth 100000 in
theorem c_Hx_otherSide {C : Cx} {nx : Nat} (hnx : 80 ≤ nx) (x0 : Int) (s : Sg) : ∀ o, Hx_otherSide x0 s = some o → mm C M_X11_otherSide 0 0 0 nx nx [vi x0] (hp nx s) (QI nx s o) (XF) := by
  intro o hs
  unfold Hx_otherSide at hs
  refine mm_of rfl rfl (Nat.le_of_ble_eq_true rfl) ?_
  show ww C M_X11_otherSide 0 0 0 nx (QI nx s o) (XF) nx 0 0 0 [(0, vi x0)] [] (hp nx s)
  refine w_iload_n 0 dX11_otherSide_0 rfl rfl ?_
  refine x_ifne hs dX11_otherSide_1 rfl (fun hs => ?_) (fun hs => ?_)
  · refine x_iconst dX11_otherSide_8 ?_
    cases hs
    exact x_ireturn dX11_otherSide_9 rfl rfl (Nat.le_of_ble_eq_true rfl) (Nat.le_of_ble_eq_true rfl) ⟨rfl, rfl⟩
  · refine x_iconst dX11_otherSide_4 ?_
    refine w_goto dX11_otherSide_5 rfl ?_
    cases hs
    exact x_ireturn dX11_otherSide_9 rfl rfl (Nat.le_of_ble_eq_true rfl) (Nat.le_of_ble_eq_true rfl) ⟨rfl, rfl⟩
set_option maxRecDepth 100000 in
theorem q_Pa_lower_b76 {C : Cx} {nx : Nat} (hnx : 80 ≤ nx) {Qr : Option Value → Hp → Prop} {Qx : String → Hp → Prop}  (r0 : Nat) (h_r0 : isPaths r0) (r1 : Nat) (h_r1 : isRowW nx r1) (x2 : Int) (x3 : Int) (x4 : Int) (x5 : Int) (s : Sg) {o : ((Int × Int) ⊕ (Int))} (hs : Pa_lower_b76 r0 r1 x2 x3 x4 x5 s = some o) (hb : ∀ σ : Int × Int, o = .inl σ → ww C M_X8_lower 1 0 0 nx (Qr) (Qx) nx 0 0 26 [(0, .ref r0), (1, .ref r1), (2, vi x2), (3, vi x3), (4, vi σ.1), (5, vi σ.2)] [] (hp nx s)) (he0 : ∀ ρ : Int, o = .inr ρ → ww C M_X8_lower 1 0 0 nx (Qr) (Qx) nx 0 0 82 [(1, .ref r1), (2, vi x2), (4, vi ρ)] [] (hp nx s)) : ww C M_X8_lower 1 0 0 nx (Qr) (Qx) nx 0 0 76 [(0, .ref r0), (1, .ref r1), (2, vi x2), (3, vi x3), (4, vi x4), (5, vi x5)] [] (hp nx s) := by
  unfold Pa_lower_b76 at hs
  refine x_iinc (lv' := [(5, vi (x5 + 1)), (0, .ref r0), (1, .ref r1), (2, vi x2), (3, vi x3), (4, vi x4)]) 5 dX8_lower_76 rfl (Nat.le_of_ble_eq_true rfl) rfl ?_
  refine w_goto dX8_lower_79 rfl ?_
  refine w_lv (lv' := [(0, .ref r0), (1, .ref r1), (2, vi x2), (3, vi x3), (4, vi x4), (5, vi (x5 + 1))]) [1, 2, 3, 4, 5, 0] rfl ?_
  cases hs
  exact hb _ rfl
set_option maxRecDepth 100000 in
theorem q_Pa_lower_b70 {C : Cx} {nx : Nat} (hnx : 80 ≤ nx) {Qr : Option Value → Hp → Prop} {Qx : String → Hp → Prop}  (r0 : Nat) (h_r0 : isPaths r0) (r1 : Nat) (h_r1 : isRowW nx r1) (x2 : Int) (x3 : Int) (x5 : Int) (x6 : Int) (s : Sg) {o : ((Int × Int) ⊕ (Int))} (hs : Pa_lower_b70 r0 r1 x2 x3 x5 x6 s = some o) (hb : ∀ σ : Int × Int, o = .inl σ → ww C M_X8_lower 1 0 0 nx (Qr) (Qx) nx 0 0 26 [(0, .ref r0), (1, .ref r1), (2, vi x2), (3, vi x3), (4, vi σ.1), (5, vi σ.2)] [] (hp nx s)) (he0 : ∀ ρ : Int, o = .inr ρ → ww C M_X8_lower 1 0 0 nx (Qr) (Qx) nx 0 0 82 [(1, .ref r1), (2, vi x2), (4, vi ρ)] [] (hp nx s)) : ww C M_X8_lower 1 0 0 nx (Qr) (Qx) nx 0 0 70 [(0, .ref r0), (1, .ref r1), (2, vi x2), (3, vi x3), (5, vi x5), (6, vi x6)] [] (hp nx s) := by
  unfold Pa_lower_b70 at hs
  refine w_iload 5 dX8_lower_70 rfl ?_
  refine w_iload_n 3 dX8_lower_72 rfl rfl ?_
  refine x_iadd dX8_lower_73 ?_
  refine x_istore (fun x4_5 => [(4, vi x4_5), (0, .ref r0), (1, .ref r1), (2, vi x2), (3, vi x3), (5, vi x5), (6, vi x6)]) hs dX8_lower_74 (Nat.le_of_ble_eq_true rfl) (fun _ => rfl) (fun x4_5 hs => ?_)
  refine w_lv (lv' := [(0, .ref r0), (1, .ref r1), (2, vi x2), (3, vi x3), (4, vi x4_5), (5, vi x5)]) [1, 2, 3, 4, 0, 5] rfl ?_
  exact q_Pa_lower_b76 hnx r0 h_r0 r1 h_r1 x2 x3 x4_5 x5 s hs hb he0
set_option maxRecDepth 100000 in
theorem q_Pa_lower_t26 {C : Cx} {nx : Nat} (hnx : 80 ≤ nx) {Qr : Option Value → Hp → Prop} {Qx : String → Hp → Prop}  (r0 : Nat) (h_r0 : isPaths r0) (r1 : Nat) (h_r1 : isRowW nx r1) (x2 : Int) (x3 : Int) (x4 : Int) (x5 : Int) (s : Sg) {o : ((Int × Int) ⊕ (Int))} (hs : Pa_lower_t26 r0 r1 x2 x3 x4 x5 s = some o) (hb : ∀ σ : Int × Int, o = .inl σ → ww C M_X8_lower 1 0 0 nx (Qr) (Qx) nx 0 0 26 [(0, .ref r0), (1, .ref r1), (2, vi x2), (3, vi x3), (4, vi σ.1), (5, vi σ.2)] [] (hp nx s)) (he0 : ∀ ρ : Int, o = .inr ρ → ww C M_X8_lower 1 0 0 nx (Qr) (Qx) nx 0 0 82 [(1, .ref r1), (2, vi x2), (4, vi ρ)] [] (hp nx s)) : ww C M_X8_lower 1 0 0 nx (Qr) (Qx) nx 0 0 26 [(0, .ref r0), (1, .ref r1), (2, vi x2), (3, vi x3), (4, vi x4), (5, vi x5)] [] (hp nx s) := by
  unfold Pa_lower_t26 at hs
  refine w_iload 5 dX8_lower_26 rfl ?_
  refine x_bipush dX8_lower_28 (by decide) ?_
  refine x_icmpge hs dX8_lower_30 rfl (fun hs => ?_) (fun hs => ?_)
  · refine w_lv (lv' := [(1, .ref r1), (2, vi x2), (4, vi x4)]) [1, 2, 4] rfl ?_
    cases hs
    exact he0 _ rfl
  · refine w_aload_n 1 dX8_lower_33 rfl rfl ?_
    refine w_aload_n 0 dX8_lower_34 rfl rfl ?_
    refine x_getR 8 0 (b := 1) dX8_lower_35 (fxX8_9 rfl) rfl (paths_s0 h_r0) (paths_n (j := 0) h_r0 (by decide) hnx) (paths_r0 h_r0) ?_
    refine w_iload_n 2 dX8_lower_38 rfl rfl ?_
    refine w_iload 5 dX8_lower_39 rfl ?_
    refine x_V_I M_X5_near [vi x2, vi x5] [.ref r1] hs rfl dX8_lower_41 (lkX8_50 _ rfl) (lt_of hnx (Nat.le_of_ble_eq_true rfl)) rfl rfl (Nat.le_of_ble_eq_true rfl) (Nat.le_of_ble_eq_true rfl) (Nat.le_of_ble_eq_true rfl) (Nat.le_of_ble_eq_true rfl) (c_Gr_near hnx x2 x5 s) (fun y3 hy3 hs => ?_)
    refine x_N_I M_X11_at [.ref r1, vi y3] [] hs rfl dX8_lower_44 (lkX8_31 _ rfl) (Nat.le_of_ble_eq_true rfl) (Nat.le_of_ble_eq_true rfl) (Nat.le_of_ble_eq_true rfl) (Nat.le_of_ble_eq_true rfl) (c_Hx_at hnx r1 (Or.inl h_r1) y3 s) (fun y4 hy4 hs => ?_)
    refine w_istore (lv' := [(6, vi y4), (0, .ref r0), (1, .ref r1), (2, vi x2), (3, vi x3), (4, vi x4), (5, vi x5)]) dX8_lower_47 (Nat.le_of_ble_eq_true rfl) rfl ?_
    refine w_iload 0 dX8_lower_49 rfl ?_
    refine x_iconst dX8_lower_51 ?_
    refine x_icmpeq hs dX8_lower_52 rfl (fun hs => ?_) (fun hs => ?_)
    · refine w_lv (lv' := [(0, .ref r0), (1, .ref r1), (2, vi x2), (3, vi x3), (4, vi x4), (5, vi x5)]) [1, 2, 3, 4, 5, 6] rfl ?_
      exact q_Pa_lower_b76 hnx r0 h_r0 r1 h_r1 x2 x3 x4 x5 s hs hb he0
    · refine w_iload 5 dX8_lower_55 rfl ?_
      refine x_iconst dX8_lower_57 ?_
      refine x_icmpeq hs dX8_lower_58 rfl (fun hs => ?_) (fun hs => ?_)
      · refine w_lv (lv' := [(0, .ref r0), (1, .ref r1), (2, vi x2), (3, vi x3), (5, vi x5), (6, vi y4)]) [1, 2, 3, 4, 6, 0] rfl ?_
        exact q_Pa_lower_b70 hnx r0 h_r0 r1 h_r1 x2 x3 x5 y4 s hs hb he0
      · refine w_iload 0 dX8_lower_61 rfl ?_
        refine w_iload_n 4 dX8_lower_63 rfl rfl ?_
        refine x_iadd dX8_lower_64 ?_
        refine w_iload 5 dX8_lower_65 rfl ?_
        refine x_icmpge hs dX8_lower_67 rfl (fun hs => ?_) (fun hs => ?_)
        · refine w_lv (lv' := [(0, .ref r0), (1, .ref r1), (2, vi x2), (3, vi x3), (4, vi x4), (5, vi x5)]) [1, 2, 3, 4, 5, 6] rfl ?_
          exact q_Pa_lower_b76 hnx r0 h_r0 r1 h_r1 x2 x3 x4 x5 s hs hb he0
        · refine w_lv (lv' := [(0, .ref r0), (1, .ref r1), (2, vi x2), (3, vi x3), (5, vi x5), (6, vi y4)]) [1, 2, 3, 4, 6, 0] rfl ?_
          exact q_Pa_lower_b70 hnx r0 h_r0 r1 h_r1 x2 x3 x5 y4 s hs hb he0
set_option maxRecDepth 100000 in
theorem q_Pa_lower_b97 {C : Cx} {nx : Nat} (hnx : 80 ≤ nx) (r1 : Nat) (h_r1 : isRowW nx r1) (x2 : Int) (x4 : Int) (t0 : Int) (s : Sg) {o : Int × Sg} (hs : Pa_lower_b97 r1 x2 x4 t0 s = some o) : ww C M_X8_lower 1 0 0 nx (QI nx o.2 o.1) (XF) nx 0 0 97 [(1, .ref r1), (2, vi x2), (4, vi x4)] [vi t0] (hp nx s) := by
  unfold Pa_lower_b97 at hs
  refine w_istore (lv' := [(5, vi t0), (1, .ref r1), (2, vi x2), (4, vi x4)]) dX8_lower_97 (Nat.le_of_ble_eq_true rfl) rfl ?_
  refine w_aload_n 1 dX8_lower_99 rfl rfl ?_
  refine w_iload_n 2 dX8_lower_100 rfl rfl ?_
  refine w_iload 3 dX8_lower_101 rfl ?_
  refine x_N_V M_X11_set [.ref r1, vi x2, vi x4] [] hs rfl dX8_lower_103 (lkX8_35 _ rfl) (Nat.le_of_ble_eq_true rfl) (Nat.le_of_ble_eq_true rfl) (Nat.le_of_ble_eq_true rfl) (Nat.le_of_ble_eq_true rfl) (c_Hx_set hnx r1 h_r1 x2 x4 s) (fun s9 hs9 hs => ?_)
  refine w_iload 0 dX8_lower_106 rfl ?_
  refine grd_e hs (fun hg10 hs => ?_)
  cases hs
  exact x_zreturn hg10 dX8_lower_108 rfl rfl (Nat.le_of_ble_eq_true rfl) (Nat.le_of_ble_eq_true rfl) ⟨rfl, rfl⟩
set_option maxRecDepth 100000 in
theorem q_Pa_lower_l26 {C : Cx} {nx : Nat} (hnx : 80 ≤ nx) (r0 : Nat) (h_r0 : isPaths r0) (r1 : Nat) (h_r1 : isRowW nx r1) (x2 : Int) (x3 : Int) (x4 : Int) (x5 : Int) (s : Sg) {o : Int × Sg} (hs : Pa_lower_l26 r0 r1 x2 x3 x4 x5 s = some o) : ww C M_X8_lower 1 0 0 nx (QI nx o.2 o.1) (XF) nx 0 0 26 [(0, .ref r0), (1, .ref r1), (2, vi x2), (3, vi x3), (4, vi x4), (5, vi x5)] [] (hp nx s) := by
  unfold Pa_lower_l26 at hs
  refine bnd_e hs (fun x4_6 hw hs => ?_)
  have hE : ww C M_X8_lower 1 0 0 nx (QI nx o.2 o.1) (XF) nx 0 0 82 [(1, .ref r1), (2, vi x2), (4, vi x4_6)] [] (hp nx s) := by
    refine w_iload 2 dX8_lower_82 rfl ?_
    refine w_aload_n 0 dX8_lower_84 rfl rfl ?_
    refine w_iload_n 1 dX8_lower_85 rfl rfl ?_
    refine x_N_I M_X11_at [.ref r1, vi x2] [vi x4_6] hs rfl dX8_lower_86 (lkX8_31 _ rfl) (Nat.le_of_ble_eq_true rfl) (Nat.le_of_ble_eq_true rfl) (Nat.le_of_ble_eq_true rfl) (Nat.le_of_ble_eq_true rfl) (c_Hx_at hnx r1 (Or.inl h_r1) x2 s) (fun y7 hy7 hs => ?_)
    refine x_icmpeq hs dX8_lower_89 rfl (fun hs => ?_) (fun hs => ?_)
    · refine x_iconst dX8_lower_96 ?_
      exact q_Pa_lower_b97 hnx r1 h_r1 x2 x4_6 0 s hs
    · refine x_iconst dX8_lower_92 ?_
      refine w_goto dX8_lower_93 rfl ?_
      exact q_Pa_lower_b97 hnx r1 h_r1 x2 x4_6 1 s hs
  refine whl_w (P := fun σ => ww C M_X8_lower 1 0 0 nx (QI nx o.2 o.1) (XF) nx 0 0 26 [(0, .ref r0), (1, .ref r1), (2, vi x2), (3, vi x3), (4, vi σ.1), (5, vi σ.2)] [] (hp nx s)) (E := fun ρ => ρ = x4_6) hw rfl ?_
  intro σ o' hs' hb' he'
  exact q_Pa_lower_t26 hnx r0 h_r0 r1 h_r1 x2 x3 σ.1 σ.2 s hs' hb' (fun ρ e => by cases he' _ e; exact hE)
set_option maxRecDepth 100000 in
theorem c_Pa_lower {C : Cx} {nx : Nat} (hnx : 80 ≤ nx) (r0 : Nat) (h_r0 : isPaths r0) (r1 : Nat) (h_r1 : isRowW nx r1) (x2 : Int) (s : Sg) : ∀ o, Pa_lower r0 r1 x2 s = some o → mm C M_X8_lower 1 0 0 nx nx [.ref r0, .ref r1, vi x2] (hp nx s) (QI nx o.2 o.1) (XF) := by
  intro o hs
  unfold Pa_lower at hs
  refine mm_of rfl rfl (Nat.le_of_ble_eq_true rfl) ?_
  show ww C M_X8_lower 1 0 0 nx (QI nx o.2 o.1) (XF) nx 0 0 0 [(0, .ref r0), (1, .ref r1), (2, vi x2)] [] (hp nx s)
  refine w_aload_n 0 dX8_lower_0 rfl rfl ?_
  refine x_getR 8 1 (b := (r0 + 1)) dX8_lower_1 (fxX8_15 rfl) rfl (paths_s0 h_r0) (paths_n (j := 0) h_r0 (by decide) hnx) (paths_r1 h_r0) ?_
  refine w_iload_n 2 dX8_lower_4 rfl rfl ?_
  refine x_N_I M_X11_at [.ref (r0 + 1), vi x2] [] hs rfl dX8_lower_5 (lkX8_31 _ rfl) (Nat.le_of_ble_eq_true rfl) (Nat.le_of_ble_eq_true rfl) (Nat.le_of_ble_eq_true rfl) (Nat.le_of_ble_eq_true rfl) (c_Hx_at hnx (r0 + 1) (Or.inl (rowW_of (paths_s1 h_r0) (paths_n (j := 1) h_r0 (by decide) hnx))) x2 s) (fun y1 hy1 hs => ?_)
  refine w_istore_n (lv' := [(3, vi y1), (0, .ref r0), (1, .ref r1), (2, vi x2)]) dX8_lower_8 rfl (Nat.le_of_ble_eq_true rfl) rfl ?_
  refine w_aload_n 2 dX8_lower_9 rfl rfl ?_
  refine w_iload_n 3 dX8_lower_10 rfl rfl ?_
  refine x_N_I M_X11_at [.ref r1, vi x2] [] hs rfl dX8_lower_11 (lkX8_31 _ rfl) (Nat.le_of_ble_eq_true rfl) (Nat.le_of_ble_eq_true rfl) (Nat.le_of_ble_eq_true rfl) (Nat.le_of_ble_eq_true rfl) (c_Hx_at hnx r1 (Or.inl h_r1) x2 s) (fun y2 hy2 hs => ?_)
  refine w_istore (lv' := [(4, vi y2), (3, vi y1), (0, .ref r0), (1, .ref r1), (2, vi x2)]) dX8_lower_14 (Nat.le_of_ble_eq_true rfl) rfl ?_
  refine w_iload_n 1 dX8_lower_16 rfl rfl ?_
  refine x_iconst dX8_lower_17 ?_
  refine x_icmpne hs dX8_lower_18 rfl (fun hs => ?_) (fun hs => ?_)
  · refine x_iconst dX8_lower_23 ?_
    refine w_istore (lv' := [(5, vi 0), (4, vi y2), (3, vi y1), (0, .ref r0), (1, .ref r1), (2, vi x2)]) dX8_lower_24 (Nat.le_of_ble_eq_true rfl) rfl ?_
    refine w_lv (lv' := [(0, .ref r0), (1, .ref r1), (2, vi x2), (3, vi y1), (4, vi y2), (5, vi 0)]) [3, 4, 5, 2, 1, 0] rfl ?_
    exact q_Pa_lower_l26 hnx r0 h_r0 r1 h_r1 x2 y1 y2 0 s hs
  · refine x_iconst dX8_lower_21 ?_
    cases hs
    exact x_zreturn (Or.inl rfl) dX8_lower_22 rfl rfl (Nat.le_of_ble_eq_true rfl) (Nat.le_of_ble_eq_true rfl) ⟨rfl, rfl⟩
set_option maxRecDepth 100000 in
theorem q_Pa_spread_b58 {C : Cx} {nx : Nat} (hnx : 80 ≤ nx) {Qr : Option Value → Hp → Prop} {Qx : String → Hp → Prop}  (r0 : Nat) (h_r0 : isPaths r0) (r1 : Nat) (h_r1 : isRowW nx r1) (x2 : Int) (x3 : Int) (x4 : Int) (t1 : Int) (t2 : Int) (s : Sg) {o : ((Int × Sg) ⊕ (Sg))} (hs : Pa_spread_b58 r0 r1 x2 x3 x4 t1 t2 s = some o) (hb : ∀ σ : Int × Sg, o = .inl σ → ww C M_X8_spread 2 0 0 nx (Qr) (Qx) nx 0 0 3 [(0, .ref r0), (1, .ref r1), (2, vi x2), (3, vi x3), (4, vi σ.1)] [] (hp nx σ.2)) (he0 : ∀ ρ : Sg, o = .inr ρ → ww C M_X8_spread 2 0 0 nx (Qr) (Qx) nx 0 0 67 [(0, .ref r0), (1, .ref r1)] [] (hp nx ρ)) : ww C M_X8_spread 2 0 0 nx (Qr) (Qx) nx 0 0 58 [(0, .ref r0), (1, .ref r1), (2, vi x2), (3, vi x3), (4, vi x4)] [vi t2, vi t1, .ref r1] (hp nx s) := by
  unfold Pa_spread_b58 at hs
  refine x_N_V M_X11_set [.ref r1, vi t1, vi t2] [] hs rfl dX8_spread_58 (lkX8_35 _ rfl) (Nat.le_of_ble_eq_true rfl) (Nat.le_of_ble_eq_true rfl) (Nat.le_of_ble_eq_true rfl) (Nat.le_of_ble_eq_true rfl) (c_Hx_set hnx r1 h_r1 t1 t2 s) (fun s3 hs3 hs => ?_)
  refine x_iinc (lv' := [(4, vi (x4 + 1)), (0, .ref r0), (1, .ref r1), (2, vi x2), (3, vi x3)]) 4 dX8_spread_61 rfl (Nat.le_of_ble_eq_true rfl) rfl ?_
  refine w_goto dX8_spread_64 rfl ?_
  refine w_lv (lv' := [(0, .ref r0), (1, .ref r1), (2, vi x2), (3, vi x3), (4, vi (x4 + 1))]) [1, 2, 3, 4, 0] rfl ?_
  cases hs
  exact hb _ rfl
set_option maxRecDepth 100000 in
theorem q_Pa_spread_b35 {C : Cx} {nx : Nat} (hnx : 80 ≤ nx) {Qr : Option Value → Hp → Prop} {Qx : String → Hp → Prop}  (r0 : Nat) (h_r0 : isPaths r0) (r1 : Nat) (h_r1 : isRowW nx r1) (x2 : Int) (x3 : Int) (x4 : Int) (t0 : Int) (s : Sg) {o : ((Int × Sg) ⊕ (Sg))} (hs : Pa_spread_b35 r0 r1 x2 x3 x4 t0 s = some o) (hb : ∀ σ : Int × Sg, o = .inl σ → ww C M_X8_spread 2 0 0 nx (Qr) (Qx) nx 0 0 3 [(0, .ref r0), (1, .ref r1), (2, vi x2), (3, vi x3), (4, vi σ.1)] [] (hp nx σ.2)) (he0 : ∀ ρ : Sg, o = .inr ρ → ww C M_X8_spread 2 0 0 nx (Qr) (Qx) nx 0 0 67 [(0, .ref r0), (1, .ref r1)] [] (hp nx ρ)) : ww C M_X8_spread 2 0 0 nx (Qr) (Qx) nx 0 0 35 [(0, .ref r0), (1, .ref r1), (2, vi x2), (3, vi x3), (4, vi x4)] [vi t0] (hp nx s) := by
  unfold Pa_spread_b35 at hs
  refine w_istore (lv' := [(5, vi t0), (0, .ref r0), (1, .ref r1), (2, vi x2), (3, vi x3), (4, vi x4)]) dX8_spread_35 (Nat.le_of_ble_eq_true rfl) rfl ?_
  refine w_aload_n 2 dX8_spread_37 rfl rfl ?_
  refine w_iload 5 dX8_spread_38 rfl ?_
  refine w_iload 0 dX8_spread_40 rfl ?_
  refine x_ifeq hs dX8_spread_42 rfl (fun hs => ?_) (fun hs => ?_)
  · refine x_iconst dX8_spread_57 ?_
    refine w_lv (lv' := [(0, .ref r0), (1, .ref r1), (2, vi x2), (3, vi x3), (4, vi x4)]) [1, 2, 3, 4, 5] rfl ?_
    exact q_Pa_spread_b58 hnx r0 h_r0 r1 h_r1 x2 x3 x4 x4 (-1) s hs hb he0
  · refine w_aload_n 1 dX8_spread_45 rfl rfl ?_
    refine x_getR 8 1 (b := (r0 + 1)) dX8_spread_46 (fxX8_15 rfl) rfl (paths_s0 h_r0) (paths_n (j := 0) h_r0 (by decide) hnx) (paths_r1 h_r0) ?_
    refine w_iload 5 dX8_spread_49 rfl ?_
    refine x_N_I M_X11_at [.ref (r0 + 1), vi x4] [vi x4, .ref r1] hs rfl dX8_spread_51 (lkX8_31 _ rfl) (Nat.le_of_ble_eq_true rfl) (Nat.le_of_ble_eq_true rfl) (Nat.le_of_ble_eq_true rfl) (Nat.le_of_ble_eq_true rfl) (c_Hx_at hnx (r0 + 1) (Or.inl (rowW_of (paths_s1 h_r0) (paths_n (j := 1) h_r0 (by decide) hnx))) x4 s) (fun y4 hy4 hs => ?_)
    refine w_goto dX8_spread_54 rfl ?_
    refine w_lv (lv' := [(0, .ref r0), (1, .ref r1), (2, vi x2), (3, vi x3), (4, vi x4)]) [1, 2, 3, 4, 5] rfl ?_
    exact q_Pa_spread_b58 hnx r0 h_r0 r1 h_r1 x2 x3 x4 x4 y4 s hs hb he0
set_option maxRecDepth 100000 in
theorem q_Pa_spread_t3 {C : Cx} {nx : Nat} (hnx : 80 ≤ nx) {Qr : Option Value → Hp → Prop} {Qx : String → Hp → Prop}  (r0 : Nat) (h_r0 : isPaths r0) (r1 : Nat) (h_r1 : isRowW nx r1) (x2 : Int) (x3 : Int) (x4 : Int) (s : Sg) {o : ((Int × Sg) ⊕ (Sg))} (hs : Pa_spread_t3 r0 r1 x2 x3 x4 s = some o) (hb : ∀ σ : Int × Sg, o = .inl σ → ww C M_X8_spread 2 0 0 nx (Qr) (Qx) nx 0 0 3 [(0, .ref r0), (1, .ref r1), (2, vi x2), (3, vi x3), (4, vi σ.1)] [] (hp nx σ.2)) (he0 : ∀ ρ : Sg, o = .inr ρ → ww C M_X8_spread 2 0 0 nx (Qr) (Qx) nx 0 0 67 [(0, .ref r0), (1, .ref r1)] [] (hp nx ρ)) : ww C M_X8_spread 2 0 0 nx (Qr) (Qx) nx 0 0 3 [(0, .ref r0), (1, .ref r1), (2, vi x2), (3, vi x3), (4, vi x4)] [] (hp nx s) := by
  unfold Pa_spread_t3 at hs
  refine w_iload 4 dX8_spread_3 rfl ?_
  refine w_aload_n 0 dX8_spread_5 rfl rfl ?_
  refine x_getR 8 0 (b := 1) dX8_spread_6 (fxX8_9 rfl) rfl (paths_s0 h_r0) (paths_n (j := 0) h_r0 (by decide) hnx) (paths_r0 h_r0) ?_
  refine x_getI 5 4 dX8_spread_9 (fxX8_25 rfl) rfl rfl (lt_of hnx (Nat.le_of_ble_eq_true rfl)) ?_
  refine x_icmpge hs dX8_spread_12 rfl (fun hs => ?_) (fun hs => ?_)
  · refine w_lv (lv' := [(0, .ref r0), (1, .ref r1)]) [0, 1] rfl ?_
    cases hs
    exact he0 _ rfl
  · refine w_aload_n 0 dX8_spread_15 rfl rfl ?_
    refine x_getR 8 0 (b := 1) dX8_spread_16 (fxX8_9 rfl) rfl (paths_s0 h_r0) (paths_n (j := 0) h_r0 (by decide) hnx) (paths_r0 h_r0) ?_
    refine w_iload 4 dX8_spread_19 rfl ?_
    refine w_iload_n 2 dX8_spread_21 rfl rfl ?_
    refine x_V_I M_X5_edges [vi x4, vi x2] [] hs rfl dX8_spread_22 (lkX8_42 _ rfl) (lt_of hnx (Nat.le_of_ble_eq_true rfl)) rfl rfl (Nat.le_of_ble_eq_true rfl) (Nat.le_of_ble_eq_true rfl) (Nat.le_of_ble_eq_true rfl) (Nat.le_of_ble_eq_true rfl) (c_Gr_edges hnx x4 x2 s) (fun y1 hy1 hs => ?_)
    refine w_iload_n 3 dX8_spread_25 rfl rfl ?_
    refine x_iand dX8_spread_26 ?_
    refine x_ifeq hs dX8_spread_27 rfl (fun hs => ?_) (fun hs => ?_)
    · refine x_iconst dX8_spread_34 ?_
      exact q_Pa_spread_b35 hnx r0 h_r0 r1 h_r1 x2 x3 x4 0 s hs hb he0
    · refine x_iconst dX8_spread_30 ?_
      refine w_goto dX8_spread_31 rfl ?_
      exact q_Pa_spread_b35 hnx r0 h_r0 r1 h_r1 x2 x3 x4 1 s hs hb he0
set_option maxRecDepth 100000 in
theorem q_Pa_spread_t91 {C : Cx} {nx : Nat} (hnx : 80 ≤ nx) {Qr : Option Value → Hp → Prop} {Qx : String → Hp → Prop}  (r0 : Nat) (h_r0 : isPaths r0) (r1 : Nat) (h_r1 : isRowW nx r1) (x4 : Int) (x5 : Int) (x6 : Int) (s : Sg) {o : ((Int × Int × Sg) ⊕ (Int × Sg))} (hs : Pa_spread_t91 r0 r1 x4 x5 x6 s = some o) (hb : ∀ σ : Int × Int × Sg, o = .inl σ → ww C M_X8_spread 2 0 0 nx (Qr) (Qx) nx 0 0 91 [(0, .ref r0), (1, .ref r1), (4, vi σ.1), (5, vi x5), (6, vi σ.2.1)] [] (hp nx σ.2.2)) (he0 : ∀ ρ : Int × Sg, o = .inr ρ → ww C M_X8_spread 2 0 0 nx (Qr) (Qx) nx 0 0 121 [(0, .ref r0), (1, .ref r1), (4, vi ρ.1), (5, vi x5)] [] (hp nx ρ.2)) : ww C M_X8_spread 2 0 0 nx (Qr) (Qx) nx 0 0 91 [(0, .ref r0), (1, .ref r1), (4, vi x4), (5, vi x5), (6, vi x6)] [] (hp nx s) := by
  unfold Pa_spread_t91 at hs
  refine w_iload 4 dX8_spread_91 rfl ?_
  refine w_aload_n 0 dX8_spread_93 rfl rfl ?_
  refine x_getR 8 0 (b := 1) dX8_spread_94 (fxX8_9 rfl) rfl (paths_s0 h_r0) (paths_n (j := 0) h_r0 (by decide) hnx) (paths_r0 h_r0) ?_
  refine x_getI 5 4 dX8_spread_97 (fxX8_25 rfl) rfl rfl (lt_of hnx (Nat.le_of_ble_eq_true rfl)) ?_
  refine x_icmpge hs dX8_spread_100 rfl (fun hs => ?_) (fun hs => ?_)
  · refine w_lv (lv' := [(0, .ref r0), (1, .ref r1), (4, vi x4), (5, vi x5)]) [0, 1, 2, 3] rfl ?_
    cases hs
    exact he0 _ rfl
  · refine w_iload 2 dX8_spread_103 rfl ?_
    refine w_aload_n 0 dX8_spread_105 rfl rfl ?_
    refine w_aload_n 1 dX8_spread_106 rfl rfl ?_
    refine w_iload 4 dX8_spread_107 rfl ?_
    refine x_V_B M_X8_lower [.ref r1, vi x6] [vi x4] hs rfl dX8_spread_109 (lkX8_46 _ rfl) (paths_n (j := 0) h_r0 (by decide) hnx) (paths_s0 h_r0) rfl (Nat.le_of_ble_eq_true rfl) (Nat.le_of_ble_eq_true rfl) (Nat.le_of_ble_eq_true rfl) (Nat.le_of_ble_eq_true rfl) (c_Pa_lower hnx r0 h_r0 r1 h_r1 x6 s) (fun y6 s7 hy6 hs => ?_)
    refine x_ior dX8_spread_112 ?_
    refine x_istore (fun x4_8 => [(4, vi x4_8), (0, .ref r0), (1, .ref r1), (5, vi x5), (6, vi x6)]) hs dX8_spread_113 (Nat.le_of_ble_eq_true rfl) (fun _ => rfl) (fun x4_8 hs => ?_)
    refine x_iinc (lv' := [(6, vi (x6 + 1)), (4, vi x4_8), (0, .ref r0), (1, .ref r1), (5, vi x5)]) 4 dX8_spread_115 rfl (Nat.le_of_ble_eq_true rfl) rfl ?_
    refine w_goto dX8_spread_118 rfl ?_
    refine w_lv (lv' := [(0, .ref r0), (1, .ref r1), (4, vi x4_8), (5, vi x5), (6, vi (x6 + 1))]) [2, 3, 1, 4, 0] rfl ?_
    cases hs
    exact hb _ rfl
set_option maxRecDepth 100000 in
theorem q_Pa_spread_l91 {C : Cx} {nx : Nat} (hnx : 80 ≤ nx) {Qr : Option Value → Hp → Prop} {Qx : String → Hp → Prop}  (r0 : Nat) (h_r0 : isPaths r0) (r1 : Nat) (h_r1 : isRowW nx r1) (x4 : Int) (x5 : Int) (x6 : Int) (s : Sg) {o : ((Int × Int × Sg) ⊕ (Sg))} (hs : Pa_spread_l91 r0 r1 x4 x5 x6 s = some o) (hb : ∀ σ : Int × Int × Sg, o = .inl σ → ww C M_X8_spread 2 0 0 nx (Qr) (Qx) nx 0 0 73 [(0, .ref r0), (1, .ref r1), (4, vi σ.1), (5, vi σ.2.1)] [] (hp nx σ.2.2)) (he0 : ∀ ρ : Sg, o = .inr ρ → ww C M_X8_spread 2 0 0 nx (Qr) (Qx) nx 0 0 127 [] [] (hp nx ρ)) : ww C M_X8_spread 2 0 0 nx (Qr) (Qx) nx 0 0 91 [(0, .ref r0), (1, .ref r1), (4, vi x4), (5, vi x5), (6, vi x6)] [] (hp nx s) := by
  unfold Pa_spread_l91 at hs
  refine bnd_e hs (fun ρ hw hs => ?_)
  obtain ⟨x4_9, s_10⟩ := ρ
  have hE : ww C M_X8_spread 2 0 0 nx (Qr) (Qx) nx 0 0 121 [(0, .ref r0), (1, .ref r1), (4, vi x4_9), (5, vi x5)] [] (hp nx s_10) := by
    refine x_iinc (lv' := [(5, vi (x5 + 1)), (0, .ref r0), (1, .ref r1), (4, vi x4_9)]) 3 dX8_spread_121 rfl (Nat.le_of_ble_eq_true rfl) rfl ?_
    refine w_goto dX8_spread_124 rfl ?_
    refine w_lv (lv' := [(0, .ref r0), (1, .ref r1), (4, vi x4_9), (5, vi (x5 + 1))]) [1, 2, 3, 0] rfl ?_
    cases hs
    exact hb _ rfl
  refine whl_w (P := fun σ => ww C M_X8_spread 2 0 0 nx (Qr) (Qx) nx 0 0 91 [(0, .ref r0), (1, .ref r1), (4, vi σ.1), (5, vi x5), (6, vi σ.2.1)] [] (hp nx σ.2.2)) (E := fun ρ => ρ = (x4_9, s_10)) hw rfl ?_
  intro σ o' hs' hb' he'
  exact q_Pa_spread_t91 hnx r0 h_r0 r1 h_r1 σ.1 x5 σ.2.1 σ.2.2 hs' hb' (fun ρ e => by cases he' _ e; exact hE)
set_option maxRecDepth 100000 in
theorem q_Pa_spread_t73 {C : Cx} {nx : Nat} (hnx : 80 ≤ nx) {Qr : Option Value → Hp → Prop} {Qx : String → Hp → Prop}  (r0 : Nat) (h_r0 : isPaths r0) (r1 : Nat) (h_r1 : isRowW nx r1) (x4 : Int) (x5 : Int) (s : Sg) {o : ((Int × Int × Sg) ⊕ (Sg))} (hs : Pa_spread_t73 r0 r1 x4 x5 s = some o) (hb : ∀ σ : Int × Int × Sg, o = .inl σ → ww C M_X8_spread 2 0 0 nx (Qr) (Qx) nx 0 0 73 [(0, .ref r0), (1, .ref r1), (4, vi σ.1), (5, vi σ.2.1)] [] (hp nx σ.2.2)) (he0 : ∀ ρ : Sg, o = .inr ρ → ww C M_X8_spread 2 0 0 nx (Qr) (Qx) nx 0 0 127 [] [] (hp nx ρ)) : ww C M_X8_spread 2 0 0 nx (Qr) (Qx) nx 0 0 73 [(0, .ref r0), (1, .ref r1), (4, vi x4), (5, vi x5)] [] (hp nx s) := by
  unfold Pa_spread_t73 at hs
  refine w_iload 3 dX8_spread_73 rfl ?_
  refine x_bipush dX8_spread_75 (by decide) ?_
  refine x_icmpge hs dX8_spread_77 rfl (fun hs => ?_) (fun hs => ?_)
  · refine w_lv (lv' := []) [] rfl ?_
    cases hs
    exact he0 _ rfl
  · refine w_iload 2 dX8_spread_80 rfl ?_
    refine x_ifeq hs dX8_spread_82 rfl (fun hs => ?_) (fun hs => ?_)
    · refine w_lv (lv' := []) [] rfl ?_
      cases hs
      exact he0 _ rfl
    · refine x_iconst dX8_spread_85 ?_
      refine w_istore (lv' := [(4, vi 0), (0, .ref r0), (1, .ref r1), (5, vi x5)]) dX8_spread_86 (Nat.le_of_ble_eq_true rfl) rfl ?_
      refine x_iconst dX8_spread_88 ?_
      refine w_istore (lv' := [(6, vi 0), (4, vi 0), (0, .ref r0), (1, .ref r1), (5, vi x5)]) dX8_spread_89 (Nat.le_of_ble_eq_true rfl) rfl ?_
      refine w_lv (lv' := [(0, .ref r0), (1, .ref r1), (4, vi 0), (5, vi x5), (6, vi 0)]) [2, 3, 1, 4, 0] rfl ?_
      exact q_Pa_spread_l91 hnx r0 h_r0 r1 h_r1 0 x5 0 s hs hb he0
set_option maxRecDepth 100000 in
theorem q_Pa_spread_l73 {C : Cx} {nx : Nat} (hnx : 80 ≤ nx) (r0 : Nat) (h_r0 : isPaths r0) (r1 : Nat) (h_r1 : isRowW nx r1) (x4 : Int) (x5 : Int) (s : Sg) {o : Sg} (hs : Pa_spread_l73 r0 r1 x4 x5 s = some o) : ww C M_X8_spread 2 0 0 nx (QV nx o) (XF) nx 0 0 73 [(0, .ref r0), (1, .ref r1), (4, vi x4), (5, vi x5)] [] (hp nx s) := by
  unfold Pa_spread_l73 at hs
  refine bnd_e hs (fun s_11 hw hs => ?_)
  have hE : ww C M_X8_spread 2 0 0 nx (QV nx o) (XF) nx 0 0 127 [] [] (hp nx s_11) := by
    cases hs
    exact w_return rfl dX8_spread_127 rfl (Nat.le_of_ble_eq_true rfl) (Nat.le_of_ble_eq_true rfl) ⟨rfl, rfl⟩
  refine whl_w (P := fun σ => ww C M_X8_spread 2 0 0 nx (QV nx o) (XF) nx 0 0 73 [(0, .ref r0), (1, .ref r1), (4, vi σ.1), (5, vi σ.2.1)] [] (hp nx σ.2.2)) (E := fun ρ => ρ = s_11) hw rfl ?_
  intro σ o' hs' hb' he'
  exact q_Pa_spread_t73 hnx r0 h_r0 r1 h_r1 σ.1 σ.2.1 σ.2.2 hs' hb' (fun ρ e => by cases he' _ e; exact hE)
set_option maxRecDepth 100000 in
theorem q_Pa_spread_l3 {C : Cx} {nx : Nat} (hnx : 80 ≤ nx) (r0 : Nat) (h_r0 : isPaths r0) (r1 : Nat) (h_r1 : isRowW nx r1) (x2 : Int) (x3 : Int) (x4 : Int) (s : Sg) {o : Sg} (hs : Pa_spread_l3 r0 r1 x2 x3 x4 s = some o) : ww C M_X8_spread 2 0 0 nx (QV nx o) (XF) nx 0 0 3 [(0, .ref r0), (1, .ref r1), (2, vi x2), (3, vi x3), (4, vi x4)] [] (hp nx s) := by
  unfold Pa_spread_l3 at hs
  refine bnd_e hs (fun s_5 hw hs => ?_)
  have hE : ww C M_X8_spread 2 0 0 nx (QV nx o) (XF) nx 0 0 67 [(0, .ref r0), (1, .ref r1)] [] (hp nx s_5) := by
    refine x_iconst dX8_spread_67 ?_
    refine w_istore (lv' := [(4, vi 1), (0, .ref r0), (1, .ref r1)]) dX8_spread_68 (Nat.le_of_ble_eq_true rfl) rfl ?_
    refine x_iconst dX8_spread_70 ?_
    refine w_istore (lv' := [(5, vi 0), (4, vi 1), (0, .ref r0), (1, .ref r1)]) dX8_spread_71 (Nat.le_of_ble_eq_true rfl) rfl ?_
    refine w_lv (lv' := [(0, .ref r0), (1, .ref r1), (4, vi 1), (5, vi 0)]) [2, 3, 1, 0] rfl ?_
    exact q_Pa_spread_l73 hnx r0 h_r0 r1 h_r1 1 0 s_5 hs
  refine whl_w (P := fun σ => ww C M_X8_spread 2 0 0 nx (QV nx o) (XF) nx 0 0 3 [(0, .ref r0), (1, .ref r1), (2, vi x2), (3, vi x3), (4, vi σ.1)] [] (hp nx σ.2)) (E := fun ρ => ρ = s_5) hw rfl ?_
  intro σ o' hs' hb' he'
  exact q_Pa_spread_t3 hnx r0 h_r0 r1 h_r1 x2 x3 σ.1 σ.2 hs' hb' (fun ρ e => by cases he' _ e; exact hE)
set_option maxRecDepth 100000 in
theorem c_Pa_spread {C : Cx} {nx : Nat} (hnx : 80 ≤ nx) (r0 : Nat) (h_r0 : isPaths r0) (r1 : Nat) (h_r1 : isRowW nx r1) (x2 : Int) (x3 : Int) (s : Sg) : ∀ o, Pa_spread r0 r1 x2 x3 s = some o → mm C M_X8_spread 2 0 0 nx nx [.ref r0, .ref r1, vi x2, vi x3] (hp nx s) (QV nx o) (XF) := by
  intro o hs
  unfold Pa_spread at hs
  refine mm_of rfl rfl (Nat.le_of_ble_eq_true rfl) ?_
  show ww C M_X8_spread 2 0 0 nx (QV nx o) (XF) nx 0 0 0 [(0, .ref r0), (1, .ref r1), (2, vi x2), (3, vi x3)] [] (hp nx s)
  refine x_iconst dX8_spread_0 ?_
  refine w_istore (lv' := [(4, vi 0), (0, .ref r0), (1, .ref r1), (2, vi x2), (3, vi x3)]) dX8_spread_1 (Nat.le_of_ble_eq_true rfl) rfl ?_
  refine w_lv (lv' := [(0, .ref r0), (1, .ref r1), (2, vi x2), (3, vi x3), (4, vi 0)]) [1, 2, 3, 4, 0] rfl ?_
  exact q_Pa_spread_l3 hnx r0 h_r0 r1 h_r1 x2 x3 0 s hs
set_option maxRecDepth 100000 in
theorem q_Pa_find_b46 {C : Cx} {nx : Nat} (hnx : 80 ≤ nx) {Qr : Option Value → Hp → Prop} {Qx : String → Hp → Prop}  (r0 : Nat) (h_r0 : isPaths r0) (r1 : Nat) (h_r1 : isRow nx r1) (x2 : Int) (x3 : Int) (t1 : Int) (t2 : Int) (s : Sg) {o : ((Int × Sg) ⊕ (Sg))} (hs : Pa_find_b46 r0 r1 x2 x3 t1 t2 s = some o) (hb : ∀ σ : Int × Sg, o = .inl σ → ww C M_X8_find 3 0 0 nx (Qr) (Qx) nx 0 0 2 [(0, .ref r0), (1, .ref r1), (2, vi x2), (3, vi σ.1)] [] (hp nx σ.2)) (he0 : ∀ ρ : Sg, o = .inr ρ → ww C M_X8_find 3 0 0 nx (Qr) (Qx) nx 0 0 55 [(0, .ref r0), (2, vi x2)] [] (hp nx ρ)) : ww C M_X8_find 3 0 0 nx (Qr) (Qx) nx 0 0 46 [(0, .ref r0), (1, .ref r1), (2, vi x2), (3, vi x3)] [vi t2, vi t1, .ref (r0 + 1)] (hp nx s) := by
  unfold Pa_find_b46 at hs
  refine x_N_V M_X11_set [.ref (r0 + 1), vi t1, vi t2] [] hs rfl dX8_find_46 (lkX8_35 _ rfl) (Nat.le_of_ble_eq_true rfl) (Nat.le_of_ble_eq_true rfl) (Nat.le_of_ble_eq_true rfl) (Nat.le_of_ble_eq_true rfl) (c_Hx_set hnx (r0 + 1) (rowW_of (paths_s1 h_r0) (paths_n (j := 1) h_r0 (by decide) hnx)) t1 t2 s) (fun s3 hs3 hs => ?_)
  refine x_iinc (lv' := [(3, vi (x3 + 1)), (0, .ref r0), (1, .ref r1), (2, vi x2)]) 3 dX8_find_49 rfl (Nat.le_of_ble_eq_true rfl) rfl ?_
  refine w_goto dX8_find_52 rfl ?_
  refine w_lv (lv' := [(0, .ref r0), (1, .ref r1), (2, vi x2), (3, vi (x3 + 1))]) [1, 2, 3, 0] rfl ?_
  cases hs
  exact hb _ rfl
set_option maxRecDepth 100000 in
theorem q_Pa_find_t2 {C : Cx} {nx : Nat} (hnx : 80 ≤ nx) {Qr : Option Value → Hp → Prop} {Qx : String → Hp → Prop}  (r0 : Nat) (h_r0 : isPaths r0) (r1 : Nat) (h_r1 : isRow nx r1) (x2 : Int) (x3 : Int) (s : Sg) {o : ((Int × Sg) ⊕ (Sg))} (hs : Pa_find_t2 r0 r1 x2 x3 s = some o) (hb : ∀ σ : Int × Sg, o = .inl σ → ww C M_X8_find 3 0 0 nx (Qr) (Qx) nx 0 0 2 [(0, .ref r0), (1, .ref r1), (2, vi x2), (3, vi σ.1)] [] (hp nx σ.2)) (he0 : ∀ ρ : Sg, o = .inr ρ → ww C M_X8_find 3 0 0 nx (Qr) (Qx) nx 0 0 55 [(0, .ref r0), (2, vi x2)] [] (hp nx ρ)) : ww C M_X8_find 3 0 0 nx (Qr) (Qx) nx 0 0 2 [(0, .ref r0), (1, .ref r1), (2, vi x2), (3, vi x3)] [] (hp nx s) := by
  unfold Pa_find_t2 at hs
  refine w_iload_n 3 dX8_find_2 rfl rfl ?_
  refine w_aload_n 0 dX8_find_3 rfl rfl ?_
  refine x_getR 8 0 (b := 1) dX8_find_4 (fxX8_9 rfl) rfl (paths_s0 h_r0) (paths_n (j := 0) h_r0 (by decide) hnx) (paths_r0 h_r0) ?_
  refine x_getI 5 4 dX8_find_7 (fxX8_25 rfl) rfl rfl (lt_of hnx (Nat.le_of_ble_eq_true rfl)) ?_
  refine x_icmpge hs dX8_find_10 rfl (fun hs => ?_) (fun hs => ?_)
  · refine w_lv (lv' := [(0, .ref r0), (2, vi x2)]) [0, 2] rfl ?_
    cases hs
    exact he0 _ rfl
  · refine w_aload_n 1 dX8_find_13 rfl rfl ?_
    refine w_iload_n 3 dX8_find_14 rfl rfl ?_
    refine x_N_I M_X11_at [.ref r1, vi x3] [] hs rfl dX8_find_15 (lkX8_31 _ rfl) (Nat.le_of_ble_eq_true rfl) (Nat.le_of_ble_eq_true rfl) (Nat.le_of_ble_eq_true rfl) (Nat.le_of_ble_eq_true rfl) (c_Hx_at hnx r1 h_r1 x3 s) (fun y1 hy1 hs => ?_)
    refine w_istore (lv' := [(4, vi y1), (0, .ref r0), (1, .ref r1), (2, vi x2), (3, vi x3)]) dX8_find_18 (Nat.le_of_ble_eq_true rfl) rfl ?_
    refine w_aload_n 1 dX8_find_20 rfl rfl ?_
    refine x_getR 8 1 (b := (r0 + 1)) dX8_find_21 (fxX8_15 rfl) rfl (paths_s0 h_r0) (paths_n (j := 0) h_r0 (by decide) hnx) (paths_r1 h_r0) ?_
    refine w_iload_n 4 dX8_find_24 rfl rfl ?_
    refine w_iload 0 dX8_find_25 rfl ?_
    refine x_iconst dX8_find_27 ?_
    refine x_icmpne hs dX8_find_28 rfl (fun hs => ?_) (fun hs => ?_)
    · refine w_iload 0 dX8_find_35 rfl ?_
      refine w_iload_n 3 dX8_find_37 rfl rfl ?_
      refine x_icmpne hs dX8_find_38 rfl (fun hs => ?_) (fun hs => ?_)
      · refine x_iconst dX8_find_45 ?_
        refine w_lv (lv' := [(0, .ref r0), (1, .ref r1), (2, vi x2), (3, vi x3)]) [1, 2, 3, 4] rfl ?_
        exact q_Pa_find_b46 hnx r0 h_r0 r1 h_r1 x2 x3 x3 (-1) s hs hb he0
      · refine x_iconst dX8_find_41 ?_
        refine w_goto dX8_find_42 rfl ?_
        refine w_lv (lv' := [(0, .ref r0), (1, .ref r1), (2, vi x2), (3, vi x3)]) [1, 2, 3, 4] rfl ?_
        exact q_Pa_find_b46 hnx r0 h_r0 r1 h_r1 x2 x3 x3 0 s hs hb he0
    · refine x_iconst dX8_find_31 ?_
      refine w_goto dX8_find_32 rfl ?_
      refine w_lv (lv' := [(0, .ref r0), (1, .ref r1), (2, vi x2), (3, vi x3)]) [1, 2, 3, 4] rfl ?_
      exact q_Pa_find_b46 hnx r0 h_r0 r1 h_r1 x2 x3 x3 1 s hs hb he0
set_option maxRecDepth 100000 in
theorem q_Pa_find_l2 {C : Cx} {nx : Nat} (hnx : 80 ≤ nx) (r0 : Nat) (h_r0 : isPaths r0) (r1 : Nat) (h_r1 : isRow nx r1) (x2 : Int) (x3 : Int) (s : Sg) {o : Sg} (hs : Pa_find_l2 r0 r1 x2 x3 s = some o) : ww C M_X8_find 3 0 0 nx (QV nx o) (XF) nx 0 0 2 [(0, .ref r0), (1, .ref r1), (2, vi x2), (3, vi x3)] [] (hp nx s) := by
  unfold Pa_find_l2 at hs
  refine bnd_e hs (fun s_4 hw hs => ?_)
  have hE : ww C M_X8_find 3 0 0 nx (QV nx o) (XF) nx 0 0 55 [(0, .ref r0), (2, vi x2)] [] (hp nx s_4) := by
    refine w_aload_n 0 dX8_find_55 rfl rfl ?_
    refine w_aload_n 0 dX8_find_56 rfl rfl ?_
    refine x_getR 8 2 (b := (r0 + 2)) dX8_find_57 (fxX8_19 rfl) rfl (paths_s0 h_r0) (paths_n (j := 0) h_r0 (by decide) hnx) (paths_r2 h_r0) ?_
    refine w_iload_n 1 dX8_find_60 rfl rfl ?_
    refine x_iconst dX8_find_61 ?_
    refine x_V_V M_X8_spread [.ref (r0 + 2), vi x2, vi 1] [] hs rfl dX8_find_62 (lkX8_39 _ rfl) (paths_n (j := 0) h_r0 (by decide) hnx) (paths_s0 h_r0) rfl (Nat.le_of_ble_eq_true rfl) (Nat.le_of_ble_eq_true rfl) (Nat.le_of_ble_eq_true rfl) (Nat.le_of_ble_eq_true rfl) (c_Pa_spread hnx r0 h_r0 (r0 + 2) (rowW_of (paths_s2 h_r0) (paths_n (j := 2) h_r0 (by decide) hnx)) x2 1 s_4) (fun s6 hs6 hs => ?_)
    refine w_aload_n 0 dX8_find_65 rfl rfl ?_
    refine w_aload_n 0 dX8_find_66 rfl rfl ?_
    refine x_getR 8 3 (b := (r0 + 3)) dX8_find_67 (fxX8_22 rfl) rfl (paths_s0 h_r0) (paths_n (j := 0) h_r0 (by decide) hnx) (paths_r3 h_r0) ?_
    refine w_iload_n 1 dX8_find_70 rfl rfl ?_
    refine x_iconst dX8_find_71 ?_
    refine x_V_V M_X8_spread [.ref (r0 + 3), vi x2, vi 2] [] hs rfl dX8_find_72 (lkX8_39 _ rfl) (paths_n (j := 0) h_r0 (by decide) hnx) (paths_s0 h_r0) rfl (Nat.le_of_ble_eq_true rfl) (Nat.le_of_ble_eq_true rfl) (Nat.le_of_ble_eq_true rfl) (Nat.le_of_ble_eq_true rfl) (c_Pa_spread hnx r0 h_r0 (r0 + 3) (rowW_of (paths_s3 h_r0) (paths_n (j := 3) h_r0 (by decide) hnx)) x2 2 s6) (fun s8 hs8 hs => ?_)
    cases hs
    exact w_return rfl dX8_find_75 rfl (Nat.le_of_ble_eq_true rfl) (Nat.le_of_ble_eq_true rfl) ⟨rfl, rfl⟩
  refine whl_w (P := fun σ => ww C M_X8_find 3 0 0 nx (QV nx o) (XF) nx 0 0 2 [(0, .ref r0), (1, .ref r1), (2, vi x2), (3, vi σ.1)] [] (hp nx σ.2)) (E := fun ρ => ρ = s_4) hw rfl ?_
  intro σ o' hs' hb' he'
  exact q_Pa_find_t2 hnx r0 h_r0 r1 h_r1 x2 σ.1 σ.2 hs' hb' (fun ρ e => by cases he' _ e; exact hE)
set_option maxRecDepth 100000 in
theorem c_Pa_find {C : Cx} {nx : Nat} (hnx : 80 ≤ nx) (r0 : Nat) (h_r0 : isPaths r0) (r1 : Nat) (h_r1 : isRow nx r1) (x2 : Int) (s : Sg) : ∀ o, Pa_find r0 r1 x2 s = some o → mm C M_X8_find 3 0 0 nx nx [.ref r0, .ref r1, vi x2] (hp nx s) (QV nx o) (XF) := by
  intro o hs
  unfold Pa_find at hs
  refine mm_of rfl rfl (Nat.le_of_ble_eq_true rfl) ?_
  show ww C M_X8_find 3 0 0 nx (QV nx o) (XF) nx 0 0 0 [(0, .ref r0), (1, .ref r1), (2, vi x2)] [] (hp nx s)
  refine x_iconst dX8_find_0 ?_
  refine w_istore_n (lv' := [(3, vi 0), (0, .ref r0), (1, .ref r1), (2, vi x2)]) dX8_find_1 rfl (Nat.le_of_ble_eq_true rfl) rfl ?_
  refine w_lv (lv' := [(0, .ref r0), (1, .ref r1), (2, vi x2), (3, vi 0)]) [1, 2, 3, 0] rfl ?_
  exact q_Pa_find_l2 hnx r0 h_r0 r1 h_r1 x2 0 s hs

set_option maxRecDepth 100000 in
theorem q_Mo_edges_b44 {C : Cx} {nx : Nat} (hnx : 100 ≤ nx) (t0 : Int) (t1 : Int) (s : Sg) {o : Int} (hs : Mo_edges_b44 t0 t1 s = some o) : ww C M_X12_edges 1 0 0 nx (QI nx s o) (XF) nx 0 0 44 [] [vi t1, vi t0] (hp nx s) := by
  unfold Mo_edges_b44 at hs
  refine x_iadd dX12_edges_44 ?_
  cases hs
  exact x_ireturn dX12_edges_45 rfl rfl (Nat.le_of_ble_eq_true rfl) (Nat.le_of_ble_eq_true rfl) ⟨rfl, rfl⟩
set_option maxRecDepth 100000 in
theorem q_Mo_edges_b27 {C : Cx} {nx : Nat} (hnx : 100 ≤ nx) (x3 : Int) (t0 : Int) (s : Sg) {o : Int} (hs : Mo_edges_b27 x3 t0 s = some o) : ww C M_X12_edges 1 0 0 nx (QI nx s o) (XF) nx 0 0 27 [(0, .ref 80), (3, vi x3)] [vi t0] (hp nx s) := by
  unfold Mo_edges_b27 at hs
  refine w_iload_n 1 dX12_edges_27 rfl rfl ?_
  refine w_aload_n 0 dX12_edges_28 rfl rfl ?_
  refine x_getR 12 1 (b := 81) dX12_edges_29 (fxX12_9 rfl) rfl rfl (lt_of hnx (Nat.le_of_ble_eq_true rfl)) rfl ?_
  refine x_iconst dX12_edges_32 ?_
  refine grd_e hs (fun hg2 hs => ?_)
  refine x_iald ⟨by decide, by decide⟩ (Nat.le_of_ble_eq_true rfl) dX12_edges_33 (Or.inl ⟨rfl, (lt_of hnx (Nat.le_of_ble_eq_true rfl))⟩) ?_
  refine x_iconst dX12_edges_34 ?_
  refine x_isub dX12_edges_35 ?_
  refine x_icmpne hs dX12_edges_36 rfl (fun hs => ?_) (fun hs => ?_)
  · refine x_iconst dX12_edges_43 ?_
    refine w_lv (lv' := []) [] rfl ?_
    exact q_Mo_edges_b44 hnx t0 0 s hs
  · refine x_iconst dX12_edges_39 ?_
    refine w_goto dX12_edges_40 rfl ?_
    refine w_lv (lv' := []) [] rfl ?_
    exact q_Mo_edges_b44 hnx t0 2 s hs
set_option maxRecDepth 100000 in
theorem q_Mo_edges_b17 {C : Cx} {nx : Nat} (hnx : 100 ≤ nx) (t0 : Int) (s : Sg) {o : Int} (hs : Mo_edges_b17 t0 s = some o) : ww C M_X12_edges 1 0 0 nx (QI nx s o) (XF) nx 0 0 17 [(0, .ref 80)] [vi t0] (hp nx s) := by
  unfold Mo_edges_b17 at hs
  refine w_istore_n (lv' := [(3, vi t0), (0, .ref 80)]) dX12_edges_17 rfl (Nat.le_of_ble_eq_true rfl) rfl ?_
  refine w_iload_n 0 dX12_edges_18 rfl rfl ?_
  refine x_ifne hs dX12_edges_19 rfl (fun hs => ?_) (fun hs => ?_)
  · refine x_iconst dX12_edges_26 ?_
    refine w_lv (lv' := [(0, .ref 80), (3, vi t0)]) [1, 0] rfl ?_
    exact q_Mo_edges_b27 hnx t0 0 s hs
  · refine x_iconst dX12_edges_22 ?_
    refine w_goto dX12_edges_23 rfl ?_
    refine w_lv (lv' := [(0, .ref 80), (3, vi t0)]) [1, 0] rfl ?_
    exact q_Mo_edges_b27 hnx t0 1 s hs
set_option maxRecDepth 100000 in
theorem c_Mo_edges {C : Cx} {nx : Nat} (hnx : 100 ≤ nx) (x1 : Int) (x2 : Int) (s : Sg) : ∀ o, Mo_edges x1 x2 s = some o → mm C M_X12_edges 1 0 0 nx nx [.ref 80, vi x1, vi x2] (hp nx s) (QI nx s o) (XF) := by
  intro o hs
  unfold Mo_edges at hs
  refine mm_of rfl rfl (Nat.le_of_ble_eq_true rfl) ?_
  show ww C M_X12_edges 1 0 0 nx (QI nx s o) (XF) nx 0 0 0 [(0, .ref 80), (1, vi x1), (2, vi x2)] [] (hp nx s)
  refine w_iload_n 1 dX12_edges_0 rfl rfl ?_
  refine x_ifne hs dX12_edges_1 rfl (fun hs => ?_) (fun hs => ?_)
  · refine w_aload_n 0 dX12_edges_12 rfl rfl ?_
    refine w_iload_n 2 dX12_edges_13 rfl rfl ?_
    refine x_V_I M_X12_column [vi x2] [] hs rfl dX12_edges_14 (lkX12_206 _ rfl) (lt_of hnx (Nat.le_of_ble_eq_true rfl)) rfl rfl (Nat.le_of_ble_eq_true rfl) (Nat.le_of_ble_eq_true rfl) (Nat.le_of_ble_eq_true rfl) (Nat.le_of_ble_eq_true rfl) (c_Mo_column hnx x2 s) (fun y1 hy1 hs => ?_)
    refine w_lv (lv' := [(0, .ref 80)]) [0] rfl ?_
    exact q_Mo_edges_b17 hnx y1 s hs
  · refine w_aload_n 0 dX12_edges_4 rfl rfl ?_
    refine w_iload_n 2 dX12_edges_5 rfl rfl ?_
    refine x_V_I M_X12_row [vi x2] [] hs rfl dX12_edges_6 (lkX12_209 _ rfl) (lt_of hnx (Nat.le_of_ble_eq_true rfl)) rfl rfl (Nat.le_of_ble_eq_true rfl) (Nat.le_of_ble_eq_true rfl) (Nat.le_of_ble_eq_true rfl) (Nat.le_of_ble_eq_true rfl) (c_Mo_row hnx x2 s) (fun y3 hy3 hs => ?_)
    refine w_goto dX12_edges_9 rfl ?_
    refine w_lv (lv' := [(0, .ref 80)]) [0] rfl ?_
    exact q_Mo_edges_b17 hnx y3 s hs
set_option maxRecDepth 100000 in
theorem q_Mo_groupEdges_b45 {C : Cx} {nx : Nat} (hnx : 100 ≤ nx) {Qr : Option Value → Hp → Prop} {Qx : String → Hp → Prop}  (x1 : Int) (x2 : Int) (x3 : Int) (x4 : Int) (s : Sg) {o : ((Int × Int) ⊕ (Int))} (hs : Mo_groupEdges_b45 x1 x2 x3 x4 s = some o) (hb : ∀ σ : Int × Int, o = .inl σ → ww C M_X12_groupEdges 2 0 0 nx (Qr) (Qx) nx 0 0 5 [(0, .ref 80), (1, vi x1), (2, vi x2), (3, vi σ.1), (4, vi σ.2)] [] (hp nx s)) (he0 : ∀ ρ : Int, o = .inr ρ → ww C M_X12_groupEdges 2 0 0 nx (Qr) (Qx) nx 0 0 51 [(3, vi ρ)] [] (hp nx s)) : ww C M_X12_groupEdges 2 0 0 nx (Qr) (Qx) nx 0 0 45 [(0, .ref 80), (1, vi x1), (2, vi x2), (3, vi x3), (4, vi x4)] [] (hp nx s) := by
  unfold Mo_groupEdges_b45 at hs
  refine x_iinc (lv' := [(4, vi (x4 + 1)), (0, .ref 80), (1, vi x1), (2, vi x2), (3, vi x3)]) 4 dX12_groupEdges_45 rfl (Nat.le_of_ble_eq_true rfl) rfl ?_
  refine w_goto dX12_groupEdges_48 rfl ?_
  refine w_lv (lv' := [(0, .ref 80), (1, vi x1), (2, vi x2), (3, vi x3), (4, vi (x4 + 1))]) [1, 2, 3, 4, 0] rfl ?_
  cases hs
  exact hb _ rfl
set_option maxRecDepth 100000 in
theorem q_Mo_groupEdges_t5 {C : Cx} {nx : Nat} (hnx : 100 ≤ nx) {Qr : Option Value → Hp → Prop} {Qx : String → Hp → Prop}  (x1 : Int) (x2 : Int) (x3 : Int) (x4 : Int) (s : Sg) {o : ((Int × Int) ⊕ (Int))} (hs : Mo_groupEdges_t5 x1 x2 x3 x4 s = some o) (hb : ∀ σ : Int × Int, o = .inl σ → ww C M_X12_groupEdges 2 0 0 nx (Qr) (Qx) nx 0 0 5 [(0, .ref 80), (1, vi x1), (2, vi x2), (3, vi σ.1), (4, vi σ.2)] [] (hp nx s)) (he0 : ∀ ρ : Int, o = .inr ρ → ww C M_X12_groupEdges 2 0 0 nx (Qr) (Qx) nx 0 0 51 [(3, vi ρ)] [] (hp nx s)) : ww C M_X12_groupEdges 2 0 0 nx (Qr) (Qx) nx 0 0 5 [(0, .ref 80), (1, vi x1), (2, vi x2), (3, vi x3), (4, vi x4)] [] (hp nx s) := by
  unfold Mo_groupEdges_t5 at hs
  refine w_iload 4 dX12_groupEdges_5 rfl ?_
  refine w_aload_n 0 dX12_groupEdges_7 rfl rfl ?_
  refine x_V_I M_X12_cells [] [vi x4] hs rfl dX12_groupEdges_8 (lkX12_212 _ rfl) (lt_of hnx (Nat.le_of_ble_eq_true rfl)) rfl rfl (Nat.le_of_ble_eq_true rfl) (Nat.le_of_ble_eq_true rfl) (Nat.le_of_ble_eq_true rfl) (Nat.le_of_ble_eq_true rfl) (c_Mo_cells hnx s) (fun y1 hy1 hs => ?_)
  refine x_icmpge hs dX12_groupEdges_11 rfl (fun hs => ?_) (fun hs => ?_)
  · refine w_lv (lv' := [(3, vi x3)]) [3] rfl ?_
    cases hs
    exact he0 _ rfl
  · refine w_aload_n 0 dX12_groupEdges_14 rfl rfl ?_
    refine w_iload 4 dX12_groupEdges_15 rfl ?_
    refine x_V_I M_X12_stone [vi x4] [] hs rfl dX12_groupEdges_17 (lkX12_215 _ rfl) (lt_of hnx (Nat.le_of_ble_eq_true rfl)) rfl rfl (Nat.le_of_ble_eq_true rfl) (Nat.le_of_ble_eq_true rfl) (Nat.le_of_ble_eq_true rfl) (Nat.le_of_ble_eq_true rfl) (c_Mo_stone hnx x4 s) (fun y2 hy2 hs => ?_)
    refine w_iload_n 1 dX12_groupEdges_20 rfl rfl ?_
    refine x_icmpne hs dX12_groupEdges_21 rfl (fun hs => ?_) (fun hs => ?_)
    · exact q_Mo_groupEdges_b45 hnx x1 x2 x3 x4 s hs hb he0
    · refine w_aload_n 0 dX12_groupEdges_24 rfl rfl ?_
      refine x_getR 12 17 (b := 87) dX12_groupEdges_25 (fxX12_34 rfl) rfl rfl (lt_of hnx (Nat.le_of_ble_eq_true rfl)) rfl ?_
      refine w_iload 4 dX12_groupEdges_28 rfl ?_
      refine grd_e hs (fun hg3 hs => ?_)
      refine x_iald hg3 (Nat.le_of_ble_eq_true rfl) dX12_groupEdges_30 (Or.inl ⟨rfl, (lt_of hnx (Nat.le_of_ble_eq_true rfl))⟩) ?_
      refine w_iload_n 2 dX12_groupEdges_31 rfl rfl ?_
      refine x_icmpne hs dX12_groupEdges_32 rfl (fun hs => ?_) (fun hs => ?_)
      · exact q_Mo_groupEdges_b45 hnx x1 x2 x3 x4 s hs hb he0
      · refine w_iload_n 3 dX12_groupEdges_35 rfl rfl ?_
        refine w_aload_n 0 dX12_groupEdges_36 rfl rfl ?_
        refine w_iload_n 1 dX12_groupEdges_37 rfl rfl ?_
        refine w_iload 4 dX12_groupEdges_38 rfl ?_
        refine x_V_I M_X12_edges [vi x1, vi x4] [vi x3] hs rfl dX12_groupEdges_40 (lkX12_239 _ rfl) (lt_of hnx (Nat.le_of_ble_eq_true rfl)) rfl rfl (Nat.le_of_ble_eq_true rfl) (Nat.le_of_ble_eq_true rfl) (Nat.le_of_ble_eq_true rfl) (Nat.le_of_ble_eq_true rfl) (c_Mo_edges hnx x1 x4 s) (fun y4 hy4 hs => ?_)
        refine x_ior dX12_groupEdges_43 ?_
        refine x_istore_n (fun x3_5 => [(3, vi x3_5), (0, .ref 80), (1, vi x1), (2, vi x2), (4, vi x4)]) hs dX12_groupEdges_44 rfl (Nat.le_of_ble_eq_true rfl) (fun _ => rfl) (fun x3_5 hs => ?_)
        refine w_lv (lv' := [(0, .ref 80), (1, vi x1), (2, vi x2), (3, vi x3_5), (4, vi x4)]) [1, 2, 3, 0, 4] rfl ?_
        exact q_Mo_groupEdges_b45 hnx x1 x2 x3_5 x4 s hs hb he0
set_option maxRecDepth 100000 in
theorem q_Mo_groupEdges_l5 {C : Cx} {nx : Nat} (hnx : 100 ≤ nx) (x1 : Int) (x2 : Int) (x3 : Int) (x4 : Int) (s : Sg) {o : Int} (hs : Mo_groupEdges_l5 x1 x2 x3 x4 s = some o) : ww C M_X12_groupEdges 2 0 0 nx (QI nx s o) (XF) nx 0 0 5 [(0, .ref 80), (1, vi x1), (2, vi x2), (3, vi x3), (4, vi x4)] [] (hp nx s) := by
  unfold Mo_groupEdges_l5 at hs
  refine bnd_e hs (fun x3_6 hw hs => ?_)
  have hE : ww C M_X12_groupEdges 2 0 0 nx (QI nx s o) (XF) nx 0 0 51 [(3, vi x3_6)] [] (hp nx s) := by
    refine w_iload_n 0 dX12_groupEdges_51 rfl rfl ?_
    cases hs
    exact x_ireturn dX12_groupEdges_52 rfl rfl (Nat.le_of_ble_eq_true rfl) (Nat.le_of_ble_eq_true rfl) ⟨rfl, rfl⟩
  refine whl_w (P := fun σ => ww C M_X12_groupEdges 2 0 0 nx (QI nx s o) (XF) nx 0 0 5 [(0, .ref 80), (1, vi x1), (2, vi x2), (3, vi σ.1), (4, vi σ.2)] [] (hp nx s)) (E := fun ρ => ρ = x3_6) hw rfl ?_
  intro σ o' hs' hb' he'
  exact q_Mo_groupEdges_t5 hnx x1 x2 σ.1 σ.2 s hs' hb' (fun ρ e => by cases he' _ e; exact hE)
set_option maxRecDepth 100000 in
theorem c_Mo_groupEdges {C : Cx} {nx : Nat} (hnx : 100 ≤ nx) (x1 : Int) (x2 : Int) (s : Sg) : ∀ o, Mo_groupEdges x1 x2 s = some o → mm C M_X12_groupEdges 2 0 0 nx nx [.ref 80, vi x1, vi x2] (hp nx s) (QI nx s o) (XF) := by
  intro o hs
  unfold Mo_groupEdges at hs
  refine mm_of rfl rfl (Nat.le_of_ble_eq_true rfl) ?_
  show ww C M_X12_groupEdges 2 0 0 nx (QI nx s o) (XF) nx 0 0 0 [(0, .ref 80), (1, vi x1), (2, vi x2)] [] (hp nx s)
  refine x_iconst dX12_groupEdges_0 ?_
  refine w_istore_n (lv' := [(3, vi 0), (0, .ref 80), (1, vi x1), (2, vi x2)]) dX12_groupEdges_1 rfl (Nat.le_of_ble_eq_true rfl) rfl ?_
  refine x_iconst dX12_groupEdges_2 ?_
  refine w_istore (lv' := [(4, vi 0), (3, vi 0), (0, .ref 80), (1, vi x1), (2, vi x2)]) dX12_groupEdges_3 (Nat.le_of_ble_eq_true rfl) rfl ?_
  refine w_lv (lv' := [(0, .ref 80), (1, vi x1), (2, vi x2), (3, vi 0), (4, vi 0)]) [2, 3, 4, 1, 0] rfl ?_
  exact q_Mo_groupEdges_l5 hnx x1 x2 0 0 s hs
set_option maxRecDepth 100000 in
theorem q_Mo_hasJoined_b45 {C : Cx} {nx : Nat} (hnx : 100 ≤ nx) {Qr : Option Value → Hp → Prop} {Qx : String → Hp → Prop}  (x1 : Int) (x2 : Int) (s : Sg) {o : ((Int) ⊕ ((Unit) ⊕ (Unit)))} (hs : Mo_hasJoined_b45 x1 x2 s = some o) (hb : ∀ σ : Int, o = .inl σ → ww C M_X12_hasJoined 4 0 0 nx (Qr) (Qx) nx 0 0 6 [(0, .ref 80), (1, vi x1), (2, vi σ)] [] (hp nx s)) (he0 : ∀ ρ : Unit, o = .inr (.inl ρ) → ww C M_X12_hasJoined 4 0 0 nx (Qr) (Qx) nx 0 0 43 [] [] (hp nx s)) (he1 : ∀ ρ : Unit, o = .inr (.inr ρ) → ww C M_X12_hasJoined 4 0 0 nx (Qr) (Qx) nx 0 0 51 [] [] (hp nx s)) : ww C M_X12_hasJoined 4 0 0 nx (Qr) (Qx) nx 0 0 45 [(0, .ref 80), (1, vi x1), (2, vi x2)] [] (hp nx s) := by
  unfold Mo_hasJoined_b45 at hs
  refine x_iinc (lv' := [(2, vi (x2 + 1)), (0, .ref 80), (1, vi x1)]) 2 dX12_hasJoined_45 rfl (Nat.le_of_ble_eq_true rfl) rfl ?_
  refine w_goto dX12_hasJoined_48 rfl ?_
  refine w_lv (lv' := [(0, .ref 80), (1, vi x1), (2, vi (x2 + 1))]) [1, 2, 0] rfl ?_
  cases hs
  exact hb _ rfl
set_option maxRecDepth 100000 in
theorem q_Mo_hasJoined_t6 {C : Cx} {nx : Nat} (hnx : 100 ≤ nx) {Qr : Option Value → Hp → Prop} {Qx : String → Hp → Prop}  (x1 : Int) (x2 : Int) (s : Sg) {o : ((Int) ⊕ ((Unit) ⊕ (Unit)))} (hs : Mo_hasJoined_t6 x1 x2 s = some o) (hb : ∀ σ : Int, o = .inl σ → ww C M_X12_hasJoined 4 0 0 nx (Qr) (Qx) nx 0 0 6 [(0, .ref 80), (1, vi x1), (2, vi σ)] [] (hp nx s)) (he0 : ∀ ρ : Unit, o = .inr (.inl ρ) → ww C M_X12_hasJoined 4 0 0 nx (Qr) (Qx) nx 0 0 43 [] [] (hp nx s)) (he1 : ∀ ρ : Unit, o = .inr (.inr ρ) → ww C M_X12_hasJoined 4 0 0 nx (Qr) (Qx) nx 0 0 51 [] [] (hp nx s)) : ww C M_X12_hasJoined 4 0 0 nx (Qr) (Qx) nx 0 0 6 [(0, .ref 80), (1, vi x1), (2, vi x2)] [] (hp nx s) := by
  unfold Mo_hasJoined_t6 at hs
  refine w_iload_n 2 dX12_hasJoined_6 rfl rfl ?_
  refine w_aload_n 0 dX12_hasJoined_7 rfl rfl ?_
  refine x_V_I M_X12_cells [] [vi x2] hs rfl dX12_hasJoined_8 (lkX12_212 _ rfl) (lt_of hnx (Nat.le_of_ble_eq_true rfl)) rfl rfl (Nat.le_of_ble_eq_true rfl) (Nat.le_of_ble_eq_true rfl) (Nat.le_of_ble_eq_true rfl) (Nat.le_of_ble_eq_true rfl) (c_Mo_cells hnx s) (fun y3 hy3 hs => ?_)
  refine x_icmpge hs dX12_hasJoined_11 rfl (fun hs => ?_) (fun hs => ?_)
  · refine w_lv (lv' := []) [] rfl ?_
    cases hs
    exact he1 _ rfl
  · refine w_aload_n 0 dX12_hasJoined_14 rfl rfl ?_
    refine w_iload_n 2 dX12_hasJoined_15 rfl rfl ?_
    refine x_V_I M_X12_stone [vi x2] [] hs rfl dX12_hasJoined_16 (lkX12_215 _ rfl) (lt_of hnx (Nat.le_of_ble_eq_true rfl)) rfl rfl (Nat.le_of_ble_eq_true rfl) (Nat.le_of_ble_eq_true rfl) (Nat.le_of_ble_eq_true rfl) (Nat.le_of_ble_eq_true rfl) (c_Mo_stone hnx x2 s) (fun y4 hy4 hs => ?_)
    refine w_iload_n 1 dX12_hasJoined_19 rfl rfl ?_
    refine x_icmpne hs dX12_hasJoined_20 rfl (fun hs => ?_) (fun hs => ?_)
    · exact q_Mo_hasJoined_b45 hnx x1 x2 s hs hb he0 he1
    · refine w_aload_n 0 dX12_hasJoined_23 rfl rfl ?_
      refine x_getR 12 17 (b := 87) dX12_hasJoined_24 (fxX12_34 rfl) rfl rfl (lt_of hnx (Nat.le_of_ble_eq_true rfl)) rfl ?_
      refine w_iload_n 2 dX12_hasJoined_27 rfl rfl ?_
      refine grd_e hs (fun hg5 hs => ?_)
      refine x_iald hg5 (Nat.le_of_ble_eq_true rfl) dX12_hasJoined_28 (Or.inl ⟨rfl, (lt_of hnx (Nat.le_of_ble_eq_true rfl))⟩) ?_
      refine w_iload_n 2 dX12_hasJoined_29 rfl rfl ?_
      refine x_icmpne hs dX12_hasJoined_30 rfl (fun hs => ?_) (fun hs => ?_)
      · exact q_Mo_hasJoined_b45 hnx x1 x2 s hs hb he0 he1
      · refine w_aload_n 0 dX12_hasJoined_33 rfl rfl ?_
        refine w_iload_n 1 dX12_hasJoined_34 rfl rfl ?_
        refine w_iload_n 2 dX12_hasJoined_35 rfl rfl ?_
        refine x_V_I M_X12_groupEdges [vi x1, vi x2] [] hs rfl dX12_hasJoined_36 (lkX12_245 _ rfl) (lt_of hnx (Nat.le_of_ble_eq_true rfl)) rfl rfl (Nat.le_of_ble_eq_true rfl) (Nat.le_of_ble_eq_true rfl) (Nat.le_of_ble_eq_true rfl) (Nat.le_of_ble_eq_true rfl) (c_Mo_groupEdges hnx x1 x2 s) (fun y6 hy6 hs => ?_)
        refine x_iconst dX12_hasJoined_39 ?_
        refine x_icmpne hs dX12_hasJoined_40 rfl (fun hs => ?_) (fun hs => ?_)
        · exact q_Mo_hasJoined_b45 hnx x1 x2 s hs hb he0 he1
        · refine w_lv (lv' := []) [] rfl ?_
          cases hs
          exact he0 _ rfl
set_option maxRecDepth 100000 in
theorem q_Mo_hasJoined_l6 {C : Cx} {nx : Nat} (hnx : 100 ≤ nx) (x1 : Int) (x2 : Int) (s : Sg) {o : Int × Sg} (hs : Mo_hasJoined_l6 x1 x2 s = some o) : ww C M_X12_hasJoined 4 0 0 nx (QI nx o.2 o.1) (XF) nx 0 0 6 [(0, .ref 80), (1, vi x1), (2, vi x2)] [] (hp nx s) := by
  unfold Mo_hasJoined_l6 at hs
  refine bnd_e hs (fun ρ hw hs => ?_)
  rcases ρ with ⟨⟩ | ⟨⟩
  · have hE : ww C M_X12_hasJoined 4 0 0 nx (QI nx o.2 o.1) (XF) nx 0 0 43 [] [] (hp nx s) := by
      refine x_iconst dX12_hasJoined_43 ?_
      cases hs
      exact x_zreturn (Or.inr rfl) dX12_hasJoined_44 rfl rfl (Nat.le_of_ble_eq_true rfl) (Nat.le_of_ble_eq_true rfl) ⟨rfl, rfl⟩
    refine whl_w (P := fun σ => ww C M_X12_hasJoined 4 0 0 nx (QI nx o.2 o.1) (XF) nx 0 0 6 [(0, .ref 80), (1, vi x1), (2, vi σ)] [] (hp nx s)) (E := fun ρ => ρ = (.inl ())) hw rfl ?_
    intro σ o' hs' hb' he'
    exact q_Mo_hasJoined_t6 hnx x1 σ s hs' hb' (fun ρ e => by cases he' _ e; exact hE) (fun ρ e => by cases he' _ e)
  · have hE : ww C M_X12_hasJoined 4 0 0 nx (QI nx o.2 o.1) (XF) nx 0 0 51 [] [] (hp nx s) := by
      refine x_iconst dX12_hasJoined_51 ?_
      cases hs
      exact x_zreturn (Or.inl rfl) dX12_hasJoined_52 rfl rfl (Nat.le_of_ble_eq_true rfl) (Nat.le_of_ble_eq_true rfl) ⟨rfl, rfl⟩
    refine whl_w (P := fun σ => ww C M_X12_hasJoined 4 0 0 nx (QI nx o.2 o.1) (XF) nx 0 0 6 [(0, .ref 80), (1, vi x1), (2, vi σ)] [] (hp nx s)) (E := fun ρ => ρ = (.inr ())) hw rfl ?_
    intro σ o' hs' hb' he'
    exact q_Mo_hasJoined_t6 hnx x1 σ s hs' hb' (fun ρ e => by cases he' _ e) (fun ρ e => by cases he' _ e; exact hE)
set_option maxRecDepth 100000 in
theorem c_Mo_hasJoined {C : Cx} {nx : Nat} (hnx : 100 ≤ nx) (x1 : Int) (s : Sg) : ∀ o, Mo_hasJoined x1 s = some o → mm C M_X12_hasJoined 4 0 0 nx nx [.ref 80, vi x1] (hp nx s) (QI nx o.2 o.1) (XF) := by
  intro o hs
  unfold Mo_hasJoined at hs
  refine mm_of rfl rfl (Nat.le_of_ble_eq_true rfl) ?_
  show ww C M_X12_hasJoined 4 0 0 nx (QI nx o.2 o.1) (XF) nx 0 0 0 [(0, .ref 80), (1, vi x1)] [] (hp nx s)
  refine w_aload_n 0 dX12_hasJoined_0 rfl rfl ?_
  refine x_V_V M_X12_laysGroups [] [] hs rfl dX12_hasJoined_1 (lkX12_242 _ rfl) (lt_of hnx (Nat.le_of_ble_eq_true rfl)) rfl rfl (Nat.le_of_ble_eq_true rfl) (Nat.le_of_ble_eq_true rfl) (Nat.le_of_ble_eq_true rfl) (Nat.le_of_ble_eq_true rfl) (c_Mo_laysGroups hnx s) (fun s2 hs2 hs => ?_)
  refine x_iconst dX12_hasJoined_4 ?_
  refine w_istore_n (lv' := [(2, vi 0), (0, .ref 80), (1, vi x1)]) dX12_hasJoined_5 rfl (Nat.le_of_ble_eq_true rfl) rfl ?_
  refine w_lv (lv' := [(0, .ref 80), (1, vi x1), (2, vi 0)]) [1, 2, 0] rfl ?_
  exact q_Mo_hasJoined_l6 hnx x1 0 s2 hs
set_option maxRecDepth 100000 in
theorem c_Mo_joined {C : Cx} {nx : Nat} (hnx : 100 ≤ nx)  (s : Sg) : ∀ o, Mo_joined  s = some o → mm C M_X12_joined 5 0 0 nx nx [.ref 80] (hp nx s) (QI nx o.2 o.1) (XF) := by
  intro o hs
  unfold Mo_joined at hs
  refine mm_of rfl rfl (Nat.le_of_ble_eq_true rfl) ?_
  show ww C M_X12_joined 5 0 0 nx (QI nx o.2 o.1) (XF) nx 0 0 0 [(0, .ref 80)] [] (hp nx s)
  refine w_aload_n 0 dX12_joined_0 rfl rfl ?_
  refine x_iconst dX12_joined_1 ?_
  refine x_V_B M_X12_hasJoined [vi 0] [] hs rfl dX12_joined_2 (lkX12_248 _ rfl) (lt_of hnx (Nat.le_of_ble_eq_true rfl)) rfl rfl (Nat.le_of_ble_eq_true rfl) (Nat.le_of_ble_eq_true rfl) (Nat.le_of_ble_eq_true rfl) (Nat.le_of_ble_eq_true rfl) (c_Mo_hasJoined hnx 0 s) (fun y1 s2 hy1 hs => ?_)
  refine x_ifeq hs dX12_joined_5 rfl (fun hs => ?_) (fun hs => ?_)
  · refine w_aload_n 0 dX12_joined_12 rfl rfl ?_
    refine x_iconst dX12_joined_13 ?_
    refine x_V_B M_X12_hasJoined [vi 1] [] hs rfl dX12_joined_14 (lkX12_248 _ rfl) (lt_of hnx (Nat.le_of_ble_eq_true rfl)) rfl rfl (Nat.le_of_ble_eq_true rfl) (Nat.le_of_ble_eq_true rfl) (Nat.le_of_ble_eq_true rfl) (Nat.le_of_ble_eq_true rfl) (c_Mo_hasJoined hnx 1 s2) (fun y3 s4 hy3 hs => ?_)
    refine x_ifeq hs dX12_joined_17 rfl (fun hs => ?_) (fun hs => ?_)
    · refine x_iconst dX12_joined_24 ?_
      cases hs
      exact x_ireturn dX12_joined_25 rfl rfl (Nat.le_of_ble_eq_true rfl) (Nat.le_of_ble_eq_true rfl) ⟨rfl, rfl⟩
    · refine x_iconst dX12_joined_20 ?_
      refine w_goto dX12_joined_21 rfl ?_
      cases hs
      exact x_ireturn dX12_joined_25 rfl rfl (Nat.le_of_ble_eq_true rfl) (Nat.le_of_ble_eq_true rfl) ⟨rfl, rfl⟩
  · refine x_iconst dX12_joined_8 ?_
    refine w_goto dX12_joined_9 rfl ?_
    cases hs
    exact x_ireturn dX12_joined_25 rfl rfl (Nat.le_of_ble_eq_true rfl) (Nat.le_of_ble_eq_true rfl) ⟨rfl, rfl⟩
set_option maxRecDepth 100000 in
theorem q_Mo_winner_b20 {C : Cx} {nx : Nat} (hnx : 100 ≤ nx) (x1 : Int) (s : Sg) {o : Int × Sg} (hs : Mo_winner_b20 x1 s = some o) : ww C M_X12_winner 6 0 0 nx (QI nx o.2 o.1) (XF) nx 0 0 20 [(1, vi x1)] [] (hp nx s) := by
  unfold Mo_winner_b20 at hs
  refine w_iload_n 0 dX12_winner_20 rfl rfl ?_
  refine w_goto dX12_winner_21 rfl ?_
  cases hs
  exact x_ireturn dX12_winner_32 rfl rfl (Nat.le_of_ble_eq_true rfl) (Nat.le_of_ble_eq_true rfl) ⟨rfl, rfl⟩
set_option maxRecDepth 100000 in
theorem c_Mo_winner {C : Cx} {nx : Nat} (hnx : 100 ≤ nx)  (s : Sg) : ∀ o, Mo_winner  s = some o → mm C M_X12_winner 6 0 0 nx nx [.ref 80] (hp nx s) (QI nx o.2 o.1) (XF) := by
  intro o hs
  unfold Mo_winner at hs
  refine mm_of rfl rfl (Nat.le_of_ble_eq_true rfl) ?_
  show ww C M_X12_winner 6 0 0 nx (QI nx o.2 o.1) (XF) nx 0 0 0 [(0, .ref 80)] [] (hp nx s)
  refine w_aload_n 0 dX12_winner_0 rfl rfl ?_
  refine x_V_B M_X12_joined [] [] hs rfl dX12_winner_1 (lkX12_251 _ rfl) (lt_of hnx (Nat.le_of_ble_eq_true rfl)) rfl rfl (Nat.le_of_ble_eq_true rfl) (Nat.le_of_ble_eq_true rfl) (Nat.le_of_ble_eq_true rfl) (Nat.le_of_ble_eq_true rfl) (c_Mo_joined hnx s) (fun y1 s2 hy1 hs => ?_)
  refine w_istore_n (lv' := [(1, vi y1), (0, .ref 80)]) dX12_winner_4 rfl (Nat.le_of_ble_eq_true rfl) rfl ?_
  refine w_iload_n 0 dX12_winner_5 rfl rfl ?_
  refine x_iconst dX12_winner_6 ?_
  refine x_icmpne hs dX12_winner_7 rfl (fun hs => ?_) (fun hs => ?_)
  · refine w_lv (lv' := [(1, vi y1)]) [0] rfl ?_
    exact q_Mo_winner_b20 hnx y1 s2 hs
  · refine w_aload_n 1 dX12_winner_10 rfl rfl ?_
    refine x_getR 12 1 (b := 81) dX12_winner_11 (fxX12_9 rfl) rfl rfl (lt_of hnx (Nat.le_of_ble_eq_true rfl)) rfl ?_
    refine x_iconst dX12_winner_14 ?_
    refine grd_e hs (fun hg3 hs => ?_)
    refine x_iald ⟨by decide, by decide⟩ (Nat.le_of_ble_eq_true rfl) dX12_winner_15 (Or.inl ⟨rfl, (lt_of hnx (Nat.le_of_ble_eq_true rfl))⟩) ?_
    refine x_iconst dX12_winner_16 ?_
    refine x_icmpne hs dX12_winner_17 rfl (fun hs => ?_) (fun hs => ?_)
    · refine x_iconst dX12_winner_24 ?_
      refine w_aload_n 1 dX12_winner_25 rfl rfl ?_
      refine x_getR 12 1 (b := 81) dX12_winner_26 (fxX12_9 rfl) rfl rfl (lt_of hnx (Nat.le_of_ble_eq_true rfl)) rfl ?_
      refine x_iconst dX12_winner_29 ?_
      refine grd_e hs (fun hg4 hs => ?_)
      refine x_iald ⟨by decide, by decide⟩ (Nat.le_of_ble_eq_true rfl) dX12_winner_30 (Or.inl ⟨rfl, (lt_of hnx (Nat.le_of_ble_eq_true rfl))⟩) ?_
      refine x_isub dX12_winner_31 ?_
      cases hs
      exact x_ireturn dX12_winner_32 rfl rfl (Nat.le_of_ble_eq_true rfl) (Nat.le_of_ble_eq_true rfl) ⟨rfl, rfl⟩
    · refine w_lv (lv' := [(1, vi y1)]) [0] rfl ?_
      exact q_Mo_winner_b20 hnx y1 s2 hs
set_option maxRecDepth 100000 in
theorem q_Mo_readCell_b20 {C : Cx} {nx : Nat} (hnx : 100 ≤ nx)  (s : Sg) {o : Int × Sg} (hs : Mo_readCell_b20  s = some o) : ww C M_X12_readCell 7 0 0 nx (QI nx o.2 o.1) (XF) nx 0 0 20 [(0, .ref 80)] [] (hp nx s) := by
  unfold Mo_readCell_b20 at hs
  refine w_aload_n 0 dX12_readCell_20 rfl rfl ?_
  refine x_iconst dX12_readCell_21 ?_
  refine w_aload_n 0 dX12_readCell_22 rfl rfl ?_
  refine x_getI 12 10 dX12_readCell_23 (fxX12_97 rfl) rfl rfl (lt_of hnx (Nat.le_of_ble_eq_true rfl)) ?_
  refine x_V_B M_X12_fails [vi 1, vi (gi s 80 10)] [] hs rfl dX12_readCell_26 (lkX12_116 _ rfl) (lt_of hnx (Nat.le_of_ble_eq_true rfl)) rfl rfl (Nat.le_of_ble_eq_true rfl) (Nat.le_of_ble_eq_true rfl) (Nat.le_of_ble_eq_true rfl) (Nat.le_of_ble_eq_true rfl) (c_Mo_fails hnx 1 (gi s 80 10) s) (fun y3 s4 hy3 hs => ?_)
  refine grd_e hs (fun hg5 hs => ?_)
  cases hs
  exact x_zreturn hg5 dX12_readCell_29 rfl rfl (Nat.le_of_ble_eq_true rfl) (Nat.le_of_ble_eq_true rfl) ⟨rfl, rfl⟩
set_option maxRecDepth 100000 in
theorem q_Mo_readCell_b150 {C : Cx} {nx : Nat} (hnx : 100 ≤ nx)  (s : Sg) {o : Int × Sg} (hs : Mo_readCell_b150  s = some o) : ww C M_X12_readCell 7 0 0 nx (QI nx o.2 o.1) (XF) nx 0 0 150 [] [] (hp nx s) := by
  unfold Mo_readCell_b150 at hs
  refine x_iconst dX12_readCell_150 ?_
  refine w_goto dX12_readCell_151 rfl ?_
  cases hs
  exact x_zreturn (Or.inr rfl) dX12_readCell_155 rfl rfl (Nat.le_of_ble_eq_true rfl) (Nat.le_of_ble_eq_true rfl) ⟨rfl, rfl⟩
set_option maxRecDepth 100000 in
theorem q_Mo_readCell_b81 {C : Cx} {nx : Nat} (hnx : 100 ≤ nx) (x2 : Int) (x3 : Int) (s : Sg) {o : Int × Sg} (hs : Mo_readCell_b81 x2 x3 s = some o) : ww C M_X12_readCell 7 0 0 nx (QI nx o.2 o.1) (XF) nx 0 0 81 [(0, .ref 80), (2, vi x2), (3, vi x3)] [] (hp nx s) := by
  unfold Mo_readCell_b81 at hs
  refine w_aload_n 0 dX12_readCell_81 rfl rfl ?_
  refine w_dup dX12_readCell_82 rfl ?_
  refine x_getI 12 9 dX12_readCell_83 (fxX12_94 rfl) rfl rfl (lt_of hnx (Nat.le_of_ble_eq_true rfl)) ?_
  refine x_iconst dX12_readCell_86 ?_
  refine x_iadd dX12_readCell_87 ?_
  refine x_putI 12 9 dX12_readCell_88 (poX12_94 rfl) rfl rfl (lt_of hnx (Nat.le_of_ble_eq_true rfl)) ?_
  refine nam_s hs (fun s11 hs => ?_)
  refine w_aload_n 0 dX12_readCell_91 rfl rfl ?_
  refine x_iconst dX12_readCell_92 ?_
  refine w_aload_n 0 dX12_readCell_93 rfl rfl ?_
  refine x_getR 12 1 (b := 81) dX12_readCell_94 (fxX12_9 rfl) rfl rfl (lt_of hnx (Nat.le_of_ble_eq_true rfl)) rfl ?_
  refine x_iconst dX12_readCell_97 ?_
  refine grd_e hs (fun hg12 hs => ?_)
  refine x_iald ⟨by decide, by decide⟩ (Nat.le_of_ble_eq_true rfl) dX12_readCell_98 (Or.inl ⟨rfl, (lt_of hnx (Nat.le_of_ble_eq_true rfl))⟩) ?_
  refine x_V_B M_X12_reads [vi 1, vi (gi s11 81 0)] [] hs rfl dX12_readCell_99 (lkX12_146 _ rfl) (lt_of hnx (Nat.le_of_ble_eq_true rfl)) rfl rfl (Nat.le_of_ble_eq_true rfl) (Nat.le_of_ble_eq_true rfl) (Nat.le_of_ble_eq_true rfl) (Nat.le_of_ble_eq_true rfl) (c_Mo_reads hnx 1 (gi s11 81 0) s11) (fun y13 s14 hy13 hs => ?_)
  refine x_ifne hs dX12_readCell_102 rfl (fun hs => ?_) (fun hs => ?_)
  · refine w_aload_n 0 dX12_readCell_107 rfl rfl ?_
    refine w_aload_n 0 dX12_readCell_108 rfl rfl ?_
    refine x_getR 12 1 (b := 81) dX12_readCell_109 (fxX12_9 rfl) rfl rfl (lt_of hnx (Nat.le_of_ble_eq_true rfl)) rfl ?_
    refine x_iconst dX12_readCell_112 ?_
    refine grd_e hs (fun hg15 hs => ?_)
    refine x_iald ⟨by decide, by decide⟩ (Nat.le_of_ble_eq_true rfl) dX12_readCell_113 (Or.inl ⟨rfl, (lt_of hnx (Nat.le_of_ble_eq_true rfl))⟩) ?_
    refine w_aload_n 0 dX12_readCell_114 rfl rfl ?_
    refine x_getI 12 11 dX12_readCell_115 (fxX12_128 rfl) rfl rfl (lt_of hnx (Nat.le_of_ble_eq_true rfl)) ?_
    refine x_iconst dX12_readCell_118 ?_
    refine x_isub dX12_readCell_119 ?_
    refine x_imul dX12_readCell_120 ?_
    refine w_iload_n 2 dX12_readCell_121 rfl rfl ?_
    refine x_iadd dX12_readCell_122 ?_
    refine x_putI 12 16 dX12_readCell_123 (poX12_158 rfl) rfl rfl (lt_of hnx (Nat.le_of_ble_eq_true rfl)) ?_
    refine nam_s hs (fun s16 hs => ?_)
    refine w_aload_n 0 dX12_readCell_126 rfl rfl ?_
    refine x_getR 12 1 (b := 81) dX12_readCell_127 (fxX12_9 rfl) rfl rfl (lt_of hnx (Nat.le_of_ble_eq_true rfl)) rfl ?_
    refine x_iconst dX12_readCell_130 ?_
    refine w_aload_n 0 dX12_readCell_131 rfl rfl ?_
    refine x_getI 12 16 dX12_readCell_132 (fxX12_158 rfl) rfl rfl (lt_of hnx (Nat.le_of_ble_eq_true rfl)) ?_
    refine x_iadd dX12_readCell_135 ?_
    refine grd_e hs (fun hg17 hs => ?_)
    refine x_iald hg17 (Nat.le_of_ble_eq_true rfl) dX12_readCell_136 (Or.inl ⟨rfl, (lt_of hnx (Nat.le_of_ble_eq_true rfl))⟩) ?_
    refine x_iconst dX12_readCell_137 ?_
    refine x_icmpeq hs dX12_readCell_138 rfl (fun hs => ?_) (fun hs => ?_)
    · refine w_lv (lv' := []) [] rfl ?_
      exact q_Mo_readCell_b150 hnx  s16 hs
    · refine w_aload_n 0 dX12_readCell_141 rfl rfl ?_
      refine x_iconst dX12_readCell_142 ?_
      refine w_iload_n 1 dX12_readCell_143 rfl rfl ?_
      refine x_V_B M_X12_fails [vi 3, vi x2] [] hs rfl dX12_readCell_144 (lkX12_116 _ rfl) (lt_of hnx (Nat.le_of_ble_eq_true rfl)) rfl rfl (Nat.le_of_ble_eq_true rfl) (Nat.le_of_ble_eq_true rfl) (Nat.le_of_ble_eq_true rfl) (Nat.le_of_ble_eq_true rfl) (c_Mo_fails hnx 3 x2 s16) (fun y18 s19 hy18 hs => ?_)
      refine x_ifeq hs dX12_readCell_147 rfl (fun hs => ?_) (fun hs => ?_)
      · refine x_iconst dX12_readCell_154 ?_
        cases hs
        exact x_zreturn (Or.inl rfl) dX12_readCell_155 rfl rfl (Nat.le_of_ble_eq_true rfl) (Nat.le_of_ble_eq_true rfl) ⟨rfl, rfl⟩
      · refine w_lv (lv' := []) [] rfl ?_
        exact q_Mo_readCell_b150 hnx  s19 hs
  · refine x_iconst dX12_readCell_105 ?_
    cases hs
    exact x_zreturn (Or.inl rfl) dX12_readCell_106 rfl rfl (Nat.le_of_ble_eq_true rfl) (Nat.le_of_ble_eq_true rfl) ⟨rfl, rfl⟩
set_option maxRecDepth 100000 in
theorem c_Mo_readCell {C : Cx} {nx : Nat} (hnx : 100 ≤ nx) (x1 : Int) (s : Sg) : ∀ o, Mo_readCell x1 s = some o → mm C M_X12_readCell 7 0 0 nx nx [.ref 80, vi x1] (hp nx s) (QI nx o.2 o.1) (XF) := by
  intro o hs
  unfold Mo_readCell at hs
  refine mm_of rfl rfl (Nat.le_of_ble_eq_true rfl) ?_
  show ww C M_X12_readCell 7 0 0 nx (QI nx o.2 o.1) (XF) nx 0 0 0 [(0, .ref 80), (1, vi x1)] [] (hp nx s)
  refine w_aload_n 0 dX12_readCell_0 rfl rfl ?_
  refine x_V_B M_X12_isLetterNext [] [] hs rfl dX12_readCell_1 (lkX12_131 _ rfl) (lt_of hnx (Nat.le_of_ble_eq_true rfl)) rfl rfl (Nat.le_of_ble_eq_true rfl) (Nat.le_of_ble_eq_true rfl) (Nat.le_of_ble_eq_true rfl) (Nat.le_of_ble_eq_true rfl) (c_Mo_isLetterNext hnx s) (fun y1 s2 hy1 hs => ?_)
  refine x_ifeq hs dX12_readCell_4 rfl (fun hs => ?_) (fun hs => ?_)
  · refine w_lv (lv' := [(0, .ref 80)]) [0] rfl ?_
    exact q_Mo_readCell_b20 hnx  s2 hs
  · refine w_aload_n 0 dX12_readCell_7 rfl rfl ?_
    refine x_V_I M_X12_wordEnd [] [] hs rfl dX12_readCell_8 (lkX12_135 _ rfl) (lt_of hnx (Nat.le_of_ble_eq_true rfl)) rfl rfl (Nat.le_of_ble_eq_true rfl) (Nat.le_of_ble_eq_true rfl) (Nat.le_of_ble_eq_true rfl) (Nat.le_of_ble_eq_true rfl) (c_Mo_wordEnd hnx s2) (fun y6 hy6 hs => ?_)
    refine w_aload_n 0 dX12_readCell_11 rfl rfl ?_
    refine x_getI 12 10 dX12_readCell_12 (fxX12_97 rfl) rfl rfl (lt_of hnx (Nat.le_of_ble_eq_true rfl)) ?_
    refine x_isub dX12_readCell_15 ?_
    refine x_iconst dX12_readCell_16 ?_
    refine x_icmpeq hs dX12_readCell_17 rfl (fun hs => ?_) (fun hs => ?_)
    · refine w_aload_n 0 dX12_readCell_30 rfl rfl ?_
      refine x_getI 12 10 dX12_readCell_31 (fxX12_97 rfl) rfl rfl (lt_of hnx (Nat.le_of_ble_eq_true rfl)) ?_
      refine x_istore_n (fun x2_7 => [(2, vi x2_7), (0, .ref 80), (1, vi x1)]) hs dX12_readCell_34 rfl (Nat.le_of_ble_eq_true rfl) (fun _ => rfl) (fun x2_7 hs => ?_)
      refine w_aload_n 1 dX12_readCell_35 rfl rfl ?_
      refine x_getR 12 7 (b := 86) dX12_readCell_36 (fxX12_26 rfl) rfl rfl (lt_of hnx (Nat.le_of_ble_eq_true rfl)) rfl ?_
      refine w_iload_n 0 dX12_readCell_39 rfl rfl ?_
      refine grd_e hs (fun hg8 hs => ?_)
      refine x_bald hg8 (Nat.le_of_ble_eq_true rfl) dX12_readCell_40 rfl (lt_of hnx (Nat.le_of_ble_eq_true rfl)) ?_
      refine x_bipush dX12_readCell_41 (by decide) ?_
      refine x_isub dX12_readCell_43 ?_
      refine x_istore_n (fun x3_9 => [(3, vi x3_9), (2, vi x2_7), (0, .ref 80), (1, vi x1)]) hs dX12_readCell_44 rfl (Nat.le_of_ble_eq_true rfl) (fun _ => rfl) (fun x3_9 hs => ?_)
      refine w_iload_n 0 dX12_readCell_45 rfl rfl ?_
      refine w_aload_n 2 dX12_readCell_46 rfl rfl ?_
      refine x_getR 12 1 (b := 81) dX12_readCell_47 (fxX12_9 rfl) rfl rfl (lt_of hnx (Nat.le_of_ble_eq_true rfl)) rfl ?_
      refine x_iconst dX12_readCell_50 ?_
      refine grd_e hs (fun hg10 hs => ?_)
      refine x_iald ⟨by decide, by decide⟩ (Nat.le_of_ble_eq_true rfl) dX12_readCell_51 (Or.inl ⟨rfl, (lt_of hnx (Nat.le_of_ble_eq_true rfl))⟩) ?_
      refine x_icmplt hs dX12_readCell_52 rfl (fun hs => ?_) (fun hs => ?_)
      · refine w_iload_n 3 dX12_readCell_62 rfl rfl ?_
        refine x_ifeq hs dX12_readCell_63 rfl (fun hs => ?_) (fun hs => ?_)
        · refine w_lv (lv' := [(0, .ref 80), (2, vi x2_7), (3, vi x3_9)]) [2, 1, 0] rfl ?_
          exact q_Mo_readCell_b81 hnx x2_7 x3_9 s2 hs
        · refine w_aload_n 2 dX12_readCell_66 rfl rfl ?_
          refine x_V_B M_X12_winner [] [] hs rfl dX12_readCell_67 (lkX12_155 _ rfl) (lt_of hnx (Nat.le_of_ble_eq_true rfl)) rfl rfl (Nat.le_of_ble_eq_true rfl) (Nat.le_of_ble_eq_true rfl) (Nat.le_of_ble_eq_true rfl) (Nat.le_of_ble_eq_true rfl) (c_Mo_winner hnx s2) (fun y20 s21 hy20 hs => ?_)
          refine x_iconst dX12_readCell_70 ?_
          refine x_icmpeq hs dX12_readCell_71 rfl (fun hs => ?_) (fun hs => ?_)
          · refine w_lv (lv' := [(0, .ref 80), (2, vi x2_7), (3, vi x3_9)]) [2, 1, 0] rfl ?_
            exact q_Mo_readCell_b81 hnx x2_7 x3_9 s21 hs
          · refine w_aload_n 2 dX12_readCell_74 rfl rfl ?_
            refine x_iconst dX12_readCell_75 ?_
            refine w_iload_n 1 dX12_readCell_76 rfl rfl ?_
            refine x_V_B M_X12_fails [vi 4, vi x2_7] [] hs rfl dX12_readCell_77 (lkX12_116 _ rfl) (lt_of hnx (Nat.le_of_ble_eq_true rfl)) rfl rfl (Nat.le_of_ble_eq_true rfl) (Nat.le_of_ble_eq_true rfl) (Nat.le_of_ble_eq_true rfl) (Nat.le_of_ble_eq_true rfl) (c_Mo_fails hnx 4 x2_7 s21) (fun y22 s23 hy22 hs => ?_)
            refine grd_e hs (fun hg24 hs => ?_)
            cases hs
            exact x_zreturn hg24 dX12_readCell_80 rfl rfl (Nat.le_of_ble_eq_true rfl) (Nat.le_of_ble_eq_true rfl) ⟨rfl, rfl⟩
      · refine w_aload_n 2 dX12_readCell_55 rfl rfl ?_
        refine x_iconst dX12_readCell_56 ?_
        refine w_iload_n 1 dX12_readCell_57 rfl rfl ?_
        refine x_V_B M_X12_fails [vi 2, vi x2_7] [] hs rfl dX12_readCell_58 (lkX12_116 _ rfl) (lt_of hnx (Nat.le_of_ble_eq_true rfl)) rfl rfl (Nat.le_of_ble_eq_true rfl) (Nat.le_of_ble_eq_true rfl) (Nat.le_of_ble_eq_true rfl) (Nat.le_of_ble_eq_true rfl) (c_Mo_fails hnx 2 x2_7 s2) (fun y25 s26 hy25 hs => ?_)
        refine grd_e hs (fun hg27 hs => ?_)
        cases hs
        exact x_zreturn hg27 dX12_readCell_61 rfl rfl (Nat.le_of_ble_eq_true rfl) (Nat.le_of_ble_eq_true rfl) ⟨rfl, rfl⟩
    · refine w_lv (lv' := [(0, .ref 80)]) [0] rfl ?_
      exact q_Mo_readCell_b20 hnx  s2 hs
set_option maxRecDepth 100000 in
theorem q_Mo_readStones_t0 {C : Cx} {nx : Nat} (hnx : 100 ≤ nx) {Qr : Option Value → Hp → Prop} {Qx : String → Hp → Prop}  (x1 : Int) (s : Sg) {o : ((Sg) ⊕ ((Sg) ⊕ (Sg)))} (hs : Mo_readStones_t0 x1 s = some o) (hb : ∀ σ : Sg, o = .inl σ → ww C M_X12_readStones 8 0 0 nx (Qr) (Qx) nx 0 0 0 [(0, .ref 80), (1, vi x1)] [] (hp nx σ)) (he0 : ∀ ρ : Sg, o = .inr (.inl ρ) → ww C M_X12_readStones 8 0 0 nx (Qr) (Qx) nx 0 0 8 [] [] (hp nx ρ)) (he1 : ∀ ρ : Sg, o = .inr (.inr ρ) → ww C M_X12_readStones 8 0 0 nx (Qr) (Qx) nx 0 0 29 [] [] (hp nx ρ)) : ww C M_X12_readStones 8 0 0 nx (Qr) (Qx) nx 0 0 0 [(0, .ref 80), (1, vi x1)] [] (hp nx s) := by
  unfold Mo_readStones_t0 at hs
  refine w_aload_n 0 dX12_readStones_0 rfl rfl ?_
  refine x_iconst dX12_readStones_1 ?_
  refine x_V_B M_X12_readCell [vi 0] [] hs rfl dX12_readStones_2 (lkX12_161 _ rfl) (lt_of hnx (Nat.le_of_ble_eq_true rfl)) rfl rfl (Nat.le_of_ble_eq_true rfl) (Nat.le_of_ble_eq_true rfl) (Nat.le_of_ble_eq_true rfl) (Nat.le_of_ble_eq_true rfl) (c_Mo_readCell hnx 0 s) (fun y1 s2 hy1 hs => ?_)
  refine x_ifne hs dX12_readStones_5 rfl (fun hs => ?_) (fun hs => ?_)
  · refine w_aload_n 0 dX12_readStones_10 rfl rfl ?_
    refine x_getR 12 1 (b := 81) dX12_readStones_11 (fxX12_9 rfl) rfl rfl (lt_of hnx (Nat.le_of_ble_eq_true rfl)) rfl ?_
    refine x_iconst dX12_readStones_14 ?_
    refine w_aload_n 0 dX12_readStones_15 rfl rfl ?_
    refine x_getI 12 16 dX12_readStones_16 (fxX12_158 rfl) rfl rfl (lt_of hnx (Nat.le_of_ble_eq_true rfl)) ?_
    refine x_iadd dX12_readStones_19 ?_
    refine w_iload_n 1 dX12_readStones_20 rfl rfl ?_
    refine grd_e hs (fun hg3 hs => ?_)
    refine x_iast hg3 (Nat.le_of_ble_eq_true rfl) dX12_readStones_21 rfl (lt_of hnx (Nat.le_of_ble_eq_true rfl)) ?_
    refine nam_s hs (fun s4 hs => ?_)
    refine w_aload_n 0 dX12_readStones_22 rfl rfl ?_
    refine x_V_B M_X12_isLetterNext [] [] hs rfl dX12_readStones_23 (lkX12_131 _ rfl) (lt_of hnx (Nat.le_of_ble_eq_true rfl)) rfl rfl (Nat.le_of_ble_eq_true rfl) (Nat.le_of_ble_eq_true rfl) (Nat.le_of_ble_eq_true rfl) (Nat.le_of_ble_eq_true rfl) (c_Mo_isLetterNext hnx s4) (fun y5 s6 hy5 hs => ?_)
    refine x_ifne hs dX12_readStones_26 rfl (fun hs => ?_) (fun hs => ?_)
    · cases hs
      exact hb _ rfl
    · refine w_lv (lv' := []) [] rfl ?_
      cases hs
      exact he1 _ rfl
  · refine w_lv (lv' := []) [] rfl ?_
    cases hs
    exact he0 _ rfl
set_option maxRecDepth 100000 in
theorem q_Mo_readStones_l0 {C : Cx} {nx : Nat} (hnx : 100 ≤ nx) (x1 : Int) (s : Sg) {o : Int × Sg} (hs : Mo_readStones_l0 x1 s = some o) : ww C M_X12_readStones 8 0 0 nx (QI nx o.2 o.1) (XF) nx 0 0 0 [(0, .ref 80), (1, vi x1)] [] (hp nx s) := by
  unfold Mo_readStones_l0 at hs
  refine bnd_e hs (fun ρ hw hs => ?_)
  rcases ρ with s_7 | s_8
  · have hE : ww C M_X12_readStones 8 0 0 nx (QI nx o.2 o.1) (XF) nx 0 0 8 [] [] (hp nx s_7) := by
      refine x_iconst dX12_readStones_8 ?_
      cases hs
      exact x_zreturn (Or.inl rfl) dX12_readStones_9 rfl rfl (Nat.le_of_ble_eq_true rfl) (Nat.le_of_ble_eq_true rfl) ⟨rfl, rfl⟩
    refine whl_w (P := fun σ => ww C M_X12_readStones 8 0 0 nx (QI nx o.2 o.1) (XF) nx 0 0 0 [(0, .ref 80), (1, vi x1)] [] (hp nx σ)) (E := fun ρ => ρ = (.inl s_7)) hw rfl ?_
    intro σ o' hs' hb' he'
    exact q_Mo_readStones_t0 hnx x1 σ hs' hb' (fun ρ e => by cases he' _ e; exact hE) (fun ρ e => by cases he' _ e)
  · have hE : ww C M_X12_readStones 8 0 0 nx (QI nx o.2 o.1) (XF) nx 0 0 29 [] [] (hp nx s_8) := by
      refine x_iconst dX12_readStones_29 ?_
      cases hs
      exact x_zreturn (Or.inr rfl) dX12_readStones_30 rfl rfl (Nat.le_of_ble_eq_true rfl) (Nat.le_of_ble_eq_true rfl) ⟨rfl, rfl⟩
    refine whl_w (P := fun σ => ww C M_X12_readStones 8 0 0 nx (QI nx o.2 o.1) (XF) nx 0 0 0 [(0, .ref 80), (1, vi x1)] [] (hp nx σ)) (E := fun ρ => ρ = (.inr s_8)) hw rfl ?_
    intro σ o' hs' hb' he'
    exact q_Mo_readStones_t0 hnx x1 σ hs' hb' (fun ρ e => by cases he' _ e) (fun ρ e => by cases he' _ e; exact hE)
set_option maxRecDepth 100000 in
theorem c_Mo_readStones {C : Cx} {nx : Nat} (hnx : 100 ≤ nx) (x1 : Int) (s : Sg) : ∀ o, Mo_readStones x1 s = some o → mm C M_X12_readStones 8 0 0 nx nx [.ref 80, vi x1] (hp nx s) (QI nx o.2 o.1) (XF) := by
  intro o hs
  unfold Mo_readStones at hs
  refine mm_of rfl rfl (Nat.le_of_ble_eq_true rfl) ?_
  show ww C M_X12_readStones 8 0 0 nx (QI nx o.2 o.1) (XF) nx 0 0 0 [(0, .ref 80), (1, vi x1)] [] (hp nx s)
  exact q_Mo_readStones_l0 hnx x1 s hs
set_option maxRecDepth 100000 in
theorem c_Mo_notes {C : Cx} {nx : Nat} (hnx : 100 ≤ nx) (x1 : Int) (s : Sg) : ∀ o, Mo_notes x1 s = some o → mm C M_X12_notes 0 0 0 nx nx [.ref 80, vi x1] (hp nx s) (QV nx o) (XF) := by
  intro o hs
  unfold Mo_notes at hs
  refine mm_of rfl rfl (Nat.le_of_ble_eq_true rfl) ?_
  show ww C M_X12_notes 0 0 0 nx (QV nx o) (XF) nx 0 0 0 [(0, .ref 80), (1, vi x1)] [] (hp nx s)
  refine w_aload_n 0 dX12_notes_0 rfl rfl ?_
  refine x_getR 12 1 (b := 81) dX12_notes_1 (fxX12_9 rfl) rfl rfl (lt_of hnx (Nat.le_of_ble_eq_true rfl)) rfl ?_
  refine x_bipush dX12_notes_4 (by decide) ?_
  refine w_aload_n 0 dX12_notes_6 rfl rfl ?_
  refine x_getR 12 1 (b := 81) dX12_notes_7 (fxX12_9 rfl) rfl rfl (lt_of hnx (Nat.le_of_ble_eq_true rfl)) rfl ?_
  refine x_iconst dX12_notes_10 ?_
  refine grd_e hs (fun hg1 hs => ?_)
  refine x_iald ⟨by decide, by decide⟩ (Nat.le_of_ble_eq_true rfl) dX12_notes_11 (Or.inl ⟨rfl, (lt_of hnx (Nat.le_of_ble_eq_true rfl))⟩) ?_
  refine x_iadd dX12_notes_12 ?_
  refine w_iload_n 1 dX12_notes_13 rfl rfl ?_
  refine grd_e hs (fun hg2 hs => ?_)
  refine x_iast hg2 (Nat.le_of_ble_eq_true rfl) dX12_notes_14 rfl (lt_of hnx (Nat.le_of_ble_eq_true rfl)) ?_
  refine nam_s hs (fun s3 hs => ?_)
  refine w_aload_n 0 dX12_notes_15 rfl rfl ?_
  refine x_getR 12 1 (b := 81) dX12_notes_16 (fxX12_9 rfl) rfl rfl (lt_of hnx (Nat.le_of_ble_eq_true rfl)) rfl ?_
  refine x_iconst dX12_notes_19 ?_
  refine w_dup2 dX12_notes_20 rfl rfl ?_
  refine grd_e hs (fun hg4 hs => ?_)
  refine x_iald ⟨by decide, by decide⟩ (Nat.le_of_ble_eq_true rfl) dX12_notes_21 (Or.inl ⟨rfl, (lt_of hnx (Nat.le_of_ble_eq_true rfl))⟩) ?_
  refine x_iconst dX12_notes_22 ?_
  refine x_iadd dX12_notes_23 ?_
  refine grd_e hs (fun hg5 hs => ?_)
  refine x_iast ⟨by decide, by decide⟩ (Nat.le_of_ble_eq_true rfl) dX12_notes_24 rfl (lt_of hnx (Nat.le_of_ble_eq_true rfl)) ?_
  refine nam_s hs (fun s6 hs => ?_)
  cases hs
  exact w_return rfl dX12_notes_25 rfl (Nat.le_of_ble_eq_true rfl) (Nat.le_of_ble_eq_true rfl) ⟨rfl, rfl⟩
set_option maxRecDepth 100000 in
theorem c_Mo_moves {C : Cx} {nx : Nat} (hnx : 100 ≤ nx) (x1 : Int) (s : Sg) : ∀ o, Mo_moves x1 s = some o → mm C M_X12_moves 1 0 0 nx nx [.ref 80, vi x1] (hp nx s) (QV nx o) (XF) := by
  intro o hs
  unfold Mo_moves at hs
  refine mm_of rfl rfl (Nat.le_of_ble_eq_true rfl) ?_
  show ww C M_X12_moves 1 0 0 nx (QV nx o) (XF) nx 0 0 0 [(0, .ref 80), (1, vi x1)] [] (hp nx s)
  refine w_aload_n 0 dX12_moves_0 rfl rfl ?_
  refine x_getR 12 1 (b := 81) dX12_moves_1 (fxX12_9 rfl) rfl rfl (lt_of hnx (Nat.le_of_ble_eq_true rfl)) rfl ?_
  refine x_iconst dX12_moves_4 ?_
  refine w_iload_n 1 dX12_moves_5 rfl rfl ?_
  refine x_iadd dX12_moves_6 ?_
  refine w_aload_n 0 dX12_moves_7 rfl rfl ?_
  refine x_getR 12 1 (b := 81) dX12_moves_8 (fxX12_9 rfl) rfl rfl (lt_of hnx (Nat.le_of_ble_eq_true rfl)) rfl ?_
  refine x_iconst dX12_moves_11 ?_
  refine grd_e hs (fun hg1 hs => ?_)
  refine x_iald ⟨by decide, by decide⟩ (Nat.le_of_ble_eq_true rfl) dX12_moves_12 (Or.inl ⟨rfl, (lt_of hnx (Nat.le_of_ble_eq_true rfl))⟩) ?_
  refine grd_e hs (fun hg2 hs => ?_)
  refine x_iast hg2 (Nat.le_of_ble_eq_true rfl) dX12_moves_13 rfl (lt_of hnx (Nat.le_of_ble_eq_true rfl)) ?_
  refine nam_s hs (fun s3 hs => ?_)
  refine w_aload_n 0 dX12_moves_14 rfl rfl ?_
  refine x_getR 12 1 (b := 81) dX12_moves_15 (fxX12_9 rfl) rfl rfl (lt_of hnx (Nat.le_of_ble_eq_true rfl)) rfl ?_
  refine x_iconst dX12_moves_18 ?_
  refine x_iconst dX12_moves_19 ?_
  refine w_aload_n 0 dX12_moves_20 rfl rfl ?_
  refine x_getR 12 1 (b := 81) dX12_moves_21 (fxX12_9 rfl) rfl rfl (lt_of hnx (Nat.le_of_ble_eq_true rfl)) rfl ?_
  refine x_iconst dX12_moves_24 ?_
  refine grd_e hs (fun hg4 hs => ?_)
  refine x_iald ⟨by decide, by decide⟩ (Nat.le_of_ble_eq_true rfl) dX12_moves_25 (Or.inl ⟨rfl, (lt_of hnx (Nat.le_of_ble_eq_true rfl))⟩) ?_
  refine x_isub dX12_moves_26 ?_
  refine grd_e hs (fun hg5 hs => ?_)
  refine x_iast ⟨by decide, by decide⟩ (Nat.le_of_ble_eq_true rfl) dX12_moves_27 rfl (lt_of hnx (Nat.le_of_ble_eq_true rfl)) ?_
  refine nam_s hs (fun s6 hs => ?_)
  refine w_aload_n 0 dX12_moves_28 rfl rfl ?_
  refine w_iload_n 1 dX12_moves_29 rfl rfl ?_
  refine x_V_V M_X12_notes [vi x1] [] hs rfl dX12_moves_30 (lkX12_419 _ rfl) (lt_of hnx (Nat.le_of_ble_eq_true rfl)) rfl rfl (Nat.le_of_ble_eq_true rfl) (Nat.le_of_ble_eq_true rfl) (Nat.le_of_ble_eq_true rfl) (Nat.le_of_ble_eq_true rfl) (c_Mo_notes hnx x1 s6) (fun s8 hs8 hs => ?_)
  cases hs
  exact w_return rfl dX12_moves_33 rfl (Nat.le_of_ble_eq_true rfl) (Nat.le_of_ble_eq_true rfl) ⟨rfl, rfl⟩
set_option maxRecDepth 100000 in
theorem q_Mo_readMoves_t0 {C : Cx} {nx : Nat} (hnx : 100 ≤ nx) {Qr : Option Value → Hp → Prop} {Qx : String → Hp → Prop}   (s : Sg) {o : ((Sg) ⊕ ((Sg) ⊕ (Sg)))} (hs : Mo_readMoves_t0  s = some o) (hb : ∀ σ : Sg, o = .inl σ → ww C M_X12_readMoves 8 0 0 nx (Qr) (Qx) nx 0 0 0 [(0, .ref 80)] [] (hp nx σ)) (he0 : ∀ ρ : Sg, o = .inr (.inl ρ) → ww C M_X12_readMoves 8 0 0 nx (Qr) (Qx) nx 0 0 8 [] [] (hp nx ρ)) (he1 : ∀ ρ : Sg, o = .inr (.inr ρ) → ww C M_X12_readMoves 8 0 0 nx (Qr) (Qx) nx 0 0 25 [] [] (hp nx ρ)) : ww C M_X12_readMoves 8 0 0 nx (Qr) (Qx) nx 0 0 0 [(0, .ref 80)] [] (hp nx s) := by
  unfold Mo_readMoves_t0 at hs
  refine w_aload_n 0 dX12_readMoves_0 rfl rfl ?_
  refine x_iconst dX12_readMoves_1 ?_
  refine x_V_B M_X12_readCell [vi 1] [] hs rfl dX12_readMoves_2 (lkX12_161 _ rfl) (lt_of hnx (Nat.le_of_ble_eq_true rfl)) rfl rfl (Nat.le_of_ble_eq_true rfl) (Nat.le_of_ble_eq_true rfl) (Nat.le_of_ble_eq_true rfl) (Nat.le_of_ble_eq_true rfl) (c_Mo_readCell hnx 1 s) (fun y1 s2 hy1 hs => ?_)
  refine x_ifne hs dX12_readMoves_5 rfl (fun hs => ?_) (fun hs => ?_)
  · refine w_aload_n 0 dX12_readMoves_10 rfl rfl ?_
    refine w_aload_n 0 dX12_readMoves_11 rfl rfl ?_
    refine x_getI 12 16 dX12_readMoves_12 (fxX12_158 rfl) rfl rfl (lt_of hnx (Nat.le_of_ble_eq_true rfl)) ?_
    refine x_V_V M_X12_moves [vi (gi s2 80 16)] [] hs rfl dX12_readMoves_15 (lkX12_164 _ rfl) (lt_of hnx (Nat.le_of_ble_eq_true rfl)) rfl rfl (Nat.le_of_ble_eq_true rfl) (Nat.le_of_ble_eq_true rfl) (Nat.le_of_ble_eq_true rfl) (Nat.le_of_ble_eq_true rfl) (c_Mo_moves hnx (gi s2 80 16) s2) (fun s4 hs4 hs => ?_)
    refine w_aload_n 0 dX12_readMoves_18 rfl rfl ?_
    refine x_V_B M_X12_isLetterNext [] [] hs rfl dX12_readMoves_19 (lkX12_131 _ rfl) (lt_of hnx (Nat.le_of_ble_eq_true rfl)) rfl rfl (Nat.le_of_ble_eq_true rfl) (Nat.le_of_ble_eq_true rfl) (Nat.le_of_ble_eq_true rfl) (Nat.le_of_ble_eq_true rfl) (c_Mo_isLetterNext hnx s4) (fun y5 s6 hy5 hs => ?_)
    refine x_ifne hs dX12_readMoves_22 rfl (fun hs => ?_) (fun hs => ?_)
    · cases hs
      exact hb _ rfl
    · refine w_lv (lv' := []) [] rfl ?_
      cases hs
      exact he1 _ rfl
  · refine w_lv (lv' := []) [] rfl ?_
    cases hs
    exact he0 _ rfl
set_option maxRecDepth 100000 in
theorem q_Mo_readMoves_l0 {C : Cx} {nx : Nat} (hnx : 100 ≤ nx)  (s : Sg) {o : Int × Sg} (hs : Mo_readMoves_l0  s = some o) : ww C M_X12_readMoves 8 0 0 nx (QI nx o.2 o.1) (XF) nx 0 0 0 [(0, .ref 80)] [] (hp nx s) := by
  unfold Mo_readMoves_l0 at hs
  refine bnd_e hs (fun ρ hw hs => ?_)
  rcases ρ with s_7 | s_8
  · have hE : ww C M_X12_readMoves 8 0 0 nx (QI nx o.2 o.1) (XF) nx 0 0 8 [] [] (hp nx s_7) := by
      refine x_iconst dX12_readMoves_8 ?_
      cases hs
      exact x_zreturn (Or.inl rfl) dX12_readMoves_9 rfl rfl (Nat.le_of_ble_eq_true rfl) (Nat.le_of_ble_eq_true rfl) ⟨rfl, rfl⟩
    refine whl_w (P := fun σ => ww C M_X12_readMoves 8 0 0 nx (QI nx o.2 o.1) (XF) nx 0 0 0 [(0, .ref 80)] [] (hp nx σ)) (E := fun ρ => ρ = (.inl s_7)) hw rfl ?_
    intro σ o' hs' hb' he'
    exact q_Mo_readMoves_t0 hnx  σ hs' hb' (fun ρ e => by cases he' _ e; exact hE) (fun ρ e => by cases he' _ e)
  · have hE : ww C M_X12_readMoves 8 0 0 nx (QI nx o.2 o.1) (XF) nx 0 0 25 [] [] (hp nx s_8) := by
      refine x_iconst dX12_readMoves_25 ?_
      cases hs
      exact x_zreturn (Or.inr rfl) dX12_readMoves_26 rfl rfl (Nat.le_of_ble_eq_true rfl) (Nat.le_of_ble_eq_true rfl) ⟨rfl, rfl⟩
    refine whl_w (P := fun σ => ww C M_X12_readMoves 8 0 0 nx (QI nx o.2 o.1) (XF) nx 0 0 0 [(0, .ref 80)] [] (hp nx σ)) (E := fun ρ => ρ = (.inr s_8)) hw rfl ?_
    intro σ o' hs' hb' he'
    exact q_Mo_readMoves_t0 hnx  σ hs' hb' (fun ρ e => by cases he' _ e) (fun ρ e => by cases he' _ e; exact hE)
set_option maxRecDepth 100000 in
theorem c_Mo_readMoves {C : Cx} {nx : Nat} (hnx : 100 ≤ nx)  (s : Sg) : ∀ o, Mo_readMoves  s = some o → mm C M_X12_readMoves 8 0 0 nx nx [.ref 80] (hp nx s) (QI nx o.2 o.1) (XF) := by
  intro o hs
  unfold Mo_readMoves at hs
  refine mm_of rfl rfl (Nat.le_of_ble_eq_true rfl) ?_
  show ww C M_X12_readMoves 8 0 0 nx (QI nx o.2 o.1) (XF) nx 0 0 0 [(0, .ref 80)] [] (hp nx s)
  exact q_Mo_readMoves_l0 hnx  s hs
set_option maxRecDepth 100000 in
theorem c_Mo_readTurn {C : Cx} {nx : Nat} (hnx : 100 ≤ nx)  (s : Sg) : ∀ o, Mo_readTurn  s = some o → mm C M_X12_readTurn 10 0 0 nx nx [.ref 80] (hp nx s) (QI nx o.2 o.1) (XF) := by
  intro o hs
  unfold Mo_readTurn at hs
  refine mm_of rfl rfl (Nat.le_of_ble_eq_true rfl) ?_
  show ww C M_X12_readTurn 10 0 0 nx (QI nx o.2 o.1) (XF) nx 0 0 0 [(0, .ref 80)] [] (hp nx s)
  refine w_aload_n 0 dX12_readTurn_0 rfl rfl ?_
  refine x_ldcS dX12_readTurn_1 (srX12_167 (M := M_X12_readTurn) rfl) (by decide) ?_
  refine x_V_B M_X12_takes [.ref 2014] [] hs rfl dX12_readTurn_3 (lkX12_151 _ rfl) (lt_of hnx (Nat.le_of_ble_eq_true rfl)) rfl rfl (Nat.le_of_ble_eq_true rfl) (Nat.le_of_ble_eq_true rfl) (Nat.le_of_ble_eq_true rfl) (Nat.le_of_ble_eq_true rfl) (c_Mo_takes hnx 14 (Or.inr (by decide)) s) (fun y1 s2 hy1 hs => ?_)
  refine x_ifeq hs dX12_readTurn_6 rfl (fun hs => ?_) (fun hs => ?_)
  · refine w_aload_n 0 dX12_readTurn_18 rfl rfl ?_
    refine x_ldcS dX12_readTurn_19 (srX12_169 (M := M_X12_readTurn) rfl) (by decide) ?_
    refine x_V_B M_X12_takes [.ref 2015] [] hs rfl dX12_readTurn_21 (lkX12_151 _ rfl) (lt_of hnx (Nat.le_of_ble_eq_true rfl)) rfl rfl (Nat.le_of_ble_eq_true rfl) (Nat.le_of_ble_eq_true rfl) (Nat.le_of_ble_eq_true rfl) (Nat.le_of_ble_eq_true rfl) (c_Mo_takes hnx 15 (Or.inr (by decide)) s2) (fun y3 s4 hy3 hs => ?_)
    refine x_ifne hs dX12_readTurn_24 rfl (fun hs => ?_) (fun hs => ?_)
    · refine w_aload_n 0 dX12_readTurn_37 rfl rfl ?_
      refine x_getR 12 1 (b := 81) dX12_readTurn_38 (fxX12_9 rfl) rfl rfl (lt_of hnx (Nat.le_of_ble_eq_true rfl)) rfl ?_
      refine x_iconst dX12_readTurn_41 ?_
      refine x_iconst dX12_readTurn_42 ?_
      refine grd_e hs (fun hg5 hs => ?_)
      refine x_iast ⟨by decide, by decide⟩ (Nat.le_of_ble_eq_true rfl) dX12_readTurn_43 rfl (lt_of hnx (Nat.le_of_ble_eq_true rfl)) ?_
      refine nam_s hs (fun s6 hs => ?_)
      refine x_iconst dX12_readTurn_44 ?_
      cases hs
      exact x_zreturn (Or.inr rfl) dX12_readTurn_45 rfl rfl (Nat.le_of_ble_eq_true rfl) (Nat.le_of_ble_eq_true rfl) ⟨rfl, rfl⟩
    · refine w_aload_n 0 dX12_readTurn_27 rfl rfl ?_
      refine x_iconst dX12_readTurn_28 ?_
      refine w_aload_n 0 dX12_readTurn_29 rfl rfl ?_
      refine x_getI 12 10 dX12_readTurn_30 (fxX12_97 rfl) rfl rfl (lt_of hnx (Nat.le_of_ble_eq_true rfl)) ?_
      refine x_V_B M_X12_fails [vi 1, vi (gi s4 80 10)] [] hs rfl dX12_readTurn_33 (lkX12_116 _ rfl) (lt_of hnx (Nat.le_of_ble_eq_true rfl)) rfl rfl (Nat.le_of_ble_eq_true rfl) (Nat.le_of_ble_eq_true rfl) (Nat.le_of_ble_eq_true rfl) (Nat.le_of_ble_eq_true rfl) (c_Mo_fails hnx 1 (gi s4 80 10) s4) (fun y7 s8 hy7 hs => ?_)
      refine grd_e hs (fun hg9 hs => ?_)
      cases hs
      exact x_zreturn hg9 dX12_readTurn_36 rfl rfl (Nat.le_of_ble_eq_true rfl) (Nat.le_of_ble_eq_true rfl) ⟨rfl, rfl⟩
  · refine w_aload_n 0 dX12_readTurn_9 rfl rfl ?_
    refine x_getR 12 1 (b := 81) dX12_readTurn_10 (fxX12_9 rfl) rfl rfl (lt_of hnx (Nat.le_of_ble_eq_true rfl)) rfl ?_
    refine x_iconst dX12_readTurn_13 ?_
    refine x_iconst dX12_readTurn_14 ?_
    refine grd_e hs (fun hg10 hs => ?_)
    refine x_iast ⟨by decide, by decide⟩ (Nat.le_of_ble_eq_true rfl) dX12_readTurn_15 rfl (lt_of hnx (Nat.le_of_ble_eq_true rfl)) ?_
    refine nam_s hs (fun s11 hs => ?_)
    refine x_iconst dX12_readTurn_16 ?_
    cases hs
    exact x_zreturn (Or.inr rfl) dX12_readTurn_17 rfl rfl (Nat.le_of_ble_eq_true rfl) (Nat.le_of_ble_eq_true rfl) ⟨rfl, rfl⟩
set_option maxRecDepth 100000 in
theorem c_Mo_readStatement {C : Cx} {nx : Nat} (hnx : 100 ≤ nx)  (s : Sg) : ∀ o, Mo_readStatement  s = some o → mm C M_X12_readStatement 11 0 0 nx nx [.ref 80] (hp nx s) (QI nx o.2 o.1) (XF) := by
  intro o hs
  unfold Mo_readStatement at hs
  refine mm_of rfl rfl (Nat.le_of_ble_eq_true rfl) ?_
  show ww C M_X12_readStatement 11 0 0 nx (QI nx o.2 o.1) (XF) nx 0 0 0 [(0, .ref 80)] [] (hp nx s)
  refine w_aload_n 0 dX12_readStatement_0 rfl rfl ?_
  refine x_getI 12 14 dX12_readStatement_1 (fxX12_171 rfl) rfl rfl (lt_of hnx (Nat.le_of_ble_eq_true rfl)) ?_
  refine x_ifne hs dX12_readStatement_4 rfl (fun hs => ?_) (fun hs => ?_)
  · refine w_aload_n 0 dX12_readStatement_33 rfl rfl ?_
    refine x_ldcS dX12_readStatement_34 (srX12_167 (M := M_X12_readStatement) rfl) (by decide) ?_
    refine x_V_B M_X12_takes [.ref 2014] [] hs rfl dX12_readStatement_36 (lkX12_151 _ rfl) (lt_of hnx (Nat.le_of_ble_eq_true rfl)) rfl rfl (Nat.le_of_ble_eq_true rfl) (Nat.le_of_ble_eq_true rfl) (Nat.le_of_ble_eq_true rfl) (Nat.le_of_ble_eq_true rfl) (c_Mo_takes hnx 14 (Or.inr (by decide)) s) (fun y1 s2 hy1 hs => ?_)
    refine x_ifeq hs dX12_readStatement_39 rfl (fun hs => ?_) (fun hs => ?_)
    · refine w_aload_n 0 dX12_readStatement_48 rfl rfl ?_
      refine x_ldcS dX12_readStatement_49 (srX12_169 (M := M_X12_readStatement) rfl) (by decide) ?_
      refine x_V_B M_X12_takes [.ref 2015] [] hs rfl dX12_readStatement_51 (lkX12_151 _ rfl) (lt_of hnx (Nat.le_of_ble_eq_true rfl)) rfl rfl (Nat.le_of_ble_eq_true rfl) (Nat.le_of_ble_eq_true rfl) (Nat.le_of_ble_eq_true rfl) (Nat.le_of_ble_eq_true rfl) (c_Mo_takes hnx 15 (Or.inr (by decide)) s2) (fun y3 s4 hy3 hs => ?_)
      refine x_ifeq hs dX12_readStatement_54 rfl (fun hs => ?_) (fun hs => ?_)
      · refine w_aload_n 0 dX12_readStatement_63 rfl rfl ?_
        refine x_ldcS dX12_readStatement_64 (srX12_183 (M := M_X12_readStatement) rfl) (by decide) ?_
        refine x_V_B M_X12_takes [.ref 2013] [] hs rfl dX12_readStatement_66 (lkX12_151 _ rfl) (lt_of hnx (Nat.le_of_ble_eq_true rfl)) rfl rfl (Nat.le_of_ble_eq_true rfl) (Nat.le_of_ble_eq_true rfl) (Nat.le_of_ble_eq_true rfl) (Nat.le_of_ble_eq_true rfl) (c_Mo_takes hnx 13 (Or.inr (by decide)) s4) (fun y5 s6 hy5 hs => ?_)
        refine x_ifeq hs dX12_readStatement_69 rfl (fun hs => ?_) (fun hs => ?_)
        · refine w_aload_n 0 dX12_readStatement_77 rfl rfl ?_
          refine x_ldcS dX12_readStatement_78 (srX12_188 (M := M_X12_readStatement) rfl) (by decide) ?_
          refine x_V_B M_X12_takes [.ref 2012] [] hs rfl dX12_readStatement_80 (lkX12_151 _ rfl) (lt_of hnx (Nat.le_of_ble_eq_true rfl)) rfl rfl (Nat.le_of_ble_eq_true rfl) (Nat.le_of_ble_eq_true rfl) (Nat.le_of_ble_eq_true rfl) (Nat.le_of_ble_eq_true rfl) (c_Mo_takes hnx 12 (Or.inr (by decide)) s6) (fun y7 s8 hy7 hs => ?_)
          refine x_ifeq hs dX12_readStatement_83 rfl (fun hs => ?_) (fun hs => ?_)
          · refine w_aload_n 0 dX12_readStatement_93 rfl rfl ?_
            refine x_iconst dX12_readStatement_94 ?_
            refine w_aload_n 0 dX12_readStatement_95 rfl rfl ?_
            refine x_getI 12 10 dX12_readStatement_96 (fxX12_97 rfl) rfl rfl (lt_of hnx (Nat.le_of_ble_eq_true rfl)) ?_
            refine x_V_B M_X12_fails [vi 1, vi (gi s8 80 10)] [] hs rfl dX12_readStatement_99 (lkX12_116 _ rfl) (lt_of hnx (Nat.le_of_ble_eq_true rfl)) rfl rfl (Nat.le_of_ble_eq_true rfl) (Nat.le_of_ble_eq_true rfl) (Nat.le_of_ble_eq_true rfl) (Nat.le_of_ble_eq_true rfl) (c_Mo_fails hnx 1 (gi s8 80 10) s8) (fun y9 s10 hy9 hs => ?_)
            refine grd_e hs (fun hg11 hs => ?_)
            cases hs
            exact x_zreturn hg11 dX12_readStatement_102 rfl rfl (Nat.le_of_ble_eq_true rfl) (Nat.le_of_ble_eq_true rfl) ⟨rfl, rfl⟩
          · refine w_aload_n 0 dX12_readStatement_86 rfl rfl ?_
            refine x_V_B M_X12_readMoves [] [] hs rfl dX12_readStatement_87 (lkX12_190 _ rfl) (lt_of hnx (Nat.le_of_ble_eq_true rfl)) rfl rfl (Nat.le_of_ble_eq_true rfl) (Nat.le_of_ble_eq_true rfl) (Nat.le_of_ble_eq_true rfl) (Nat.le_of_ble_eq_true rfl) (c_Mo_readMoves hnx s8) (fun y12 s13 hy12 hs => ?_)
            refine w_goto dX12_readStatement_90 rfl ?_
            refine grd_e hs (fun hg14 hs => ?_)
            cases hs
            exact x_zreturn hg14 dX12_readStatement_102 rfl rfl (Nat.le_of_ble_eq_true rfl) (Nat.le_of_ble_eq_true rfl) ⟨rfl, rfl⟩
        · refine w_aload_n 0 dX12_readStatement_72 rfl rfl ?_
          refine x_V_B M_X12_readTurn [] [] hs rfl dX12_readStatement_73 (lkX12_185 _ rfl) (lt_of hnx (Nat.le_of_ble_eq_true rfl)) rfl rfl (Nat.le_of_ble_eq_true rfl) (Nat.le_of_ble_eq_true rfl) (Nat.le_of_ble_eq_true rfl) (Nat.le_of_ble_eq_true rfl) (c_Mo_readTurn hnx s6) (fun y15 s16 hy15 hs => ?_)
          refine grd_e hs (fun hg17 hs => ?_)
          cases hs
          exact x_zreturn hg17 dX12_readStatement_76 rfl rfl (Nat.le_of_ble_eq_true rfl) (Nat.le_of_ble_eq_true rfl) ⟨rfl, rfl⟩
      · refine w_aload_n 0 dX12_readStatement_57 rfl rfl ?_
        refine x_iconst dX12_readStatement_58 ?_
        refine x_V_B M_X12_readStones [vi 1] [] hs rfl dX12_readStatement_59 (lkX12_179 _ rfl) (lt_of hnx (Nat.le_of_ble_eq_true rfl)) rfl rfl (Nat.le_of_ble_eq_true rfl) (Nat.le_of_ble_eq_true rfl) (Nat.le_of_ble_eq_true rfl) (Nat.le_of_ble_eq_true rfl) (c_Mo_readStones hnx 1 s4) (fun y18 s19 hy18 hs => ?_)
        refine grd_e hs (fun hg20 hs => ?_)
        cases hs
        exact x_zreturn hg20 dX12_readStatement_62 rfl rfl (Nat.le_of_ble_eq_true rfl) (Nat.le_of_ble_eq_true rfl) ⟨rfl, rfl⟩
    · refine w_aload_n 0 dX12_readStatement_42 rfl rfl ?_
      refine x_iconst dX12_readStatement_43 ?_
      refine x_V_B M_X12_readStones [vi 0] [] hs rfl dX12_readStatement_44 (lkX12_179 _ rfl) (lt_of hnx (Nat.le_of_ble_eq_true rfl)) rfl rfl (Nat.le_of_ble_eq_true rfl) (Nat.le_of_ble_eq_true rfl) (Nat.le_of_ble_eq_true rfl) (Nat.le_of_ble_eq_true rfl) (c_Mo_readStones hnx 0 s2) (fun y21 s22 hy21 hs => ?_)
      refine grd_e hs (fun hg23 hs => ?_)
      cases hs
      exact x_zreturn hg23 dX12_readStatement_47 rfl rfl (Nat.le_of_ble_eq_true rfl) (Nat.le_of_ble_eq_true rfl) ⟨rfl, rfl⟩
  · refine w_aload_n 0 dX12_readStatement_7 rfl rfl ?_
    refine x_ldcS dX12_readStatement_8 (srX12_174 (M := M_X12_readStatement) rfl) (by decide) ?_
    refine x_V_B M_X12_takes [.ref 2010] [] hs rfl dX12_readStatement_10 (lkX12_151 _ rfl) (lt_of hnx (Nat.le_of_ble_eq_true rfl)) rfl rfl (Nat.le_of_ble_eq_true rfl) (Nat.le_of_ble_eq_true rfl) (Nat.le_of_ble_eq_true rfl) (Nat.le_of_ble_eq_true rfl) (c_Mo_takes hnx 10 (Or.inr (by decide)) s) (fun y24 s25 hy24 hs => ?_)
    refine x_ifeq hs dX12_readStatement_13 rfl (fun hs => ?_) (fun hs => ?_)
    · refine w_aload_n 0 dX12_readStatement_23 rfl rfl ?_
      refine x_iconst dX12_readStatement_24 ?_
      refine w_aload_n 0 dX12_readStatement_25 rfl rfl ?_
      refine x_getI 12 10 dX12_readStatement_26 (fxX12_97 rfl) rfl rfl (lt_of hnx (Nat.le_of_ble_eq_true rfl)) ?_
      refine x_V_B M_X12_fails [vi 1, vi (gi s25 80 10)] [] hs rfl dX12_readStatement_29 (lkX12_116 _ rfl) (lt_of hnx (Nat.le_of_ble_eq_true rfl)) rfl rfl (Nat.le_of_ble_eq_true rfl) (Nat.le_of_ble_eq_true rfl) (Nat.le_of_ble_eq_true rfl) (Nat.le_of_ble_eq_true rfl) (c_Mo_fails hnx 1 (gi s25 80 10) s25) (fun y26 s27 hy26 hs => ?_)
      refine grd_e hs (fun hg28 hs => ?_)
      cases hs
      exact x_zreturn hg28 dX12_readStatement_32 rfl rfl (Nat.le_of_ble_eq_true rfl) (Nat.le_of_ble_eq_true rfl) ⟨rfl, rfl⟩
    · refine w_aload_n 0 dX12_readStatement_16 rfl rfl ?_
      refine x_V_B M_X12_readBoard [] [] hs rfl dX12_readStatement_17 (lkX12_176 _ rfl) (lt_of hnx (Nat.le_of_ble_eq_true rfl)) rfl rfl (Nat.le_of_ble_eq_true rfl) (Nat.le_of_ble_eq_true rfl) (Nat.le_of_ble_eq_true rfl) (Nat.le_of_ble_eq_true rfl) (c_Mo_readBoard hnx s25) (fun y29 s30 hy29 hs => ?_)
      refine w_goto dX12_readStatement_20 rfl ?_
      refine grd_e hs (fun hg31 hs => ?_)
      cases hs
      exact x_zreturn hg31 dX12_readStatement_32 rfl rfl (Nat.le_of_ble_eq_true rfl) (Nat.le_of_ble_eq_true rfl) ⟨rfl, rfl⟩
set_option maxRecDepth 100000 in
theorem q_Mo_readAll_t10 {C : Cx} {nx : Nat} (hnx : 100 ≤ nx) {Qr : Option Value → Hp → Prop} {Qx : String → Hp → Prop}   (s : Sg) {o : ((Sg) ⊕ ((Sg) ⊕ ((Sg) ⊕ (Sg))))} (hs : Mo_readAll_t10  s = some o) (hb : ∀ σ : Sg, o = .inl σ → ww C M_X12_readAll 12 0 0 nx (Qr) (Qx) nx 0 0 10 [(0, .ref 80)] [] (hp nx σ)) (he0 : ∀ ρ : Sg, o = .inr (.inl ρ) → ww C M_X12_readAll 12 0 0 nx (Qr) (Qx) nx 0 0 17 [] [] (hp nx ρ)) (he1 : ∀ ρ : Sg, o = .inr (.inr (.inl ρ)) → ww C M_X12_readAll 12 0 0 nx (Qr) (Qx) nx 0 0 29 [] [] (hp nx ρ)) (he2 : ∀ ρ : Sg, o = .inr (.inr (.inr ρ)) → ww C M_X12_readAll 12 0 0 nx (Qr) (Qx) nx 0 0 37 [(0, .ref 80)] [] (hp nx ρ)) : ww C M_X12_readAll 12 0 0 nx (Qr) (Qx) nx 0 0 10 [(0, .ref 80)] [] (hp nx s) := by
  unfold Mo_readAll_t10 at hs
  refine w_aload_n 0 dX12_readAll_10 rfl rfl ?_
  refine x_V_B M_X12_readStatement [] [] hs rfl dX12_readAll_11 (lkX12_193 _ rfl) (lt_of hnx (Nat.le_of_ble_eq_true rfl)) rfl rfl (Nat.le_of_ble_eq_true rfl) (Nat.le_of_ble_eq_true rfl) (Nat.le_of_ble_eq_true rfl) (Nat.le_of_ble_eq_true rfl) (c_Mo_readStatement hnx s) (fun y3 s4 hy3 hs => ?_)
  refine x_ifne hs dX12_readAll_14 rfl (fun hs => ?_) (fun hs => ?_)
  · refine w_aload_n 0 dX12_readAll_19 rfl rfl ?_
    refine x_V_B M_X12_nextByte [] [] hs rfl dX12_readAll_20 (lkX12_100 _ rfl) (lt_of hnx (Nat.le_of_ble_eq_true rfl)) rfl rfl (Nat.le_of_ble_eq_true rfl) (Nat.le_of_ble_eq_true rfl) (Nat.le_of_ble_eq_true rfl) (Nat.le_of_ble_eq_true rfl) (c_Mo_nextByte hnx s4) (fun y5 s6 hy5 hs => ?_)
    refine w_istore_n (lv' := [(1, vi y5), (0, .ref 80)]) dX12_readAll_23 rfl (Nat.le_of_ble_eq_true rfl) rfl ?_
    refine w_iload_n 0 dX12_readAll_24 rfl rfl ?_
    refine x_iconst dX12_readAll_25 ?_
    refine x_icmpne hs dX12_readAll_26 rfl (fun hs => ?_) (fun hs => ?_)
    · refine w_iload_n 0 dX12_readAll_31 rfl rfl ?_
      refine x_bipush dX12_readAll_32 (by decide) ?_
      refine x_icmpeq hs dX12_readAll_34 rfl (fun hs => ?_) (fun hs => ?_)
      · refine w_aload_n 1 dX12_readAll_47 rfl rfl ?_
        refine w_dup dX12_readAll_48 rfl ?_
        refine x_getI 12 9 dX12_readAll_49 (fxX12_94 rfl) rfl rfl (lt_of hnx (Nat.le_of_ble_eq_true rfl)) ?_
        refine x_iconst dX12_readAll_52 ?_
        refine x_iadd dX12_readAll_53 ?_
        refine x_putI 12 9 dX12_readAll_54 (poX12_94 rfl) rfl rfl (lt_of hnx (Nat.le_of_ble_eq_true rfl)) ?_
        refine nam_s hs (fun s7 hs => ?_)
        refine w_aload_n 1 dX12_readAll_57 rfl rfl ?_
        refine w_dup dX12_readAll_58 rfl ?_
        refine x_getI 12 14 dX12_readAll_59 (fxX12_171 rfl) rfl rfl (lt_of hnx (Nat.le_of_ble_eq_true rfl)) ?_
        refine x_iconst dX12_readAll_62 ?_
        refine x_iadd dX12_readAll_63 ?_
        refine x_putI 12 14 dX12_readAll_64 (poX12_171 rfl) rfl rfl (lt_of hnx (Nat.le_of_ble_eq_true rfl)) ?_
        refine nam_s hs (fun s8 hs => ?_)
        refine w_goto dX12_readAll_67 rfl ?_
        refine w_lv (lv' := [(0, .ref 80)]) [1] rfl ?_
        cases hs
        exact hb _ rfl
      · refine w_lv (lv' := [(0, .ref 80)]) [1] rfl ?_
        cases hs
        exact he2 _ rfl
    · refine w_lv (lv' := []) [] rfl ?_
      cases hs
      exact he1 _ rfl
  · refine w_lv (lv' := []) [] rfl ?_
    cases hs
    exact he0 _ rfl
set_option maxRecDepth 100000 in
theorem q_Mo_readAll_l10 {C : Cx} {nx : Nat} (hnx : 100 ≤ nx)  (s : Sg) {o : Int × Sg} (hs : Mo_readAll_l10  s = some o) : ww C M_X12_readAll 12 0 0 nx (QI nx o.2 o.1) (XF) nx 0 0 10 [(0, .ref 80)] [] (hp nx s) := by
  unfold Mo_readAll_l10 at hs
  refine bnd_e hs (fun ρ hw hs => ?_)
  rcases ρ with s_9 | s_10 | s_11
  · have hE : ww C M_X12_readAll 12 0 0 nx (QI nx o.2 o.1) (XF) nx 0 0 17 [] [] (hp nx s_9) := by
      refine x_iconst dX12_readAll_17 ?_
      cases hs
      exact x_zreturn (Or.inl rfl) dX12_readAll_18 rfl rfl (Nat.le_of_ble_eq_true rfl) (Nat.le_of_ble_eq_true rfl) ⟨rfl, rfl⟩
    refine whl_w (P := fun σ => ww C M_X12_readAll 12 0 0 nx (QI nx o.2 o.1) (XF) nx 0 0 10 [(0, .ref 80)] [] (hp nx σ)) (E := fun ρ => ρ = (.inl s_9)) hw rfl ?_
    intro σ o' hs' hb' he'
    exact q_Mo_readAll_t10 hnx  σ hs' hb' (fun ρ e => by cases he' _ e; exact hE) (fun ρ e => by cases he' _ e) (fun ρ e => by cases he' _ e)
  · have hE : ww C M_X12_readAll 12 0 0 nx (QI nx o.2 o.1) (XF) nx 0 0 29 [] [] (hp nx s_10) := by
      refine x_iconst dX12_readAll_29 ?_
      cases hs
      exact x_zreturn (Or.inr rfl) dX12_readAll_30 rfl rfl (Nat.le_of_ble_eq_true rfl) (Nat.le_of_ble_eq_true rfl) ⟨rfl, rfl⟩
    refine whl_w (P := fun σ => ww C M_X12_readAll 12 0 0 nx (QI nx o.2 o.1) (XF) nx 0 0 10 [(0, .ref 80)] [] (hp nx σ)) (E := fun ρ => ρ = (.inr (.inl s_10))) hw rfl ?_
    intro σ o' hs' hb' he'
    exact q_Mo_readAll_t10 hnx  σ hs' hb' (fun ρ e => by cases he' _ e) (fun ρ e => by cases he' _ e; exact hE) (fun ρ e => by cases he' _ e)
  · have hE : ww C M_X12_readAll 12 0 0 nx (QI nx o.2 o.1) (XF) nx 0 0 37 [(0, .ref 80)] [] (hp nx s_11) := by
      refine w_aload_n 0 dX12_readAll_37 rfl rfl ?_
      refine x_iconst dX12_readAll_38 ?_
      refine w_aload_n 0 dX12_readAll_39 rfl rfl ?_
      refine x_getI 12 10 dX12_readAll_40 (fxX12_97 rfl) rfl rfl (lt_of hnx (Nat.le_of_ble_eq_true rfl)) ?_
      refine x_V_B M_X12_fails [vi 1, vi (gi s_11 80 10)] [] hs rfl dX12_readAll_43 (lkX12_116 _ rfl) (lt_of hnx (Nat.le_of_ble_eq_true rfl)) rfl rfl (Nat.le_of_ble_eq_true rfl) (Nat.le_of_ble_eq_true rfl) (Nat.le_of_ble_eq_true rfl) (Nat.le_of_ble_eq_true rfl) (c_Mo_fails hnx 1 (gi s_11 80 10) s_11) (fun y12 s13 hy12 hs => ?_)
      refine grd_e hs (fun hg14 hs => ?_)
      cases hs
      exact x_zreturn hg14 dX12_readAll_46 rfl rfl (Nat.le_of_ble_eq_true rfl) (Nat.le_of_ble_eq_true rfl) ⟨rfl, rfl⟩
    refine whl_w (P := fun σ => ww C M_X12_readAll 12 0 0 nx (QI nx o.2 o.1) (XF) nx 0 0 10 [(0, .ref 80)] [] (hp nx σ)) (E := fun ρ => ρ = (.inr (.inr s_11))) hw rfl ?_
    intro σ o' hs' hb' he'
    exact q_Mo_readAll_t10 hnx  σ hs' hb' (fun ρ e => by cases he' _ e) (fun ρ e => by cases he' _ e) (fun ρ e => by cases he' _ e; exact hE)
set_option maxRecDepth 100000 in
theorem c_Mo_readAll {C : Cx} {nx : Nat} (hnx : 100 ≤ nx)  (s : Sg) : ∀ o, Mo_readAll  s = some o → mm C M_X12_readAll 12 0 0 nx nx [.ref 80] (hp nx s) (QI nx o.2 o.1) (XF) := by
  intro o hs
  unfold Mo_readAll at hs
  refine mm_of rfl rfl (Nat.le_of_ble_eq_true rfl) ?_
  show ww C M_X12_readAll 12 0 0 nx (QI nx o.2 o.1) (XF) nx 0 0 0 [(0, .ref 80)] [] (hp nx s)
  refine w_aload_n 0 dX12_readAll_0 rfl rfl ?_
  refine x_iconst dX12_readAll_1 ?_
  refine x_putI 12 9 dX12_readAll_2 (poX12_94 rfl) rfl rfl (lt_of hnx (Nat.le_of_ble_eq_true rfl)) ?_
  refine nam_s hs (fun s1 hs => ?_)
  refine w_aload_n 0 dX12_readAll_5 rfl rfl ?_
  refine x_iconst dX12_readAll_6 ?_
  refine x_putI 12 14 dX12_readAll_7 (poX12_171 rfl) rfl rfl (lt_of hnx (Nat.le_of_ble_eq_true rfl)) ?_
  refine nam_s hs (fun s2 hs => ?_)
  exact q_Mo_readAll_l10 hnx  s2 hs
set_option maxRecDepth 100000 in
theorem c_Mo_load {C : Cx} {nx : Nat} (hnx : 100 ≤ nx)  (s : Sg) : ∀ o, Mo_load  s = some o → mm C M_X12_load 13 0 0 nx nx [.ref 80] (hp nx s) (QI nx o.2 o.1) (XF) := by
  intro o hs
  unfold Mo_load at hs
  refine mm_of rfl rfl (Nat.le_of_ble_eq_true rfl) ?_
  show ww C M_X12_load 13 0 0 nx (QI nx o.2 o.1) (XF) nx 0 0 0 [(0, .ref 80)] [] (hp nx s)
  refine w_aload_n 0 dX12_load_0 rfl rfl ?_
  refine x_iconst dX12_load_1 ?_
  refine x_putI 12 0 dX12_load_2 (poX12_77 rfl) rfl rfl (lt_of hnx (Nat.le_of_ble_eq_true rfl)) ?_
  refine nam_s hs (fun s1 hs => ?_)
  refine w_aload_n 0 dX12_load_5 rfl rfl ?_
  refine x_iconst dX12_load_6 ?_
  refine x_putI 12 12 dX12_load_7 (poX12_88 rfl) rfl rfl (lt_of hnx (Nat.le_of_ble_eq_true rfl)) ?_
  refine nam_s hs (fun s2 hs => ?_)
  refine w_aload_n 0 dX12_load_10 rfl rfl ?_
  refine x_iconst dX12_load_11 ?_
  refine x_putI 12 15 dX12_load_12 (poX12_30 rfl) rfl rfl (lt_of hnx (Nat.le_of_ble_eq_true rfl)) ?_
  refine nam_s hs (fun s3 hs => ?_)
  refine w_aload_n 0 dX12_load_15 rfl rfl ?_
  refine x_V_V M_X12_goesAside [] [] hs rfl dX12_load_16 (lkX12_196 _ rfl) (lt_of hnx (Nat.le_of_ble_eq_true rfl)) rfl rfl (Nat.le_of_ble_eq_true rfl) (Nat.le_of_ble_eq_true rfl) (Nat.le_of_ble_eq_true rfl) (Nat.le_of_ble_eq_true rfl) (c_Mo_goesAside hnx s3) (fun s5 hs5 hs => ?_)
  refine w_aload_n 0 dX12_load_19 rfl rfl ?_
  refine x_V_B M_X12_readAll [] [] hs rfl dX12_load_20 (lkX12_199 _ rfl) (lt_of hnx (Nat.le_of_ble_eq_true rfl)) rfl rfl (Nat.le_of_ble_eq_true rfl) (Nat.le_of_ble_eq_true rfl) (Nat.le_of_ble_eq_true rfl) (Nat.le_of_ble_eq_true rfl) (c_Mo_readAll hnx s5) (fun y6 s7 hy6 hs => ?_)
  refine w_istore_n (lv' := [(1, vi y6), (0, .ref 80)]) dX12_load_23 rfl (Nat.le_of_ble_eq_true rfl) rfl ?_
  refine w_aload_n 1 dX12_load_24 rfl rfl ?_
  refine x_iconst dX12_load_25 ?_
  refine x_putI 12 8 dX12_load_26 (poX12_85 rfl) rfl rfl (lt_of hnx (Nat.le_of_ble_eq_true rfl)) ?_
  refine nam_s hs (fun s8 hs => ?_)
  refine w_iload_n 0 dX12_load_29 rfl rfl ?_
  refine x_ifne hs dX12_load_30 rfl (fun hs => ?_) (fun hs => ?_)
  · refine w_aload_n 1 dX12_load_53 rfl rfl ?_
    refine x_iconst dX12_load_54 ?_
    refine x_putI 12 6 dX12_load_55 (poX12_80 rfl) rfl rfl (lt_of hnx (Nat.le_of_ble_eq_true rfl)) ?_
    refine nam_s hs (fun s9 hs => ?_)
    refine w_aload_n 1 dX12_load_58 rfl rfl ?_
    refine x_getR 12 1 (b := 81) dX12_load_59 (fxX12_9 rfl) rfl rfl (lt_of hnx (Nat.le_of_ble_eq_true rfl)) rfl ?_
    refine x_iconst dX12_load_62 ?_
    refine grd_e hs (fun hg10 hs => ?_)
    refine x_iald ⟨by decide, by decide⟩ (Nat.le_of_ble_eq_true rfl) dX12_load_63 (Or.inl ⟨rfl, (lt_of hnx (Nat.le_of_ble_eq_true rfl))⟩) ?_
    cases hs
    exact x_ireturn dX12_load_64 rfl rfl (Nat.le_of_ble_eq_true rfl) (Nat.le_of_ble_eq_true rfl) ⟨rfl, rfl⟩
  · refine w_aload_n 1 dX12_load_33 rfl rfl ?_
    refine w_aload_n 1 dX12_load_34 rfl rfl ?_
    refine x_getI 12 14 dX12_load_35 (fxX12_171 rfl) rfl rfl (lt_of hnx (Nat.le_of_ble_eq_true rfl)) ?_
    refine x_putI 12 15 dX12_load_38 (poX12_30 rfl) rfl rfl (lt_of hnx (Nat.le_of_ble_eq_true rfl)) ?_
    refine nam_s hs (fun s11 hs => ?_)
    refine w_aload_n 1 dX12_load_41 rfl rfl ?_
    refine x_bipush dX12_load_42 (by decide) ?_
    refine w_aload_n 1 dX12_load_44 rfl rfl ?_
    refine x_getI 12 13 dX12_load_45 (fxX12_91 rfl) rfl rfl (lt_of hnx (Nat.le_of_ble_eq_true rfl)) ?_
    refine x_isub dX12_load_48 ?_
    refine x_V_B M_X12_comesBack [vi ((-100) - (gi s11 80 13))] [] hs rfl dX12_load_49 (lkX12_202 _ rfl) (lt_of hnx (Nat.le_of_ble_eq_true rfl)) rfl rfl (Nat.le_of_ble_eq_true rfl) (Nat.le_of_ble_eq_true rfl) (Nat.le_of_ble_eq_true rfl) (Nat.le_of_ble_eq_true rfl) (c_Mo_comesBack hnx ((-100) - (gi s11 80 13)) s11) (fun y12 s13 hy12 hs => ?_)
    cases hs
    exact x_ireturn dX12_load_52 rfl rfl (Nat.le_of_ble_eq_true rfl) (Nat.le_of_ble_eq_true rfl) ⟨rfl, rfl⟩
set_option maxRecDepth 100000 in
theorem c_Mo_loadError {C : Cx} {nx : Nat} (hnx : 100 ≤ nx)  (s : Sg) : ∀ o, Mo_loadError  s = some o → mm C M_X12_loadError 0 0 0 nx nx [.ref 80] (hp nx s) (QI nx o.2 o.1) (XF) := by
  intro o hs
  unfold Mo_loadError at hs
  refine mm_of rfl rfl (Nat.le_of_ble_eq_true rfl) ?_
  show ww C M_X12_loadError 0 0 0 nx (QI nx o.2 o.1) (XF) nx 0 0 0 [(0, .ref 80)] [] (hp nx s)
  refine w_aload_n 0 dX12_loadError_0 rfl rfl ?_
  refine x_iconst dX12_loadError_1 ?_
  refine x_putI 12 0 dX12_loadError_2 (poX12_77 rfl) rfl rfl (lt_of hnx (Nat.le_of_ble_eq_true rfl)) ?_
  refine nam_s hs (fun s1 hs => ?_)
  refine w_aload_n 0 dX12_loadError_5 rfl rfl ?_
  refine x_getI 12 12 dX12_loadError_6 (fxX12_88 rfl) rfl rfl (lt_of hnx (Nat.le_of_ble_eq_true rfl)) ?_
  cases hs
  exact x_ireturn dX12_loadError_9 rfl rfl (Nat.le_of_ble_eq_true rfl) (Nat.le_of_ble_eq_true rfl) ⟨rfl, rfl⟩
set_option maxRecDepth 100000 in
theorem c_Mo_loadStatement {C : Cx} {nx : Nat} (hnx : 100 ≤ nx)  (s : Sg) : ∀ o, Mo_loadStatement  s = some o → mm C M_X12_loadStatement 0 0 0 nx nx [.ref 80] (hp nx s) (QI nx o.2 o.1) (XF) := by
  intro o hs
  unfold Mo_loadStatement at hs
  refine mm_of rfl rfl (Nat.le_of_ble_eq_true rfl) ?_
  show ww C M_X12_loadStatement 0 0 0 nx (QI nx o.2 o.1) (XF) nx 0 0 0 [(0, .ref 80)] [] (hp nx s)
  refine w_aload_n 0 dX12_loadStatement_0 rfl rfl ?_
  refine x_iconst dX12_loadStatement_1 ?_
  refine x_putI 12 0 dX12_loadStatement_2 (poX12_77 rfl) rfl rfl (lt_of hnx (Nat.le_of_ble_eq_true rfl)) ?_
  refine nam_s hs (fun s1 hs => ?_)
  refine w_aload_n 0 dX12_loadStatement_5 rfl rfl ?_
  refine x_getI 12 15 dX12_loadStatement_6 (fxX12_30 rfl) rfl rfl (lt_of hnx (Nat.le_of_ble_eq_true rfl)) ?_
  cases hs
  exact x_ireturn dX12_loadStatement_9 rfl rfl (Nat.le_of_ble_eq_true rfl) (Nat.le_of_ble_eq_true rfl) ⟨rfl, rfl⟩
set_option maxRecDepth 100000 in
theorem c_Mo_exchanged {C : Cx} {nx : Nat} (hnx : 100 ≤ nx) (x1 : Int) (s : Sg) : ∀ o, Mo_exchanged x1 s = some o → mm C M_X12_exchanged 1 0 0 nx nx [.ref 80, vi x1] (hp nx s) (QI nx s o) (XF) := by
  intro o hs
  unfold Mo_exchanged at hs
  refine mm_of rfl rfl (Nat.le_of_ble_eq_true rfl) ?_
  show ww C M_X12_exchanged 1 0 0 nx (QI nx s o) (XF) nx 0 0 0 [(0, .ref 80), (1, vi x1)] [] (hp nx s)
  refine w_aload_n 0 dX12_exchanged_0 rfl rfl ?_
  refine x_getR 12 1 (b := 81) dX12_exchanged_1 (fxX12_9 rfl) rfl rfl (lt_of hnx (Nat.le_of_ble_eq_true rfl)) rfl ?_
  refine x_iconst dX12_exchanged_4 ?_
  refine grd_e hs (fun hg1 hs => ?_)
  refine x_iald ⟨by decide, by decide⟩ (Nat.le_of_ble_eq_true rfl) dX12_exchanged_5 (Or.inl ⟨rfl, (lt_of hnx (Nat.le_of_ble_eq_true rfl))⟩) ?_
  refine w_aload_n 0 dX12_exchanged_6 rfl rfl ?_
  refine w_iload_n 1 dX12_exchanged_7 rfl rfl ?_
  refine x_V_I M_X12_column [vi x1] [vi (gi s 81 0)] hs rfl dX12_exchanged_8 (lkX12_206 _ rfl) (lt_of hnx (Nat.le_of_ble_eq_true rfl)) rfl rfl (Nat.le_of_ble_eq_true rfl) (Nat.le_of_ble_eq_true rfl) (Nat.le_of_ble_eq_true rfl) (Nat.le_of_ble_eq_true rfl) (c_Mo_column hnx x1 s) (fun y2 hy2 hs => ?_)
  refine x_imul dX12_exchanged_11 ?_
  refine w_aload_n 0 dX12_exchanged_12 rfl rfl ?_
  refine w_iload_n 1 dX12_exchanged_13 rfl rfl ?_
  refine x_V_I M_X12_row [vi x1] [vi ((gi s 81 0) * y2)] hs rfl dX12_exchanged_14 (lkX12_209 _ rfl) (lt_of hnx (Nat.le_of_ble_eq_true rfl)) rfl rfl (Nat.le_of_ble_eq_true rfl) (Nat.le_of_ble_eq_true rfl) (Nat.le_of_ble_eq_true rfl) (Nat.le_of_ble_eq_true rfl) (c_Mo_row hnx x1 s) (fun y3 hy3 hs => ?_)
  refine x_iadd dX12_exchanged_17 ?_
  cases hs
  exact x_ireturn dX12_exchanged_18 rfl rfl (Nat.le_of_ble_eq_true rfl) (Nat.le_of_ble_eq_true rfl) ⟨rfl, rfl⟩
set_option maxRecDepth 100000 in
theorem c_Mo_isCell {C : Cx} {nx : Nat} (hnx : 100 ≤ nx) (x1 : Int) (s : Sg) : ∀ o, Mo_isCell x1 s = some o → mm C M_X12_isCell 1 0 0 nx nx [.ref 80, vi x1] (hp nx s) (QI nx s o) (XF) := by
  intro o hs
  unfold Mo_isCell at hs
  refine mm_of rfl rfl (Nat.le_of_ble_eq_true rfl) ?_
  show ww C M_X12_isCell 1 0 0 nx (QI nx s o) (XF) nx 0 0 0 [(0, .ref 80), (1, vi x1)] [] (hp nx s)
  refine w_iload_n 1 dX12_isCell_0 rfl rfl ?_
  refine grd_e hs (fun hg1 hs => ?_)
  refine x_i2l dX12_isCell_1 hg1 ?_
  refine x_lconst (x := 0) dX12_isCell_2 (by decide) ?_
  refine w_aload_n 0 dX12_isCell_3 rfl rfl ?_
  refine x_V_I M_X12_cells [] [vl 0, vl x1] hs rfl dX12_isCell_4 (lkX12_212 _ rfl) (lt_of hnx (Nat.le_of_ble_eq_true rfl)) rfl rfl (Nat.le_of_ble_eq_true rfl) (Nat.le_of_ble_eq_true rfl) (Nat.le_of_ble_eq_true rfl) (Nat.le_of_ble_eq_true rfl) (c_Mo_cells hnx s) (fun y2 hy2 hs => ?_)
  refine x_iconst dX12_isCell_7 ?_
  refine x_isub dX12_isCell_8 ?_
  refine grd_e hs (fun hg3 hs => ?_)
  refine x_i2l dX12_isCell_9 hg3 ?_
  refine x_S_I M_X12_in [vl x1, vl 0, vl (y2 - 1)] [] hs rfl dX12_isCell_10 (lkX12_108 _ rfl) (Nat.le_of_ble_eq_true rfl) (Nat.le_of_ble_eq_true rfl) (Nat.le_of_ble_eq_true rfl) (Nat.le_of_ble_eq_true rfl) (c_Mo_in hnx x1 0 (y2 - 1) s) (fun y4 hy4 hs => ?_)
  refine grd_e hs (fun hg5 hs => ?_)
  cases hs
  exact x_zreturn hg5 dX12_isCell_13 rfl rfl (Nat.le_of_ble_eq_true rfl) (Nat.le_of_ble_eq_true rfl) ⟨rfl, rfl⟩
set_option maxRecDepth 100000 in
theorem q_Mo_isSide_b9 {C : Cx} {nx : Nat} (hnx : 100 ≤ nx)  (s : Sg) {o : Int} (hs : Mo_isSide_b9  s = some o) : ww C M_X12_isSide 0 0 0 nx (QI nx s o) (XF) nx 0 0 9 [] [] (hp nx s) := by
  unfold Mo_isSide_b9 at hs
  refine x_iconst dX12_isSide_9 ?_
  refine w_goto dX12_isSide_10 rfl ?_
  cases hs
  exact x_zreturn (Or.inr rfl) dX12_isSide_14 rfl rfl (Nat.le_of_ble_eq_true rfl) (Nat.le_of_ble_eq_true rfl) ⟨rfl, rfl⟩
set_option maxRecDepth 100000 in
theorem c_Mo_isSide {C : Cx} {nx : Nat} (hnx : 100 ≤ nx) (x0 : Int) (s : Sg) : ∀ o, Mo_isSide x0 s = some o → mm C M_X12_isSide 0 0 0 nx nx [vi x0] (hp nx s) (QI nx s o) (XF) := by
  intro o hs
  unfold Mo_isSide at hs
  refine mm_of rfl rfl (Nat.le_of_ble_eq_true rfl) ?_
  show ww C M_X12_isSide 0 0 0 nx (QI nx s o) (XF) nx 0 0 0 [(0, vi x0)] [] (hp nx s)
  refine w_iload_n 0 dX12_isSide_0 rfl rfl ?_
  refine x_ifeq hs dX12_isSide_1 rfl (fun hs => ?_) (fun hs => ?_)
  · refine w_lv (lv' := []) [] rfl ?_
    exact q_Mo_isSide_b9 hnx  s hs
  · refine w_iload_n 0 dX12_isSide_4 rfl rfl ?_
    refine x_iconst dX12_isSide_5 ?_
    refine x_icmpne hs dX12_isSide_6 rfl (fun hs => ?_) (fun hs => ?_)
    · refine x_iconst dX12_isSide_13 ?_
      cases hs
      exact x_zreturn (Or.inl rfl) dX12_isSide_14 rfl rfl (Nat.le_of_ble_eq_true rfl) (Nat.le_of_ble_eq_true rfl) ⟨rfl, rfl⟩
    · refine w_lv (lv' := []) [] rfl ?_
      exact q_Mo_isSide_b9 hnx  s hs
set_option maxRecDepth 100000 in
theorem q_Mo_stonesOf_b27 {C : Cx} {nx : Nat} (hnx : 100 ≤ nx) {Qr : Option Value → Hp → Prop} {Qx : String → Hp → Prop}  (x1 : Int) (x3 : Int) (t0 : Int) (t1 : Int) (s : Sg) {o : ((Int × Int) ⊕ (Int))} (hs : Mo_stonesOf_b27 x1 x3 t0 t1 s = some o) (hb : ∀ σ : Int × Int, o = .inl σ → ww C M_X12_stonesOf 1 0 0 nx (Qr) (Qx) nx 0 0 4 [(0, .ref 80), (1, vi x1), (2, vi σ.1), (3, vi σ.2)] [] (hp nx s)) (he0 : ∀ ρ : Int, o = .inr ρ → ww C M_X12_stonesOf 1 0 0 nx (Qr) (Qx) nx 0 0 35 [(2, vi ρ)] [] (hp nx s)) : ww C M_X12_stonesOf 1 0 0 nx (Qr) (Qx) nx 0 0 27 [(0, .ref 80), (1, vi x1), (3, vi x3)] [vi t1, vi t0] (hp nx s) := by
  unfold Mo_stonesOf_b27 at hs
  refine x_iadd dX12_stonesOf_27 ?_
  refine x_istore_n (fun x2_3 => [(2, vi x2_3), (0, .ref 80), (1, vi x1), (3, vi x3)]) hs dX12_stonesOf_28 rfl (Nat.le_of_ble_eq_true rfl) (fun _ => rfl) (fun x2_3 hs => ?_)
  refine x_iinc (lv' := [(3, vi (x3 + 1)), (2, vi x2_3), (0, .ref 80), (1, vi x1)]) 3 dX12_stonesOf_29 rfl (Nat.le_of_ble_eq_true rfl) rfl ?_
  refine w_goto dX12_stonesOf_32 rfl ?_
  refine w_lv (lv' := [(0, .ref 80), (1, vi x1), (2, vi x2_3), (3, vi (x3 + 1))]) [2, 3, 1, 0] rfl ?_
  cases hs
  exact hb _ rfl
set_option maxRecDepth 100000 in
theorem q_Mo_stonesOf_t4 {C : Cx} {nx : Nat} (hnx : 100 ≤ nx) {Qr : Option Value → Hp → Prop} {Qx : String → Hp → Prop}  (x1 : Int) (x2 : Int) (x3 : Int) (s : Sg) {o : ((Int × Int) ⊕ (Int))} (hs : Mo_stonesOf_t4 x1 x2 x3 s = some o) (hb : ∀ σ : Int × Int, o = .inl σ → ww C M_X12_stonesOf 1 0 0 nx (Qr) (Qx) nx 0 0 4 [(0, .ref 80), (1, vi x1), (2, vi σ.1), (3, vi σ.2)] [] (hp nx s)) (he0 : ∀ ρ : Int, o = .inr ρ → ww C M_X12_stonesOf 1 0 0 nx (Qr) (Qx) nx 0 0 35 [(2, vi ρ)] [] (hp nx s)) : ww C M_X12_stonesOf 1 0 0 nx (Qr) (Qx) nx 0 0 4 [(0, .ref 80), (1, vi x1), (2, vi x2), (3, vi x3)] [] (hp nx s) := by
  unfold Mo_stonesOf_t4 at hs
  refine w_iload_n 3 dX12_stonesOf_4 rfl rfl ?_
  refine w_aload_n 0 dX12_stonesOf_5 rfl rfl ?_
  refine x_V_I M_X12_cells [] [vi x3] hs rfl dX12_stonesOf_6 (lkX12_212 _ rfl) (lt_of hnx (Nat.le_of_ble_eq_true rfl)) rfl rfl (Nat.le_of_ble_eq_true rfl) (Nat.le_of_ble_eq_true rfl) (Nat.le_of_ble_eq_true rfl) (Nat.le_of_ble_eq_true rfl) (c_Mo_cells hnx s) (fun y1 hy1 hs => ?_)
  refine x_icmpge hs dX12_stonesOf_9 rfl (fun hs => ?_) (fun hs => ?_)
  · refine w_lv (lv' := [(2, vi x2)]) [2] rfl ?_
    cases hs
    exact he0 _ rfl
  · refine w_iload_n 2 dX12_stonesOf_12 rfl rfl ?_
    refine w_aload_n 0 dX12_stonesOf_13 rfl rfl ?_
    refine w_iload_n 3 dX12_stonesOf_14 rfl rfl ?_
    refine x_V_I M_X12_stone [vi x3] [vi x2] hs rfl dX12_stonesOf_15 (lkX12_215 _ rfl) (lt_of hnx (Nat.le_of_ble_eq_true rfl)) rfl rfl (Nat.le_of_ble_eq_true rfl) (Nat.le_of_ble_eq_true rfl) (Nat.le_of_ble_eq_true rfl) (Nat.le_of_ble_eq_true rfl) (c_Mo_stone hnx x3 s) (fun y2 hy2 hs => ?_)
    refine w_iload_n 1 dX12_stonesOf_18 rfl rfl ?_
    refine x_icmpne hs dX12_stonesOf_19 rfl (fun hs => ?_) (fun hs => ?_)
    · refine x_iconst dX12_stonesOf_26 ?_
      refine w_lv (lv' := [(0, .ref 80), (1, vi x1), (3, vi x3)]) [0, 1, 3] rfl ?_
      exact q_Mo_stonesOf_b27 hnx x1 x3 x2 0 s hs hb he0
    · refine x_iconst dX12_stonesOf_22 ?_
      refine w_goto dX12_stonesOf_23 rfl ?_
      refine w_lv (lv' := [(0, .ref 80), (1, vi x1), (3, vi x3)]) [0, 1, 3] rfl ?_
      exact q_Mo_stonesOf_b27 hnx x1 x3 x2 1 s hs hb he0
set_option maxRecDepth 100000 in
theorem q_Mo_stonesOf_l4 {C : Cx} {nx : Nat} (hnx : 100 ≤ nx) (x1 : Int) (x2 : Int) (x3 : Int) (s : Sg) {o : Int} (hs : Mo_stonesOf_l4 x1 x2 x3 s = some o) : ww C M_X12_stonesOf 1 0 0 nx (QI nx s o) (XF) nx 0 0 4 [(0, .ref 80), (1, vi x1), (2, vi x2), (3, vi x3)] [] (hp nx s) := by
  unfold Mo_stonesOf_l4 at hs
  refine bnd_e hs (fun x2_4 hw hs => ?_)
  have hE : ww C M_X12_stonesOf 1 0 0 nx (QI nx s o) (XF) nx 0 0 35 [(2, vi x2_4)] [] (hp nx s) := by
    refine w_iload_n 0 dX12_stonesOf_35 rfl rfl ?_
    cases hs
    exact x_ireturn dX12_stonesOf_36 rfl rfl (Nat.le_of_ble_eq_true rfl) (Nat.le_of_ble_eq_true rfl) ⟨rfl, rfl⟩
  refine whl_w (P := fun σ => ww C M_X12_stonesOf 1 0 0 nx (QI nx s o) (XF) nx 0 0 4 [(0, .ref 80), (1, vi x1), (2, vi σ.1), (3, vi σ.2)] [] (hp nx s)) (E := fun ρ => ρ = x2_4) hw rfl ?_
  intro σ o' hs' hb' he'
  exact q_Mo_stonesOf_t4 hnx x1 σ.1 σ.2 s hs' hb' (fun ρ e => by cases he' _ e; exact hE)
set_option maxRecDepth 100000 in
theorem c_Mo_stonesOf {C : Cx} {nx : Nat} (hnx : 100 ≤ nx) (x1 : Int) (s : Sg) : ∀ o, Mo_stonesOf x1 s = some o → mm C M_X12_stonesOf 1 0 0 nx nx [.ref 80, vi x1] (hp nx s) (QI nx s o) (XF) := by
  intro o hs
  unfold Mo_stonesOf at hs
  refine mm_of rfl rfl (Nat.le_of_ble_eq_true rfl) ?_
  show ww C M_X12_stonesOf 1 0 0 nx (QI nx s o) (XF) nx 0 0 0 [(0, .ref 80), (1, vi x1)] [] (hp nx s)
  refine x_iconst dX12_stonesOf_0 ?_
  refine w_istore_n (lv' := [(2, vi 0), (0, .ref 80), (1, vi x1)]) dX12_stonesOf_1 rfl (Nat.le_of_ble_eq_true rfl) rfl ?_
  refine x_iconst dX12_stonesOf_2 ?_
  refine w_istore_n (lv' := [(3, vi 0), (2, vi 0), (0, .ref 80), (1, vi x1)]) dX12_stonesOf_3 rfl (Nat.le_of_ble_eq_true rfl) rfl ?_
  refine w_lv (lv' := [(0, .ref 80), (1, vi x1), (2, vi 0), (3, vi 0)]) [2, 3, 1, 0] rfl ?_
  exact q_Mo_stonesOf_l4 hnx x1 0 0 s hs
set_option maxRecDepth 100000 in
theorem q_Mo_areNeighbours_t2 {C : Cx} {nx : Nat} (hnx : 100 ≤ nx) {Qr : Option Value → Hp → Prop} {Qx : String → Hp → Prop}  (x1 : Int) (x2 : Int) (x3 : Int) (s : Sg) {o : ((Int) ⊕ ((Unit) ⊕ (Unit)))} (hs : Mo_areNeighbours_t2 x1 x2 x3 s = some o) (hb : ∀ σ : Int, o = .inl σ → ww C M_X12_areNeighbours 2 0 0 nx (Qr) (Qx) nx 0 0 2 [(0, .ref 80), (1, vi x1), (2, vi x2), (3, vi σ)] [] (hp nx s)) (he0 : ∀ ρ : Unit, o = .inr (.inl ρ) → ww C M_X12_areNeighbours 2 0 0 nx (Qr) (Qx) nx 0 0 18 [] [] (hp nx s)) (he1 : ∀ ρ : Unit, o = .inr (.inr ρ) → ww C M_X12_areNeighbours 2 0 0 nx (Qr) (Qx) nx 0 0 26 [] [] (hp nx s)) : ww C M_X12_areNeighbours 2 0 0 nx (Qr) (Qx) nx 0 0 2 [(0, .ref 80), (1, vi x1), (2, vi x2), (3, vi x3)] [] (hp nx s) := by
  unfold Mo_areNeighbours_t2 at hs
  refine w_iload_n 3 dX12_areNeighbours_2 rfl rfl ?_
  refine x_bipush dX12_areNeighbours_3 (by decide) ?_
  refine x_icmpge hs dX12_areNeighbours_5 rfl (fun hs => ?_) (fun hs => ?_)
  · refine w_lv (lv' := []) [] rfl ?_
    cases hs
    exact he1 _ rfl
  · refine w_aload_n 0 dX12_areNeighbours_8 rfl rfl ?_
    refine w_iload_n 1 dX12_areNeighbours_9 rfl rfl ?_
    refine w_iload_n 3 dX12_areNeighbours_10 rfl rfl ?_
    refine x_V_I M_X12_round [vi x1, vi x3] [] hs rfl dX12_areNeighbours_11 (lkX12_218 _ rfl) (lt_of hnx (Nat.le_of_ble_eq_true rfl)) rfl rfl (Nat.le_of_ble_eq_true rfl) (Nat.le_of_ble_eq_true rfl) (Nat.le_of_ble_eq_true rfl) (Nat.le_of_ble_eq_true rfl) (c_Mo_round hnx x1 x3 s) (fun y1 hy1 hs => ?_)
    refine w_iload_n 2 dX12_areNeighbours_14 rfl rfl ?_
    refine x_icmpne hs dX12_areNeighbours_15 rfl (fun hs => ?_) (fun hs => ?_)
    · refine x_iinc (lv' := [(3, vi (x3 + 1)), (0, .ref 80), (1, vi x1), (2, vi x2)]) 3 dX12_areNeighbours_20 rfl (Nat.le_of_ble_eq_true rfl) rfl ?_
      refine w_goto dX12_areNeighbours_23 rfl ?_
      refine w_lv (lv' := [(0, .ref 80), (1, vi x1), (2, vi x2), (3, vi (x3 + 1))]) [1, 2, 3, 0] rfl ?_
      cases hs
      exact hb _ rfl
    · refine w_lv (lv' := []) [] rfl ?_
      cases hs
      exact he0 _ rfl
set_option maxRecDepth 100000 in
theorem q_Mo_areNeighbours_l2 {C : Cx} {nx : Nat} (hnx : 100 ≤ nx) (x1 : Int) (x2 : Int) (x3 : Int) (s : Sg) {o : Int} (hs : Mo_areNeighbours_l2 x1 x2 x3 s = some o) : ww C M_X12_areNeighbours 2 0 0 nx (QI nx s o) (XF) nx 0 0 2 [(0, .ref 80), (1, vi x1), (2, vi x2), (3, vi x3)] [] (hp nx s) := by
  unfold Mo_areNeighbours_l2 at hs
  refine bnd_e hs (fun ρ hw hs => ?_)
  rcases ρ with ⟨⟩ | ⟨⟩
  · have hE : ww C M_X12_areNeighbours 2 0 0 nx (QI nx s o) (XF) nx 0 0 18 [] [] (hp nx s) := by
      refine x_iconst dX12_areNeighbours_18 ?_
      cases hs
      exact x_zreturn (Or.inr rfl) dX12_areNeighbours_19 rfl rfl (Nat.le_of_ble_eq_true rfl) (Nat.le_of_ble_eq_true rfl) ⟨rfl, rfl⟩
    refine whl_w (P := fun σ => ww C M_X12_areNeighbours 2 0 0 nx (QI nx s o) (XF) nx 0 0 2 [(0, .ref 80), (1, vi x1), (2, vi x2), (3, vi σ)] [] (hp nx s)) (E := fun ρ => ρ = (.inl ())) hw rfl ?_
    intro σ o' hs' hb' he'
    exact q_Mo_areNeighbours_t2 hnx x1 x2 σ s hs' hb' (fun ρ e => by cases he' _ e; exact hE) (fun ρ e => by cases he' _ e)
  · have hE : ww C M_X12_areNeighbours 2 0 0 nx (QI nx s o) (XF) nx 0 0 26 [] [] (hp nx s) := by
      refine x_iconst dX12_areNeighbours_26 ?_
      cases hs
      exact x_zreturn (Or.inl rfl) dX12_areNeighbours_27 rfl rfl (Nat.le_of_ble_eq_true rfl) (Nat.le_of_ble_eq_true rfl) ⟨rfl, rfl⟩
    refine whl_w (P := fun σ => ww C M_X12_areNeighbours 2 0 0 nx (QI nx s o) (XF) nx 0 0 2 [(0, .ref 80), (1, vi x1), (2, vi x2), (3, vi σ)] [] (hp nx s)) (E := fun ρ => ρ = (.inr ())) hw rfl ?_
    intro σ o' hs' hb' he'
    exact q_Mo_areNeighbours_t2 hnx x1 x2 σ s hs' hb' (fun ρ e => by cases he' _ e) (fun ρ e => by cases he' _ e; exact hE)
set_option maxRecDepth 100000 in
theorem c_Mo_areNeighbours {C : Cx} {nx : Nat} (hnx : 100 ≤ nx) (x1 : Int) (x2 : Int) (s : Sg) : ∀ o, Mo_areNeighbours x1 x2 s = some o → mm C M_X12_areNeighbours 2 0 0 nx nx [.ref 80, vi x1, vi x2] (hp nx s) (QI nx s o) (XF) := by
  intro o hs
  unfold Mo_areNeighbours at hs
  refine mm_of rfl rfl (Nat.le_of_ble_eq_true rfl) ?_
  show ww C M_X12_areNeighbours 2 0 0 nx (QI nx s o) (XF) nx 0 0 0 [(0, .ref 80), (1, vi x1), (2, vi x2)] [] (hp nx s)
  refine x_iconst dX12_areNeighbours_0 ?_
  refine w_istore_n (lv' := [(3, vi 0), (0, .ref 80), (1, vi x1), (2, vi x2)]) dX12_areNeighbours_1 rfl (Nat.le_of_ble_eq_true rfl) rfl ?_
  refine w_lv (lv' := [(0, .ref 80), (1, vi x1), (2, vi x2), (3, vi 0)]) [1, 2, 3, 0] rfl ?_
  exact q_Mo_areNeighbours_l2 hnx x1 x2 0 s hs
set_option maxRecDepth 100000 in
theorem q_Mo_shares_b20 {C : Cx} {nx : Nat} (hnx : 100 ≤ nx)  (s : Sg) {o : Sg} (hs : Mo_shares_b20  s = some o) : ww C M_X12_shares 0 0 0 nx (QV nx o) (XF) nx 0 0 20 [(0, .ref 80)] [] (hp nx s) := by
  unfold Mo_shares_b20 at hs
  refine w_aload_n 0 dX12_shares_20 rfl rfl ?_
  refine w_dup dX12_shares_21 rfl ?_
  refine x_getI 12 25 dX12_shares_22 (fxX12_254 rfl) rfl rfl (lt_of hnx (Nat.le_of_ble_eq_true rfl)) ?_
  refine x_iconst dX12_shares_25 ?_
  refine x_iadd dX12_shares_26 ?_
  refine x_putI 12 25 dX12_shares_27 (poX12_254 rfl) rfl rfl (lt_of hnx (Nat.le_of_ble_eq_true rfl)) ?_
  refine nam_s hs (fun s2 hs => ?_)
  cases hs
  exact w_return rfl dX12_shares_30 rfl (Nat.le_of_ble_eq_true rfl) (Nat.le_of_ble_eq_true rfl) ⟨rfl, rfl⟩
set_option maxRecDepth 100000 in
theorem c_Mo_shares {C : Cx} {nx : Nat} (hnx : 100 ≤ nx) (x1 : Int) (s : Sg) : ∀ o, Mo_shares x1 s = some o → mm C M_X12_shares 0 0 0 nx nx [.ref 80, vi x1] (hp nx s) (QV nx o) (XF) := by
  intro o hs
  unfold Mo_shares at hs
  refine mm_of rfl rfl (Nat.le_of_ble_eq_true rfl) ?_
  show ww C M_X12_shares 0 0 0 nx (QV nx o) (XF) nx 0 0 0 [(0, .ref 80), (1, vi x1)] [] (hp nx s)
  refine w_aload_n 0 dX12_shares_0 rfl rfl ?_
  refine x_getI 12 25 dX12_shares_1 (fxX12_254 rfl) rfl rfl (lt_of hnx (Nat.le_of_ble_eq_true rfl)) ?_
  refine x_ifne hs dX12_shares_4 rfl (fun hs => ?_) (fun hs => ?_)
  · refine w_aload_n 0 dX12_shares_15 rfl rfl ?_
    refine w_iload_n 1 dX12_shares_16 rfl rfl ?_
    refine x_putI 12 27 dX12_shares_17 (poX12_260 rfl) rfl rfl (lt_of hnx (Nat.le_of_ble_eq_true rfl)) ?_
    refine nam_s hs (fun s1 hs => ?_)
    refine w_lv (lv' := [(0, .ref 80)]) [0] rfl ?_
    exact q_Mo_shares_b20 hnx  s1 hs
  · refine w_aload_n 0 dX12_shares_7 rfl rfl ?_
    refine w_iload_n 1 dX12_shares_8 rfl rfl ?_
    refine x_putI 12 26 dX12_shares_9 (poX12_257 rfl) rfl rfl (lt_of hnx (Nat.le_of_ble_eq_true rfl)) ?_
    refine nam_s hs (fun s3 hs => ?_)
    refine w_goto dX12_shares_12 rfl ?_
    refine w_lv (lv' := [(0, .ref 80)]) [0] rfl ?_
    exact q_Mo_shares_b20 hnx  s3 hs
set_option maxRecDepth 100000 in
theorem c_Mo_areCarriers {C : Cx} {nx : Nat} (hnx : 100 ≤ nx)  (s : Sg) : ∀ o, Mo_areCarriers  s = some o → mm C M_X12_areCarriers 1 0 0 nx nx [.ref 80] (hp nx s) (QI nx s o) (XF) := by
  intro o hs
  unfold Mo_areCarriers at hs
  refine mm_of rfl rfl (Nat.le_of_ble_eq_true rfl) ?_
  show ww C M_X12_areCarriers 1 0 0 nx (QI nx s o) (XF) nx 0 0 0 [(0, .ref 80)] [] (hp nx s)
  refine w_aload_n 0 dX12_areCarriers_0 rfl rfl ?_
  refine x_getI 12 25 dX12_areCarriers_1 (fxX12_254 rfl) rfl rfl (lt_of hnx (Nat.le_of_ble_eq_true rfl)) ?_
  refine x_iconst dX12_areCarriers_4 ?_
  refine x_icmpne hs dX12_areCarriers_5 rfl (fun hs => ?_) (fun hs => ?_)
  · refine x_iconst dX12_areCarriers_36 ?_
    cases hs
    exact x_zreturn (Or.inl rfl) dX12_areCarriers_37 rfl rfl (Nat.le_of_ble_eq_true rfl) (Nat.le_of_ble_eq_true rfl) ⟨rfl, rfl⟩
  · refine w_aload_n 0 dX12_areCarriers_8 rfl rfl ?_
    refine w_aload_n 0 dX12_areCarriers_9 rfl rfl ?_
    refine x_getI 12 26 dX12_areCarriers_10 (fxX12_257 rfl) rfl rfl (lt_of hnx (Nat.le_of_ble_eq_true rfl)) ?_
    refine x_V_I M_X12_stone [vi (gi s 80 26)] [] hs rfl dX12_areCarriers_13 (lkX12_215 _ rfl) (lt_of hnx (Nat.le_of_ble_eq_true rfl)) rfl rfl (Nat.le_of_ble_eq_true rfl) (Nat.le_of_ble_eq_true rfl) (Nat.le_of_ble_eq_true rfl) (Nat.le_of_ble_eq_true rfl) (c_Mo_stone hnx (gi s 80 26) s) (fun y1 hy1 hs => ?_)
    refine x_iconst dX12_areCarriers_16 ?_
    refine x_icmpne hs dX12_areCarriers_17 rfl (fun hs => ?_) (fun hs => ?_)
    · refine x_iconst dX12_areCarriers_36 ?_
      cases hs
      exact x_zreturn (Or.inl rfl) dX12_areCarriers_37 rfl rfl (Nat.le_of_ble_eq_true rfl) (Nat.le_of_ble_eq_true rfl) ⟨rfl, rfl⟩
    · refine w_aload_n 0 dX12_areCarriers_20 rfl rfl ?_
      refine w_aload_n 0 dX12_areCarriers_21 rfl rfl ?_
      refine x_getI 12 27 dX12_areCarriers_22 (fxX12_260 rfl) rfl rfl (lt_of hnx (Nat.le_of_ble_eq_true rfl)) ?_
      refine x_V_I M_X12_stone [vi (gi s 80 27)] [] hs rfl dX12_areCarriers_25 (lkX12_215 _ rfl) (lt_of hnx (Nat.le_of_ble_eq_true rfl)) rfl rfl (Nat.le_of_ble_eq_true rfl) (Nat.le_of_ble_eq_true rfl) (Nat.le_of_ble_eq_true rfl) (Nat.le_of_ble_eq_true rfl) (c_Mo_stone hnx (gi s 80 27) s) (fun y2 hy2 hs => ?_)
      refine x_iconst dX12_areCarriers_28 ?_
      refine x_icmpne hs dX12_areCarriers_29 rfl (fun hs => ?_) (fun hs => ?_)
      · refine x_iconst dX12_areCarriers_36 ?_
        cases hs
        exact x_zreturn (Or.inl rfl) dX12_areCarriers_37 rfl rfl (Nat.le_of_ble_eq_true rfl) (Nat.le_of_ble_eq_true rfl) ⟨rfl, rfl⟩
      · refine x_iconst dX12_areCarriers_32 ?_
        refine w_goto dX12_areCarriers_33 rfl ?_
        cases hs
        exact x_zreturn (Or.inr rfl) dX12_areCarriers_37 rfl rfl (Nat.le_of_ble_eq_true rfl) (Nat.le_of_ble_eq_true rfl) ⟨rfl, rfl⟩
set_option maxRecDepth 100000 in
theorem q_Mo_joinsCells_b76 {C : Cx} {nx : Nat} (hnx : 100 ≤ nx) {Qr : Option Value → Hp → Prop} {Qx : String → Hp → Prop}  (x1 : Int) (x2 : Int) (x3 : Int) (s : Sg) {o : ((Int × Sg) ⊕ (Sg))} (hs : Mo_joinsCells_b76 x1 x2 x3 s = some o) (hb : ∀ σ : Int × Sg, o = .inl σ → ww C M_X12_joinsCells 3 0 0 nx (Qr) (Qx) nx 0 0 45 [(0, .ref 80), (1, vi x1), (2, vi x2), (3, vi σ.1)] [] (hp nx σ.2)) (he0 : ∀ ρ : Sg, o = .inr ρ → ww C M_X12_joinsCells 3 0 0 nx (Qr) (Qx) nx 0 0 82 [(0, .ref 80)] [] (hp nx ρ)) : ww C M_X12_joinsCells 3 0 0 nx (Qr) (Qx) nx 0 0 76 [(0, .ref 80), (1, vi x1), (2, vi x2), (3, vi x3)] [] (hp nx s) := by
  unfold Mo_joinsCells_b76 at hs
  refine x_iinc (lv' := [(3, vi (x3 + 1)), (0, .ref 80), (1, vi x1), (2, vi x2)]) 3 dX12_joinsCells_76 rfl (Nat.le_of_ble_eq_true rfl) rfl ?_
  refine w_goto dX12_joinsCells_79 rfl ?_
  refine w_lv (lv' := [(0, .ref 80), (1, vi x1), (2, vi x2), (3, vi (x3 + 1))]) [1, 2, 3, 0] rfl ?_
  cases hs
  exact hb _ rfl
set_option maxRecDepth 100000 in
theorem q_Mo_joinsCells_t45 {C : Cx} {nx : Nat} (hnx : 100 ≤ nx) {Qr : Option Value → Hp → Prop} {Qx : String → Hp → Prop}  (x1 : Int) (x2 : Int) (x3 : Int) (s : Sg) {o : ((Int × Sg) ⊕ (Sg))} (hs : Mo_joinsCells_t45 x1 x2 x3 s = some o) (hb : ∀ σ : Int × Sg, o = .inl σ → ww C M_X12_joinsCells 3 0 0 nx (Qr) (Qx) nx 0 0 45 [(0, .ref 80), (1, vi x1), (2, vi x2), (3, vi σ.1)] [] (hp nx σ.2)) (he0 : ∀ ρ : Sg, o = .inr ρ → ww C M_X12_joinsCells 3 0 0 nx (Qr) (Qx) nx 0 0 82 [(0, .ref 80)] [] (hp nx ρ)) : ww C M_X12_joinsCells 3 0 0 nx (Qr) (Qx) nx 0 0 45 [(0, .ref 80), (1, vi x1), (2, vi x2), (3, vi x3)] [] (hp nx s) := by
  unfold Mo_joinsCells_t45 at hs
  refine w_iload_n 3 dX12_joinsCells_45 rfl rfl ?_
  refine w_aload_n 0 dX12_joinsCells_46 rfl rfl ?_
  refine x_V_I M_X12_cells [] [vi x3] hs rfl dX12_joinsCells_47 (lkX12_212 _ rfl) (lt_of hnx (Nat.le_of_ble_eq_true rfl)) rfl rfl (Nat.le_of_ble_eq_true rfl) (Nat.le_of_ble_eq_true rfl) (Nat.le_of_ble_eq_true rfl) (Nat.le_of_ble_eq_true rfl) (c_Mo_cells hnx s) (fun y6 hy6 hs => ?_)
  refine x_icmpge hs dX12_joinsCells_50 rfl (fun hs => ?_) (fun hs => ?_)
  · refine w_lv (lv' := [(0, .ref 80)]) [0] rfl ?_
    cases hs
    exact he0 _ rfl
  · refine w_aload_n 0 dX12_joinsCells_53 rfl rfl ?_
    refine w_iload_n 1 dX12_joinsCells_54 rfl rfl ?_
    refine w_iload_n 3 dX12_joinsCells_55 rfl rfl ?_
    refine x_V_I M_X12_areNeighbours [vi x1, vi x3] [] hs rfl dX12_joinsCells_56 (lkX12_263 _ rfl) (lt_of hnx (Nat.le_of_ble_eq_true rfl)) rfl rfl (Nat.le_of_ble_eq_true rfl) (Nat.le_of_ble_eq_true rfl) (Nat.le_of_ble_eq_true rfl) (Nat.le_of_ble_eq_true rfl) (c_Mo_areNeighbours hnx x1 x3 s) (fun y7 hy7 hs => ?_)
    refine x_ifeq hs dX12_joinsCells_59 rfl (fun hs => ?_) (fun hs => ?_)
    · exact q_Mo_joinsCells_b76 hnx x1 x2 x3 s hs hb he0
    · refine w_aload_n 0 dX12_joinsCells_62 rfl rfl ?_
      refine w_iload_n 2 dX12_joinsCells_63 rfl rfl ?_
      refine w_iload_n 3 dX12_joinsCells_64 rfl rfl ?_
      refine x_V_I M_X12_areNeighbours [vi x2, vi x3] [] hs rfl dX12_joinsCells_65 (lkX12_263 _ rfl) (lt_of hnx (Nat.le_of_ble_eq_true rfl)) rfl rfl (Nat.le_of_ble_eq_true rfl) (Nat.le_of_ble_eq_true rfl) (Nat.le_of_ble_eq_true rfl) (Nat.le_of_ble_eq_true rfl) (c_Mo_areNeighbours hnx x2 x3 s) (fun y8 hy8 hs => ?_)
      refine x_ifeq hs dX12_joinsCells_68 rfl (fun hs => ?_) (fun hs => ?_)
      · exact q_Mo_joinsCells_b76 hnx x1 x2 x3 s hs hb he0
      · refine w_aload_n 0 dX12_joinsCells_71 rfl rfl ?_
        refine w_iload_n 3 dX12_joinsCells_72 rfl rfl ?_
        refine x_V_V M_X12_shares [vi x3] [] hs rfl dX12_joinsCells_73 (lkX12_266 _ rfl) (lt_of hnx (Nat.le_of_ble_eq_true rfl)) rfl rfl (Nat.le_of_ble_eq_true rfl) (Nat.le_of_ble_eq_true rfl) (Nat.le_of_ble_eq_true rfl) (Nat.le_of_ble_eq_true rfl) (c_Mo_shares hnx x3 s) (fun s10 hs10 hs => ?_)
        exact q_Mo_joinsCells_b76 hnx x1 x2 x3 s10 hs hb he0
set_option maxRecDepth 100000 in
theorem q_Mo_joinsCells_l45 {C : Cx} {nx : Nat} (hnx : 100 ≤ nx) (x1 : Int) (x2 : Int) (x3 : Int) (s : Sg) {o : Int × Sg} (hs : Mo_joinsCells_l45 x1 x2 x3 s = some o) : ww C M_X12_joinsCells 3 0 0 nx (QI nx o.2 o.1) (XF) nx 0 0 45 [(0, .ref 80), (1, vi x1), (2, vi x2), (3, vi x3)] [] (hp nx s) := by
  unfold Mo_joinsCells_l45 at hs
  refine bnd_e hs (fun s_11 hw hs => ?_)
  have hE : ww C M_X12_joinsCells 3 0 0 nx (QI nx o.2 o.1) (XF) nx 0 0 82 [(0, .ref 80)] [] (hp nx s_11) := by
    refine w_aload_n 0 dX12_joinsCells_82 rfl rfl ?_
    refine x_V_I M_X12_areCarriers [] [] hs rfl dX12_joinsCells_83 (lkX12_269 _ rfl) (lt_of hnx (Nat.le_of_ble_eq_true rfl)) rfl rfl (Nat.le_of_ble_eq_true rfl) (Nat.le_of_ble_eq_true rfl) (Nat.le_of_ble_eq_true rfl) (Nat.le_of_ble_eq_true rfl) (c_Mo_areCarriers hnx s_11) (fun y12 hy12 hs => ?_)
    refine grd_e hs (fun hg13 hs => ?_)
    cases hs
    exact x_zreturn hg13 dX12_joinsCells_86 rfl rfl (Nat.le_of_ble_eq_true rfl) (Nat.le_of_ble_eq_true rfl) ⟨rfl, rfl⟩
  refine whl_w (P := fun σ => ww C M_X12_joinsCells 3 0 0 nx (QI nx o.2 o.1) (XF) nx 0 0 45 [(0, .ref 80), (1, vi x1), (2, vi x2), (3, vi σ.1)] [] (hp nx σ.2)) (E := fun ρ => ρ = s_11) hw rfl ?_
  intro σ o' hs' hb' he'
  exact q_Mo_joinsCells_t45 hnx x1 x2 σ.1 σ.2 hs' hb' (fun ρ e => by cases he' _ e; exact hE)
set_option maxRecDepth 100000 in
theorem c_Mo_joinsCells {C : Cx} {nx : Nat} (hnx : 100 ≤ nx) (x1 : Int) (x2 : Int) (s : Sg) : ∀ o, Mo_joinsCells x1 x2 s = some o → mm C M_X12_joinsCells 3 0 0 nx nx [.ref 80, vi x1, vi x2] (hp nx s) (QI nx o.2 o.1) (XF) := by
  intro o hs
  unfold Mo_joinsCells at hs
  refine mm_of rfl rfl (Nat.le_of_ble_eq_true rfl) ?_
  show ww C M_X12_joinsCells 3 0 0 nx (QI nx o.2 o.1) (XF) nx 0 0 0 [(0, .ref 80), (1, vi x1), (2, vi x2)] [] (hp nx s)
  refine w_iload_n 1 dX12_joinsCells_0 rfl rfl ?_
  refine w_iload_n 2 dX12_joinsCells_1 rfl rfl ?_
  refine x_icmpeq hs dX12_joinsCells_2 rfl (fun hs => ?_) (fun hs => ?_)
  · refine x_iconst dX12_joinsCells_36 ?_
    cases hs
    exact x_zreturn (Or.inl rfl) dX12_joinsCells_37 rfl rfl (Nat.le_of_ble_eq_true rfl) (Nat.le_of_ble_eq_true rfl) ⟨rfl, rfl⟩
  · refine w_aload_n 0 dX12_joinsCells_5 rfl rfl ?_
    refine w_iload_n 1 dX12_joinsCells_6 rfl rfl ?_
    refine x_V_I M_X12_stone [vi x1] [] hs rfl dX12_joinsCells_7 (lkX12_215 _ rfl) (lt_of hnx (Nat.le_of_ble_eq_true rfl)) rfl rfl (Nat.le_of_ble_eq_true rfl) (Nat.le_of_ble_eq_true rfl) (Nat.le_of_ble_eq_true rfl) (Nat.le_of_ble_eq_true rfl) (c_Mo_stone hnx x1 s) (fun y1 hy1 hs => ?_)
    refine x_iconst dX12_joinsCells_10 ?_
    refine x_icmpeq hs dX12_joinsCells_11 rfl (fun hs => ?_) (fun hs => ?_)
    · refine x_iconst dX12_joinsCells_36 ?_
      cases hs
      exact x_zreturn (Or.inl rfl) dX12_joinsCells_37 rfl rfl (Nat.le_of_ble_eq_true rfl) (Nat.le_of_ble_eq_true rfl) ⟨rfl, rfl⟩
    · refine w_aload_n 0 dX12_joinsCells_14 rfl rfl ?_
      refine w_iload_n 1 dX12_joinsCells_15 rfl rfl ?_
      refine x_V_I M_X12_stone [vi x1] [] hs rfl dX12_joinsCells_16 (lkX12_215 _ rfl) (lt_of hnx (Nat.le_of_ble_eq_true rfl)) rfl rfl (Nat.le_of_ble_eq_true rfl) (Nat.le_of_ble_eq_true rfl) (Nat.le_of_ble_eq_true rfl) (Nat.le_of_ble_eq_true rfl) (c_Mo_stone hnx x1 s) (fun y2 hy2 hs => ?_)
      refine w_aload_n 0 dX12_joinsCells_19 rfl rfl ?_
      refine w_iload_n 2 dX12_joinsCells_20 rfl rfl ?_
      refine x_V_I M_X12_stone [vi x2] [vi y2] hs rfl dX12_joinsCells_21 (lkX12_215 _ rfl) (lt_of hnx (Nat.le_of_ble_eq_true rfl)) rfl rfl (Nat.le_of_ble_eq_true rfl) (Nat.le_of_ble_eq_true rfl) (Nat.le_of_ble_eq_true rfl) (Nat.le_of_ble_eq_true rfl) (c_Mo_stone hnx x2 s) (fun y3 hy3 hs => ?_)
      refine x_icmpne hs dX12_joinsCells_24 rfl (fun hs => ?_) (fun hs => ?_)
      · refine x_iconst dX12_joinsCells_36 ?_
        cases hs
        exact x_zreturn (Or.inl rfl) dX12_joinsCells_37 rfl rfl (Nat.le_of_ble_eq_true rfl) (Nat.le_of_ble_eq_true rfl) ⟨rfl, rfl⟩
      · refine w_aload_n 0 dX12_joinsCells_27 rfl rfl ?_
        refine w_iload_n 1 dX12_joinsCells_28 rfl rfl ?_
        refine w_iload_n 2 dX12_joinsCells_29 rfl rfl ?_
        refine x_V_I M_X12_areNeighbours [vi x1, vi x2] [] hs rfl dX12_joinsCells_30 (lkX12_263 _ rfl) (lt_of hnx (Nat.le_of_ble_eq_true rfl)) rfl rfl (Nat.le_of_ble_eq_true rfl) (Nat.le_of_ble_eq_true rfl) (Nat.le_of_ble_eq_true rfl) (Nat.le_of_ble_eq_true rfl) (c_Mo_areNeighbours hnx x1 x2 s) (fun y4 hy4 hs => ?_)
        refine x_ifeq hs dX12_joinsCells_33 rfl (fun hs => ?_) (fun hs => ?_)
        · refine w_aload_n 0 dX12_joinsCells_38 rfl rfl ?_
          refine x_iconst dX12_joinsCells_39 ?_
          refine x_putI 12 25 dX12_joinsCells_40 (poX12_254 rfl) rfl rfl (lt_of hnx (Nat.le_of_ble_eq_true rfl)) ?_
          refine nam_s hs (fun s5 hs => ?_)
          refine x_iconst dX12_joinsCells_43 ?_
          refine w_istore_n (lv' := [(3, vi 0), (0, .ref 80), (1, vi x1), (2, vi x2)]) dX12_joinsCells_44 rfl (Nat.le_of_ble_eq_true rfl) rfl ?_
          refine w_lv (lv' := [(0, .ref 80), (1, vi x1), (2, vi x2), (3, vi 0)]) [1, 2, 3, 0] rfl ?_
          exact q_Mo_joinsCells_l45 hnx x1 x2 0 s5 hs
        · refine x_iconst dX12_joinsCells_36 ?_
          cases hs
          exact x_zreturn (Or.inl rfl) dX12_joinsCells_37 rfl rfl (Nat.le_of_ble_eq_true rfl) (Nat.le_of_ble_eq_true rfl) ⟨rfl, rfl⟩
set_option maxRecDepth 100000 in
theorem q_Mo_joinsEdge_b78 {C : Cx} {nx : Nat} (hnx : 100 ≤ nx) {Qr : Option Value → Hp → Prop} {Qx : String → Hp → Prop}  (x1 : Int) (x2 : Int) (x3 : Int) (x4 : Int) (s : Sg) {o : ((Int × Sg) ⊕ (Sg))} (hs : Mo_joinsEdge_b78 x1 x2 x3 x4 s = some o) (hb : ∀ σ : Int × Sg, o = .inl σ → ww C M_X12_joinsEdge 2 0 0 nx (Qr) (Qx) nx 0 0 35 [(0, .ref 80), (1, vi x1), (2, vi x2), (3, vi x3), (4, vi σ.1)] [] (hp nx σ.2)) (he0 : ∀ ρ : Sg, o = .inr ρ → ww C M_X12_joinsEdge 2 0 0 nx (Qr) (Qx) nx 0 0 84 [(0, .ref 80)] [] (hp nx ρ)) : ww C M_X12_joinsEdge 2 0 0 nx (Qr) (Qx) nx 0 0 78 [(0, .ref 80), (1, vi x1), (2, vi x2), (3, vi x3), (4, vi x4)] [] (hp nx s) := by
  unfold Mo_joinsEdge_b78 at hs
  refine x_iinc (lv' := [(4, vi (x4 + 1)), (0, .ref 80), (1, vi x1), (2, vi x2), (3, vi x3)]) 4 dX12_joinsEdge_78 rfl (Nat.le_of_ble_eq_true rfl) rfl ?_
  refine w_goto dX12_joinsEdge_81 rfl ?_
  refine w_lv (lv' := [(0, .ref 80), (1, vi x1), (2, vi x2), (3, vi x3), (4, vi (x4 + 1))]) [1, 2, 3, 4, 0] rfl ?_
  cases hs
  exact hb _ rfl
set_option maxRecDepth 100000 in
theorem q_Mo_joinsEdge_t35 {C : Cx} {nx : Nat} (hnx : 100 ≤ nx) {Qr : Option Value → Hp → Prop} {Qx : String → Hp → Prop}  (x1 : Int) (x2 : Int) (x3 : Int) (x4 : Int) (s : Sg) {o : ((Int × Sg) ⊕ (Sg))} (hs : Mo_joinsEdge_t35 x1 x2 x3 x4 s = some o) (hb : ∀ σ : Int × Sg, o = .inl σ → ww C M_X12_joinsEdge 2 0 0 nx (Qr) (Qx) nx 0 0 35 [(0, .ref 80), (1, vi x1), (2, vi x2), (3, vi x3), (4, vi σ.1)] [] (hp nx σ.2)) (he0 : ∀ ρ : Sg, o = .inr ρ → ww C M_X12_joinsEdge 2 0 0 nx (Qr) (Qx) nx 0 0 84 [(0, .ref 80)] [] (hp nx ρ)) : ww C M_X12_joinsEdge 2 0 0 nx (Qr) (Qx) nx 0 0 35 [(0, .ref 80), (1, vi x1), (2, vi x2), (3, vi x3), (4, vi x4)] [] (hp nx s) := by
  unfold Mo_joinsEdge_t35 at hs
  refine w_iload 4 dX12_joinsEdge_35 rfl ?_
  refine x_bipush dX12_joinsEdge_37 (by decide) ?_
  refine x_icmpge hs dX12_joinsEdge_39 rfl (fun hs => ?_) (fun hs => ?_)
  · refine w_lv (lv' := [(0, .ref 80)]) [0] rfl ?_
    cases hs
    exact he0 _ rfl
  · refine w_aload_n 0 dX12_joinsEdge_42 rfl rfl ?_
    refine w_iload_n 1 dX12_joinsEdge_43 rfl rfl ?_
    refine w_iload 4 dX12_joinsEdge_44 rfl ?_
    refine x_V_I M_X12_round [vi x1, vi x4] [] hs rfl dX12_joinsEdge_46 (lkX12_218 _ rfl) (lt_of hnx (Nat.le_of_ble_eq_true rfl)) rfl rfl (Nat.le_of_ble_eq_true rfl) (Nat.le_of_ble_eq_true rfl) (Nat.le_of_ble_eq_true rfl) (Nat.le_of_ble_eq_true rfl) (c_Mo_round hnx x1 x4 s) (fun y4 hy4 hs => ?_)
    refine w_istore (lv' := [(5, vi y4), (0, .ref 80), (1, vi x1), (2, vi x2), (3, vi x3), (4, vi x4)]) dX12_joinsEdge_49 (Nat.le_of_ble_eq_true rfl) rfl ?_
    refine w_iload 0 dX12_joinsEdge_51 rfl ?_
    refine x_iconst dX12_joinsEdge_53 ?_
    refine x_icmpeq hs dX12_joinsEdge_54 rfl (fun hs => ?_) (fun hs => ?_)
    · refine w_lv (lv' := [(0, .ref 80), (1, vi x1), (2, vi x2), (3, vi x3), (4, vi x4)]) [1, 2, 3, 4, 5] rfl ?_
      exact q_Mo_joinsEdge_b78 hnx x1 x2 x3 x4 s hs hb he0
    · refine w_aload_n 1 dX12_joinsEdge_57 rfl rfl ?_
      refine w_iload_n 4 dX12_joinsEdge_58 rfl rfl ?_
      refine w_iload 0 dX12_joinsEdge_59 rfl ?_
      refine x_V_I M_X12_edges [vi x3, vi y4] [] hs rfl dX12_joinsEdge_61 (lkX12_239 _ rfl) (lt_of hnx (Nat.le_of_ble_eq_true rfl)) rfl rfl (Nat.le_of_ble_eq_true rfl) (Nat.le_of_ble_eq_true rfl) (Nat.le_of_ble_eq_true rfl) (Nat.le_of_ble_eq_true rfl) (c_Mo_edges hnx x3 y4 s) (fun y5 hy5 hs => ?_)
      refine w_iload_n 3 dX12_joinsEdge_64 rfl rfl ?_
      refine x_ishr dX12_joinsEdge_65 ?_
      refine x_iconst dX12_joinsEdge_66 ?_
      refine x_iand dX12_joinsEdge_67 ?_
      refine x_iconst dX12_joinsEdge_68 ?_
      refine x_icmpne hs dX12_joinsEdge_69 rfl (fun hs => ?_) (fun hs => ?_)
      · refine w_lv (lv' := [(0, .ref 80), (1, vi x1), (2, vi x2), (3, vi x3), (4, vi x4)]) [1, 2, 3, 4, 5] rfl ?_
        exact q_Mo_joinsEdge_b78 hnx x1 x2 x3 x4 s hs hb he0
      · refine w_aload_n 1 dX12_joinsEdge_72 rfl rfl ?_
        refine w_iload 0 dX12_joinsEdge_73 rfl ?_
        refine x_V_V M_X12_shares [vi y4] [] hs rfl dX12_joinsEdge_75 (lkX12_266 _ rfl) (lt_of hnx (Nat.le_of_ble_eq_true rfl)) rfl rfl (Nat.le_of_ble_eq_true rfl) (Nat.le_of_ble_eq_true rfl) (Nat.le_of_ble_eq_true rfl) (Nat.le_of_ble_eq_true rfl) (c_Mo_shares hnx y4 s) (fun s7 hs7 hs => ?_)
        refine w_lv (lv' := [(0, .ref 80), (1, vi x1), (2, vi x2), (3, vi x3), (4, vi x4)]) [1, 2, 3, 4, 5] rfl ?_
        exact q_Mo_joinsEdge_b78 hnx x1 x2 x3 x4 s7 hs hb he0
set_option maxRecDepth 100000 in
theorem q_Mo_joinsEdge_l35 {C : Cx} {nx : Nat} (hnx : 100 ≤ nx) (x1 : Int) (x2 : Int) (x3 : Int) (x4 : Int) (s : Sg) {o : Int × Sg} (hs : Mo_joinsEdge_l35 x1 x2 x3 x4 s = some o) : ww C M_X12_joinsEdge 2 0 0 nx (QI nx o.2 o.1) (XF) nx 0 0 35 [(0, .ref 80), (1, vi x1), (2, vi x2), (3, vi x3), (4, vi x4)] [] (hp nx s) := by
  unfold Mo_joinsEdge_l35 at hs
  refine bnd_e hs (fun s_8 hw hs => ?_)
  have hE : ww C M_X12_joinsEdge 2 0 0 nx (QI nx o.2 o.1) (XF) nx 0 0 84 [(0, .ref 80)] [] (hp nx s_8) := by
    refine w_aload_n 0 dX12_joinsEdge_84 rfl rfl ?_
    refine x_V_I M_X12_areCarriers [] [] hs rfl dX12_joinsEdge_85 (lkX12_269 _ rfl) (lt_of hnx (Nat.le_of_ble_eq_true rfl)) rfl rfl (Nat.le_of_ble_eq_true rfl) (Nat.le_of_ble_eq_true rfl) (Nat.le_of_ble_eq_true rfl) (Nat.le_of_ble_eq_true rfl) (c_Mo_areCarriers hnx s_8) (fun y9 hy9 hs => ?_)
    refine grd_e hs (fun hg10 hs => ?_)
    cases hs
    exact x_zreturn hg10 dX12_joinsEdge_88 rfl rfl (Nat.le_of_ble_eq_true rfl) (Nat.le_of_ble_eq_true rfl) ⟨rfl, rfl⟩
  refine whl_w (P := fun σ => ww C M_X12_joinsEdge 2 0 0 nx (QI nx o.2 o.1) (XF) nx 0 0 35 [(0, .ref 80), (1, vi x1), (2, vi x2), (3, vi x3), (4, vi σ.1)] [] (hp nx σ.2)) (E := fun ρ => ρ = s_8) hw rfl ?_
  intro σ o' hs' hb' he'
  exact q_Mo_joinsEdge_t35 hnx x1 x2 x3 σ.1 σ.2 hs' hb' (fun ρ e => by cases he' _ e; exact hE)
set_option maxRecDepth 100000 in
theorem c_Mo_joinsEdge {C : Cx} {nx : Nat} (hnx : 100 ≤ nx) (x1 : Int) (x2 : Int) (s : Sg) : ∀ o, Mo_joinsEdge x1 x2 s = some o → mm C M_X12_joinsEdge 2 0 0 nx nx [.ref 80, vi x1, vi x2] (hp nx s) (QI nx o.2 o.1) (XF) := by
  intro o hs
  unfold Mo_joinsEdge at hs
  refine mm_of rfl rfl (Nat.le_of_ble_eq_true rfl) ?_
  show ww C M_X12_joinsEdge 2 0 0 nx (QI nx o.2 o.1) (XF) nx 0 0 0 [(0, .ref 80), (1, vi x1), (2, vi x2)] [] (hp nx s)
  refine w_aload_n 0 dX12_joinsEdge_0 rfl rfl ?_
  refine w_iload_n 1 dX12_joinsEdge_1 rfl rfl ?_
  refine x_V_I M_X12_stone [vi x1] [] hs rfl dX12_joinsEdge_2 (lkX12_215 _ rfl) (lt_of hnx (Nat.le_of_ble_eq_true rfl)) rfl rfl (Nat.le_of_ble_eq_true rfl) (Nat.le_of_ble_eq_true rfl) (Nat.le_of_ble_eq_true rfl) (Nat.le_of_ble_eq_true rfl) (c_Mo_stone hnx x1 s) (fun y1 hy1 hs => ?_)
  refine w_istore_n (lv' := [(3, vi y1), (0, .ref 80), (1, vi x1), (2, vi x2)]) dX12_joinsEdge_5 rfl (Nat.le_of_ble_eq_true rfl) rfl ?_
  refine w_iload_n 0 dX12_joinsEdge_6 rfl rfl ?_
  refine x_iconst dX12_joinsEdge_7 ?_
  refine x_icmpeq hs dX12_joinsEdge_8 rfl (fun hs => ?_) (fun hs => ?_)
  · refine x_iconst dX12_joinsEdge_25 ?_
    cases hs
    exact x_zreturn (Or.inl rfl) dX12_joinsEdge_26 rfl rfl (Nat.le_of_ble_eq_true rfl) (Nat.le_of_ble_eq_true rfl) ⟨rfl, rfl⟩
  · refine w_aload_n 1 dX12_joinsEdge_11 rfl rfl ?_
    refine w_iload_n 0 dX12_joinsEdge_12 rfl rfl ?_
    refine w_iload_n 2 dX12_joinsEdge_13 rfl rfl ?_
    refine x_V_I M_X12_edges [vi y1, vi x1] [] hs rfl dX12_joinsEdge_14 (lkX12_239 _ rfl) (lt_of hnx (Nat.le_of_ble_eq_true rfl)) rfl rfl (Nat.le_of_ble_eq_true rfl) (Nat.le_of_ble_eq_true rfl) (Nat.le_of_ble_eq_true rfl) (Nat.le_of_ble_eq_true rfl) (c_Mo_edges hnx y1 x1 s) (fun y2 hy2 hs => ?_)
    refine w_iload_n 3 dX12_joinsEdge_17 rfl rfl ?_
    refine x_ishr dX12_joinsEdge_18 ?_
    refine x_iconst dX12_joinsEdge_19 ?_
    refine x_iand dX12_joinsEdge_20 ?_
    refine x_iconst dX12_joinsEdge_21 ?_
    refine x_icmpne hs dX12_joinsEdge_22 rfl (fun hs => ?_) (fun hs => ?_)
    · refine w_aload_n 1 dX12_joinsEdge_27 rfl rfl ?_
      refine x_iconst dX12_joinsEdge_28 ?_
      refine x_putI 12 25 dX12_joinsEdge_29 (poX12_254 rfl) rfl rfl (lt_of hnx (Nat.le_of_ble_eq_true rfl)) ?_
      refine nam_s hs (fun s3 hs => ?_)
      refine x_iconst dX12_joinsEdge_32 ?_
      refine w_istore (lv' := [(4, vi 0), (3, vi y1), (0, .ref 80), (1, vi x1), (2, vi x2)]) dX12_joinsEdge_33 (Nat.le_of_ble_eq_true rfl) rfl ?_
      refine w_lv (lv' := [(0, .ref 80), (1, vi x1), (2, vi x2), (3, vi y1), (4, vi 0)]) [2, 3, 4, 1, 0] rfl ?_
      exact q_Mo_joinsEdge_l35 hnx x1 x2 y1 0 s3 hs
    · refine x_iconst dX12_joinsEdge_25 ?_
      cases hs
      exact x_zreturn (Or.inl rfl) dX12_joinsEdge_26 rfl rfl (Nat.le_of_ble_eq_true rfl) (Nat.le_of_ble_eq_true rfl) ⟨rfl, rfl⟩
set_option maxRecDepth 100000 in
theorem q_Mo_laysBridge_b159 {C : Cx} {nx : Nat} (hnx : 100 ≤ nx) (t1 : Int) (t2 : Int) (s : Sg) {o : Sg} (hs : Mo_laysBridge_b159 t1 t2 s = some o) : ww C M_X12_laysBridge 1 0 0 nx (QV nx o) (XF) nx 0 0 159 [(0, .ref 80)] [vi t2, vi t1, .ref 93] (hp nx s) := by
  unfold Mo_laysBridge_b159 at hs
  refine grd_e hs (fun hg20 hs => ?_)
  refine grd_e hs (fun hg21 hs => ?_)
  refine x_zast hg20 hg21 (Nat.le_of_ble_eq_true rfl) dX12_laysBridge_159 rfl (lt_of hnx (Nat.le_of_ble_eq_true rfl)) ?_
  refine nam_s hs (fun s22 hs => ?_)
  refine w_aload_n 0 dX12_laysBridge_160 rfl rfl ?_
  refine w_dup dX12_laysBridge_161 rfl ?_
  refine x_getI 12 24 dX12_laysBridge_162 (fxX12_272 rfl) rfl rfl (lt_of hnx (Nat.le_of_ble_eq_true rfl)) ?_
  refine x_iconst dX12_laysBridge_165 ?_
  refine x_iadd dX12_laysBridge_166 ?_
  refine x_putI 12 24 dX12_laysBridge_167 (poX12_272 rfl) rfl rfl (lt_of hnx (Nat.le_of_ble_eq_true rfl)) ?_
  refine nam_s hs (fun s23 hs => ?_)
  cases hs
  exact w_return rfl dX12_laysBridge_170 rfl (Nat.le_of_ble_eq_true rfl) (Nat.le_of_ble_eq_true rfl) ⟨rfl, rfl⟩
set_option maxRecDepth 100000 in
theorem q_Mo_laysBridge_b154 {C : Cx} {nx : Nat} (hnx : 100 ≤ nx) (t1 : Int) (s : Sg) {o : Sg} (hs : Mo_laysBridge_b154 t1 s = some o) : ww C M_X12_laysBridge 1 0 0 nx (QV nx o) (XF) nx 0 0 154 [(0, .ref 80)] [vi t1, .ref 93] (hp nx s) := by
  unfold Mo_laysBridge_b154 at hs
  refine x_iconst dX12_laysBridge_154 ?_
  refine w_goto dX12_laysBridge_155 rfl ?_
  exact q_Mo_laysBridge_b159 hnx t1 1 s hs
set_option maxRecDepth 100000 in
theorem q_Mo_laysBridge_b129 {C : Cx} {nx : Nat} (hnx : 100 ≤ nx) (x3 : Int) (t1 : Int) (t2 : Int) (s : Sg) {o : Sg} (hs : Mo_laysBridge_b129 x3 t1 t2 s = some o) : ww C M_X12_laysBridge 1 0 0 nx (QV nx o) (XF) nx 0 0 129 [(0, .ref 80), (3, vi x3)] [vi t2, vi t1, .ref 93] (hp nx s) := by
  unfold Mo_laysBridge_b129 at hs
  refine grd_e hs (fun hg16 hs => ?_)
  refine grd_e hs (fun hg17 hs => ?_)
  refine x_zast hg16 hg17 (Nat.le_of_ble_eq_true rfl) dX12_laysBridge_129 rfl (lt_of hnx (Nat.le_of_ble_eq_true rfl)) ?_
  refine nam_s hs (fun s18 hs => ?_)
  refine w_aload_n 0 dX12_laysBridge_130 rfl rfl ?_
  refine x_getR 12 23 (b := 93) dX12_laysBridge_131 (fxX12_52 rfl) rfl rfl (lt_of hnx (Nat.le_of_ble_eq_true rfl)) rfl ?_
  refine w_aload_n 0 dX12_laysBridge_134 rfl rfl ?_
  refine x_getI 12 27 dX12_laysBridge_135 (fxX12_260 rfl) rfl rfl (lt_of hnx (Nat.le_of_ble_eq_true rfl)) ?_
  refine w_aload_n 0 dX12_laysBridge_138 rfl rfl ?_
  refine x_getR 12 23 (b := 93) dX12_laysBridge_139 (fxX12_52 rfl) rfl rfl (lt_of hnx (Nat.le_of_ble_eq_true rfl)) rfl ?_
  refine w_aload_n 0 dX12_laysBridge_142 rfl rfl ?_
  refine x_getI 12 27 dX12_laysBridge_143 (fxX12_260 rfl) rfl rfl (lt_of hnx (Nat.le_of_ble_eq_true rfl)) ?_
  refine grd_e hs (fun hg19 hs => ?_)
  refine x_zald hg19 (Nat.le_of_ble_eq_true rfl) dX12_laysBridge_146 rfl (lt_of hnx (Nat.le_of_ble_eq_true rfl)) ?_
  refine x_ifne hs dX12_laysBridge_147 rfl (fun hs => ?_) (fun hs => ?_)
  · refine w_lv (lv' := [(0, .ref 80)]) [0] rfl ?_
    exact q_Mo_laysBridge_b154 hnx (gi s18 80 27) s18 hs
  · refine w_iload_n 1 dX12_laysBridge_150 rfl rfl ?_
    refine x_ifeq hs dX12_laysBridge_151 rfl (fun hs => ?_) (fun hs => ?_)
    · refine x_iconst dX12_laysBridge_158 ?_
      refine w_lv (lv' := [(0, .ref 80)]) [0] rfl ?_
      exact q_Mo_laysBridge_b159 hnx (gi s18 80 27) 0 s18 hs
    · refine w_lv (lv' := [(0, .ref 80)]) [0] rfl ?_
      exact q_Mo_laysBridge_b154 hnx (gi s18 80 27) s18 hs
set_option maxRecDepth 100000 in
theorem q_Mo_laysBridge_b124 {C : Cx} {nx : Nat} (hnx : 100 ≤ nx) (x3 : Int) (t1 : Int) (s : Sg) {o : Sg} (hs : Mo_laysBridge_b124 x3 t1 s = some o) : ww C M_X12_laysBridge 1 0 0 nx (QV nx o) (XF) nx 0 0 124 [(0, .ref 80), (3, vi x3)] [vi t1, .ref 93] (hp nx s) := by
  unfold Mo_laysBridge_b124 at hs
  refine x_iconst dX12_laysBridge_124 ?_
  refine w_goto dX12_laysBridge_125 rfl ?_
  exact q_Mo_laysBridge_b129 hnx x3 t1 1 s hs
set_option maxRecDepth 100000 in
theorem q_Mo_laysBridge_b89 {C : Cx} {nx : Nat} (hnx : 100 ≤ nx) (t0 : Int) (s : Sg) {o : Sg} (hs : Mo_laysBridge_b89 t0 s = some o) : ww C M_X12_laysBridge 1 0 0 nx (QV nx o) (XF) nx 0 0 89 [(0, .ref 80)] [vi t0] (hp nx s) := by
  unfold Mo_laysBridge_b89 at hs
  refine w_istore_n (lv' := [(3, vi t0), (0, .ref 80)]) dX12_laysBridge_89 rfl (Nat.le_of_ble_eq_true rfl) rfl ?_
  refine w_aload_n 1 dX12_laysBridge_90 rfl rfl ?_
  refine x_getR 12 22 (b := 92) dX12_laysBridge_91 (fxX12_49 rfl) rfl rfl (lt_of hnx (Nat.le_of_ble_eq_true rfl)) rfl ?_
  refine w_aload_n 1 dX12_laysBridge_94 rfl rfl ?_
  refine x_getI 12 24 dX12_laysBridge_95 (fxX12_272 rfl) rfl rfl (lt_of hnx (Nat.le_of_ble_eq_true rfl)) ?_
  refine w_iload_n 0 dX12_laysBridge_98 rfl rfl ?_
  refine grd_e hs (fun hg12 hs => ?_)
  refine grd_e hs (fun hg13 hs => ?_)
  refine x_zast hg12 hg13 (Nat.le_of_ble_eq_true rfl) dX12_laysBridge_99 rfl (lt_of hnx (Nat.le_of_ble_eq_true rfl)) ?_
  refine nam_s hs (fun s14 hs => ?_)
  refine w_aload_n 1 dX12_laysBridge_100 rfl rfl ?_
  refine x_getR 12 23 (b := 93) dX12_laysBridge_101 (fxX12_52 rfl) rfl rfl (lt_of hnx (Nat.le_of_ble_eq_true rfl)) rfl ?_
  refine w_aload_n 1 dX12_laysBridge_104 rfl rfl ?_
  refine x_getI 12 26 dX12_laysBridge_105 (fxX12_257 rfl) rfl rfl (lt_of hnx (Nat.le_of_ble_eq_true rfl)) ?_
  refine w_aload_n 1 dX12_laysBridge_108 rfl rfl ?_
  refine x_getR 12 23 (b := 93) dX12_laysBridge_109 (fxX12_52 rfl) rfl rfl (lt_of hnx (Nat.le_of_ble_eq_true rfl)) rfl ?_
  refine w_aload_n 1 dX12_laysBridge_112 rfl rfl ?_
  refine x_getI 12 26 dX12_laysBridge_113 (fxX12_257 rfl) rfl rfl (lt_of hnx (Nat.le_of_ble_eq_true rfl)) ?_
  refine grd_e hs (fun hg15 hs => ?_)
  refine x_zald hg15 (Nat.le_of_ble_eq_true rfl) dX12_laysBridge_116 rfl (lt_of hnx (Nat.le_of_ble_eq_true rfl)) ?_
  refine x_ifne hs dX12_laysBridge_117 rfl (fun hs => ?_) (fun hs => ?_)
  · refine w_lv (lv' := [(0, .ref 80), (3, vi t0)]) [1, 0] rfl ?_
    exact q_Mo_laysBridge_b124 hnx t0 (gi s14 80 26) s14 hs
  · refine w_iload_n 0 dX12_laysBridge_120 rfl rfl ?_
    refine x_ifeq hs dX12_laysBridge_121 rfl (fun hs => ?_) (fun hs => ?_)
    · refine x_iconst dX12_laysBridge_128 ?_
      refine w_lv (lv' := [(0, .ref 80), (3, vi t0)]) [1, 0] rfl ?_
      exact q_Mo_laysBridge_b129 hnx t0 (gi s14 80 26) 0 s14 hs
    · refine w_lv (lv' := [(0, .ref 80), (3, vi t0)]) [1, 0] rfl ?_
      exact q_Mo_laysBridge_b124 hnx t0 (gi s14 80 26) s14 hs
set_option maxRecDepth 100000 in
theorem q_Mo_laysBridge_b88 {C : Cx} {nx : Nat} (hnx : 100 ≤ nx)  (s : Sg) {o : Sg} (hs : Mo_laysBridge_b88  s = some o) : ww C M_X12_laysBridge 1 0 0 nx (QV nx o) (XF) nx 0 0 88 [(0, .ref 80)] [] (hp nx s) := by
  unfold Mo_laysBridge_b88 at hs
  refine x_iconst dX12_laysBridge_88 ?_
  exact q_Mo_laysBridge_b89 hnx 0 s hs
set_option maxRecDepth 100000 in
theorem c_Mo_laysBridge {C : Cx} {nx : Nat} (hnx : 100 ≤ nx) (x1 : Int) (x2 : Int) (s : Sg) : ∀ o, Mo_laysBridge x1 x2 s = some o → mm C M_X12_laysBridge 1 0 0 nx nx [.ref 80, vi x1, vi x2] (hp nx s) (QV nx o) (XF) := by
  intro o hs
  unfold Mo_laysBridge at hs
  refine mm_of rfl rfl (Nat.le_of_ble_eq_true rfl) ?_
  show ww C M_X12_laysBridge 1 0 0 nx (QV nx o) (XF) nx 0 0 0 [(0, .ref 80), (1, vi x1), (2, vi x2)] [] (hp nx s)
  refine w_aload_n 0 dX12_laysBridge_0 rfl rfl ?_
  refine x_getR 12 18 (b := 88) dX12_laysBridge_1 (fxX12_37 rfl) rfl rfl (lt_of hnx (Nat.le_of_ble_eq_true rfl)) rfl ?_
  refine w_aload_n 0 dX12_laysBridge_4 rfl rfl ?_
  refine x_getI 12 24 dX12_laysBridge_5 (fxX12_272 rfl) rfl rfl (lt_of hnx (Nat.le_of_ble_eq_true rfl)) ?_
  refine w_iload_n 1 dX12_laysBridge_8 rfl rfl ?_
  refine grd_e hs (fun hg1 hs => ?_)
  refine x_iast hg1 (Nat.le_of_ble_eq_true rfl) dX12_laysBridge_9 rfl (lt_of hnx (Nat.le_of_ble_eq_true rfl)) ?_
  refine nam_s hs (fun s2 hs => ?_)
  refine w_aload_n 0 dX12_laysBridge_10 rfl rfl ?_
  refine x_getR 12 19 (b := 89) dX12_laysBridge_11 (fxX12_40 rfl) rfl rfl (lt_of hnx (Nat.le_of_ble_eq_true rfl)) rfl ?_
  refine w_aload_n 0 dX12_laysBridge_14 rfl rfl ?_
  refine x_getI 12 24 dX12_laysBridge_15 (fxX12_272 rfl) rfl rfl (lt_of hnx (Nat.le_of_ble_eq_true rfl)) ?_
  refine w_iload_n 2 dX12_laysBridge_18 rfl rfl ?_
  refine grd_e hs (fun hg3 hs => ?_)
  refine x_iast hg3 (Nat.le_of_ble_eq_true rfl) dX12_laysBridge_19 rfl (lt_of hnx (Nat.le_of_ble_eq_true rfl)) ?_
  refine nam_s hs (fun s4 hs => ?_)
  refine w_aload_n 0 dX12_laysBridge_20 rfl rfl ?_
  refine x_getR 12 20 (b := 90) dX12_laysBridge_21 (fxX12_43 rfl) rfl rfl (lt_of hnx (Nat.le_of_ble_eq_true rfl)) rfl ?_
  refine w_aload_n 0 dX12_laysBridge_24 rfl rfl ?_
  refine x_getI 12 24 dX12_laysBridge_25 (fxX12_272 rfl) rfl rfl (lt_of hnx (Nat.le_of_ble_eq_true rfl)) ?_
  refine w_aload_n 0 dX12_laysBridge_28 rfl rfl ?_
  refine x_getI 12 26 dX12_laysBridge_29 (fxX12_257 rfl) rfl rfl (lt_of hnx (Nat.le_of_ble_eq_true rfl)) ?_
  refine w_aload_n 0 dX12_laysBridge_32 rfl rfl ?_
  refine x_getI 12 27 dX12_laysBridge_33 (fxX12_260 rfl) rfl rfl (lt_of hnx (Nat.le_of_ble_eq_true rfl)) ?_
  refine grd_e hs (fun hg5 hs => ?_)
  refine x_mmin hg5.1 hg5.2 dX12_laysBridge_36 (lkX12_222 rfl) (Nat.le_of_ble_eq_true rfl) (Nat.le_of_ble_eq_true rfl) (Nat.le_of_ble_eq_true rfl) (Nat.le_of_ble_eq_true rfl) ?_
  refine grd_e hs (fun hg6 hs => ?_)
  refine x_iast hg6 (Nat.le_of_ble_eq_true rfl) dX12_laysBridge_39 rfl (lt_of hnx (Nat.le_of_ble_eq_true rfl)) ?_
  refine nam_s hs (fun s7 hs => ?_)
  refine w_aload_n 0 dX12_laysBridge_40 rfl rfl ?_
  refine x_getR 12 21 (b := 91) dX12_laysBridge_41 (fxX12_46 rfl) rfl rfl (lt_of hnx (Nat.le_of_ble_eq_true rfl)) rfl ?_
  refine w_aload_n 0 dX12_laysBridge_44 rfl rfl ?_
  refine x_getI 12 24 dX12_laysBridge_45 (fxX12_272 rfl) rfl rfl (lt_of hnx (Nat.le_of_ble_eq_true rfl)) ?_
  refine w_aload_n 0 dX12_laysBridge_48 rfl rfl ?_
  refine x_getI 12 26 dX12_laysBridge_49 (fxX12_257 rfl) rfl rfl (lt_of hnx (Nat.le_of_ble_eq_true rfl)) ?_
  refine w_aload_n 0 dX12_laysBridge_52 rfl rfl ?_
  refine x_getI 12 27 dX12_laysBridge_53 (fxX12_260 rfl) rfl rfl (lt_of hnx (Nat.le_of_ble_eq_true rfl)) ?_
  refine grd_e hs (fun hg8 hs => ?_)
  refine x_mmax hg8.1 hg8.2 dX12_laysBridge_56 (lkX12_275 rfl) (Nat.le_of_ble_eq_true rfl) (Nat.le_of_ble_eq_true rfl) (Nat.le_of_ble_eq_true rfl) (Nat.le_of_ble_eq_true rfl) ?_
  refine grd_e hs (fun hg9 hs => ?_)
  refine x_iast hg9 (Nat.le_of_ble_eq_true rfl) dX12_laysBridge_59 rfl (lt_of hnx (Nat.le_of_ble_eq_true rfl)) ?_
  refine nam_s hs (fun s10 hs => ?_)
  refine w_aload_n 0 dX12_laysBridge_60 rfl rfl ?_
  refine x_getR 12 23 (b := 93) dX12_laysBridge_61 (fxX12_52 rfl) rfl rfl (lt_of hnx (Nat.le_of_ble_eq_true rfl)) rfl ?_
  refine w_aload_n 0 dX12_laysBridge_64 rfl rfl ?_
  refine x_getI 12 26 dX12_laysBridge_65 (fxX12_257 rfl) rfl rfl (lt_of hnx (Nat.le_of_ble_eq_true rfl)) ?_
  refine grd_e hs (fun hg11 hs => ?_)
  refine x_zald hg11 (Nat.le_of_ble_eq_true rfl) dX12_laysBridge_68 rfl (lt_of hnx (Nat.le_of_ble_eq_true rfl)) ?_
  refine x_ifne hs dX12_laysBridge_69 rfl (fun hs => ?_) (fun hs => ?_)
  · refine w_lv (lv' := [(0, .ref 80)]) [0] rfl ?_
    exact q_Mo_laysBridge_b88 hnx  s10 hs
  · refine w_aload_n 0 dX12_laysBridge_72 rfl rfl ?_
    refine x_getR 12 23 (b := 93) dX12_laysBridge_73 (fxX12_52 rfl) rfl rfl (lt_of hnx (Nat.le_of_ble_eq_true rfl)) rfl ?_
    refine w_aload_n 0 dX12_laysBridge_76 rfl rfl ?_
    refine x_getI 12 27 dX12_laysBridge_77 (fxX12_260 rfl) rfl rfl (lt_of hnx (Nat.le_of_ble_eq_true rfl)) ?_
    refine grd_e hs (fun hg24 hs => ?_)
    refine x_zald hg24 (Nat.le_of_ble_eq_true rfl) dX12_laysBridge_80 rfl (lt_of hnx (Nat.le_of_ble_eq_true rfl)) ?_
    refine x_ifne hs dX12_laysBridge_81 rfl (fun hs => ?_) (fun hs => ?_)
    · refine w_lv (lv' := [(0, .ref 80)]) [0] rfl ?_
      exact q_Mo_laysBridge_b88 hnx  s10 hs
    · refine x_iconst dX12_laysBridge_84 ?_
      refine w_goto dX12_laysBridge_85 rfl ?_
      refine w_lv (lv' := [(0, .ref 80)]) [0] rfl ?_
      exact q_Mo_laysBridge_b89 hnx 1 s10 hs
set_option maxRecDepth 100000 in
theorem q_Mo_laysBridges_t7 {C : Cx} {nx : Nat} (hnx : 100 ≤ nx) {Qr : Option Value → Hp → Prop} {Qx : String → Hp → Prop}  (x1 : Int) (x2 : Int) (s : Sg) {o : ((Int × Sg) ⊕ (Sg))} (hs : Mo_laysBridges_t7 x1 x2 s = some o) (hb : ∀ σ : Int × Sg, o = .inl σ → ww C M_X12_laysBridges 4 0 0 nx (Qr) (Qx) nx 0 0 7 [(0, .ref 80), (1, vi x1), (2, vi σ.1)] [] (hp nx σ.2)) (he0 : ∀ ρ : Sg, o = .inr ρ → ww C M_X12_laysBridges 4 0 0 nx (Qr) (Qx) nx 0 0 26 [(0, .ref 80), (1, vi x1)] [] (hp nx ρ)) : ww C M_X12_laysBridges 4 0 0 nx (Qr) (Qx) nx 0 0 7 [(0, .ref 80), (1, vi x1), (2, vi x2)] [] (hp nx s) := by
  unfold Mo_laysBridges_t7 at hs
  refine w_iload_n 2 dX12_laysBridges_7 rfl rfl ?_
  refine x_bipush dX12_laysBridges_8 (by decide) ?_
  refine x_icmpge hs dX12_laysBridges_10 rfl (fun hs => ?_) (fun hs => ?_)
  · refine w_lv (lv' := [(0, .ref 80), (1, vi x1)]) [0, 1] rfl ?_
    cases hs
    exact he0 _ rfl
  · refine w_aload_n 0 dX12_laysBridges_13 rfl rfl ?_
    refine x_getR 12 23 (b := 93) dX12_laysBridges_14 (fxX12_52 rfl) rfl rfl (lt_of hnx (Nat.le_of_ble_eq_true rfl)) rfl ?_
    refine w_iload_n 2 dX12_laysBridges_17 rfl rfl ?_
    refine x_iconst dX12_laysBridges_18 ?_
    refine grd_e hs (fun hg2 hs => ?_)
    refine x_zast (Or.inl rfl) hg2 (Nat.le_of_ble_eq_true rfl) dX12_laysBridges_19 rfl (lt_of hnx (Nat.le_of_ble_eq_true rfl)) ?_
    refine nam_s hs (fun s3 hs => ?_)
    refine x_iinc (lv' := [(2, vi (x2 + 1)), (0, .ref 80), (1, vi x1)]) 2 dX12_laysBridges_20 rfl (Nat.le_of_ble_eq_true rfl) rfl ?_
    refine w_goto dX12_laysBridges_23 rfl ?_
    refine w_lv (lv' := [(0, .ref 80), (1, vi x1), (2, vi (x2 + 1))]) [1, 2, 0] rfl ?_
    cases hs
    exact hb _ rfl
set_option maxRecDepth 100000 in
theorem q_Mo_laysBridges_b75 {C : Cx} {nx : Nat} (hnx : 100 ≤ nx) {Qr : Option Value → Hp → Prop} {Qx : String → Hp → Prop}  (x1 : Int) (x2 : Int) (x3 : Int) (s : Sg) {o : ((Int × Sg) ⊕ (Sg))} (hs : Mo_laysBridges_b75 x1 x2 x3 s = some o) (hb : ∀ σ : Int × Sg, o = .inl σ → ww C M_X12_laysBridges 4 0 0 nx (Qr) (Qx) nx 0 0 52 [(0, .ref 80), (1, vi x1), (2, vi x2), (3, vi σ.1)] [] (hp nx σ.2)) (he0 : ∀ ρ : Sg, o = .inr ρ → ww C M_X12_laysBridges 4 0 0 nx (Qr) (Qx) nx 0 0 81 [(0, .ref 80), (1, vi x1), (2, vi x2)] [] (hp nx ρ)) : ww C M_X12_laysBridges 4 0 0 nx (Qr) (Qx) nx 0 0 75 [(0, .ref 80), (1, vi x1), (2, vi x2), (3, vi x3)] [] (hp nx s) := by
  unfold Mo_laysBridges_b75 at hs
  refine x_iinc (lv' := [(3, vi (x3 + 1)), (0, .ref 80), (1, vi x1), (2, vi x2)]) 3 dX12_laysBridges_75 rfl (Nat.le_of_ble_eq_true rfl) rfl ?_
  refine w_goto dX12_laysBridges_78 rfl ?_
  refine w_lv (lv' := [(0, .ref 80), (1, vi x1), (2, vi x2), (3, vi (x3 + 1))]) [1, 2, 3, 0] rfl ?_
  cases hs
  exact hb _ rfl
set_option maxRecDepth 100000 in
theorem q_Mo_laysBridges_t52 {C : Cx} {nx : Nat} (hnx : 100 ≤ nx) {Qr : Option Value → Hp → Prop} {Qx : String → Hp → Prop}  (x1 : Int) (x2 : Int) (x3 : Int) (s : Sg) {o : ((Int × Sg) ⊕ (Sg))} (hs : Mo_laysBridges_t52 x1 x2 x3 s = some o) (hb : ∀ σ : Int × Sg, o = .inl σ → ww C M_X12_laysBridges 4 0 0 nx (Qr) (Qx) nx 0 0 52 [(0, .ref 80), (1, vi x1), (2, vi x2), (3, vi σ.1)] [] (hp nx σ.2)) (he0 : ∀ ρ : Sg, o = .inr ρ → ww C M_X12_laysBridges 4 0 0 nx (Qr) (Qx) nx 0 0 81 [(0, .ref 80), (1, vi x1), (2, vi x2)] [] (hp nx ρ)) : ww C M_X12_laysBridges 4 0 0 nx (Qr) (Qx) nx 0 0 52 [(0, .ref 80), (1, vi x1), (2, vi x2), (3, vi x3)] [] (hp nx s) := by
  unfold Mo_laysBridges_t52 at hs
  refine w_iload_n 3 dX12_laysBridges_52 rfl rfl ?_
  refine w_aload_n 0 dX12_laysBridges_53 rfl rfl ?_
  refine x_V_I M_X12_cells [] [vi x3] hs rfl dX12_laysBridges_54 (lkX12_212 _ rfl) (lt_of hnx (Nat.le_of_ble_eq_true rfl)) rfl rfl (Nat.le_of_ble_eq_true rfl) (Nat.le_of_ble_eq_true rfl) (Nat.le_of_ble_eq_true rfl) (Nat.le_of_ble_eq_true rfl) (c_Mo_cells hnx s) (fun y8 hy8 hs => ?_)
  refine x_icmpge hs dX12_laysBridges_57 rfl (fun hs => ?_) (fun hs => ?_)
  · refine w_lv (lv' := [(0, .ref 80), (1, vi x1), (2, vi x2)]) [0, 1, 2] rfl ?_
    cases hs
    exact he0 _ rfl
  · refine w_aload_n 0 dX12_laysBridges_60 rfl rfl ?_
    refine w_iload_n 2 dX12_laysBridges_61 rfl rfl ?_
    refine w_iload_n 3 dX12_laysBridges_62 rfl rfl ?_
    refine x_V_B M_X12_joinsCells [vi x2, vi x3] [] hs rfl dX12_laysBridges_63 (lkX12_278 _ rfl) (lt_of hnx (Nat.le_of_ble_eq_true rfl)) rfl rfl (Nat.le_of_ble_eq_true rfl) (Nat.le_of_ble_eq_true rfl) (Nat.le_of_ble_eq_true rfl) (Nat.le_of_ble_eq_true rfl) (c_Mo_joinsCells hnx x2 x3 s) (fun y9 s10 hy9 hs => ?_)
    refine x_ifeq hs dX12_laysBridges_66 rfl (fun hs => ?_) (fun hs => ?_)
    · exact q_Mo_laysBridges_b75 hnx x1 x2 x3 s10 hs hb he0
    · refine w_aload_n 0 dX12_laysBridges_69 rfl rfl ?_
      refine w_iload_n 2 dX12_laysBridges_70 rfl rfl ?_
      refine w_iload_n 3 dX12_laysBridges_71 rfl rfl ?_
      refine x_V_V M_X12_laysBridge [vi x2, vi x3] [] hs rfl dX12_laysBridges_72 (lkX12_281 _ rfl) (lt_of hnx (Nat.le_of_ble_eq_true rfl)) rfl rfl (Nat.le_of_ble_eq_true rfl) (Nat.le_of_ble_eq_true rfl) (Nat.le_of_ble_eq_true rfl) (Nat.le_of_ble_eq_true rfl) (c_Mo_laysBridge hnx x2 x3 s10) (fun s12 hs12 hs => ?_)
      exact q_Mo_laysBridges_b75 hnx x1 x2 x3 s12 hs hb he0
set_option maxRecDepth 100000 in
theorem q_Mo_laysBridges_b106 {C : Cx} {nx : Nat} (hnx : 100 ≤ nx) {Qr : Option Value → Hp → Prop} {Qx : String → Hp → Prop}  (x1 : Int) (x2 : Int) (x3 : Int) (s : Sg) {o : ((Int × Sg) ⊕ (Sg))} (hs : Mo_laysBridges_b106 x1 x2 x3 s = some o) (hb : ∀ σ : Int × Sg, o = .inl σ → ww C M_X12_laysBridges 4 0 0 nx (Qr) (Qx) nx 0 0 83 [(0, .ref 80), (1, vi x1), (2, vi x2), (3, vi σ.1)] [] (hp nx σ.2)) (he0 : ∀ ρ : Sg, o = .inr ρ → ww C M_X12_laysBridges 4 0 0 nx (Qr) (Qx) nx 0 0 112 [(0, .ref 80), (1, vi x1), (2, vi x2)] [] (hp nx ρ)) : ww C M_X12_laysBridges 4 0 0 nx (Qr) (Qx) nx 0 0 106 [(0, .ref 80), (1, vi x1), (2, vi x2), (3, vi x3)] [] (hp nx s) := by
  unfold Mo_laysBridges_b106 at hs
  refine x_iinc (lv' := [(3, vi (x3 + 1)), (0, .ref 80), (1, vi x1), (2, vi x2)]) 3 dX12_laysBridges_106 rfl (Nat.le_of_ble_eq_true rfl) rfl ?_
  refine w_goto dX12_laysBridges_109 rfl ?_
  refine w_lv (lv' := [(0, .ref 80), (1, vi x1), (2, vi x2), (3, vi (x3 + 1))]) [1, 2, 3, 0] rfl ?_
  cases hs
  exact hb _ rfl
set_option maxRecDepth 100000 in
theorem q_Mo_laysBridges_t83 {C : Cx} {nx : Nat} (hnx : 100 ≤ nx) {Qr : Option Value → Hp → Prop} {Qx : String → Hp → Prop}  (x1 : Int) (x2 : Int) (x3 : Int) (s : Sg) {o : ((Int × Sg) ⊕ (Sg))} (hs : Mo_laysBridges_t83 x1 x2 x3 s = some o) (hb : ∀ σ : Int × Sg, o = .inl σ → ww C M_X12_laysBridges 4 0 0 nx (Qr) (Qx) nx 0 0 83 [(0, .ref 80), (1, vi x1), (2, vi x2), (3, vi σ.1)] [] (hp nx σ.2)) (he0 : ∀ ρ : Sg, o = .inr ρ → ww C M_X12_laysBridges 4 0 0 nx (Qr) (Qx) nx 0 0 112 [(0, .ref 80), (1, vi x1), (2, vi x2)] [] (hp nx ρ)) : ww C M_X12_laysBridges 4 0 0 nx (Qr) (Qx) nx 0 0 83 [(0, .ref 80), (1, vi x1), (2, vi x2), (3, vi x3)] [] (hp nx s) := by
  unfold Mo_laysBridges_t83 at hs
  refine w_iload_n 3 dX12_laysBridges_83 rfl rfl ?_
  refine x_iconst dX12_laysBridges_84 ?_
  refine x_icmpge hs dX12_laysBridges_85 rfl (fun hs => ?_) (fun hs => ?_)
  · refine w_lv (lv' := [(0, .ref 80), (1, vi x1), (2, vi x2)]) [0, 1, 2] rfl ?_
    cases hs
    exact he0 _ rfl
  · refine w_aload_n 0 dX12_laysBridges_88 rfl rfl ?_
    refine w_iload_n 2 dX12_laysBridges_89 rfl rfl ?_
    refine w_iload_n 3 dX12_laysBridges_90 rfl rfl ?_
    refine x_V_B M_X12_joinsEdge [vi x2, vi x3] [] hs rfl dX12_laysBridges_91 (lkX12_285 _ rfl) (lt_of hnx (Nat.le_of_ble_eq_true rfl)) rfl rfl (Nat.le_of_ble_eq_true rfl) (Nat.le_of_ble_eq_true rfl) (Nat.le_of_ble_eq_true rfl) (Nat.le_of_ble_eq_true rfl) (c_Mo_joinsEdge hnx x2 x3 s) (fun y14 s15 hy14 hs => ?_)
    refine x_ifeq hs dX12_laysBridges_94 rfl (fun hs => ?_) (fun hs => ?_)
    · exact q_Mo_laysBridges_b106 hnx x1 x2 x3 s15 hs hb he0
    · refine w_aload_n 0 dX12_laysBridges_97 rfl rfl ?_
      refine w_iload_n 2 dX12_laysBridges_98 rfl rfl ?_
      refine x_bipush dX12_laysBridges_99 (by decide) ?_
      refine w_iload_n 3 dX12_laysBridges_101 rfl rfl ?_
      refine x_isub dX12_laysBridges_102 ?_
      refine x_V_V M_X12_laysBridge [vi x2, vi ((-10) - x3)] [] hs rfl dX12_laysBridges_103 (lkX12_281 _ rfl) (lt_of hnx (Nat.le_of_ble_eq_true rfl)) rfl rfl (Nat.le_of_ble_eq_true rfl) (Nat.le_of_ble_eq_true rfl) (Nat.le_of_ble_eq_true rfl) (Nat.le_of_ble_eq_true rfl) (c_Mo_laysBridge hnx x2 ((-10) - x3) s15) (fun s17 hs17 hs => ?_)
      exact q_Mo_laysBridges_b106 hnx x1 x2 x3 s17 hs hb he0
set_option maxRecDepth 100000 in
theorem q_Mo_laysBridges_b112 {C : Cx} {nx : Nat} (hnx : 100 ≤ nx) {Qr : Option Value → Hp → Prop} {Qx : String → Hp → Prop}  (x1 : Int) (x2 : Int) (s : Sg) {o : ((Int × Sg) ⊕ (Sg))} (hs : Mo_laysBridges_b112 x1 x2 s = some o) (hb : ∀ σ : Int × Sg, o = .inl σ → ww C M_X12_laysBridges 4 0 0 nx (Qr) (Qx) nx 0 0 28 [(0, .ref 80), (1, vi x1), (2, vi σ.1)] [] (hp nx σ.2)) (he0 : ∀ ρ : Sg, o = .inr ρ → ww C M_X12_laysBridges 4 0 0 nx (Qr) (Qx) nx 0 0 118 [] [] (hp nx ρ)) : ww C M_X12_laysBridges 4 0 0 nx (Qr) (Qx) nx 0 0 112 [(0, .ref 80), (1, vi x1), (2, vi x2)] [] (hp nx s) := by
  unfold Mo_laysBridges_b112 at hs
  refine x_iinc (lv' := [(2, vi (x2 + 1)), (0, .ref 80), (1, vi x1)]) 2 dX12_laysBridges_112 rfl (Nat.le_of_ble_eq_true rfl) rfl ?_
  refine w_goto dX12_laysBridges_115 rfl ?_
  refine w_lv (lv' := [(0, .ref 80), (1, vi x1), (2, vi (x2 + 1))]) [1, 2, 0] rfl ?_
  cases hs
  exact hb _ rfl
set_option maxRecDepth 100000 in
theorem q_Mo_laysBridges_l83 {C : Cx} {nx : Nat} (hnx : 100 ≤ nx) {Qr : Option Value → Hp → Prop} {Qx : String → Hp → Prop}  (x1 : Int) (x2 : Int) (x3 : Int) (s : Sg) {o : ((Int × Sg) ⊕ (Sg))} (hs : Mo_laysBridges_l83 x1 x2 x3 s = some o) (hb : ∀ σ : Int × Sg, o = .inl σ → ww C M_X12_laysBridges 4 0 0 nx (Qr) (Qx) nx 0 0 28 [(0, .ref 80), (1, vi x1), (2, vi σ.1)] [] (hp nx σ.2)) (he0 : ∀ ρ : Sg, o = .inr ρ → ww C M_X12_laysBridges 4 0 0 nx (Qr) (Qx) nx 0 0 118 [] [] (hp nx ρ)) : ww C M_X12_laysBridges 4 0 0 nx (Qr) (Qx) nx 0 0 83 [(0, .ref 80), (1, vi x1), (2, vi x2), (3, vi x3)] [] (hp nx s) := by
  unfold Mo_laysBridges_l83 at hs
  refine bnd_e hs (fun s_18 hw hs => ?_)
  have hE : ww C M_X12_laysBridges 4 0 0 nx (Qr) (Qx) nx 0 0 112 [(0, .ref 80), (1, vi x1), (2, vi x2)] [] (hp nx s_18) := by
    exact q_Mo_laysBridges_b112 hnx x1 x2 s_18 hs hb he0
  refine whl_w (P := fun σ => ww C M_X12_laysBridges 4 0 0 nx (Qr) (Qx) nx 0 0 83 [(0, .ref 80), (1, vi x1), (2, vi x2), (3, vi σ.1)] [] (hp nx σ.2)) (E := fun ρ => ρ = s_18) hw rfl ?_
  intro σ o' hs' hb' he'
  exact q_Mo_laysBridges_t83 hnx x1 x2 σ.1 σ.2 hs' hb' (fun ρ e => by cases he' _ e; exact hE)
set_option maxRecDepth 100000 in
theorem q_Mo_laysBridges_l52 {C : Cx} {nx : Nat} (hnx : 100 ≤ nx) {Qr : Option Value → Hp → Prop} {Qx : String → Hp → Prop}  (x1 : Int) (x2 : Int) (x3 : Int) (s : Sg) {o : ((Int × Sg) ⊕ (Sg))} (hs : Mo_laysBridges_l52 x1 x2 x3 s = some o) (hb : ∀ σ : Int × Sg, o = .inl σ → ww C M_X12_laysBridges 4 0 0 nx (Qr) (Qx) nx 0 0 28 [(0, .ref 80), (1, vi x1), (2, vi σ.1)] [] (hp nx σ.2)) (he0 : ∀ ρ : Sg, o = .inr ρ → ww C M_X12_laysBridges 4 0 0 nx (Qr) (Qx) nx 0 0 118 [] [] (hp nx ρ)) : ww C M_X12_laysBridges 4 0 0 nx (Qr) (Qx) nx 0 0 52 [(0, .ref 80), (1, vi x1), (2, vi x2), (3, vi x3)] [] (hp nx s) := by
  unfold Mo_laysBridges_l52 at hs
  refine bnd_e hs (fun s_13 hw hs => ?_)
  have hE : ww C M_X12_laysBridges 4 0 0 nx (Qr) (Qx) nx 0 0 81 [(0, .ref 80), (1, vi x1), (2, vi x2)] [] (hp nx s_13) := by
    refine x_iconst dX12_laysBridges_81 ?_
    refine w_istore_n (lv' := [(3, vi 0), (0, .ref 80), (1, vi x1), (2, vi x2)]) dX12_laysBridges_82 rfl (Nat.le_of_ble_eq_true rfl) rfl ?_
    refine w_lv (lv' := [(0, .ref 80), (1, vi x1), (2, vi x2), (3, vi 0)]) [1, 2, 3, 0] rfl ?_
    exact q_Mo_laysBridges_l83 hnx x1 x2 0 s_13 hs hb he0
  refine whl_w (P := fun σ => ww C M_X12_laysBridges 4 0 0 nx (Qr) (Qx) nx 0 0 52 [(0, .ref 80), (1, vi x1), (2, vi x2), (3, vi σ.1)] [] (hp nx σ.2)) (E := fun ρ => ρ = s_13) hw rfl ?_
  intro σ o' hs' hb' he'
  exact q_Mo_laysBridges_t52 hnx x1 x2 σ.1 σ.2 hs' hb' (fun ρ e => by cases he' _ e; exact hE)
set_option maxRecDepth 100000 in
theorem q_Mo_laysBridges_t28 {C : Cx} {nx : Nat} (hnx : 100 ≤ nx) {Qr : Option Value → Hp → Prop} {Qx : String → Hp → Prop}  (x1 : Int) (x2 : Int) (s : Sg) {o : ((Int × Sg) ⊕ (Sg))} (hs : Mo_laysBridges_t28 x1 x2 s = some o) (hb : ∀ σ : Int × Sg, o = .inl σ → ww C M_X12_laysBridges 4 0 0 nx (Qr) (Qx) nx 0 0 28 [(0, .ref 80), (1, vi x1), (2, vi σ.1)] [] (hp nx σ.2)) (he0 : ∀ ρ : Sg, o = .inr ρ → ww C M_X12_laysBridges 4 0 0 nx (Qr) (Qx) nx 0 0 118 [] [] (hp nx ρ)) : ww C M_X12_laysBridges 4 0 0 nx (Qr) (Qx) nx 0 0 28 [(0, .ref 80), (1, vi x1), (2, vi x2)] [] (hp nx s) := by
  unfold Mo_laysBridges_t28 at hs
  refine w_iload_n 2 dX12_laysBridges_28 rfl rfl ?_
  refine w_aload_n 0 dX12_laysBridges_29 rfl rfl ?_
  refine x_V_I M_X12_cells [] [vi x2] hs rfl dX12_laysBridges_30 (lkX12_212 _ rfl) (lt_of hnx (Nat.le_of_ble_eq_true rfl)) rfl rfl (Nat.le_of_ble_eq_true rfl) (Nat.le_of_ble_eq_true rfl) (Nat.le_of_ble_eq_true rfl) (Nat.le_of_ble_eq_true rfl) (c_Mo_cells hnx s) (fun y5 hy5 hs => ?_)
  refine x_icmpge hs dX12_laysBridges_33 rfl (fun hs => ?_) (fun hs => ?_)
  · refine w_lv (lv' := []) [] rfl ?_
    cases hs
    exact he0 _ rfl
  · refine w_aload_n 0 dX12_laysBridges_36 rfl rfl ?_
    refine w_iload_n 2 dX12_laysBridges_37 rfl rfl ?_
    refine x_V_I M_X12_stone [vi x2] [] hs rfl dX12_laysBridges_38 (lkX12_215 _ rfl) (lt_of hnx (Nat.le_of_ble_eq_true rfl)) rfl rfl (Nat.le_of_ble_eq_true rfl) (Nat.le_of_ble_eq_true rfl) (Nat.le_of_ble_eq_true rfl) (Nat.le_of_ble_eq_true rfl) (c_Mo_stone hnx x2 s) (fun y6 hy6 hs => ?_)
    refine w_iload_n 1 dX12_laysBridges_41 rfl rfl ?_
    refine x_icmpeq hs dX12_laysBridges_42 rfl (fun hs => ?_) (fun hs => ?_)
    · refine w_iload_n 2 dX12_laysBridges_48 rfl rfl ?_
      refine x_iconst dX12_laysBridges_49 ?_
      refine x_iadd dX12_laysBridges_50 ?_
      refine x_istore_n (fun x3_7 => [(3, vi x3_7), (0, .ref 80), (1, vi x1), (2, vi x2)]) hs dX12_laysBridges_51 rfl (Nat.le_of_ble_eq_true rfl) (fun _ => rfl) (fun x3_7 hs => ?_)
      refine w_lv (lv' := [(0, .ref 80), (1, vi x1), (2, vi x2), (3, vi x3_7)]) [1, 2, 3, 0] rfl ?_
      exact q_Mo_laysBridges_l52 hnx x1 x2 x3_7 s hs hb he0
    · refine w_goto dX12_laysBridges_45 rfl ?_
      exact q_Mo_laysBridges_b112 hnx x1 x2 s hs hb he0
set_option maxRecDepth 100000 in
theorem q_Mo_laysBridges_l28 {C : Cx} {nx : Nat} (hnx : 100 ≤ nx) (x1 : Int) (x2 : Int) (s : Sg) {o : Sg} (hs : Mo_laysBridges_l28 x1 x2 s = some o) : ww C M_X12_laysBridges 4 0 0 nx (QV nx o) (XF) nx 0 0 28 [(0, .ref 80), (1, vi x1), (2, vi x2)] [] (hp nx s) := by
  unfold Mo_laysBridges_l28 at hs
  refine bnd_e hs (fun s_19 hw hs => ?_)
  have hE : ww C M_X12_laysBridges 4 0 0 nx (QV nx o) (XF) nx 0 0 118 [] [] (hp nx s_19) := by
    cases hs
    exact w_return rfl dX12_laysBridges_118 rfl (Nat.le_of_ble_eq_true rfl) (Nat.le_of_ble_eq_true rfl) ⟨rfl, rfl⟩
  refine whl_w (P := fun σ => ww C M_X12_laysBridges 4 0 0 nx (QV nx o) (XF) nx 0 0 28 [(0, .ref 80), (1, vi x1), (2, vi σ.1)] [] (hp nx σ.2)) (E := fun ρ => ρ = s_19) hw rfl ?_
  intro σ o' hs' hb' he'
  exact q_Mo_laysBridges_t28 hnx x1 σ.1 σ.2 hs' hb' (fun ρ e => by cases he' _ e; exact hE)
set_option maxRecDepth 100000 in
theorem q_Mo_laysBridges_l7 {C : Cx} {nx : Nat} (hnx : 100 ≤ nx) (x1 : Int) (x2 : Int) (s : Sg) {o : Sg} (hs : Mo_laysBridges_l7 x1 x2 s = some o) : ww C M_X12_laysBridges 4 0 0 nx (QV nx o) (XF) nx 0 0 7 [(0, .ref 80), (1, vi x1), (2, vi x2)] [] (hp nx s) := by
  unfold Mo_laysBridges_l7 at hs
  refine bnd_e hs (fun s_4 hw hs => ?_)
  have hE : ww C M_X12_laysBridges 4 0 0 nx (QV nx o) (XF) nx 0 0 26 [(0, .ref 80), (1, vi x1)] [] (hp nx s_4) := by
    refine x_iconst dX12_laysBridges_26 ?_
    refine w_istore_n (lv' := [(2, vi 0), (0, .ref 80), (1, vi x1)]) dX12_laysBridges_27 rfl (Nat.le_of_ble_eq_true rfl) rfl ?_
    refine w_lv (lv' := [(0, .ref 80), (1, vi x1), (2, vi 0)]) [1, 2, 0] rfl ?_
    exact q_Mo_laysBridges_l28 hnx x1 0 s_4 hs
  refine whl_w (P := fun σ => ww C M_X12_laysBridges 4 0 0 nx (QV nx o) (XF) nx 0 0 7 [(0, .ref 80), (1, vi x1), (2, vi σ.1)] [] (hp nx σ.2)) (E := fun ρ => ρ = s_4) hw rfl ?_
  intro σ o' hs' hb' he'
  exact q_Mo_laysBridges_t7 hnx x1 σ.1 σ.2 hs' hb' (fun ρ e => by cases he' _ e; exact hE)
set_option maxRecDepth 100000 in
theorem c_Mo_laysBridges {C : Cx} {nx : Nat} (hnx : 100 ≤ nx) (x1 : Int) (s : Sg) : ∀ o, Mo_laysBridges x1 s = some o → mm C M_X12_laysBridges 4 0 0 nx nx [.ref 80, vi x1] (hp nx s) (QV nx o) (XF) := by
  intro o hs
  unfold Mo_laysBridges at hs
  refine mm_of rfl rfl (Nat.le_of_ble_eq_true rfl) ?_
  show ww C M_X12_laysBridges 4 0 0 nx (QV nx o) (XF) nx 0 0 0 [(0, .ref 80), (1, vi x1)] [] (hp nx s)
  refine w_aload_n 0 dX12_laysBridges_0 rfl rfl ?_
  refine x_iconst dX12_laysBridges_1 ?_
  refine x_putI 12 24 dX12_laysBridges_2 (poX12_272 rfl) rfl rfl (lt_of hnx (Nat.le_of_ble_eq_true rfl)) ?_
  refine nam_s hs (fun s1 hs => ?_)
  refine x_iconst dX12_laysBridges_5 ?_
  refine w_istore_n (lv' := [(2, vi 0), (0, .ref 80), (1, vi x1)]) dX12_laysBridges_6 rfl (Nat.le_of_ble_eq_true rfl) rfl ?_
  refine w_lv (lv' := [(0, .ref 80), (1, vi x1), (2, vi 0)]) [1, 2, 0] rfl ?_
  exact q_Mo_laysBridges_l7 hnx x1 0 s1 hs

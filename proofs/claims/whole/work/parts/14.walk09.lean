set_option maxRecDepth 100000 in
theorem q_Mo_currentOf_b53 {C : Cx} {nx : Nat} (hnx : 100 ≤ nx) {Qr : Option Value → Hp → Prop} {Qx : String → Hp → Prop}  (x1 : Int) (x4 : Int) (t0 : Int) (t1 : Int) (s : Sg) {o : ((Int × Int) ⊕ (Int))} (hs : Mo_currentOf_b53 x1 x4 t0 t1 s = some o) (hb : ∀ σ : Int × Int, o = .inl σ → ww C M_X12_currentOf 4 0 0 nx (Qr) (Qx) nx 0 0 11 [(0, .ref 80), (1, vi x1), (3, vi σ.1), (4, vi σ.2)] [] (hp nx s)) (he0 : ∀ ρ : Int, o = .inr ρ → ww C M_X12_currentOf 4 0 0 nx (Qr) (Qx) nx 0 0 61 [(3, vi ρ)] [] (hp nx s)) : ww C M_X12_currentOf 4 0 0 nx (Qr) (Qx) nx 0 0 53 [(0, .ref 80), (1, vi x1), (4, vi x4)] [vi t1, vi t0] (hp nx s) := by
  unfold Mo_currentOf_b53 at hs
  refine x_iadd dX12_currentOf_53 ?_
  refine x_istore_n (fun x3_5 => [(3, vi x3_5), (0, .ref 80), (1, vi x1), (4, vi x4)]) hs dX12_currentOf_54 rfl (Nat.le_of_ble_eq_true rfl) (fun _ => rfl) (fun x3_5 hs => ?_)
  refine x_iinc (lv' := [(4, vi (x4 + 1)), (3, vi x3_5), (0, .ref 80), (1, vi x1)]) 3 dX12_currentOf_55 rfl (Nat.le_of_ble_eq_true rfl) rfl ?_
  refine w_goto dX12_currentOf_58 rfl ?_
  refine w_lv (lv' := [(0, .ref 80), (1, vi x1), (3, vi x3_5), (4, vi (x4 + 1))]) [2, 3, 1, 0] rfl ?_
  cases hs
  exact hb _ rfl
set_option maxRecDepth 100000 in
theorem q_Mo_currentOf_t11 {C : Cx} {nx : Nat} (hnx : 100 ≤ nx) {Qr : Option Value → Hp → Prop} {Qx : String → Hp → Prop}  (x1 : Int) (x3 : Int) (x4 : Int) (s : Sg) {o : ((Int × Int) ⊕ (Int))} (hs : Mo_currentOf_t11 x1 x3 x4 s = some o) (hb : ∀ σ : Int × Int, o = .inl σ → ww C M_X12_currentOf 4 0 0 nx (Qr) (Qx) nx 0 0 11 [(0, .ref 80), (1, vi x1), (3, vi σ.1), (4, vi σ.2)] [] (hp nx s)) (he0 : ∀ ρ : Int, o = .inr ρ → ww C M_X12_currentOf 4 0 0 nx (Qr) (Qx) nx 0 0 61 [(3, vi ρ)] [] (hp nx s)) : ww C M_X12_currentOf 4 0 0 nx (Qr) (Qx) nx 0 0 11 [(0, .ref 80), (1, vi x1), (3, vi x3), (4, vi x4)] [] (hp nx s) := by
  unfold Mo_currentOf_t11 at hs
  refine w_iload 3 dX12_currentOf_11 rfl ?_
  refine w_aload_n 0 dX12_currentOf_13 rfl rfl ?_
  refine x_V_I M_X12_cells [] [vi x4] hs rfl dX12_currentOf_14 (lkX12_212 _ rfl) (lt_of hnx (Nat.le_of_ble_eq_true rfl)) rfl rfl (Nat.le_of_ble_eq_true rfl) (Nat.le_of_ble_eq_true rfl) (Nat.le_of_ble_eq_true rfl) (Nat.le_of_ble_eq_true rfl) (c_Mo_cells hnx s) (fun y3 hy3 hs => ?_)
  refine x_icmpge hs dX12_currentOf_17 rfl (fun hs => ?_) (fun hs => ?_)
  · refine w_lv (lv' := [(3, vi x3)]) [2] rfl ?_
    cases hs
    exact he0 _ rfl
  · refine w_iload_n 2 dX12_currentOf_20 rfl rfl ?_
    refine w_aload_n 0 dX12_currentOf_21 rfl rfl ?_
    refine w_iload_n 1 dX12_currentOf_22 rfl rfl ?_
    refine w_iload 3 dX12_currentOf_23 rfl ?_
    refine x_V_I M_X12_edges [vi x1, vi x4] [vi x3] hs rfl dX12_currentOf_25 (lkX12_239 _ rfl) (lt_of hnx (Nat.le_of_ble_eq_true rfl)) rfl rfl (Nat.le_of_ble_eq_true rfl) (Nat.le_of_ble_eq_true rfl) (Nat.le_of_ble_eq_true rfl) (Nat.le_of_ble_eq_true rfl) (c_Mo_edges hnx x1 x4 s) (fun y4 hy4 hs => ?_)
    refine x_iconst dX12_currentOf_28 ?_
    refine x_iand dX12_currentOf_29 ?_
    refine x_iconst dX12_currentOf_30 ?_
    refine x_icmpne hs dX12_currentOf_31 rfl (fun hs => ?_) (fun hs => ?_)
    · refine x_iconst dX12_currentOf_52 ?_
      refine w_lv (lv' := [(0, .ref 80), (1, vi x1), (4, vi x4)]) [0, 1, 3] rfl ?_
      exact q_Mo_currentOf_b53 hnx x1 x4 x3 0 s hs hb he0
    · refine w_aload_n 0 dX12_currentOf_34 rfl rfl ?_
      refine w_iload_n 1 dX12_currentOf_35 rfl rfl ?_
      refine w_iload 3 dX12_currentOf_36 rfl ?_
      refine x_V_I M_X12_weight [vi x1, vi x4] [vi x3] hs rfl dX12_currentOf_38 (lkX12_372 _ rfl) (lt_of hnx (Nat.le_of_ble_eq_true rfl)) rfl rfl (Nat.le_of_ble_eq_true rfl) (Nat.le_of_ble_eq_true rfl) (Nat.le_of_ble_eq_true rfl) (Nat.le_of_ble_eq_true rfl) (c_Mo_weight hnx x1 x4 s) (fun y6 hy6 hs => ?_)
      refine w_aload_n 0 dX12_currentOf_41 rfl rfl ?_
      refine x_getR 12 32 (b := 98) dX12_currentOf_42 (fxX12_67 rfl) rfl rfl (lt_of hnx (Nat.le_of_ble_eq_true rfl)) rfl ?_
      refine w_iload 3 dX12_currentOf_45 rfl ?_
      refine grd_e hs (fun hg7 hs => ?_)
      refine x_iald hg7 (Nat.le_of_ble_eq_true rfl) dX12_currentOf_47 (Or.inl ⟨rfl, (lt_of hnx (Nat.le_of_ble_eq_true rfl))⟩) ?_
      refine x_imul dX12_currentOf_48 ?_
      refine w_goto dX12_currentOf_49 rfl ?_
      refine w_lv (lv' := [(0, .ref 80), (1, vi x1), (4, vi x4)]) [0, 1, 3] rfl ?_
      exact q_Mo_currentOf_b53 hnx x1 x4 x3 (y6 * (gi s 98 x4.toNat)) s hs hb he0
set_option maxRecDepth 100000 in
theorem q_Mo_currentOf_l11 {C : Cx} {nx : Nat} (hnx : 100 ≤ nx) (x1 : Int) (x3 : Int) (x4 : Int) (s : Sg) {o : Int × Sg} (hs : Mo_currentOf_l11 x1 x3 x4 s = some o) : ww C M_X12_currentOf 4 0 0 nx (QI nx o.2 o.1) (XF) nx 0 0 11 [(0, .ref 80), (1, vi x1), (3, vi x3), (4, vi x4)] [] (hp nx s) := by
  unfold Mo_currentOf_l11 at hs
  refine bnd_e hs (fun x3_8 hw hs => ?_)
  have hE : ww C M_X12_currentOf 4 0 0 nx (QI nx o.2 o.1) (XF) nx 0 0 61 [(3, vi x3_8)] [] (hp nx s) := by
    refine w_iload_n 0 dX12_currentOf_61 rfl rfl ?_
    cases hs
    exact x_ireturn dX12_currentOf_62 rfl rfl (Nat.le_of_ble_eq_true rfl) (Nat.le_of_ble_eq_true rfl) ⟨rfl, rfl⟩
  refine whl_w (P := fun σ => ww C M_X12_currentOf 4 0 0 nx (QI nx o.2 o.1) (XF) nx 0 0 11 [(0, .ref 80), (1, vi x1), (3, vi σ.1), (4, vi σ.2)] [] (hp nx s)) (E := fun ρ => ρ = x3_8) hw rfl ?_
  intro σ o' hs' hb' he'
  exact q_Mo_currentOf_t11 hnx x1 σ.1 σ.2 s hs' hb' (fun ρ e => by cases he' _ e; exact hE)
set_option maxRecDepth 100000 in
theorem c_Mo_currentOf {C : Cx} {nx : Nat} (hnx : 100 ≤ nx) (x1 : Int) (x2 : Int) (s : Sg) : ∀ o, Mo_currentOf x1 x2 s = some o → mm C M_X12_currentOf 4 0 0 nx nx [.ref 80, vi x1, vi x2] (hp nx s) (QI nx o.2 o.1) (XF) := by
  intro o hs
  unfold Mo_currentOf at hs
  refine mm_of rfl rfl (Nat.le_of_ble_eq_true rfl) ?_
  show ww C M_X12_currentOf 4 0 0 nx (QI nx o.2 o.1) (XF) nx 0 0 0 [(0, .ref 80), (1, vi x1), (2, vi x2)] [] (hp nx s)
  refine w_aload_n 0 dX12_currentOf_0 rfl rfl ?_
  refine w_iload_n 1 dX12_currentOf_1 rfl rfl ?_
  refine w_iload_n 2 dX12_currentOf_2 rfl rfl ?_
  refine x_V_V M_X12_sweeps [vi x1, vi x2] [] hs rfl dX12_currentOf_3 (lkX12_379 _ rfl) (lt_of hnx (Nat.le_of_ble_eq_true rfl)) rfl rfl (Nat.le_of_ble_eq_true rfl) (Nat.le_of_ble_eq_true rfl) (Nat.le_of_ble_eq_true rfl) (Nat.le_of_ble_eq_true rfl) (c_Mo_sweeps hnx x1 x2 s) (fun s2 hs2 hs => ?_)
  refine x_iconst dX12_currentOf_6 ?_
  refine w_istore_n (lv' := [(3, vi 0), (0, .ref 80), (1, vi x1), (2, vi x2)]) dX12_currentOf_7 rfl (Nat.le_of_ble_eq_true rfl) rfl ?_
  refine x_iconst dX12_currentOf_8 ?_
  refine w_istore (lv' := [(4, vi 0), (3, vi 0), (0, .ref 80), (1, vi x1), (2, vi x2)]) dX12_currentOf_9 (Nat.le_of_ble_eq_true rfl) rfl ?_
  refine w_lv (lv' := [(0, .ref 80), (1, vi x1), (3, vi 0), (4, vi 0)]) [2, 3, 1, 0] rfl ?_
  exact q_Mo_currentOf_l11 hnx x1 0 0 s2 hs
set_option maxRecDepth 100000 in
theorem c_Mo_areSweeps {C : Cx} {nx : Nat} (hnx : 100 ≤ nx) (x0 : Int) (s : Sg) : ∀ o, Mo_areSweeps x0 s = some o → mm C M_X12_areSweeps 1 0 0 nx nx [vi x0] (hp nx s) (QI nx s o) (XF) := by
  intro o hs
  unfold Mo_areSweeps at hs
  refine mm_of rfl rfl (Nat.le_of_ble_eq_true rfl) ?_
  show ww C M_X12_areSweeps 1 0 0 nx (QI nx s o) (XF) nx 0 0 0 [(0, vi x0)] [] (hp nx s)
  refine w_iload_n 0 dX12_areSweeps_0 rfl rfl ?_
  refine grd_e hs (fun hg1 hs => ?_)
  refine x_i2l dX12_areSweeps_1 hg1 ?_
  refine x_lconst (x := 0) dX12_areSweeps_2 (by decide) ?_
  refine x_ldc2 100 dX12_areSweeps_3 (csX12_382 rfl) ?_
  refine x_S_I M_X12_in [vl x0, vl 0, vl 100] [] hs rfl dX12_areSweeps_6 (lkX12_108 _ rfl) (Nat.le_of_ble_eq_true rfl) (Nat.le_of_ble_eq_true rfl) (Nat.le_of_ble_eq_true rfl) (Nat.le_of_ble_eq_true rfl) (c_Mo_in hnx x0 0 100 s) (fun y2 hy2 hs => ?_)
  refine grd_e hs (fun hg3 hs => ?_)
  cases hs
  exact x_zreturn hg3 dX12_areSweeps_9 rfl rfl (Nat.le_of_ble_eq_true rfl) (Nat.le_of_ble_eq_true rfl) ⟨rfl, rfl⟩
set_option maxRecDepth 100000 in
theorem q_Mo_potential_b40 {C : Cx} {nx : Nat} (hnx : 100 ≤ nx) (x1 : Int) (x2 : Int) (x3 : Int) (t1 : Int) (s : Sg) {o : Int × Sg} (hs : Mo_potential_b40 x1 x2 x3 t1 s = some o) : ww C M_X12_potential 4 0 0 nx (QI nx o.2 o.1) (XF) nx 0 0 40 [(0, .ref 80), (1, vi x1), (2, vi x2), (3, vi x3)] [vi t1, .ref 80] (hp nx s) := by
  unfold Mo_potential_b40 at hs
  refine x_iconst dX12_potential_40 ?_
  refine x_V_B M_X12_throwsIf [vi t1, vi 2] [] hs rfl dX12_potential_41 (lkX12_313 _ rfl) (lt_of hnx (Nat.le_of_ble_eq_true rfl)) rfl rfl (Nat.le_of_ble_eq_true rfl) (Nat.le_of_ble_eq_true rfl) (Nat.le_of_ble_eq_true rfl) (Nat.le_of_ble_eq_true rfl) (c_Mo_throwsIf hnx t1 2 s) (fun y5 s6 hy5 hs => ?_)
  refine x_ifeq hs dX12_potential_44 rfl (fun hs => ?_) (fun hs => ?_)
  · refine w_aload_n 0 dX12_potential_49 rfl rfl ?_
    refine w_iload_n 1 dX12_potential_50 rfl rfl ?_
    refine w_iload_n 3 dX12_potential_51 rfl rfl ?_
    refine x_V_V M_X12_sweeps [vi x1, vi x3] [] hs rfl dX12_potential_52 (lkX12_379 _ rfl) (lt_of hnx (Nat.le_of_ble_eq_true rfl)) rfl rfl (Nat.le_of_ble_eq_true rfl) (Nat.le_of_ble_eq_true rfl) (Nat.le_of_ble_eq_true rfl) (Nat.le_of_ble_eq_true rfl) (c_Mo_sweeps hnx x1 x3 s6) (fun s8 hs8 hs => ?_)
    refine w_aload_n 0 dX12_potential_55 rfl rfl ?_
    refine w_iload_n 1 dX12_potential_56 rfl rfl ?_
    refine w_iload_n 2 dX12_potential_57 rfl rfl ?_
    refine x_V_I M_X12_weight [vi x1, vi x2] [] hs rfl dX12_potential_58 (lkX12_372 _ rfl) (lt_of hnx (Nat.le_of_ble_eq_true rfl)) rfl rfl (Nat.le_of_ble_eq_true rfl) (Nat.le_of_ble_eq_true rfl) (Nat.le_of_ble_eq_true rfl) (Nat.le_of_ble_eq_true rfl) (c_Mo_weight hnx x1 x2 s8) (fun y9 hy9 hs => ?_)
    refine x_ifne hs dX12_potential_61 rfl (fun hs => ?_) (fun hs => ?_)
    · refine w_aload_n 0 dX12_potential_68 rfl rfl ?_
      refine x_getR 12 32 (b := 98) dX12_potential_69 (fxX12_67 rfl) rfl rfl (lt_of hnx (Nat.le_of_ble_eq_true rfl)) rfl ?_
      refine w_iload_n 2 dX12_potential_72 rfl rfl ?_
      refine grd_e hs (fun hg10 hs => ?_)
      refine x_iald hg10 (Nat.le_of_ble_eq_true rfl) dX12_potential_73 (Or.inl ⟨rfl, (lt_of hnx (Nat.le_of_ble_eq_true rfl))⟩) ?_
      cases hs
      exact x_ireturn dX12_potential_74 rfl rfl (Nat.le_of_ble_eq_true rfl) (Nat.le_of_ble_eq_true rfl) ⟨rfl, rfl⟩
    · refine x_iconst dX12_potential_64 ?_
      refine w_goto dX12_potential_65 rfl ?_
      cases hs
      exact x_ireturn dX12_potential_74 rfl rfl (Nat.le_of_ble_eq_true rfl) (Nat.le_of_ble_eq_true rfl) ⟨rfl, rfl⟩
  · refine x_iconst dX12_potential_47 ?_
    cases hs
    exact x_ireturn dX12_potential_48 rfl rfl (Nat.le_of_ble_eq_true rfl) (Nat.le_of_ble_eq_true rfl) ⟨rfl, rfl⟩
set_option maxRecDepth 100000 in
theorem q_Mo_potential_b20 {C : Cx} {nx : Nat} (hnx : 100 ≤ nx) (x1 : Int) (x2 : Int) (x3 : Int) (t1 : Int) (s : Sg) {o : Int × Sg} (hs : Mo_potential_b20 x1 x2 x3 t1 s = some o) : ww C M_X12_potential 4 0 0 nx (QI nx o.2 o.1) (XF) nx 0 0 20 [(0, .ref 80), (1, vi x1), (2, vi x2), (3, vi x3)] [vi t1, .ref 80] (hp nx s) := by
  unfold Mo_potential_b20 at hs
  refine x_V_B M_X12_wrong [vi t1] [] hs rfl dX12_potential_20 (lkX12_296 _ rfl) (lt_of hnx (Nat.le_of_ble_eq_true rfl)) rfl rfl (Nat.le_of_ble_eq_true rfl) (Nat.le_of_ble_eq_true rfl) (Nat.le_of_ble_eq_true rfl) (Nat.le_of_ble_eq_true rfl) (c_Mo_wrong hnx t1 s) (fun y2 s3 hy2 hs => ?_)
  refine x_ifne hs dX12_potential_23 rfl (fun hs => ?_) (fun hs => ?_)
  · refine x_iconst dX12_potential_47 ?_
    cases hs
    exact x_ireturn dX12_potential_48 rfl rfl (Nat.le_of_ble_eq_true rfl) (Nat.le_of_ble_eq_true rfl) ⟨rfl, rfl⟩
  · refine w_aload_n 0 dX12_potential_26 rfl rfl ?_
    refine w_aload_n 0 dX12_potential_27 rfl rfl ?_
    refine w_iload_n 2 dX12_potential_28 rfl rfl ?_
    refine x_V_I M_X12_isCell [vi x2] [.ref 80] hs rfl dX12_potential_29 (lkX12_302 _ rfl) (lt_of hnx (Nat.le_of_ble_eq_true rfl)) rfl rfl (Nat.le_of_ble_eq_true rfl) (Nat.le_of_ble_eq_true rfl) (Nat.le_of_ble_eq_true rfl) (Nat.le_of_ble_eq_true rfl) (c_Mo_isCell hnx x2 s3) (fun y4 hy4 hs => ?_)
    refine x_ifne hs dX12_potential_32 rfl (fun hs => ?_) (fun hs => ?_)
    · refine x_iconst dX12_potential_39 ?_
      exact q_Mo_potential_b40 hnx x1 x2 x3 0 s3 hs
    · refine x_iconst dX12_potential_35 ?_
      refine w_goto dX12_potential_36 rfl ?_
      exact q_Mo_potential_b40 hnx x1 x2 x3 1 s3 hs
set_option maxRecDepth 100000 in
theorem q_Mo_potential_b15 {C : Cx} {nx : Nat} (hnx : 100 ≤ nx) (x1 : Int) (x2 : Int) (x3 : Int) (s : Sg) {o : Int × Sg} (hs : Mo_potential_b15 x1 x2 x3 s = some o) : ww C M_X12_potential 4 0 0 nx (QI nx o.2 o.1) (XF) nx 0 0 15 [(0, .ref 80), (1, vi x1), (2, vi x2), (3, vi x3)] [.ref 80] (hp nx s) := by
  unfold Mo_potential_b15 at hs
  refine x_iconst dX12_potential_15 ?_
  refine w_goto dX12_potential_16 rfl ?_
  exact q_Mo_potential_b20 hnx x1 x2 x3 1 s hs
set_option maxRecDepth 100000 in
theorem c_Mo_potential {C : Cx} {nx : Nat} (hnx : 100 ≤ nx) (x1 : Int) (x2 : Int) (x3 : Int) (s : Sg) : ∀ o, Mo_potential x1 x2 x3 s = some o → mm C M_X12_potential 4 0 0 nx nx [.ref 80, vi x1, vi x2, vi x3] (hp nx s) (QI nx o.2 o.1) (XF) := by
  intro o hs
  unfold Mo_potential at hs
  refine mm_of rfl rfl (Nat.le_of_ble_eq_true rfl) ?_
  show ww C M_X12_potential 4 0 0 nx (QI nx o.2 o.1) (XF) nx 0 0 0 [(0, .ref 80), (1, vi x1), (2, vi x2), (3, vi x3)] [] (hp nx s)
  refine w_aload_n 0 dX12_potential_0 rfl rfl ?_
  refine w_iload_n 1 dX12_potential_1 rfl rfl ?_
  refine x_S_I M_X12_isSide [vi x1] [.ref 80] hs rfl dX12_potential_2 (lkX12_305 _ rfl) (Nat.le_of_ble_eq_true rfl) (Nat.le_of_ble_eq_true rfl) (Nat.le_of_ble_eq_true rfl) (Nat.le_of_ble_eq_true rfl) (c_Mo_isSide hnx x1 s) (fun y1 hy1 hs => ?_)
  refine x_ifeq hs dX12_potential_5 rfl (fun hs => ?_) (fun hs => ?_)
  · exact q_Mo_potential_b15 hnx x1 x2 x3 s hs
  · refine w_iload_n 3 dX12_potential_8 rfl rfl ?_
    refine x_S_I M_X12_areSweeps [vi x3] [.ref 80] hs rfl dX12_potential_9 (lkX12_384 _ rfl) (Nat.le_of_ble_eq_true rfl) (Nat.le_of_ble_eq_true rfl) (Nat.le_of_ble_eq_true rfl) (Nat.le_of_ble_eq_true rfl) (c_Mo_areSweeps hnx x3 s) (fun y11 hy11 hs => ?_)
    refine x_ifne hs dX12_potential_12 rfl (fun hs => ?_) (fun hs => ?_)
    · refine x_iconst dX12_potential_19 ?_
      exact q_Mo_potential_b20 hnx x1 x2 x3 0 s hs
    · exact q_Mo_potential_b15 hnx x1 x2 x3 s hs
set_option maxRecDepth 100000 in
theorem q_Mo_current_b20 {C : Cx} {nx : Nat} (hnx : 100 ≤ nx) (x1 : Int) (x2 : Int) (t1 : Int) (s : Sg) {o : Int × Sg} (hs : Mo_current_b20 x1 x2 t1 s = some o) : ww C M_X12_current 5 0 0 nx (QI nx o.2 o.1) (XF) nx 0 0 20 [(0, .ref 80), (1, vi x1), (2, vi x2)] [vi t1, .ref 80] (hp nx s) := by
  unfold Mo_current_b20 at hs
  refine x_V_B M_X12_wrong [vi t1] [] hs rfl dX12_current_20 (lkX12_296 _ rfl) (lt_of hnx (Nat.le_of_ble_eq_true rfl)) rfl rfl (Nat.le_of_ble_eq_true rfl) (Nat.le_of_ble_eq_true rfl) (Nat.le_of_ble_eq_true rfl) (Nat.le_of_ble_eq_true rfl) (c_Mo_wrong hnx t1 s) (fun y2 s3 hy2 hs => ?_)
  refine x_ifeq hs dX12_current_23 rfl (fun hs => ?_) (fun hs => ?_)
  · refine w_aload_n 0 dX12_current_30 rfl rfl ?_
    refine w_iload_n 1 dX12_current_31 rfl rfl ?_
    refine w_iload_n 2 dX12_current_32 rfl rfl ?_
    refine x_V_B M_X12_currentOf [vi x1, vi x2] [] hs rfl dX12_current_33 (lkX12_387 _ rfl) (lt_of hnx (Nat.le_of_ble_eq_true rfl)) rfl rfl (Nat.le_of_ble_eq_true rfl) (Nat.le_of_ble_eq_true rfl) (Nat.le_of_ble_eq_true rfl) (Nat.le_of_ble_eq_true rfl) (c_Mo_currentOf hnx x1 x2 s3) (fun y4 s5 hy4 hs => ?_)
    cases hs
    exact x_ireturn dX12_current_36 rfl rfl (Nat.le_of_ble_eq_true rfl) (Nat.le_of_ble_eq_true rfl) ⟨rfl, rfl⟩
  · refine x_iconst dX12_current_26 ?_
    refine w_goto dX12_current_27 rfl ?_
    cases hs
    exact x_ireturn dX12_current_36 rfl rfl (Nat.le_of_ble_eq_true rfl) (Nat.le_of_ble_eq_true rfl) ⟨rfl, rfl⟩
set_option maxRecDepth 100000 in
theorem q_Mo_current_b15 {C : Cx} {nx : Nat} (hnx : 100 ≤ nx) (x1 : Int) (x2 : Int) (s : Sg) {o : Int × Sg} (hs : Mo_current_b15 x1 x2 s = some o) : ww C M_X12_current 5 0 0 nx (QI nx o.2 o.1) (XF) nx 0 0 15 [(0, .ref 80), (1, vi x1), (2, vi x2)] [.ref 80] (hp nx s) := by
  unfold Mo_current_b15 at hs
  refine x_iconst dX12_current_15 ?_
  refine w_goto dX12_current_16 rfl ?_
  exact q_Mo_current_b20 hnx x1 x2 1 s hs
set_option maxRecDepth 100000 in
theorem c_Mo_current {C : Cx} {nx : Nat} (hnx : 100 ≤ nx) (x1 : Int) (x2 : Int) (s : Sg) : ∀ o, Mo_current x1 x2 s = some o → mm C M_X12_current 5 0 0 nx nx [.ref 80, vi x1, vi x2] (hp nx s) (QI nx o.2 o.1) (XF) := by
  intro o hs
  unfold Mo_current at hs
  refine mm_of rfl rfl (Nat.le_of_ble_eq_true rfl) ?_
  show ww C M_X12_current 5 0 0 nx (QI nx o.2 o.1) (XF) nx 0 0 0 [(0, .ref 80), (1, vi x1), (2, vi x2)] [] (hp nx s)
  refine w_aload_n 0 dX12_current_0 rfl rfl ?_
  refine w_iload_n 1 dX12_current_1 rfl rfl ?_
  refine x_S_I M_X12_isSide [vi x1] [.ref 80] hs rfl dX12_current_2 (lkX12_305 _ rfl) (Nat.le_of_ble_eq_true rfl) (Nat.le_of_ble_eq_true rfl) (Nat.le_of_ble_eq_true rfl) (Nat.le_of_ble_eq_true rfl) (c_Mo_isSide hnx x1 s) (fun y1 hy1 hs => ?_)
  refine x_ifeq hs dX12_current_5 rfl (fun hs => ?_) (fun hs => ?_)
  · exact q_Mo_current_b15 hnx x1 x2 s hs
  · refine w_iload_n 2 dX12_current_8 rfl rfl ?_
    refine x_S_I M_X12_areSweeps [vi x2] [.ref 80] hs rfl dX12_current_9 (lkX12_384 _ rfl) (Nat.le_of_ble_eq_true rfl) (Nat.le_of_ble_eq_true rfl) (Nat.le_of_ble_eq_true rfl) (Nat.le_of_ble_eq_true rfl) (c_Mo_areSweeps hnx x2 s) (fun y6 hy6 hs => ?_)
    refine x_ifne hs dX12_current_12 rfl (fun hs => ?_) (fun hs => ?_)
    · refine x_iconst dX12_current_19 ?_
      exact q_Mo_current_b20 hnx x1 x2 0 s hs
    · exact q_Mo_current_b15 hnx x1 x2 s hs
set_option maxRecDepth 100000 in
theorem q_Mo_resistance_b20 {C : Cx} {nx : Nat} (hnx : 100 ≤ nx) (x1 : Int) (x2 : Int) (t1 : Int) (s : Sg) {o : UInt32 × Sg} (hs : Mo_resistance_b20 x1 x2 t1 s = some o) : ww C M_X12_resistance 5 0 0 nx (QF nx o.2 o.1) (XF) nx 0 0 20 [(0, .ref 80), (1, vi x1), (2, vi x2)] [vi t1, .ref 80] (hp nx s) := by
  unfold Mo_resistance_b20 at hs
  refine x_V_B M_X12_wrong [vi t1] [] hs rfl dX12_resistance_20 (lkX12_296 _ rfl) (lt_of hnx (Nat.le_of_ble_eq_true rfl)) rfl rfl (Nat.le_of_ble_eq_true rfl) (Nat.le_of_ble_eq_true rfl) (Nat.le_of_ble_eq_true rfl) (Nat.le_of_ble_eq_true rfl) (c_Mo_wrong hnx t1 s) (fun y2 s3 hy2 hs => ?_)
  refine x_ifeq hs dX12_resistance_23 rfl (fun hs => ?_) (fun hs => ?_)
  · refine w_aload_n 0 dX12_resistance_28 rfl rfl ?_
    refine w_iload_n 1 dX12_resistance_29 rfl rfl ?_
    refine w_iload_n 2 dX12_resistance_30 rfl rfl ?_
    refine x_V_B M_X12_currentOf [vi x1, vi x2] [] hs rfl dX12_resistance_31 (lkX12_387 _ rfl) (lt_of hnx (Nat.le_of_ble_eq_true rfl)) rfl rfl (Nat.le_of_ble_eq_true rfl) (Nat.le_of_ble_eq_true rfl) (Nat.le_of_ble_eq_true rfl) (Nat.le_of_ble_eq_true rfl) (c_Mo_currentOf hnx x1 x2 s3) (fun y4 s5 hy4 hs => ?_)
    refine w_istore_n (lv' := [(3, vi y4), (0, .ref 80), (1, vi x1), (2, vi x2)]) dX12_resistance_34 rfl (Nat.le_of_ble_eq_true rfl) rfl ?_
    refine w_iload_n 0 dX12_resistance_35 rfl rfl ?_
    refine x_ifne hs dX12_resistance_36 rfl (fun hs => ?_) (fun hs => ?_)
    · refine w_ldcfw 1232348160 dX12_resistance_43 (csX12_390 rfl) ?_
      refine w_iload_n 0 dX12_resistance_46 rfl rfl ?_
      refine w_i2f dX12_resistance_47 ?_
      refine grd_e hs (fun hg6 hs => ?_)
      refine w_fdiv dX12_resistance_48 hg6 ?_
      cases hs
      exact w_freturn rfl dX12_resistance_49 rfl (Nat.le_of_ble_eq_true rfl) (Nat.le_of_ble_eq_true rfl) ⟨rfl, rfl⟩
    · refine w_fconst0 dX12_resistance_39 ?_
      refine w_goto dX12_resistance_40 rfl ?_
      cases hs
      exact w_freturn rfl dX12_resistance_49 rfl (Nat.le_of_ble_eq_true rfl) (Nat.le_of_ble_eq_true rfl) ⟨rfl, rfl⟩
  · refine w_fconst0 dX12_resistance_26 ?_
    cases hs
    exact w_freturn rfl dX12_resistance_27 rfl (Nat.le_of_ble_eq_true rfl) (Nat.le_of_ble_eq_true rfl) ⟨rfl, rfl⟩
set_option maxRecDepth 100000 in
theorem q_Mo_resistance_b15 {C : Cx} {nx : Nat} (hnx : 100 ≤ nx) (x1 : Int) (x2 : Int) (s : Sg) {o : UInt32 × Sg} (hs : Mo_resistance_b15 x1 x2 s = some o) : ww C M_X12_resistance 5 0 0 nx (QF nx o.2 o.1) (XF) nx 0 0 15 [(0, .ref 80), (1, vi x1), (2, vi x2)] [.ref 80] (hp nx s) := by
  unfold Mo_resistance_b15 at hs
  refine x_iconst dX12_resistance_15 ?_
  refine w_goto dX12_resistance_16 rfl ?_
  exact q_Mo_resistance_b20 hnx x1 x2 1 s hs
set_option maxRecDepth 100000 in
theorem c_Mo_resistance {C : Cx} {nx : Nat} (hnx : 100 ≤ nx) (x1 : Int) (x2 : Int) (s : Sg) : ∀ o, Mo_resistance x1 x2 s = some o → mm C M_X12_resistance 5 0 0 nx nx [.ref 80, vi x1, vi x2] (hp nx s) (QF nx o.2 o.1) (XF) := by
  intro o hs
  unfold Mo_resistance at hs
  refine mm_of rfl rfl (Nat.le_of_ble_eq_true rfl) ?_
  show ww C M_X12_resistance 5 0 0 nx (QF nx o.2 o.1) (XF) nx 0 0 0 [(0, .ref 80), (1, vi x1), (2, vi x2)] [] (hp nx s)
  refine w_aload_n 0 dX12_resistance_0 rfl rfl ?_
  refine w_iload_n 1 dX12_resistance_1 rfl rfl ?_
  refine x_S_I M_X12_isSide [vi x1] [.ref 80] hs rfl dX12_resistance_2 (lkX12_305 _ rfl) (Nat.le_of_ble_eq_true rfl) (Nat.le_of_ble_eq_true rfl) (Nat.le_of_ble_eq_true rfl) (Nat.le_of_ble_eq_true rfl) (c_Mo_isSide hnx x1 s) (fun y1 hy1 hs => ?_)
  refine x_ifeq hs dX12_resistance_5 rfl (fun hs => ?_) (fun hs => ?_)
  · exact q_Mo_resistance_b15 hnx x1 x2 s hs
  · refine w_iload_n 2 dX12_resistance_8 rfl rfl ?_
    refine x_S_I M_X12_areSweeps [vi x2] [.ref 80] hs rfl dX12_resistance_9 (lkX12_384 _ rfl) (Nat.le_of_ble_eq_true rfl) (Nat.le_of_ble_eq_true rfl) (Nat.le_of_ble_eq_true rfl) (Nat.le_of_ble_eq_true rfl) (c_Mo_areSweeps hnx x2 s) (fun y7 hy7 hs => ?_)
    refine x_ifne hs dX12_resistance_12 rfl (fun hs => ?_) (fun hs => ?_)
    · refine x_iconst dX12_resistance_19 ?_
      exact q_Mo_resistance_b20 hnx x1 x2 0 s hs
    · exact q_Mo_resistance_b15 hnx x1 x2 s hs
set_option maxRecDepth 100000 in
theorem q_Mo_balance_b13 {C : Cx} {nx : Nat} (hnx : 100 ≤ nx) (x1 : Int) (t1 : Int) (s : Sg) {o : UInt64 × Sg} (hs : Mo_balance_b13 x1 t1 s = some o) : ww C M_X12_balance 5 0 0 nx (QD nx o.2 o.1) (XF) nx 0 0 13 [(0, .ref 80), (1, vi x1)] [vi t1, .ref 80] (hp nx s) := by
  unfold Mo_balance_b13 at hs
  refine x_V_B M_X12_wrong [vi t1] [] hs rfl dX12_balance_13 (lkX12_296 _ rfl) (lt_of hnx (Nat.le_of_ble_eq_true rfl)) rfl rfl (Nat.le_of_ble_eq_true rfl) (Nat.le_of_ble_eq_true rfl) (Nat.le_of_ble_eq_true rfl) (Nat.le_of_ble_eq_true rfl) (c_Mo_wrong hnx t1 s) (fun y2 s3 hy2 hs => ?_)
  refine x_ifeq hs dX12_balance_16 rfl (fun hs => ?_) (fun hs => ?_)
  · refine w_aload_n 0 dX12_balance_21 rfl rfl ?_
    refine x_iconst dX12_balance_22 ?_
    refine w_iload_n 1 dX12_balance_23 rfl rfl ?_
    refine x_V_B M_X12_currentOf [vi 0, vi x1] [] hs rfl dX12_balance_24 (lkX12_387 _ rfl) (lt_of hnx (Nat.le_of_ble_eq_true rfl)) rfl rfl (Nat.le_of_ble_eq_true rfl) (Nat.le_of_ble_eq_true rfl) (Nat.le_of_ble_eq_true rfl) (Nat.le_of_ble_eq_true rfl) (c_Mo_currentOf hnx 0 x1 s3) (fun y4 s5 hy4 hs => ?_)
    refine w_istore_n (lv' := [(2, vi y4), (0, .ref 80), (1, vi x1)]) dX12_balance_27 rfl (Nat.le_of_ble_eq_true rfl) rfl ?_
    refine w_iload_n 0 dX12_balance_28 rfl rfl ?_
    refine w_aload_n 1 dX12_balance_29 rfl rfl ?_
    refine x_iconst dX12_balance_30 ?_
    refine w_iload_n 2 dX12_balance_31 rfl rfl ?_
    refine x_V_B M_X12_currentOf [vi 1, vi x1] [vi y4] hs rfl dX12_balance_32 (lkX12_387 _ rfl) (lt_of hnx (Nat.le_of_ble_eq_true rfl)) rfl rfl (Nat.le_of_ble_eq_true rfl) (Nat.le_of_ble_eq_true rfl) (Nat.le_of_ble_eq_true rfl) (Nat.le_of_ble_eq_true rfl) (c_Mo_currentOf hnx 1 x1 s5) (fun y6 s7 hy6 hs => ?_)
    refine x_iadd dX12_balance_35 ?_
    refine x_istore_n (fun x3_8 => [(3, vi x3_8), (2, vi y4), (0, .ref 80), (1, vi x1)]) hs dX12_balance_36 rfl (Nat.le_of_ble_eq_true rfl) (fun _ => rfl) (fun x3_8 hs => ?_)
    refine w_iload_n 0 dX12_balance_37 rfl rfl ?_
    refine x_ifne hs dX12_balance_38 rfl (fun hs => ?_) (fun hs => ?_)
    · refine w_iload_n 1 dX12_balance_47 rfl rfl ?_
      refine w_i2d dX12_balance_48 ?_
      refine w_iload_n 0 dX12_balance_49 rfl rfl ?_
      refine w_i2d dX12_balance_50 ?_
      refine grd_e hs (fun hg9 hs => ?_)
      refine w_ddiv dX12_balance_51 hg9 ?_
      cases hs
      exact w_dreturn rfl dX12_balance_52 rfl (Nat.le_of_ble_eq_true rfl) (Nat.le_of_ble_eq_true rfl) ⟨rfl, rfl⟩
    · refine w_ldc2d 4602678819172646912 dX12_balance_41 (csX12_391 rfl) ?_
      refine w_goto dX12_balance_44 rfl ?_
      cases hs
      exact w_dreturn rfl dX12_balance_52 rfl (Nat.le_of_ble_eq_true rfl) (Nat.le_of_ble_eq_true rfl) ⟨rfl, rfl⟩
  · refine w_dconst0 dX12_balance_19 ?_
    cases hs
    exact w_dreturn rfl dX12_balance_20 rfl (Nat.le_of_ble_eq_true rfl) (Nat.le_of_ble_eq_true rfl) ⟨rfl, rfl⟩
set_option maxRecDepth 100000 in
theorem c_Mo_balance {C : Cx} {nx : Nat} (hnx : 100 ≤ nx) (x1 : Int) (s : Sg) : ∀ o, Mo_balance x1 s = some o → mm C M_X12_balance 5 0 0 nx nx [.ref 80, vi x1] (hp nx s) (QD nx o.2 o.1) (XF) := by
  intro o hs
  unfold Mo_balance at hs
  refine mm_of rfl rfl (Nat.le_of_ble_eq_true rfl) ?_
  show ww C M_X12_balance 5 0 0 nx (QD nx o.2 o.1) (XF) nx 0 0 0 [(0, .ref 80), (1, vi x1)] [] (hp nx s)
  refine w_aload_n 0 dX12_balance_0 rfl rfl ?_
  refine w_iload_n 1 dX12_balance_1 rfl rfl ?_
  refine x_S_I M_X12_areSweeps [vi x1] [.ref 80] hs rfl dX12_balance_2 (lkX12_384 _ rfl) (Nat.le_of_ble_eq_true rfl) (Nat.le_of_ble_eq_true rfl) (Nat.le_of_ble_eq_true rfl) (Nat.le_of_ble_eq_true rfl) (c_Mo_areSweeps hnx x1 s) (fun y1 hy1 hs => ?_)
  refine x_ifne hs dX12_balance_5 rfl (fun hs => ?_) (fun hs => ?_)
  · refine x_iconst dX12_balance_12 ?_
    exact q_Mo_balance_b13 hnx x1 0 s hs
  · refine x_iconst dX12_balance_8 ?_
    refine w_goto dX12_balance_9 rfl ?_
    exact q_Mo_balance_b13 hnx x1 1 s hs
set_option maxRecDepth 100000 in
theorem q_Mo_best_b69 {C : Cx} {nx : Nat} (hnx : 100 ≤ nx) {Qr : Option Value → Hp → Prop} {Qx : String → Hp → Prop}  (n : Nat) (rec : Int → Sg → Option (Int × Sg)) (hrec : ∀ x1 s r, rec x1 s = some r → mm C M_X12_best (6 + n) 0 0 nx nx [.ref 80, vi x1] (hp nx s) (QI nx r.2 r.1) XF) (x1 : Int) (x3 : Int) (s : Sg) {o : ((Int × Sg) ⊕ ((Sg) ⊕ (Sg)))} (hs : Mo_best_b69 rec x1 x3 s = some o) (hb : ∀ σ : Int × Sg, o = .inl σ → ww C M_X12_best (7 + n) 0 0 nx (Qr) (Qx) nx 0 0 14 [(0, .ref 80), (1, vi x1), (3, vi σ.1)] [] (hp nx σ.2)) (he0 : ∀ ρ : Sg, o = .inr (.inl ρ) → ww C M_X12_best (7 + n) 0 0 nx (Qr) (Qx) nx 0 0 67 [(1, vi x1)] [] (hp nx ρ)) (he1 : ∀ ρ : Sg, o = .inr (.inr ρ) → ww C M_X12_best (7 + n) 0 0 nx (Qr) (Qx) nx 0 0 75 [(1, vi x1)] [] (hp nx ρ)) : ww C M_X12_best (7 + n) 0 0 nx (Qr) (Qx) nx 0 0 69 [(0, .ref 80), (1, vi x1), (3, vi x3)] [] (hp nx s) := by
  unfold Mo_best_b69 at hs
  refine x_iinc (lv' := [(3, vi (x3 + 1)), (0, .ref 80), (1, vi x1)]) 2 dX12_best_69 rfl (Nat.le_of_ble_eq_true rfl) rfl ?_
  refine w_goto dX12_best_72 rfl ?_
  refine w_lv (lv' := [(0, .ref 80), (1, vi x1), (3, vi (x3 + 1))]) [1, 2, 0] rfl ?_
  cases hs
  exact hb _ rfl
set_option maxRecDepth 100000 in
theorem q_Mo_best_t14 {C : Cx} {nx : Nat} (hnx : 100 ≤ nx) {Qr : Option Value → Hp → Prop} {Qx : String → Hp → Prop}  (n : Nat) (rec : Int → Sg → Option (Int × Sg)) (hrec : ∀ x1 s r, rec x1 s = some r → mm C M_X12_best (6 + n) 0 0 nx nx [.ref 80, vi x1] (hp nx s) (QI nx r.2 r.1) XF) (x1 : Int) (x3 : Int) (s : Sg) {o : ((Int × Sg) ⊕ ((Sg) ⊕ (Sg)))} (hs : Mo_best_t14 rec x1 x3 s = some o) (hb : ∀ σ : Int × Sg, o = .inl σ → ww C M_X12_best (7 + n) 0 0 nx (Qr) (Qx) nx 0 0 14 [(0, .ref 80), (1, vi x1), (3, vi σ.1)] [] (hp nx σ.2)) (he0 : ∀ ρ : Sg, o = .inr (.inl ρ) → ww C M_X12_best (7 + n) 0 0 nx (Qr) (Qx) nx 0 0 67 [(1, vi x1)] [] (hp nx ρ)) (he1 : ∀ ρ : Sg, o = .inr (.inr ρ) → ww C M_X12_best (7 + n) 0 0 nx (Qr) (Qx) nx 0 0 75 [(1, vi x1)] [] (hp nx ρ)) : ww C M_X12_best (7 + n) 0 0 nx (Qr) (Qx) nx 0 0 14 [(0, .ref 80), (1, vi x1), (3, vi x3)] [] (hp nx s) := by
  unfold Mo_best_t14 at hs
  refine w_iload_n 2 dX12_best_14 rfl rfl ?_
  refine w_aload_n 0 dX12_best_15 rfl rfl ?_
  refine x_V_I M_X12_cells [] [vi x3] hs rfl dX12_best_16 (lkX12_212 _ rfl) (lt_of hnx (Nat.le_of_ble_eq_true rfl)) rfl rfl (by omega) (Nat.le_of_ble_eq_true rfl) (Nat.le_of_ble_eq_true rfl) (Nat.le_of_ble_eq_true rfl) (c_Mo_cells hnx s) (fun y3 hy3 hs => ?_)
  refine x_icmpge hs dX12_best_19 rfl (fun hs => ?_) (fun hs => ?_)
  · refine w_lv (lv' := [(1, vi x1)]) [1] rfl ?_
    cases hs
    exact he1 _ rfl
  · refine w_aload_n 0 dX12_best_22 rfl rfl ?_
    refine w_iload_n 2 dX12_best_23 rfl rfl ?_
    refine x_V_I M_X12_stone [vi x3] [] hs rfl dX12_best_24 (lkX12_215 _ rfl) (lt_of hnx (Nat.le_of_ble_eq_true rfl)) rfl rfl (by omega) (Nat.le_of_ble_eq_true rfl) (Nat.le_of_ble_eq_true rfl) (Nat.le_of_ble_eq_true rfl) (c_Mo_stone hnx x3 s) (fun y4 hy4 hs => ?_)
    refine x_iconst dX12_best_27 ?_
    refine x_icmpeq hs dX12_best_28 rfl (fun hs => ?_) (fun hs => ?_)
    · refine w_aload_n 0 dX12_best_34 rfl rfl ?_
      refine x_getR 12 1 (b := 81) dX12_best_35 (fxX12_9 rfl) rfl rfl (lt_of hnx (Nat.le_of_ble_eq_true rfl)) rfl ?_
      refine x_iconst dX12_best_38 ?_
      refine w_iload_n 2 dX12_best_39 rfl rfl ?_
      refine x_iadd dX12_best_40 ?_
      refine w_iload_n 1 dX12_best_41 rfl rfl ?_
      refine grd_e hs (fun hg5 hs => ?_)
      refine x_iast hg5 (Nat.le_of_ble_eq_true rfl) dX12_best_42 rfl (lt_of hnx (Nat.le_of_ble_eq_true rfl)) ?_
      refine nam_s hs (fun s6 hs => ?_)
      refine w_aload_n 0 dX12_best_43 rfl rfl ?_
      refine x_iconst dX12_best_44 ?_
      refine w_iload_n 1 dX12_best_45 rfl rfl ?_
      refine x_isub dX12_best_46 ?_
      refine x_V_B M_X12_best [vi (1 - x1)] [] hs rfl dX12_best_47 (lkX12_393 _ rfl) (lt_of hnx (Nat.le_of_ble_eq_true rfl)) rfl rfl (by omega) (Nat.le_of_ble_eq_true rfl) (Nat.le_of_ble_eq_true rfl) (Nat.le_of_ble_eq_true rfl) (hrec (1 - x1) s6) (fun y7 s8 hy7 hs => ?_)
      refine w_istore (lv' := [(4, vi y7), (0, .ref 80), (1, vi x1), (3, vi x3)]) dX12_best_50 (Nat.le_of_ble_eq_true rfl) rfl ?_
      refine w_aload_n 1 dX12_best_52 rfl rfl ?_
      refine x_getR 12 1 (b := 81) dX12_best_53 (fxX12_9 rfl) rfl rfl (lt_of hnx (Nat.le_of_ble_eq_true rfl)) rfl ?_
      refine x_iconst dX12_best_56 ?_
      refine w_iload_n 3 dX12_best_57 rfl rfl ?_
      refine x_iadd dX12_best_58 ?_
      refine x_iconst dX12_best_59 ?_
      refine grd_e hs (fun hg9 hs => ?_)
      refine x_iast hg9 (Nat.le_of_ble_eq_true rfl) dX12_best_60 rfl (lt_of hnx (Nat.le_of_ble_eq_true rfl)) ?_
      refine nam_s hs (fun s10 hs => ?_)
      refine w_iload 0 dX12_best_61 rfl ?_
      refine w_iload_n 2 dX12_best_63 rfl rfl ?_
      refine x_icmpne hs dX12_best_64 rfl (fun hs => ?_) (fun hs => ?_)
      · refine w_lv (lv' := [(0, .ref 80), (1, vi x1), (3, vi x3)]) [1, 2, 3] rfl ?_
        exact q_Mo_best_b69 hnx n rec hrec x1 x3 s10 hs hb he0 he1
      · refine w_lv (lv' := [(1, vi x1)]) [2] rfl ?_
        cases hs
        exact he0 _ rfl
    · refine w_goto dX12_best_31 rfl ?_
      exact q_Mo_best_b69 hnx n rec hrec x1 x3 s hs hb he0 he1
set_option maxRecDepth 100000 in
theorem q_Mo_best_l14 {C : Cx} {nx : Nat} (hnx : 100 ≤ nx) (n : Nat) (rec : Int → Sg → Option (Int × Sg)) (hrec : ∀ x1 s r, rec x1 s = some r → mm C M_X12_best (6 + n) 0 0 nx nx [.ref 80, vi x1] (hp nx s) (QI nx r.2 r.1) XF) (x1 : Int) (x3 : Int) (s : Sg) {o : Int × Sg} (hs : Mo_best_l14 rec x1 x3 s = some o) : ww C M_X12_best (7 + n) 0 0 nx (QI nx o.2 o.1) (XF) nx 0 0 14 [(0, .ref 80), (1, vi x1), (3, vi x3)] [] (hp nx s) := by
  unfold Mo_best_l14 at hs
  refine bnd_e hs (fun ρ hw hs => ?_)
  rcases ρ with s_11 | s_12
  · have hE : ww C M_X12_best (7 + n) 0 0 nx (QI nx o.2 o.1) (XF) nx 0 0 67 [(1, vi x1)] [] (hp nx s_11) := by
      refine w_iload_n 0 dX12_best_67 rfl rfl ?_
      cases hs
      exact x_ireturn dX12_best_68 rfl rfl (Nat.le_of_ble_eq_true rfl) (Nat.le_of_ble_eq_true rfl) ⟨rfl, rfl⟩
    refine whl_w (P := fun σ => ww C M_X12_best (7 + n) 0 0 nx (QI nx o.2 o.1) (XF) nx 0 0 14 [(0, .ref 80), (1, vi x1), (3, vi σ.1)] [] (hp nx σ.2)) (E := fun ρ => ρ = (.inl s_11)) hw rfl ?_
    intro σ o' hs' hb' he'
    exact q_Mo_best_t14 hnx n rec hrec x1 σ.1 σ.2 hs' hb' (fun ρ e => by cases he' _ e; exact hE) (fun ρ e => by cases he' _ e)
  · have hE : ww C M_X12_best (7 + n) 0 0 nx (QI nx o.2 o.1) (XF) nx 0 0 75 [(1, vi x1)] [] (hp nx s_12) := by
      refine x_iconst dX12_best_75 ?_
      refine w_iload_n 0 dX12_best_76 rfl rfl ?_
      refine x_isub dX12_best_77 ?_
      cases hs
      exact x_ireturn dX12_best_78 rfl rfl (Nat.le_of_ble_eq_true rfl) (Nat.le_of_ble_eq_true rfl) ⟨rfl, rfl⟩
    refine whl_w (P := fun σ => ww C M_X12_best (7 + n) 0 0 nx (QI nx o.2 o.1) (XF) nx 0 0 14 [(0, .ref 80), (1, vi x1), (3, vi σ.1)] [] (hp nx σ.2)) (E := fun ρ => ρ = (.inr s_12)) hw rfl ?_
    intro σ o' hs' hb' he'
    exact q_Mo_best_t14 hnx n rec hrec x1 σ.1 σ.2 hs' hb' (fun ρ e => by cases he' _ e) (fun ρ e => by cases he' _ e; exact hE)
set_option maxRecDepth 100000 in
theorem c_Mo_best {C : Cx} {nx : Nat} (hnx : 100 ≤ nx) : ∀ (n : Nat) (x1 : Int) (s : Sg), ∀ o, Mo_best n x1 s = some o → mm C M_X12_best (6 + n) 0 0 nx nx [.ref 80, vi x1] (hp nx s) (QI nx o.2 o.1) XF
  | 0, x1, s, o, hs => by cases hs
  | n + 1, x1, s, o, hs => by
    have hrec : ∀ x1 s r, (Mo_best n) x1 s = some r → mm C M_X12_best (6 + n) 0 0 nx nx [.ref 80, vi x1] (hp nx s) (QI nx r.2 r.1) XF := fun x1 s r h => c_Mo_best hnx n x1 s r h
    generalize hr0 : Mo_best n = rec at hrec
    have hs : Mo_best_r rec x1 s = some o := by rw [← hr0]; exact hs
    unfold Mo_best_r at hs
    rw [show (6 : Nat) + (n + 1) = 7 + n from by omega]
    refine mm_of rfl rfl (Nat.le_of_ble_eq_true rfl) ?_
    show ww C M_X12_best (7 + n) 0 0 nx (QI nx o.2 o.1) (XF) nx 0 0 0 [(0, .ref 80), (1, vi x1)] [] (hp nx s)
    refine w_aload_n 0 dX12_best_0 rfl rfl ?_
    refine x_V_B M_X12_joined [] [] hs rfl dX12_best_1 (lkX12_251 _ rfl) (lt_of hnx (Nat.le_of_ble_eq_true rfl)) rfl rfl (by omega) (Nat.le_of_ble_eq_true rfl) (Nat.le_of_ble_eq_true rfl) (Nat.le_of_ble_eq_true rfl) (c_Mo_joined hnx s) (fun y1 s2 hy1 hs => ?_)
    refine w_istore_n (lv' := [(2, vi y1), (0, .ref 80), (1, vi x1)]) dX12_best_4 rfl (Nat.le_of_ble_eq_true rfl) rfl ?_
    refine w_iload_n 0 dX12_best_5 rfl rfl ?_
    refine x_iconst dX12_best_6 ?_
    refine x_icmpeq hs dX12_best_7 rfl (fun hs => ?_) (fun hs => ?_)
    · refine x_iconst dX12_best_12 ?_
      refine w_istore_n (lv' := [(3, vi 0), (2, vi y1), (0, .ref 80), (1, vi x1)]) dX12_best_13 rfl (Nat.le_of_ble_eq_true rfl) rfl ?_
      refine w_lv (lv' := [(0, .ref 80), (1, vi x1), (3, vi 0)]) [2, 3, 0] rfl ?_
      exact q_Mo_best_l14 hnx n rec hrec x1 0 s2 hs
    · refine w_iload_n 0 dX12_best_10 rfl rfl ?_
      cases hs
      exact x_ireturn dX12_best_11 rfl rfl (Nat.le_of_ble_eq_true rfl) (Nat.le_of_ble_eq_true rfl) ⟨rfl, rfl⟩
set_option maxRecDepth 100000 in
theorem c_Mo_isFew {C : Cx} {nx : Nat} (hnx : 100 ≤ nx)  (s : Sg) : ∀ o, Mo_isFew  s = some o → mm C M_X12_isFew 2 0 0 nx nx [.ref 80] (hp nx s) (QI nx s o) (XF) := by
  intro o hs
  unfold Mo_isFew at hs
  refine mm_of rfl rfl (Nat.le_of_ble_eq_true rfl) ?_
  show ww C M_X12_isFew 2 0 0 nx (QI nx s o) (XF) nx 0 0 0 [(0, .ref 80)] [] (hp nx s)
  refine w_aload_n 0 dX12_isFew_0 rfl rfl ?_
  refine x_iconst dX12_isFew_1 ?_
  refine x_V_I M_X12_stonesOf [vi (-1)] [] hs rfl dX12_isFew_2 (lkX12_291 _ rfl) (lt_of hnx (Nat.le_of_ble_eq_true rfl)) rfl rfl (Nat.le_of_ble_eq_true rfl) (Nat.le_of_ble_eq_true rfl) (Nat.le_of_ble_eq_true rfl) (Nat.le_of_ble_eq_true rfl) (c_Mo_stonesOf hnx (-1) s) (fun y1 hy1 hs => ?_)
  refine x_bipush dX12_isFew_5 (by decide) ?_
  refine x_icmpgt hs dX12_isFew_7 rfl (fun hs => ?_) (fun hs => ?_)
  · refine x_iconst dX12_isFew_14 ?_
    cases hs
    exact x_zreturn (Or.inl rfl) dX12_isFew_15 rfl rfl (Nat.le_of_ble_eq_true rfl) (Nat.le_of_ble_eq_true rfl) ⟨rfl, rfl⟩
  · refine x_iconst dX12_isFew_10 ?_
    refine w_goto dX12_isFew_11 rfl ?_
    cases hs
    exact x_zreturn (Or.inr rfl) dX12_isFew_15 rfl rfl (Nat.le_of_ble_eq_true rfl) (Nat.le_of_ble_eq_true rfl) ⟨rfl, rfl⟩
set_option maxRecDepth 100000 in
theorem c_Mo_solved {C : Cx} {nx : Nat} (hnx : 100 ≤ nx)  (s : Sg) : ∀ o, Mo_solved  s = some o → mm C M_X12_solved 15 0 0 nx nx [.ref 80] (hp nx s) (QI nx o.2 o.1) (XF) := by
  intro o hs
  unfold Mo_solved at hs
  refine mm_of rfl rfl (Nat.le_of_ble_eq_true rfl) ?_
  show ww C M_X12_solved 15 0 0 nx (QI nx o.2 o.1) (XF) nx 0 0 0 [(0, .ref 80)] [] (hp nx s)
  refine w_aload_n 0 dX12_solved_0 rfl rfl ?_
  refine x_iconst dX12_solved_1 ?_
  refine x_putI 12 0 dX12_solved_2 (poX12_77 rfl) rfl rfl (lt_of hnx (Nat.le_of_ble_eq_true rfl)) ?_
  refine nam_s hs (fun s1 hs => ?_)
  refine w_aload_n 0 dX12_solved_5 rfl rfl ?_
  refine x_V_B M_X12_winner [] [] hs rfl dX12_solved_6 (lkX12_155 _ rfl) (lt_of hnx (Nat.le_of_ble_eq_true rfl)) rfl rfl (Nat.le_of_ble_eq_true rfl) (Nat.le_of_ble_eq_true rfl) (Nat.le_of_ble_eq_true rfl) (Nat.le_of_ble_eq_true rfl) (c_Mo_winner hnx s1) (fun y2 s3 hy2 hs => ?_)
  refine w_istore_n (lv' := [(1, vi y2), (0, .ref 80)]) dX12_solved_9 rfl (Nat.le_of_ble_eq_true rfl) rfl ?_
  refine w_iload_n 0 dX12_solved_10 rfl rfl ?_
  refine x_iconst dX12_solved_11 ?_
  refine x_icmpeq hs dX12_solved_12 rfl (fun hs => ?_) (fun hs => ?_)
  · refine w_aload_n 1 dX12_solved_19 rfl rfl ?_
    refine x_V_I M_X12_isFew [] [] hs rfl dX12_solved_20 (lkX12_396 _ rfl) (lt_of hnx (Nat.le_of_ble_eq_true rfl)) rfl rfl (Nat.le_of_ble_eq_true rfl) (Nat.le_of_ble_eq_true rfl) (Nat.le_of_ble_eq_true rfl) (Nat.le_of_ble_eq_true rfl) (c_Mo_isFew hnx s3) (fun y4 hy4 hs => ?_)
    refine x_ifeq hs dX12_solved_23 rfl (fun hs => ?_) (fun hs => ?_)
    · refine x_iconst dX12_solved_39 ?_
      cases hs
      exact x_ireturn dX12_solved_40 rfl rfl (Nat.le_of_ble_eq_true rfl) (Nat.le_of_ble_eq_true rfl) ⟨rfl, rfl⟩
    · refine w_aload_n 1 dX12_solved_26 rfl rfl ?_
      refine w_aload_n 1 dX12_solved_27 rfl rfl ?_
      refine x_getR 12 1 (b := 81) dX12_solved_28 (fxX12_9 rfl) rfl rfl (lt_of hnx (Nat.le_of_ble_eq_true rfl)) rfl ?_
      refine x_iconst dX12_solved_31 ?_
      refine grd_e hs (fun hg5 hs => ?_)
      refine x_iald ⟨by decide, by decide⟩ (Nat.le_of_ble_eq_true rfl) dX12_solved_32 (Or.inl ⟨rfl, (lt_of hnx (Nat.le_of_ble_eq_true rfl))⟩) ?_
      refine x_V_B M_X12_best [vi (gi s3 81 2)] [] hs rfl dX12_solved_33 (lkX12_393 _ rfl) (lt_of hnx (Nat.le_of_ble_eq_true rfl)) rfl rfl (Nat.le_of_ble_eq_true rfl) (Nat.le_of_ble_eq_true rfl) (Nat.le_of_ble_eq_true rfl) (Nat.le_of_ble_eq_true rfl) (c_Mo_best hnx 8 (gi s3 81 2) s3) (fun y6 s7 hy6 hs => ?_)
      refine w_goto dX12_solved_36 rfl ?_
      cases hs
      exact x_ireturn dX12_solved_40 rfl rfl (Nat.le_of_ble_eq_true rfl) (Nat.le_of_ble_eq_true rfl) ⟨rfl, rfl⟩
  · refine w_iload_n 0 dX12_solved_15 rfl rfl ?_
    refine w_goto dX12_solved_16 rfl ?_
    cases hs
    exact x_ireturn dX12_solved_40 rfl rfl (Nat.le_of_ble_eq_true rfl) (Nat.le_of_ble_eq_true rfl) ⟨rfl, rfl⟩
set_option maxRecDepth 100000 in
theorem q_Mo_isGood_b51 {C : Cx} {nx : Nat} (hnx : 100 ≤ nx) (x1 : Int) (t0 : Int) (s : Sg) {o : Int × Sg} (hs : Mo_isGood_b51 x1 t0 s = some o) : ww C M_X12_isGood 15 0 0 nx (QI nx o.2 o.1) (XF) nx 0 0 51 [(0, .ref 80), (1, vi x1)] [vi t0] (hp nx s) := by
  unfold Mo_isGood_b51 at hs
  refine w_istore_n (lv' := [(2, vi t0), (0, .ref 80), (1, vi x1)]) dX12_isGood_51 rfl (Nat.le_of_ble_eq_true rfl) rfl ?_
  refine w_aload_n 1 dX12_isGood_52 rfl rfl ?_
  refine x_getR 12 1 (b := 81) dX12_isGood_53 (fxX12_9 rfl) rfl rfl (lt_of hnx (Nat.le_of_ble_eq_true rfl)) rfl ?_
  refine x_iconst dX12_isGood_56 ?_
  refine w_iload_n 2 dX12_isGood_57 rfl rfl ?_
  refine x_iadd dX12_isGood_58 ?_
  refine x_iconst dX12_isGood_59 ?_
  refine grd_e hs (fun hg9 hs => ?_)
  refine x_iast hg9 (Nat.le_of_ble_eq_true rfl) dX12_isGood_60 rfl (lt_of hnx (Nat.le_of_ble_eq_true rfl)) ?_
  refine nam_s hs (fun s10 hs => ?_)
  refine w_iload_n 0 dX12_isGood_61 rfl rfl ?_
  refine grd_e hs (fun hg11 hs => ?_)
  cases hs
  exact x_zreturn hg11 dX12_isGood_62 rfl rfl (Nat.le_of_ble_eq_true rfl) (Nat.le_of_ble_eq_true rfl) ⟨rfl, rfl⟩
set_option maxRecDepth 100000 in
theorem c_Mo_isGood {C : Cx} {nx : Nat} (hnx : 100 ≤ nx) (x1 : Int) (s : Sg) : ∀ o, Mo_isGood x1 s = some o → mm C M_X12_isGood 15 0 0 nx nx [.ref 80, vi x1] (hp nx s) (QI nx o.2 o.1) (XF) := by
  intro o hs
  unfold Mo_isGood at hs
  refine mm_of rfl rfl (Nat.le_of_ble_eq_true rfl) ?_
  show ww C M_X12_isGood 15 0 0 nx (QI nx o.2 o.1) (XF) nx 0 0 0 [(0, .ref 80), (1, vi x1)] [] (hp nx s)
  refine w_aload_n 0 dX12_isGood_0 rfl rfl ?_
  refine w_iload_n 1 dX12_isGood_1 rfl rfl ?_
  refine x_V_I M_X12_stone [vi x1] [] hs rfl dX12_isGood_2 (lkX12_215 _ rfl) (lt_of hnx (Nat.le_of_ble_eq_true rfl)) rfl rfl (Nat.le_of_ble_eq_true rfl) (Nat.le_of_ble_eq_true rfl) (Nat.le_of_ble_eq_true rfl) (Nat.le_of_ble_eq_true rfl) (c_Mo_stone hnx x1 s) (fun y1 hy1 hs => ?_)
  refine x_iconst dX12_isGood_5 ?_
  refine x_icmpeq hs dX12_isGood_6 rfl (fun hs => ?_) (fun hs => ?_)
  · refine w_aload_n 0 dX12_isGood_11 rfl rfl ?_
    refine x_getR 12 1 (b := 81) dX12_isGood_12 (fxX12_9 rfl) rfl rfl (lt_of hnx (Nat.le_of_ble_eq_true rfl)) rfl ?_
    refine x_iconst dX12_isGood_15 ?_
    refine w_iload_n 1 dX12_isGood_16 rfl rfl ?_
    refine x_iadd dX12_isGood_17 ?_
    refine w_aload_n 0 dX12_isGood_18 rfl rfl ?_
    refine x_getR 12 1 (b := 81) dX12_isGood_19 (fxX12_9 rfl) rfl rfl (lt_of hnx (Nat.le_of_ble_eq_true rfl)) rfl ?_
    refine x_iconst dX12_isGood_22 ?_
    refine grd_e hs (fun hg2 hs => ?_)
    refine x_iald ⟨by decide, by decide⟩ (Nat.le_of_ble_eq_true rfl) dX12_isGood_23 (Or.inl ⟨rfl, (lt_of hnx (Nat.le_of_ble_eq_true rfl))⟩) ?_
    refine grd_e hs (fun hg3 hs => ?_)
    refine x_iast hg3 (Nat.le_of_ble_eq_true rfl) dX12_isGood_24 rfl (lt_of hnx (Nat.le_of_ble_eq_true rfl)) ?_
    refine nam_s hs (fun s4 hs => ?_)
    refine w_aload_n 0 dX12_isGood_25 rfl rfl ?_
    refine x_iconst dX12_isGood_26 ?_
    refine w_aload_n 0 dX12_isGood_27 rfl rfl ?_
    refine x_getR 12 1 (b := 81) dX12_isGood_28 (fxX12_9 rfl) rfl rfl (lt_of hnx (Nat.le_of_ble_eq_true rfl)) rfl ?_
    refine x_iconst dX12_isGood_31 ?_
    refine grd_e hs (fun hg5 hs => ?_)
    refine x_iald ⟨by decide, by decide⟩ (Nat.le_of_ble_eq_true rfl) dX12_isGood_32 (Or.inl ⟨rfl, (lt_of hnx (Nat.le_of_ble_eq_true rfl))⟩) ?_
    refine x_isub dX12_isGood_33 ?_
    refine x_V_B M_X12_best [vi (1 - (gi s4 81 2))] [] hs rfl dX12_isGood_34 (lkX12_393 _ rfl) (lt_of hnx (Nat.le_of_ble_eq_true rfl)) rfl rfl (Nat.le_of_ble_eq_true rfl) (Nat.le_of_ble_eq_true rfl) (Nat.le_of_ble_eq_true rfl) (Nat.le_of_ble_eq_true rfl) (c_Mo_best hnx 8 (1 - (gi s4 81 2)) s4) (fun y6 s7 hy6 hs => ?_)
    refine w_aload_n 0 dX12_isGood_37 rfl rfl ?_
    refine x_getR 12 1 (b := 81) dX12_isGood_38 (fxX12_9 rfl) rfl rfl (lt_of hnx (Nat.le_of_ble_eq_true rfl)) rfl ?_
    refine x_iconst dX12_isGood_41 ?_
    refine grd_e hs (fun hg8 hs => ?_)
    refine x_iald ⟨by decide, by decide⟩ (Nat.le_of_ble_eq_true rfl) dX12_isGood_42 (Or.inl ⟨rfl, (lt_of hnx (Nat.le_of_ble_eq_true rfl))⟩) ?_
    refine x_icmpne hs dX12_isGood_43 rfl (fun hs => ?_) (fun hs => ?_)
    · refine x_iconst dX12_isGood_50 ?_
      exact q_Mo_isGood_b51 hnx x1 0 s7 hs
    · refine x_iconst dX12_isGood_46 ?_
      refine w_goto dX12_isGood_47 rfl ?_
      exact q_Mo_isGood_b51 hnx x1 1 s7 hs
  · refine x_iconst dX12_isGood_9 ?_
    cases hs
    exact x_zreturn (Or.inl rfl) dX12_isGood_10 rfl rfl (Nat.le_of_ble_eq_true rfl) (Nat.le_of_ble_eq_true rfl) ⟨rfl, rfl⟩
set_option maxRecDepth 100000 in
theorem q_Mo_goodMoves_b50 {C : Cx} {nx : Nat} (hnx : 100 ≤ nx) {Qr : Option Value → Hp → Prop} {Qx : String → Hp → Prop}  (x2 : Int) (t0 : Int) (t1 : Int) (s : Sg) {o : ((Int × Int × Sg) ⊕ (Int × Sg))} (hs : Mo_goodMoves_b50 x2 t0 t1 s = some o) (hb : ∀ σ : Int × Int × Sg, o = .inl σ → ww C M_X12_goodMoves 16 0 0 nx (Qr) (Qx) nx 0 0 28 [(0, .ref 80), (1, vi σ.1), (2, vi σ.2.1)] [] (hp nx σ.2.2)) (he0 : ∀ ρ : Int × Sg, o = .inr ρ → ww C M_X12_goodMoves 16 0 0 nx (Qr) (Qx) nx 0 0 58 [(1, vi ρ.1)] [] (hp nx ρ.2)) : ww C M_X12_goodMoves 16 0 0 nx (Qr) (Qx) nx 0 0 50 [(0, .ref 80), (2, vi x2)] [vi t1, vi t0] (hp nx s) := by
  unfold Mo_goodMoves_b50 at hs
  refine x_iadd dX12_goodMoves_50 ?_
  refine x_istore_n (fun x1_8 => [(1, vi x1_8), (0, .ref 80), (2, vi x2)]) hs dX12_goodMoves_51 rfl (Nat.le_of_ble_eq_true rfl) (fun _ => rfl) (fun x1_8 hs => ?_)
  refine x_iinc (lv' := [(2, vi (x2 + 1)), (1, vi x1_8), (0, .ref 80)]) 2 dX12_goodMoves_52 rfl (Nat.le_of_ble_eq_true rfl) rfl ?_
  refine w_goto dX12_goodMoves_55 rfl ?_
  refine w_lv (lv' := [(0, .ref 80), (1, vi x1_8), (2, vi (x2 + 1))]) [2, 1, 0] rfl ?_
  cases hs
  exact hb _ rfl
set_option maxRecDepth 100000 in
theorem q_Mo_goodMoves_t28 {C : Cx} {nx : Nat} (hnx : 100 ≤ nx) {Qr : Option Value → Hp → Prop} {Qx : String → Hp → Prop}  (x1 : Int) (x2 : Int) (s : Sg) {o : ((Int × Int × Sg) ⊕ (Int × Sg))} (hs : Mo_goodMoves_t28 x1 x2 s = some o) (hb : ∀ σ : Int × Int × Sg, o = .inl σ → ww C M_X12_goodMoves 16 0 0 nx (Qr) (Qx) nx 0 0 28 [(0, .ref 80), (1, vi σ.1), (2, vi σ.2.1)] [] (hp nx σ.2.2)) (he0 : ∀ ρ : Int × Sg, o = .inr ρ → ww C M_X12_goodMoves 16 0 0 nx (Qr) (Qx) nx 0 0 58 [(1, vi ρ.1)] [] (hp nx ρ.2)) : ww C M_X12_goodMoves 16 0 0 nx (Qr) (Qx) nx 0 0 28 [(0, .ref 80), (1, vi x1), (2, vi x2)] [] (hp nx s) := by
  unfold Mo_goodMoves_t28 at hs
  refine w_iload_n 2 dX12_goodMoves_28 rfl rfl ?_
  refine w_aload_n 0 dX12_goodMoves_29 rfl rfl ?_
  refine x_V_I M_X12_cells [] [vi x2] hs rfl dX12_goodMoves_30 (lkX12_212 _ rfl) (lt_of hnx (Nat.le_of_ble_eq_true rfl)) rfl rfl (Nat.le_of_ble_eq_true rfl) (Nat.le_of_ble_eq_true rfl) (Nat.le_of_ble_eq_true rfl) (Nat.le_of_ble_eq_true rfl) (c_Mo_cells hnx s) (fun y5 hy5 hs => ?_)
  refine x_icmpge hs dX12_goodMoves_33 rfl (fun hs => ?_) (fun hs => ?_)
  · refine w_lv (lv' := [(1, vi x1)]) [1] rfl ?_
    cases hs
    exact he0 _ rfl
  · refine w_iload_n 1 dX12_goodMoves_36 rfl rfl ?_
    refine w_aload_n 0 dX12_goodMoves_37 rfl rfl ?_
    refine w_iload_n 2 dX12_goodMoves_38 rfl rfl ?_
    refine x_V_B M_X12_isGood [vi x2] [vi x1] hs rfl dX12_goodMoves_39 (lkX12_399 _ rfl) (lt_of hnx (Nat.le_of_ble_eq_true rfl)) rfl rfl (Nat.le_of_ble_eq_true rfl) (Nat.le_of_ble_eq_true rfl) (Nat.le_of_ble_eq_true rfl) (Nat.le_of_ble_eq_true rfl) (c_Mo_isGood hnx x2 s) (fun y6 s7 hy6 hs => ?_)
    refine x_ifeq hs dX12_goodMoves_42 rfl (fun hs => ?_) (fun hs => ?_)
    · refine x_iconst dX12_goodMoves_49 ?_
      refine w_lv (lv' := [(0, .ref 80), (2, vi x2)]) [0, 2] rfl ?_
      exact q_Mo_goodMoves_b50 hnx x2 x1 0 s7 hs hb he0
    · refine x_iconst dX12_goodMoves_45 ?_
      refine w_goto dX12_goodMoves_46 rfl ?_
      refine w_lv (lv' := [(0, .ref 80), (2, vi x2)]) [0, 2] rfl ?_
      exact q_Mo_goodMoves_b50 hnx x2 x1 1 s7 hs hb he0
set_option maxRecDepth 100000 in
theorem q_Mo_goodMoves_l28 {C : Cx} {nx : Nat} (hnx : 100 ≤ nx) (x1 : Int) (x2 : Int) (s : Sg) {o : Int × Sg} (hs : Mo_goodMoves_l28 x1 x2 s = some o) : ww C M_X12_goodMoves 16 0 0 nx (QI nx o.2 o.1) (XF) nx 0 0 28 [(0, .ref 80), (1, vi x1), (2, vi x2)] [] (hp nx s) := by
  unfold Mo_goodMoves_l28 at hs
  refine bnd_e hs (fun ρ hw hs => ?_)
  obtain ⟨x1_9, s_10⟩ := ρ
  have hE : ww C M_X12_goodMoves 16 0 0 nx (QI nx o.2 o.1) (XF) nx 0 0 58 [(1, vi x1_9)] [] (hp nx s_10) := by
    refine w_iload_n 0 dX12_goodMoves_58 rfl rfl ?_
    cases hs
    exact x_ireturn dX12_goodMoves_59 rfl rfl (Nat.le_of_ble_eq_true rfl) (Nat.le_of_ble_eq_true rfl) ⟨rfl, rfl⟩
  refine whl_w (P := fun σ => ww C M_X12_goodMoves 16 0 0 nx (QI nx o.2 o.1) (XF) nx 0 0 28 [(0, .ref 80), (1, vi σ.1), (2, vi σ.2.1)] [] (hp nx σ.2.2)) (E := fun ρ => ρ = (x1_9, s_10)) hw rfl ?_
  intro σ o' hs' hb' he'
  exact q_Mo_goodMoves_t28 hnx σ.1 σ.2.1 σ.2.2 hs' hb' (fun ρ e => by cases he' _ e; exact hE)
set_option maxRecDepth 100000 in
theorem c_Mo_goodMoves {C : Cx} {nx : Nat} (hnx : 100 ≤ nx)  (s : Sg) : ∀ o, Mo_goodMoves  s = some o → mm C M_X12_goodMoves 16 0 0 nx nx [.ref 80] (hp nx s) (QI nx o.2 o.1) (XF) := by
  intro o hs
  unfold Mo_goodMoves at hs
  refine mm_of rfl rfl (Nat.le_of_ble_eq_true rfl) ?_
  show ww C M_X12_goodMoves 16 0 0 nx (QI nx o.2 o.1) (XF) nx 0 0 0 [(0, .ref 80)] [] (hp nx s)
  refine w_aload_n 0 dX12_goodMoves_0 rfl rfl ?_
  refine x_iconst dX12_goodMoves_1 ?_
  refine x_putI 12 0 dX12_goodMoves_2 (poX12_77 rfl) rfl rfl (lt_of hnx (Nat.le_of_ble_eq_true rfl)) ?_
  refine nam_s hs (fun s1 hs => ?_)
  refine w_aload_n 0 dX12_goodMoves_5 rfl rfl ?_
  refine x_V_B M_X12_winner [] [] hs rfl dX12_goodMoves_6 (lkX12_155 _ rfl) (lt_of hnx (Nat.le_of_ble_eq_true rfl)) rfl rfl (Nat.le_of_ble_eq_true rfl) (Nat.le_of_ble_eq_true rfl) (Nat.le_of_ble_eq_true rfl) (Nat.le_of_ble_eq_true rfl) (c_Mo_winner hnx s1) (fun y2 s3 hy2 hs => ?_)
  refine x_iconst dX12_goodMoves_9 ?_
  refine x_icmpeq hs dX12_goodMoves_10 rfl (fun hs => ?_) (fun hs => ?_)
  · refine w_aload_n 0 dX12_goodMoves_15 rfl rfl ?_
    refine x_V_I M_X12_isFew [] [] hs rfl dX12_goodMoves_16 (lkX12_396 _ rfl) (lt_of hnx (Nat.le_of_ble_eq_true rfl)) rfl rfl (Nat.le_of_ble_eq_true rfl) (Nat.le_of_ble_eq_true rfl) (Nat.le_of_ble_eq_true rfl) (Nat.le_of_ble_eq_true rfl) (c_Mo_isFew hnx s3) (fun y4 hy4 hs => ?_)
    refine x_ifne hs dX12_goodMoves_19 rfl (fun hs => ?_) (fun hs => ?_)
    · refine x_iconst dX12_goodMoves_24 ?_
      refine w_istore_n (lv' := [(1, vi 0), (0, .ref 80)]) dX12_goodMoves_25 rfl (Nat.le_of_ble_eq_true rfl) rfl ?_
      refine x_iconst dX12_goodMoves_26 ?_
      refine w_istore_n (lv' := [(2, vi 0), (1, vi 0), (0, .ref 80)]) dX12_goodMoves_27 rfl (Nat.le_of_ble_eq_true rfl) rfl ?_
      refine w_lv (lv' := [(0, .ref 80), (1, vi 0), (2, vi 0)]) [2, 1, 0] rfl ?_
      exact q_Mo_goodMoves_l28 hnx 0 0 s3 hs
    · refine x_iconst dX12_goodMoves_22 ?_
      cases hs
      exact x_ireturn dX12_goodMoves_23 rfl rfl (Nat.le_of_ble_eq_true rfl) (Nat.le_of_ble_eq_true rfl) ⟨rfl, rfl⟩
  · refine x_iconst dX12_goodMoves_13 ?_
    cases hs
    exact x_ireturn dX12_goodMoves_14 rfl rfl (Nat.le_of_ble_eq_true rfl) (Nat.le_of_ble_eq_true rfl) ⟨rfl, rfl⟩
set_option maxRecDepth 100000 in
theorem q_Mo_bestMove_t24 {C : Cx} {nx : Nat} (hnx : 100 ≤ nx) {Qr : Option Value → Hp → Prop} {Qx : String → Hp → Prop}  (x1 : Int) (s : Sg) {o : ((Int × Sg) ⊕ ((Int × Sg) ⊕ (Sg)))} (hs : Mo_bestMove_t24 x1 s = some o) (hb : ∀ σ : Int × Sg, o = .inl σ → ww C M_X12_bestMove 16 0 0 nx (Qr) (Qx) nx 0 0 24 [(0, .ref 80), (1, vi σ.1)] [] (hp nx σ.2)) (he0 : ∀ ρ : Int × Sg, o = .inr (.inl ρ) → ww C M_X12_bestMove 16 0 0 nx (Qr) (Qx) nx 0 0 40 [(1, vi ρ.1)] [] (hp nx ρ.2)) (he1 : ∀ ρ : Sg, o = .inr (.inr ρ) → ww C M_X12_bestMove 16 0 0 nx (Qr) (Qx) nx 0 0 48 [] [] (hp nx ρ)) : ww C M_X12_bestMove 16 0 0 nx (Qr) (Qx) nx 0 0 24 [(0, .ref 80), (1, vi x1)] [] (hp nx s) := by
  unfold Mo_bestMove_t24 at hs
  refine w_iload_n 1 dX12_bestMove_24 rfl rfl ?_
  refine w_aload_n 0 dX12_bestMove_25 rfl rfl ?_
  refine x_V_I M_X12_cells [] [vi x1] hs rfl dX12_bestMove_26 (lkX12_212 _ rfl) (lt_of hnx (Nat.le_of_ble_eq_true rfl)) rfl rfl (Nat.le_of_ble_eq_true rfl) (Nat.le_of_ble_eq_true rfl) (Nat.le_of_ble_eq_true rfl) (Nat.le_of_ble_eq_true rfl) (c_Mo_cells hnx s) (fun y5 hy5 hs => ?_)
  refine x_icmpge hs dX12_bestMove_29 rfl (fun hs => ?_) (fun hs => ?_)
  · refine w_lv (lv' := []) [] rfl ?_
    cases hs
    exact he1 _ rfl
  · refine w_aload_n 0 dX12_bestMove_32 rfl rfl ?_
    refine w_iload_n 1 dX12_bestMove_33 rfl rfl ?_
    refine x_V_B M_X12_isGood [vi x1] [] hs rfl dX12_bestMove_34 (lkX12_399 _ rfl) (lt_of hnx (Nat.le_of_ble_eq_true rfl)) rfl rfl (Nat.le_of_ble_eq_true rfl) (Nat.le_of_ble_eq_true rfl) (Nat.le_of_ble_eq_true rfl) (Nat.le_of_ble_eq_true rfl) (c_Mo_isGood hnx x1 s) (fun y6 s7 hy6 hs => ?_)
    refine x_ifeq hs dX12_bestMove_37 rfl (fun hs => ?_) (fun hs => ?_)
    · refine x_iinc (lv' := [(1, vi (x1 + 1)), (0, .ref 80)]) 1 dX12_bestMove_42 rfl (Nat.le_of_ble_eq_true rfl) rfl ?_
      refine w_goto dX12_bestMove_45 rfl ?_
      refine w_lv (lv' := [(0, .ref 80), (1, vi (x1 + 1))]) [1, 0] rfl ?_
      cases hs
      exact hb _ rfl
    · refine w_lv (lv' := [(1, vi x1)]) [1] rfl ?_
      cases hs
      exact he0 _ rfl
set_option maxRecDepth 100000 in
theorem q_Mo_bestMove_l24 {C : Cx} {nx : Nat} (hnx : 100 ≤ nx) (x1 : Int) (s : Sg) {o : Int × Sg} (hs : Mo_bestMove_l24 x1 s = some o) : ww C M_X12_bestMove 16 0 0 nx (QI nx o.2 o.1) (XF) nx 0 0 24 [(0, .ref 80), (1, vi x1)] [] (hp nx s) := by
  unfold Mo_bestMove_l24 at hs
  refine bnd_e hs (fun ρ hw hs => ?_)
  rcases ρ with ⟨x1_8, s_9⟩ | s_10
  · have hE : ww C M_X12_bestMove 16 0 0 nx (QI nx o.2 o.1) (XF) nx 0 0 40 [(1, vi x1_8)] [] (hp nx s_9) := by
      refine w_iload_n 0 dX12_bestMove_40 rfl rfl ?_
      cases hs
      exact x_ireturn dX12_bestMove_41 rfl rfl (Nat.le_of_ble_eq_true rfl) (Nat.le_of_ble_eq_true rfl) ⟨rfl, rfl⟩
    refine whl_w (P := fun σ => ww C M_X12_bestMove 16 0 0 nx (QI nx o.2 o.1) (XF) nx 0 0 24 [(0, .ref 80), (1, vi σ.1)] [] (hp nx σ.2)) (E := fun ρ => ρ = (.inl (x1_8, s_9))) hw rfl ?_
    intro σ o' hs' hb' he'
    exact q_Mo_bestMove_t24 hnx σ.1 σ.2 hs' hb' (fun ρ e => by cases he' _ e; exact hE) (fun ρ e => by cases he' _ e)
  · have hE : ww C M_X12_bestMove 16 0 0 nx (QI nx o.2 o.1) (XF) nx 0 0 48 [] [] (hp nx s_10) := by
      refine x_iconst dX12_bestMove_48 ?_
      cases hs
      exact x_ireturn dX12_bestMove_49 rfl rfl (Nat.le_of_ble_eq_true rfl) (Nat.le_of_ble_eq_true rfl) ⟨rfl, rfl⟩
    refine whl_w (P := fun σ => ww C M_X12_bestMove 16 0 0 nx (QI nx o.2 o.1) (XF) nx 0 0 24 [(0, .ref 80), (1, vi σ.1)] [] (hp nx σ.2)) (E := fun ρ => ρ = (.inr s_10)) hw rfl ?_
    intro σ o' hs' hb' he'
    exact q_Mo_bestMove_t24 hnx σ.1 σ.2 hs' hb' (fun ρ e => by cases he' _ e) (fun ρ e => by cases he' _ e; exact hE)
set_option maxRecDepth 100000 in
theorem c_Mo_bestMove {C : Cx} {nx : Nat} (hnx : 100 ≤ nx)  (s : Sg) : ∀ o, Mo_bestMove  s = some o → mm C M_X12_bestMove 16 0 0 nx nx [.ref 80] (hp nx s) (QI nx o.2 o.1) (XF) := by
  intro o hs
  unfold Mo_bestMove at hs
  refine mm_of rfl rfl (Nat.le_of_ble_eq_true rfl) ?_
  show ww C M_X12_bestMove 16 0 0 nx (QI nx o.2 o.1) (XF) nx 0 0 0 [(0, .ref 80)] [] (hp nx s)
  refine w_aload_n 0 dX12_bestMove_0 rfl rfl ?_
  refine x_iconst dX12_bestMove_1 ?_
  refine x_putI 12 0 dX12_bestMove_2 (poX12_77 rfl) rfl rfl (lt_of hnx (Nat.le_of_ble_eq_true rfl)) ?_
  refine nam_s hs (fun s1 hs => ?_)
  refine w_aload_n 0 dX12_bestMove_5 rfl rfl ?_
  refine x_V_B M_X12_winner [] [] hs rfl dX12_bestMove_6 (lkX12_155 _ rfl) (lt_of hnx (Nat.le_of_ble_eq_true rfl)) rfl rfl (Nat.le_of_ble_eq_true rfl) (Nat.le_of_ble_eq_true rfl) (Nat.le_of_ble_eq_true rfl) (Nat.le_of_ble_eq_true rfl) (c_Mo_winner hnx s1) (fun y2 s3 hy2 hs => ?_)
  refine x_iconst dX12_bestMove_9 ?_
  refine x_icmpne hs dX12_bestMove_10 rfl (fun hs => ?_) (fun hs => ?_)
  · refine x_iconst dX12_bestMove_20 ?_
    cases hs
    exact x_ireturn dX12_bestMove_21 rfl rfl (Nat.le_of_ble_eq_true rfl) (Nat.le_of_ble_eq_true rfl) ⟨rfl, rfl⟩
  · refine w_aload_n 0 dX12_bestMove_13 rfl rfl ?_
    refine x_V_I M_X12_isFew [] [] hs rfl dX12_bestMove_14 (lkX12_396 _ rfl) (lt_of hnx (Nat.le_of_ble_eq_true rfl)) rfl rfl (Nat.le_of_ble_eq_true rfl) (Nat.le_of_ble_eq_true rfl) (Nat.le_of_ble_eq_true rfl) (Nat.le_of_ble_eq_true rfl) (c_Mo_isFew hnx s3) (fun y4 hy4 hs => ?_)
    refine x_ifne hs dX12_bestMove_17 rfl (fun hs => ?_) (fun hs => ?_)
    · refine x_iconst dX12_bestMove_22 ?_
      refine w_istore_n (lv' := [(1, vi 0), (0, .ref 80)]) dX12_bestMove_23 rfl (Nat.le_of_ble_eq_true rfl) rfl ?_
      refine w_lv (lv' := [(0, .ref 80), (1, vi 0)]) [1, 0] rfl ?_
      exact q_Mo_bestMove_l24 hnx 0 s3 hs
    · refine x_iconst dX12_bestMove_20 ?_
      cases hs
      exact x_ireturn dX12_bestMove_21 rfl rfl (Nat.le_of_ble_eq_true rfl) (Nat.le_of_ble_eq_true rfl) ⟨rfl, rfl⟩
set_option maxRecDepth 100000 in
theorem q_Mo_fills_b72 {C : Cx} {nx : Nat} (hnx : 100 ≤ nx) {Qr : Option Value → Hp → Prop} {Qx : String → Hp → Prop}  (x1 : Int) (s : Sg) {o : ((Int × Sg) ⊕ (Sg))} (hs : Mo_fills_b72 x1 s = some o) (hb : ∀ σ : Int × Sg, o = .inl σ → ww C M_X12_fills 1 0 0 nx (Qr) (Qx) nx 0 0 2 [(0, .ref 80), (1, vi σ.1)] [] (hp nx σ.2)) (he0 : ∀ ρ : Sg, o = .inr ρ → ww C M_X12_fills 1 0 0 nx (Qr) (Qx) nx 0 0 78 [] [] (hp nx ρ)) : ww C M_X12_fills 1 0 0 nx (Qr) (Qx) nx 0 0 72 [(0, .ref 80), (1, vi x1)] [] (hp nx s) := by
  unfold Mo_fills_b72 at hs
  refine x_iinc (lv' := [(1, vi (x1 + 1)), (0, .ref 80)]) 1 dX12_fills_72 rfl (Nat.le_of_ble_eq_true rfl) rfl ?_
  refine w_goto dX12_fills_75 rfl ?_
  refine w_lv (lv' := [(0, .ref 80), (1, vi (x1 + 1))]) [1, 0] rfl ?_
  cases hs
  exact hb _ rfl
set_option maxRecDepth 100000 in
theorem q_Mo_fills_b71 {C : Cx} {nx : Nat} (hnx : 100 ≤ nx) {Qr : Option Value → Hp → Prop} {Qx : String → Hp → Prop}  (x1 : Int) (t1 : Int) (t2 : Int) (s : Sg) {o : ((Int × Sg) ⊕ (Sg))} (hs : Mo_fills_b71 x1 t1 t2 s = some o) (hb : ∀ σ : Int × Sg, o = .inl σ → ww C M_X12_fills 1 0 0 nx (Qr) (Qx) nx 0 0 2 [(0, .ref 80), (1, vi σ.1)] [] (hp nx σ.2)) (he0 : ∀ ρ : Sg, o = .inr ρ → ww C M_X12_fills 1 0 0 nx (Qr) (Qx) nx 0 0 78 [] [] (hp nx ρ)) : ww C M_X12_fills 1 0 0 nx (Qr) (Qx) nx 0 0 71 [(0, .ref 80), (1, vi x1)] [vi t2, vi t1, .ref 81] (hp nx s) := by
  unfold Mo_fills_b71 at hs
  refine grd_e hs (fun hg8 hs => ?_)
  refine x_iast hg8 (Nat.le_of_ble_eq_true rfl) dX12_fills_71 rfl (lt_of hnx (Nat.le_of_ble_eq_true rfl)) ?_
  refine nam_s hs (fun s9 hs => ?_)
  exact q_Mo_fills_b72 hnx x1 s9 hs hb he0
set_option maxRecDepth 100000 in
theorem q_Mo_fills_t2 {C : Cx} {nx : Nat} (hnx : 100 ≤ nx) {Qr : Option Value → Hp → Prop} {Qx : String → Hp → Prop}  (x1 : Int) (s : Sg) {o : ((Int × Sg) ⊕ (Sg))} (hs : Mo_fills_t2 x1 s = some o) (hb : ∀ σ : Int × Sg, o = .inl σ → ww C M_X12_fills 1 0 0 nx (Qr) (Qx) nx 0 0 2 [(0, .ref 80), (1, vi σ.1)] [] (hp nx σ.2)) (he0 : ∀ ρ : Sg, o = .inr ρ → ww C M_X12_fills 1 0 0 nx (Qr) (Qx) nx 0 0 78 [] [] (hp nx ρ)) : ww C M_X12_fills 1 0 0 nx (Qr) (Qx) nx 0 0 2 [(0, .ref 80), (1, vi x1)] [] (hp nx s) := by
  unfold Mo_fills_t2 at hs
  refine w_iload_n 1 dX12_fills_2 rfl rfl ?_
  refine w_aload_n 0 dX12_fills_3 rfl rfl ?_
  refine x_V_I M_X12_cells [] [vi x1] hs rfl dX12_fills_4 (lkX12_212 _ rfl) (lt_of hnx (Nat.le_of_ble_eq_true rfl)) rfl rfl (Nat.le_of_ble_eq_true rfl) (Nat.le_of_ble_eq_true rfl) (Nat.le_of_ble_eq_true rfl) (Nat.le_of_ble_eq_true rfl) (c_Mo_cells hnx s) (fun y1 hy1 hs => ?_)
  refine x_icmpge hs dX12_fills_7 rfl (fun hs => ?_) (fun hs => ?_)
  · refine w_lv (lv' := []) [] rfl ?_
    cases hs
    exact he0 _ rfl
  · refine w_aload_n 0 dX12_fills_10 rfl rfl ?_
    refine w_iload_n 1 dX12_fills_11 rfl rfl ?_
    refine x_V_I M_X12_stone [vi x1] [] hs rfl dX12_fills_12 (lkX12_215 _ rfl) (lt_of hnx (Nat.le_of_ble_eq_true rfl)) rfl rfl (Nat.le_of_ble_eq_true rfl) (Nat.le_of_ble_eq_true rfl) (Nat.le_of_ble_eq_true rfl) (Nat.le_of_ble_eq_true rfl) (c_Mo_stone hnx x1 s) (fun y2 hy2 hs => ?_)
    refine x_iconst dX12_fills_15 ?_
    refine x_icmpeq hs dX12_fills_16 rfl (fun hs => ?_) (fun hs => ?_)
    · refine w_aload_n 0 dX12_fills_22 rfl rfl ?_
      refine x_ldc2 1103515245 dX12_fills_23 (csX12_402 rfl) ?_
      refine w_aload_n 0 dX12_fills_26 rfl rfl ?_
      refine x_getL 12 33 dX12_fills_27 (flX12_404 rfl) rfl rfl (lt_of hnx (Nat.le_of_ble_eq_true rfl)) ?_
      refine x_lmul dX12_fills_30 ?_
      refine x_ldc2 12345 dX12_fills_31 (csX12_408 rfl) ?_
      refine x_ladd dX12_fills_34 ?_
      refine x_ldc2 2147483648 dX12_fills_35 (csX12_410 rfl) ?_
      refine grd_e hs (fun hg3 hs => ?_)
      refine x_lrem dX12_fills_38 ⟨hg3.1, by decide, hg3.2.2⟩ ?_
      refine x_putL 12 33 dX12_fills_39 (poX12_404 rfl) rfl rfl (lt_of hnx (Nat.le_of_ble_eq_true rfl)) ?_
      refine nam_s hs (fun s4 hs => ?_)
      refine w_aload_n 0 dX12_fills_42 rfl rfl ?_
      refine x_getR 12 1 (b := 81) dX12_fills_43 (fxX12_9 rfl) rfl rfl (lt_of hnx (Nat.le_of_ble_eq_true rfl)) rfl ?_
      refine x_iconst dX12_fills_46 ?_
      refine w_iload_n 1 dX12_fills_47 rfl rfl ?_
      refine x_iadd dX12_fills_48 ?_
      refine w_aload_n 0 dX12_fills_49 rfl rfl ?_
      refine x_getL 12 33 dX12_fills_50 (flX12_404 rfl) rfl rfl (lt_of hnx (Nat.le_of_ble_eq_true rfl)) ?_
      refine x_ldc2 65536 dX12_fills_53 (csX12_412 rfl) ?_
      refine grd_e hs (fun hg5 hs => ?_)
      refine x_ldiv dX12_fills_56 ⟨hg5.1, by decide, hg5.2.2⟩ ?_
      refine x_ldc2 2 dX12_fills_57 (csX12_414 rfl) ?_
      refine grd_e hs (fun hg6 hs => ?_)
      refine x_lrem dX12_fills_60 ⟨hg6.1, by decide, hg6.2.2⟩ ?_
      refine x_lconst (x := 0) dX12_fills_61 (by decide) ?_
      refine grd_e hs (fun hg7 hs => ?_)
      refine x_lcmp dX12_fills_62 hg7.1 hg7.2 ?_
      refine x_ifne hs dX12_fills_63 rfl (fun hs => ?_) (fun hs => ?_)
      · refine x_iconst dX12_fills_70 ?_
        exact q_Mo_fills_b71 hnx x1 (5 + x1) 1 s4 hs hb he0
      · refine x_iconst dX12_fills_66 ?_
        refine w_goto dX12_fills_67 rfl ?_
        exact q_Mo_fills_b71 hnx x1 (5 + x1) 0 s4 hs hb he0
    · refine w_goto dX12_fills_19 rfl ?_
      exact q_Mo_fills_b72 hnx x1 s hs hb he0
set_option maxRecDepth 100000 in
theorem q_Mo_fills_l2 {C : Cx} {nx : Nat} (hnx : 100 ≤ nx) (x1 : Int) (s : Sg) {o : Sg} (hs : Mo_fills_l2 x1 s = some o) : ww C M_X12_fills 1 0 0 nx (QV nx o) (XF) nx 0 0 2 [(0, .ref 80), (1, vi x1)] [] (hp nx s) := by
  unfold Mo_fills_l2 at hs
  refine bnd_e hs (fun s_10 hw hs => ?_)
  have hE : ww C M_X12_fills 1 0 0 nx (QV nx o) (XF) nx 0 0 78 [] [] (hp nx s_10) := by
    cases hs
    exact w_return rfl dX12_fills_78 rfl (Nat.le_of_ble_eq_true rfl) (Nat.le_of_ble_eq_true rfl) ⟨rfl, rfl⟩
  refine whl_w (P := fun σ => ww C M_X12_fills 1 0 0 nx (QV nx o) (XF) nx 0 0 2 [(0, .ref 80), (1, vi σ.1)] [] (hp nx σ.2)) (E := fun ρ => ρ = s_10) hw rfl ?_
  intro σ o' hs' hb' he'
  exact q_Mo_fills_t2 hnx σ.1 σ.2 hs' hb' (fun ρ e => by cases he' _ e; exact hE)
set_option maxRecDepth 100000 in
theorem c_Mo_fills {C : Cx} {nx : Nat} (hnx : 100 ≤ nx)  (s : Sg) : ∀ o, Mo_fills  s = some o → mm C M_X12_fills 1 0 0 nx nx [.ref 80] (hp nx s) (QV nx o) (XF) := by
  intro o hs
  unfold Mo_fills at hs
  refine mm_of rfl rfl (Nat.le_of_ble_eq_true rfl) ?_
  show ww C M_X12_fills 1 0 0 nx (QV nx o) (XF) nx 0 0 0 [(0, .ref 80)] [] (hp nx s)
  refine x_iconst dX12_fills_0 ?_
  refine w_istore_n (lv' := [(1, vi 0), (0, .ref 80)]) dX12_fills_1 rfl (Nat.le_of_ble_eq_true rfl) rfl ?_
  refine w_lv (lv' := [(0, .ref 80), (1, vi 0)]) [1, 0] rfl ?_
  exact q_Mo_fills_l2 hnx 0 s hs
set_option maxRecDepth 100000 in
theorem q_Mo_filled_b10 {C : Cx} {nx : Nat} (hnx : 100 ≤ nx) (x1 : Int) (t1 : Int) (s : Sg) {o : Int × Sg} (hs : Mo_filled_b10 x1 t1 s = some o) : ww C M_X12_filled 6 0 0 nx (QI nx o.2 o.1) (XF) nx 0 0 10 [(0, .ref 80), (1, vi x1)] [vi t1, .ref 80] (hp nx s) := by
  unfold Mo_filled_b10 at hs
  refine x_V_B M_X12_wrong [vi t1] [] hs rfl dX12_filled_10 (lkX12_296 _ rfl) (lt_of hnx (Nat.le_of_ble_eq_true rfl)) rfl rfl (Nat.le_of_ble_eq_true rfl) (Nat.le_of_ble_eq_true rfl) (Nat.le_of_ble_eq_true rfl) (Nat.le_of_ble_eq_true rfl) (c_Mo_wrong hnx t1 s) (fun y1 s2 hy1 hs => ?_)
  refine x_ifeq hs dX12_filled_13 rfl (fun hs => ?_) (fun hs => ?_)
  · refine w_aload_n 0 dX12_filled_18 rfl rfl ?_
    refine w_iload_n 1 dX12_filled_19 rfl rfl ?_
    refine grd_e hs (fun hg3 hs => ?_)
    refine x_i2l dX12_filled_20 hg3 ?_
    refine x_putL 12 33 dX12_filled_21 (poX12_404 rfl) rfl rfl (lt_of hnx (Nat.le_of_ble_eq_true rfl)) ?_
    refine nam_s hs (fun s4 hs => ?_)
    refine w_aload_n 0 dX12_filled_24 rfl rfl ?_
    refine x_V_V M_X12_goesAside [] [] hs rfl dX12_filled_25 (lkX12_196 _ rfl) (lt_of hnx (Nat.le_of_ble_eq_true rfl)) rfl rfl (Nat.le_of_ble_eq_true rfl) (Nat.le_of_ble_eq_true rfl) (Nat.le_of_ble_eq_true rfl) (Nat.le_of_ble_eq_true rfl) (c_Mo_goesAside hnx s4) (fun s6 hs6 hs => ?_)
    refine w_aload_n 0 dX12_filled_28 rfl rfl ?_
    refine x_V_V M_X12_fills [] [] hs rfl dX12_filled_29 (lkX12_416 _ rfl) (lt_of hnx (Nat.le_of_ble_eq_true rfl)) rfl rfl (Nat.le_of_ble_eq_true rfl) (Nat.le_of_ble_eq_true rfl) (Nat.le_of_ble_eq_true rfl) (Nat.le_of_ble_eq_true rfl) (c_Mo_fills hnx s6) (fun s8 hs8 hs => ?_)
    refine w_aload_n 0 dX12_filled_32 rfl rfl ?_
    refine w_aload_n 0 dX12_filled_33 rfl rfl ?_
    refine x_V_B M_X12_joined [] [.ref 80] hs rfl dX12_filled_34 (lkX12_251 _ rfl) (lt_of hnx (Nat.le_of_ble_eq_true rfl)) rfl rfl (Nat.le_of_ble_eq_true rfl) (Nat.le_of_ble_eq_true rfl) (Nat.le_of_ble_eq_true rfl) (Nat.le_of_ble_eq_true rfl) (c_Mo_joined hnx s8) (fun y9 s10 hy9 hs => ?_)
    refine x_V_B M_X12_comesBack [vi y9] [] hs rfl dX12_filled_37 (lkX12_202 _ rfl) (lt_of hnx (Nat.le_of_ble_eq_true rfl)) rfl rfl (Nat.le_of_ble_eq_true rfl) (Nat.le_of_ble_eq_true rfl) (Nat.le_of_ble_eq_true rfl) (Nat.le_of_ble_eq_true rfl) (c_Mo_comesBack hnx y9 s10) (fun y11 s12 hy11 hs => ?_)
    cases hs
    exact x_ireturn dX12_filled_40 rfl rfl (Nat.le_of_ble_eq_true rfl) (Nat.le_of_ble_eq_true rfl) ⟨rfl, rfl⟩
  · refine x_iconst dX12_filled_16 ?_
    cases hs
    exact x_ireturn dX12_filled_17 rfl rfl (Nat.le_of_ble_eq_true rfl) (Nat.le_of_ble_eq_true rfl) ⟨rfl, rfl⟩
set_option maxRecDepth 100000 in
theorem c_Mo_filled {C : Cx} {nx : Nat} (hnx : 100 ≤ nx) (x1 : Int) (s : Sg) : ∀ o, Mo_filled x1 s = some o → mm C M_X12_filled 6 0 0 nx nx [.ref 80, vi x1] (hp nx s) (QI nx o.2 o.1) (XF) := by
  intro o hs
  unfold Mo_filled at hs
  refine mm_of rfl rfl (Nat.le_of_ble_eq_true rfl) ?_
  show ww C M_X12_filled 6 0 0 nx (QI nx o.2 o.1) (XF) nx 0 0 0 [(0, .ref 80), (1, vi x1)] [] (hp nx s)
  refine w_aload_n 0 dX12_filled_0 rfl rfl ?_
  refine w_iload_n 1 dX12_filled_1 rfl rfl ?_
  refine x_ifge hs dX12_filled_2 rfl (fun hs => ?_) (fun hs => ?_)
  · refine x_iconst dX12_filled_9 ?_
    exact q_Mo_filled_b10 hnx x1 0 s hs
  · refine x_iconst dX12_filled_5 ?_
    refine w_goto dX12_filled_6 rfl ?_
    exact q_Mo_filled_b10 hnx x1 1 s hs
set_option maxRecDepth 100000 in
theorem q_Mo_fillings_b78 {C : Cx} {nx : Nat} (hnx : 100 ≤ nx) {Qr : Option Value → Hp → Prop} {Qx : String → Hp → Prop}  (x1 : Int) (x3 : Int) (x5 : Int) (t0 : Int) (t1 : Int) (s : Sg) {o : ((Int × Int × Sg) ⊕ (Int × Sg))} (hs : Mo_fillings_b78 x1 x3 x5 t0 t1 s = some o) (hb : ∀ σ : Int × Int × Sg, o = .inl σ → ww C M_X12_fillings 5 0 0 nx (Qr) (Qx) nx 0 0 53 [(0, .ref 80), (1, vi x1), (3, vi x3), (4, vi σ.1), (5, vi σ.2.1)] [] (hp nx σ.2.2)) (he0 : ∀ ρ : Int × Sg, o = .inr ρ → ww C M_X12_fillings 5 0 0 nx (Qr) (Qx) nx 0 0 94 [(4, vi ρ.1)] [] (hp nx ρ.2)) : ww C M_X12_fillings 5 0 0 nx (Qr) (Qx) nx 0 0 78 [(0, .ref 80), (1, vi x1), (3, vi x3), (5, vi x5)] [vi t1, vi t0] (hp nx s) := by
  unfold Mo_fillings_b78 at hs
  refine x_iadd dX12_fillings_78 ?_
  refine x_istore (fun x4_12 => [(4, vi x4_12), (0, .ref 80), (1, vi x1), (3, vi x3), (5, vi x5)]) hs dX12_fillings_79 (Nat.le_of_ble_eq_true rfl) (fun _ => rfl) (fun x4_12 hs => ?_)
  refine w_aload_n 1 dX12_fillings_81 rfl rfl ?_
  refine x_iconst dX12_fillings_82 ?_
  refine x_V_B M_X12_comesBack [vi 0] [] hs rfl dX12_fillings_83 (lkX12_202 _ rfl) (lt_of hnx (Nat.le_of_ble_eq_true rfl)) rfl rfl (Nat.le_of_ble_eq_true rfl) (Nat.le_of_ble_eq_true rfl) (Nat.le_of_ble_eq_true rfl) (Nat.le_of_ble_eq_true rfl) (c_Mo_comesBack hnx 0 s) (fun y13 s14 hy13 hs => ?_)
  refine w_istore (lv' := [(6, vi y13), (4, vi x4_12), (0, .ref 80), (1, vi x1), (3, vi x3), (5, vi x5)]) dX12_fillings_86 (Nat.le_of_ble_eq_true rfl) rfl ?_
  refine x_iinc (lv' := [(5, vi (x5 + 1)), (6, vi y13), (4, vi x4_12), (0, .ref 80), (1, vi x1), (3, vi x3)]) 5 dX12_fillings_88 rfl (Nat.le_of_ble_eq_true rfl) rfl ?_
  refine w_goto dX12_fillings_91 rfl ?_
  refine w_lv (lv' := [(0, .ref 80), (1, vi x1), (3, vi x3), (4, vi x4_12), (5, vi (x5 + 1))]) [3, 4, 5, 2, 0] rfl ?_
  cases hs
  exact hb _ rfl
set_option maxRecDepth 100000 in
theorem q_Mo_fillings_t53 {C : Cx} {nx : Nat} (hnx : 100 ≤ nx) {Qr : Option Value → Hp → Prop} {Qx : String → Hp → Prop}  (x1 : Int) (x3 : Int) (x4 : Int) (x5 : Int) (s : Sg) {o : ((Int × Int × Sg) ⊕ (Int × Sg))} (hs : Mo_fillings_t53 x1 x3 x4 x5 s = some o) (hb : ∀ σ : Int × Int × Sg, o = .inl σ → ww C M_X12_fillings 5 0 0 nx (Qr) (Qx) nx 0 0 53 [(0, .ref 80), (1, vi x1), (3, vi x3), (4, vi σ.1), (5, vi σ.2.1)] [] (hp nx σ.2.2)) (he0 : ∀ ρ : Int × Sg, o = .inr ρ → ww C M_X12_fillings 5 0 0 nx (Qr) (Qx) nx 0 0 94 [(4, vi ρ.1)] [] (hp nx ρ.2)) : ww C M_X12_fillings 5 0 0 nx (Qr) (Qx) nx 0 0 53 [(0, .ref 80), (1, vi x1), (3, vi x3), (4, vi x4), (5, vi x5)] [] (hp nx s) := by
  unfold Mo_fillings_t53 at hs
  refine w_iload 4 dX12_fillings_53 rfl ?_
  refine w_iload_n 2 dX12_fillings_55 rfl rfl ?_
  refine x_icmpge hs dX12_fillings_56 rfl (fun hs => ?_) (fun hs => ?_)
  · refine w_lv (lv' := [(4, vi x4)]) [3] rfl ?_
    cases hs
    exact he0 _ rfl
  · refine w_aload_n 0 dX12_fillings_59 rfl rfl ?_
    refine x_V_V M_X12_fills [] [] hs rfl dX12_fillings_60 (lkX12_416 _ rfl) (lt_of hnx (Nat.le_of_ble_eq_true rfl)) rfl rfl (Nat.le_of_ble_eq_true rfl) (Nat.le_of_ble_eq_true rfl) (Nat.le_of_ble_eq_true rfl) (Nat.le_of_ble_eq_true rfl) (c_Mo_fills hnx s) (fun s9 hs9 hs => ?_)
    refine w_iload 3 dX12_fillings_63 rfl ?_
    refine w_aload_n 0 dX12_fillings_65 rfl rfl ?_
    refine w_iload_n 1 dX12_fillings_66 rfl rfl ?_
    refine x_V_B M_X12_hasJoined [vi x1] [vi x4] hs rfl dX12_fillings_67 (lkX12_248 _ rfl) (lt_of hnx (Nat.le_of_ble_eq_true rfl)) rfl rfl (Nat.le_of_ble_eq_true rfl) (Nat.le_of_ble_eq_true rfl) (Nat.le_of_ble_eq_true rfl) (Nat.le_of_ble_eq_true rfl) (c_Mo_hasJoined hnx x1 s9) (fun y10 s11 hy10 hs => ?_)
    refine x_ifeq hs dX12_fillings_70 rfl (fun hs => ?_) (fun hs => ?_)
    · refine x_iconst dX12_fillings_77 ?_
      refine w_lv (lv' := [(0, .ref 80), (1, vi x1), (3, vi x3), (5, vi x5)]) [0, 1, 2, 4] rfl ?_
      exact q_Mo_fillings_b78 hnx x1 x3 x5 x4 0 s11 hs hb he0
    · refine x_iconst dX12_fillings_73 ?_
      refine w_goto dX12_fillings_74 rfl ?_
      refine w_lv (lv' := [(0, .ref 80), (1, vi x1), (3, vi x3), (5, vi x5)]) [0, 1, 2, 4] rfl ?_
      exact q_Mo_fillings_b78 hnx x1 x3 x5 x4 1 s11 hs hb he0
set_option maxRecDepth 100000 in
theorem q_Mo_fillings_l53 {C : Cx} {nx : Nat} (hnx : 100 ≤ nx) (x1 : Int) (x3 : Int) (x4 : Int) (x5 : Int) (s : Sg) {o : Int × Sg} (hs : Mo_fillings_l53 x1 x3 x4 x5 s = some o) : ww C M_X12_fillings 5 0 0 nx (QI nx o.2 o.1) (XF) nx 0 0 53 [(0, .ref 80), (1, vi x1), (3, vi x3), (4, vi x4), (5, vi x5)] [] (hp nx s) := by
  unfold Mo_fillings_l53 at hs
  refine bnd_e hs (fun ρ hw hs => ?_)
  obtain ⟨x4_15, s_16⟩ := ρ
  have hE : ww C M_X12_fillings 5 0 0 nx (QI nx o.2 o.1) (XF) nx 0 0 94 [(4, vi x4_15)] [] (hp nx s_16) := by
    refine w_iload 0 dX12_fillings_94 rfl ?_
    cases hs
    exact x_ireturn dX12_fillings_96 rfl rfl (Nat.le_of_ble_eq_true rfl) (Nat.le_of_ble_eq_true rfl) ⟨rfl, rfl⟩
  refine whl_w (P := fun σ => ww C M_X12_fillings 5 0 0 nx (QI nx o.2 o.1) (XF) nx 0 0 53 [(0, .ref 80), (1, vi x1), (3, vi x3), (4, vi σ.1), (5, vi σ.2.1)] [] (hp nx σ.2.2)) (E := fun ρ => ρ = (x4_15, s_16)) hw rfl ?_
  intro σ o' hs' hb' he'
  exact q_Mo_fillings_t53 hnx x1 x3 σ.1 σ.2.1 σ.2.2 hs' hb' (fun ρ e => by cases he' _ e; exact hE)
set_option maxRecDepth 100000 in
theorem q_Mo_fillings_b29 {C : Cx} {nx : Nat} (hnx : 100 ≤ nx) (x1 : Int) (x2 : Int) (x3 : Int) (t1 : Int) (s : Sg) {o : Int × Sg} (hs : Mo_fillings_b29 x1 x2 x3 t1 s = some o) : ww C M_X12_fillings 5 0 0 nx (QI nx o.2 o.1) (XF) nx 0 0 29 [(0, .ref 80), (1, vi x1), (2, vi x2), (3, vi x3)] [vi t1, .ref 80] (hp nx s) := by
  unfold Mo_fillings_b29 at hs
  refine x_V_B M_X12_wrong [vi t1] [] hs rfl dX12_fillings_29 (lkX12_296 _ rfl) (lt_of hnx (Nat.le_of_ble_eq_true rfl)) rfl rfl (Nat.le_of_ble_eq_true rfl) (Nat.le_of_ble_eq_true rfl) (Nat.le_of_ble_eq_true rfl) (Nat.le_of_ble_eq_true rfl) (c_Mo_wrong hnx t1 s) (fun y2 s3 hy2 hs => ?_)
  refine x_ifeq hs dX12_fillings_32 rfl (fun hs => ?_) (fun hs => ?_)
  · refine w_aload_n 0 dX12_fillings_37 rfl rfl ?_
    refine w_iload_n 2 dX12_fillings_38 rfl rfl ?_
    refine grd_e hs (fun hg4 hs => ?_)
    refine x_i2l dX12_fillings_39 hg4 ?_
    refine x_putL 12 33 dX12_fillings_40 (poX12_404 rfl) rfl rfl (lt_of hnx (Nat.le_of_ble_eq_true rfl)) ?_
    refine nam_s hs (fun s5 hs => ?_)
    refine x_iconst dX12_fillings_43 ?_
    refine w_istore (lv' := [(4, vi 0), (0, .ref 80), (1, vi x1), (2, vi x2), (3, vi x3)]) dX12_fillings_44 (Nat.le_of_ble_eq_true rfl) rfl ?_
    refine w_aload_n 1 dX12_fillings_46 rfl rfl ?_
    refine x_V_V M_X12_goesAside [] [] hs rfl dX12_fillings_47 (lkX12_196 _ rfl) (lt_of hnx (Nat.le_of_ble_eq_true rfl)) rfl rfl (Nat.le_of_ble_eq_true rfl) (Nat.le_of_ble_eq_true rfl) (Nat.le_of_ble_eq_true rfl) (Nat.le_of_ble_eq_true rfl) (c_Mo_goesAside hnx s5) (fun s7 hs7 hs => ?_)
    refine x_iconst dX12_fillings_50 ?_
    refine w_istore (lv' := [(5, vi 0), (4, vi 0), (0, .ref 80), (1, vi x1), (2, vi x2), (3, vi x3)]) dX12_fillings_51 (Nat.le_of_ble_eq_true rfl) rfl ?_
    refine w_lv (lv' := [(0, .ref 80), (1, vi x1), (3, vi x3), (4, vi 0), (5, vi 0)]) [2, 3, 5, 1, 0] rfl ?_
    exact q_Mo_fillings_l53 hnx x1 x3 0 0 s7 hs
  · refine x_iconst dX12_fillings_35 ?_
    cases hs
    exact x_ireturn dX12_fillings_36 rfl rfl (Nat.le_of_ble_eq_true rfl) (Nat.le_of_ble_eq_true rfl) ⟨rfl, rfl⟩
set_option maxRecDepth 100000 in
theorem q_Mo_fillings_b24 {C : Cx} {nx : Nat} (hnx : 100 ≤ nx) (x1 : Int) (x2 : Int) (x3 : Int) (s : Sg) {o : Int × Sg} (hs : Mo_fillings_b24 x1 x2 x3 s = some o) : ww C M_X12_fillings 5 0 0 nx (QI nx o.2 o.1) (XF) nx 0 0 24 [(0, .ref 80), (1, vi x1), (2, vi x2), (3, vi x3)] [.ref 80] (hp nx s) := by
  unfold Mo_fillings_b24 at hs
  refine x_iconst dX12_fillings_24 ?_
  refine w_goto dX12_fillings_25 rfl ?_
  exact q_Mo_fillings_b29 hnx x1 x2 x3 1 s hs
set_option maxRecDepth 100000 in
theorem c_Mo_fillings {C : Cx} {nx : Nat} (hnx : 100 ≤ nx) (x1 : Int) (x2 : Int) (x3 : Int) (s : Sg) : ∀ o, Mo_fillings x1 x2 x3 s = some o → mm C M_X12_fillings 5 0 0 nx nx [.ref 80, vi x1, vi x2, vi x3] (hp nx s) (QI nx o.2 o.1) (XF) := by
  intro o hs
  unfold Mo_fillings at hs
  refine mm_of rfl rfl (Nat.le_of_ble_eq_true rfl) ?_
  show ww C M_X12_fillings 5 0 0 nx (QI nx o.2 o.1) (XF) nx 0 0 0 [(0, .ref 80), (1, vi x1), (2, vi x2), (3, vi x3)] [] (hp nx s)
  refine w_aload_n 0 dX12_fillings_0 rfl rfl ?_
  refine w_iload_n 1 dX12_fillings_1 rfl rfl ?_
  refine x_S_I M_X12_isSide [vi x1] [.ref 80] hs rfl dX12_fillings_2 (lkX12_305 _ rfl) (Nat.le_of_ble_eq_true rfl) (Nat.le_of_ble_eq_true rfl) (Nat.le_of_ble_eq_true rfl) (Nat.le_of_ble_eq_true rfl) (c_Mo_isSide hnx x1 s) (fun y1 hy1 hs => ?_)
  refine x_ifeq hs dX12_fillings_5 rfl (fun hs => ?_) (fun hs => ?_)
  · exact q_Mo_fillings_b24 hnx x1 x2 x3 s hs
  · refine w_iload_n 2 dX12_fillings_8 rfl rfl ?_
    refine x_iflt hs dX12_fillings_9 rfl (fun hs => ?_) (fun hs => ?_)
    · exact q_Mo_fillings_b24 hnx x1 x2 x3 s hs
    · refine w_iload_n 3 dX12_fillings_12 rfl rfl ?_
      refine grd_e hs (fun hg17 hs => ?_)
      refine x_i2l dX12_fillings_13 hg17 ?_
      refine x_lconst (x := 1) dX12_fillings_14 (by decide) ?_
      refine x_ldc2 100 dX12_fillings_15 (csX12_382 rfl) ?_
      refine x_S_I M_X12_in [vl x3, vl 1, vl 100] [.ref 80] hs rfl dX12_fillings_18 (lkX12_108 _ rfl) (Nat.le_of_ble_eq_true rfl) (Nat.le_of_ble_eq_true rfl) (Nat.le_of_ble_eq_true rfl) (Nat.le_of_ble_eq_true rfl) (c_Mo_in hnx x3 1 100 s) (fun y18 hy18 hs => ?_)
      refine x_ifne hs dX12_fillings_21 rfl (fun hs => ?_) (fun hs => ?_)
      · refine x_iconst dX12_fillings_28 ?_
        exact q_Mo_fillings_b29 hnx x1 x2 x3 0 s hs
      · exact q_Mo_fillings_b24 hnx x1 x2 x3 s hs
set_option maxRecDepth 100000 in
theorem q_Mo_idle_b123 {C : Cx} {nx : Nat} (hnx : 100 ≤ nx) {Qr : Option Value → Hp → Prop} {Qx : String → Hp → Prop}  (x2 : Int) (x3 : Int) (x4 : Int) (s : Sg) {o : ((Int × Int × Sg) ⊕ (Int × Sg))} (hs : Mo_idle_b123 x2 x3 x4 s = some o) (hb : ∀ σ : Int × Int × Sg, o = .inl σ → ww C M_X12_idle 6 0 0 nx (Qr) (Qx) nx 0 0 42 [(0, .ref 80), (2, vi x2), (3, vi σ.1), (4, vi σ.2.1)] [] (hp nx σ.2.2)) (he0 : ∀ ρ : Int × Sg, o = .inr ρ → ww C M_X12_idle 6 0 0 nx (Qr) (Qx) nx 0 0 129 [(0, .ref 80), (3, vi ρ.1)] [] (hp nx ρ.2)) : ww C M_X12_idle 6 0 0 nx (Qr) (Qx) nx 0 0 123 [(0, .ref 80), (2, vi x2), (3, vi x3), (4, vi x4)] [] (hp nx s) := by
  unfold Mo_idle_b123 at hs
  refine x_iinc (lv' := [(4, vi (x4 + 1)), (0, .ref 80), (2, vi x2), (3, vi x3)]) 3 dX12_idle_123 rfl (Nat.le_of_ble_eq_true rfl) rfl ?_
  refine w_goto dX12_idle_126 rfl ?_
  refine w_lv (lv' := [(0, .ref 80), (2, vi x2), (3, vi x3), (4, vi (x4 + 1))]) [1, 2, 3, 0] rfl ?_
  cases hs
  exact hb _ rfl
set_option maxRecDepth 100000 in
theorem q_Mo_idle_b101 {C : Cx} {nx : Nat} (hnx : 100 ≤ nx) {Qr : Option Value → Hp → Prop} {Qx : String → Hp → Prop}  (x2 : Int) (x4 : Int) (t0 : Int) (t1 : Int) (s : Sg) {o : ((Int × Int × Sg) ⊕ (Int × Sg))} (hs : Mo_idle_b101 x2 x4 t0 t1 s = some o) (hb : ∀ σ : Int × Int × Sg, o = .inl σ → ww C M_X12_idle 6 0 0 nx (Qr) (Qx) nx 0 0 42 [(0, .ref 80), (2, vi x2), (3, vi σ.1), (4, vi σ.2.1)] [] (hp nx σ.2.2)) (he0 : ∀ ρ : Int × Sg, o = .inr ρ → ww C M_X12_idle 6 0 0 nx (Qr) (Qx) nx 0 0 129 [(0, .ref 80), (3, vi ρ.1)] [] (hp nx ρ.2)) : ww C M_X12_idle 6 0 0 nx (Qr) (Qx) nx 0 0 101 [(0, .ref 80), (2, vi x2), (4, vi x4)] [vi t1, vi t0] (hp nx s) := by
  unfold Mo_idle_b101 at hs
  refine x_iadd dX12_idle_101 ?_
  refine x_istore_n (fun x3_18 => [(3, vi x3_18), (0, .ref 80), (2, vi x2), (4, vi x4)]) hs dX12_idle_102 rfl (Nat.le_of_ble_eq_true rfl) (fun _ => rfl) (fun x3_18 hs => ?_)
  refine w_aload_n 1 dX12_idle_103 rfl rfl ?_
  refine x_getR 12 1 (b := 81) dX12_idle_104 (fxX12_9 rfl) rfl rfl (lt_of hnx (Nat.le_of_ble_eq_true rfl)) rfl ?_
  refine x_iconst dX12_idle_107 ?_
  refine w_iload 3 dX12_idle_108 rfl ?_
  refine x_iadd dX12_idle_110 ?_
  refine x_iconst dX12_idle_111 ?_
  refine w_aload_n 1 dX12_idle_112 rfl rfl ?_
  refine x_getR 12 1 (b := 81) dX12_idle_113 (fxX12_9 rfl) rfl rfl (lt_of hnx (Nat.le_of_ble_eq_true rfl)) rfl ?_
  refine x_iconst dX12_idle_116 ?_
  refine w_iload 3 dX12_idle_117 rfl ?_
  refine x_iadd dX12_idle_119 ?_
  refine grd_e hs (fun hg19 hs => ?_)
  refine x_iald hg19 (Nat.le_of_ble_eq_true rfl) dX12_idle_120 (Or.inl ⟨rfl, (lt_of hnx (Nat.le_of_ble_eq_true rfl))⟩) ?_
  refine x_isub dX12_idle_121 ?_
  refine grd_e hs (fun hg20 hs => ?_)
  refine x_iast hg20 (Nat.le_of_ble_eq_true rfl) dX12_idle_122 rfl (lt_of hnx (Nat.le_of_ble_eq_true rfl)) ?_
  refine nam_s hs (fun s21 hs => ?_)
  refine w_lv (lv' := [(0, .ref 80), (2, vi x2), (3, vi x3_18), (4, vi x4)]) [1, 2, 0, 3] rfl ?_
  exact q_Mo_idle_b123 hnx x2 x3_18 x4 s21 hs hb he0
set_option maxRecDepth 100000 in
theorem q_Mo_idle_t42 {C : Cx} {nx : Nat} (hnx : 100 ≤ nx) {Qr : Option Value → Hp → Prop} {Qx : String → Hp → Prop}  (x2 : Int) (x3 : Int) (x4 : Int) (s : Sg) {o : ((Int × Int × Sg) ⊕ (Int × Sg))} (hs : Mo_idle_t42 x2 x3 x4 s = some o) (hb : ∀ σ : Int × Int × Sg, o = .inl σ → ww C M_X12_idle 6 0 0 nx (Qr) (Qx) nx 0 0 42 [(0, .ref 80), (2, vi x2), (3, vi σ.1), (4, vi σ.2.1)] [] (hp nx σ.2.2)) (he0 : ∀ ρ : Int × Sg, o = .inr ρ → ww C M_X12_idle 6 0 0 nx (Qr) (Qx) nx 0 0 129 [(0, .ref 80), (3, vi ρ.1)] [] (hp nx ρ.2)) : ww C M_X12_idle 6 0 0 nx (Qr) (Qx) nx 0 0 42 [(0, .ref 80), (2, vi x2), (3, vi x3), (4, vi x4)] [] (hp nx s) := by
  unfold Mo_idle_t42 at hs
  refine w_iload 3 dX12_idle_42 rfl ?_
  refine w_aload_n 0 dX12_idle_44 rfl rfl ?_
  refine x_V_I M_X12_cells [] [vi x4] hs rfl dX12_idle_45 (lkX12_212 _ rfl) (lt_of hnx (Nat.le_of_ble_eq_true rfl)) rfl rfl (Nat.le_of_ble_eq_true rfl) (Nat.le_of_ble_eq_true rfl) (Nat.le_of_ble_eq_true rfl) (Nat.le_of_ble_eq_true rfl) (c_Mo_cells hnx s) (fun y11 hy11 hs => ?_)
  refine x_icmpge hs dX12_idle_48 rfl (fun hs => ?_) (fun hs => ?_)
  · refine w_lv (lv' := [(0, .ref 80), (3, vi x3)]) [0, 2] rfl ?_
    cases hs
    exact he0 _ rfl
  · refine w_aload_n 0 dX12_idle_51 rfl rfl ?_
    refine x_getR 12 2 (b := 82) dX12_idle_52 (fxX12_13 rfl) rfl rfl (lt_of hnx (Nat.le_of_ble_eq_true rfl)) rfl ?_
    refine x_iconst dX12_idle_55 ?_
    refine w_iload 3 dX12_idle_56 rfl ?_
    refine x_iadd dX12_idle_58 ?_
    refine grd_e hs (fun hg12 hs => ?_)
    refine x_iald hg12 (Nat.le_of_ble_eq_true rfl) dX12_idle_59 (Or.inl ⟨rfl, (lt_of hnx (Nat.le_of_ble_eq_true rfl))⟩) ?_
    refine x_iconst dX12_idle_60 ?_
    refine x_icmpeq hs dX12_idle_61 rfl (fun hs => ?_) (fun hs => ?_)
    · refine w_aload_n 0 dX12_idle_67 rfl rfl ?_
      refine x_getR 12 1 (b := 81) dX12_idle_68 (fxX12_9 rfl) rfl rfl (lt_of hnx (Nat.le_of_ble_eq_true rfl)) rfl ?_
      refine x_iconst dX12_idle_71 ?_
      refine w_iload 3 dX12_idle_72 rfl ?_
      refine x_iadd dX12_idle_74 ?_
      refine x_iconst dX12_idle_75 ?_
      refine w_aload_n 0 dX12_idle_76 rfl rfl ?_
      refine x_getR 12 1 (b := 81) dX12_idle_77 (fxX12_9 rfl) rfl rfl (lt_of hnx (Nat.le_of_ble_eq_true rfl)) rfl ?_
      refine x_iconst dX12_idle_80 ?_
      refine w_iload 3 dX12_idle_81 rfl ?_
      refine x_iadd dX12_idle_83 ?_
      refine grd_e hs (fun hg13 hs => ?_)
      refine x_iald hg13 (Nat.le_of_ble_eq_true rfl) dX12_idle_84 (Or.inl ⟨rfl, (lt_of hnx (Nat.le_of_ble_eq_true rfl))⟩) ?_
      refine x_isub dX12_idle_85 ?_
      refine grd_e hs (fun hg14 hs => ?_)
      refine x_iast hg14 (Nat.le_of_ble_eq_true rfl) dX12_idle_86 rfl (lt_of hnx (Nat.le_of_ble_eq_true rfl)) ?_
      refine nam_s hs (fun s15 hs => ?_)
      refine w_iload_n 2 dX12_idle_87 rfl rfl ?_
      refine w_aload_n 0 dX12_idle_88 rfl rfl ?_
      refine x_V_B M_X12_joined [] [vi x3] hs rfl dX12_idle_89 (lkX12_251 _ rfl) (lt_of hnx (Nat.le_of_ble_eq_true rfl)) rfl rfl (Nat.le_of_ble_eq_true rfl) (Nat.le_of_ble_eq_true rfl) (Nat.le_of_ble_eq_true rfl) (Nat.le_of_ble_eq_true rfl) (c_Mo_joined hnx s15) (fun y16 s17 hy16 hs => ?_)
      refine w_iload_n 1 dX12_idle_92 rfl rfl ?_
      refine x_icmpne hs dX12_idle_93 rfl (fun hs => ?_) (fun hs => ?_)
      · refine x_iconst dX12_idle_100 ?_
        refine w_lv (lv' := [(0, .ref 80), (2, vi x2), (4, vi x4)]) [0, 1, 3] rfl ?_
        exact q_Mo_idle_b101 hnx x2 x4 x3 0 s17 hs hb he0
      · refine x_iconst dX12_idle_96 ?_
        refine w_goto dX12_idle_97 rfl ?_
        refine w_lv (lv' := [(0, .ref 80), (2, vi x2), (4, vi x4)]) [0, 1, 3] rfl ?_
        exact q_Mo_idle_b101 hnx x2 x4 x3 1 s17 hs hb he0
    · refine w_goto dX12_idle_64 rfl ?_
      exact q_Mo_idle_b123 hnx x2 x3 x4 s hs hb he0
set_option maxRecDepth 100000 in
theorem q_Mo_idle_l42 {C : Cx} {nx : Nat} (hnx : 100 ≤ nx) (x2 : Int) (x3 : Int) (x4 : Int) (s : Sg) {o : Int × Sg} (hs : Mo_idle_l42 x2 x3 x4 s = some o) : ww C M_X12_idle 6 0 0 nx (QI nx o.2 o.1) (XF) nx 0 0 42 [(0, .ref 80), (2, vi x2), (3, vi x3), (4, vi x4)] [] (hp nx s) := by
  unfold Mo_idle_l42 at hs
  refine bnd_e hs (fun ρ hw hs => ?_)
  obtain ⟨x3_22, s_23⟩ := ρ
  have hE : ww C M_X12_idle 6 0 0 nx (QI nx o.2 o.1) (XF) nx 0 0 129 [(0, .ref 80), (3, vi x3_22)] [] (hp nx s_23) := by
    refine w_aload_n 0 dX12_idle_129 rfl rfl ?_
    refine w_iload_n 1 dX12_idle_130 rfl rfl ?_
    refine x_V_B M_X12_comesBack [vi x3_22] [] hs rfl dX12_idle_131 (lkX12_202 _ rfl) (lt_of hnx (Nat.le_of_ble_eq_true rfl)) rfl rfl (Nat.le_of_ble_eq_true rfl) (Nat.le_of_ble_eq_true rfl) (Nat.le_of_ble_eq_true rfl) (Nat.le_of_ble_eq_true rfl) (c_Mo_comesBack hnx x3_22 s_23) (fun y24 s25 hy24 hs => ?_)
    cases hs
    exact x_ireturn dX12_idle_134 rfl rfl (Nat.le_of_ble_eq_true rfl) (Nat.le_of_ble_eq_true rfl) ⟨rfl, rfl⟩
  refine whl_w (P := fun σ => ww C M_X12_idle 6 0 0 nx (QI nx o.2 o.1) (XF) nx 0 0 42 [(0, .ref 80), (2, vi x2), (3, vi σ.1), (4, vi σ.2.1)] [] (hp nx σ.2.2)) (E := fun ρ => ρ = (x3_22, s_23)) hw rfl ?_
  intro σ o' hs' hb' he'
  exact q_Mo_idle_t42 hnx x2 σ.1 σ.2.1 σ.2.2 hs' hb' (fun ρ e => by cases he' _ e; exact hE)
set_option maxRecDepth 100000 in
theorem q_Mo_idle_b10 {C : Cx} {nx : Nat} (hnx : 100 ≤ nx) (x1 : Int) (t1 : Int) (s : Sg) {o : Int × Sg} (hs : Mo_idle_b10 x1 t1 s = some o) : ww C M_X12_idle 6 0 0 nx (QI nx o.2 o.1) (XF) nx 0 0 10 [(0, .ref 80), (1, vi x1)] [vi t1, .ref 80] (hp nx s) := by
  unfold Mo_idle_b10 at hs
  refine x_V_B M_X12_wrong [vi t1] [] hs rfl dX12_idle_10 (lkX12_296 _ rfl) (lt_of hnx (Nat.le_of_ble_eq_true rfl)) rfl rfl (Nat.le_of_ble_eq_true rfl) (Nat.le_of_ble_eq_true rfl) (Nat.le_of_ble_eq_true rfl) (Nat.le_of_ble_eq_true rfl) (c_Mo_wrong hnx t1 s) (fun y1 s2 hy1 hs => ?_)
  refine x_ifeq hs dX12_idle_13 rfl (fun hs => ?_) (fun hs => ?_)
  · refine w_aload_n 0 dX12_idle_18 rfl rfl ?_
    refine w_iload_n 1 dX12_idle_19 rfl rfl ?_
    refine grd_e hs (fun hg3 hs => ?_)
    refine x_i2l dX12_idle_20 hg3 ?_
    refine x_putL 12 33 dX12_idle_21 (poX12_404 rfl) rfl rfl (lt_of hnx (Nat.le_of_ble_eq_true rfl)) ?_
    refine nam_s hs (fun s4 hs => ?_)
    refine w_aload_n 0 dX12_idle_24 rfl rfl ?_
    refine x_V_V M_X12_goesAside [] [] hs rfl dX12_idle_25 (lkX12_196 _ rfl) (lt_of hnx (Nat.le_of_ble_eq_true rfl)) rfl rfl (Nat.le_of_ble_eq_true rfl) (Nat.le_of_ble_eq_true rfl) (Nat.le_of_ble_eq_true rfl) (Nat.le_of_ble_eq_true rfl) (c_Mo_goesAside hnx s4) (fun s6 hs6 hs => ?_)
    refine w_aload_n 0 dX12_idle_28 rfl rfl ?_
    refine x_V_V M_X12_fills [] [] hs rfl dX12_idle_29 (lkX12_416 _ rfl) (lt_of hnx (Nat.le_of_ble_eq_true rfl)) rfl rfl (Nat.le_of_ble_eq_true rfl) (Nat.le_of_ble_eq_true rfl) (Nat.le_of_ble_eq_true rfl) (Nat.le_of_ble_eq_true rfl) (c_Mo_fills hnx s6) (fun s8 hs8 hs => ?_)
    refine w_aload_n 0 dX12_idle_32 rfl rfl ?_
    refine x_V_B M_X12_joined [] [] hs rfl dX12_idle_33 (lkX12_251 _ rfl) (lt_of hnx (Nat.le_of_ble_eq_true rfl)) rfl rfl (Nat.le_of_ble_eq_true rfl) (Nat.le_of_ble_eq_true rfl) (Nat.le_of_ble_eq_true rfl) (Nat.le_of_ble_eq_true rfl) (c_Mo_joined hnx s8) (fun y9 s10 hy9 hs => ?_)
    refine w_istore_n (lv' := [(2, vi y9), (0, .ref 80), (1, vi x1)]) dX12_idle_36 rfl (Nat.le_of_ble_eq_true rfl) rfl ?_
    refine x_iconst dX12_idle_37 ?_
    refine w_istore_n (lv' := [(3, vi 0), (2, vi y9), (0, .ref 80), (1, vi x1)]) dX12_idle_38 rfl (Nat.le_of_ble_eq_true rfl) rfl ?_
    refine x_iconst dX12_idle_39 ?_
    refine w_istore (lv' := [(4, vi 0), (3, vi 0), (2, vi y9), (0, .ref 80), (1, vi x1)]) dX12_idle_40 (Nat.le_of_ble_eq_true rfl) rfl ?_
    refine w_lv (lv' := [(0, .ref 80), (2, vi y9), (3, vi 0), (4, vi 0)]) [3, 2, 1, 0] rfl ?_
    exact q_Mo_idle_l42 hnx y9 0 0 s10 hs
  · refine x_iconst dX12_idle_16 ?_
    cases hs
    exact x_ireturn dX12_idle_17 rfl rfl (Nat.le_of_ble_eq_true rfl) (Nat.le_of_ble_eq_true rfl) ⟨rfl, rfl⟩
set_option maxRecDepth 100000 in
theorem c_Mo_idle {C : Cx} {nx : Nat} (hnx : 100 ≤ nx) (x1 : Int) (s : Sg) : ∀ o, Mo_idle x1 s = some o → mm C M_X12_idle 6 0 0 nx nx [.ref 80, vi x1] (hp nx s) (QI nx o.2 o.1) (XF) := by
  intro o hs
  unfold Mo_idle at hs
  refine mm_of rfl rfl (Nat.le_of_ble_eq_true rfl) ?_
  show ww C M_X12_idle 6 0 0 nx (QI nx o.2 o.1) (XF) nx 0 0 0 [(0, .ref 80), (1, vi x1)] [] (hp nx s)
  refine w_aload_n 0 dX12_idle_0 rfl rfl ?_
  refine w_iload_n 1 dX12_idle_1 rfl rfl ?_
  refine x_ifge hs dX12_idle_2 rfl (fun hs => ?_) (fun hs => ?_)
  · refine x_iconst dX12_idle_9 ?_
    exact q_Mo_idle_b10 hnx x1 0 s hs
  · refine x_iconst dX12_idle_5 ?_
    refine w_goto dX12_idle_6 rfl ?_
    exact q_Mo_idle_b10 hnx x1 1 s hs
set_option maxRecDepth 100000 in
theorem c_Mo_moveAt {C : Cx} {nx : Nat} (hnx : 100 ≤ nx) (x1 : Int) (s : Sg) : ∀ o, Mo_moveAt x1 s = some o → mm C M_X12_moveAt 1 0 0 nx nx [.ref 80, vi x1] (hp nx s) (QI nx o.2 o.1) (XF) := by
  intro o hs
  unfold Mo_moveAt at hs
  refine mm_of rfl rfl (Nat.le_of_ble_eq_true rfl) ?_
  show ww C M_X12_moveAt 1 0 0 nx (QI nx o.2 o.1) (XF) nx 0 0 0 [(0, .ref 80), (1, vi x1)] [] (hp nx s)
  refine w_aload_n 0 dX12_moveAt_0 rfl rfl ?_
  refine x_iconst dX12_moveAt_1 ?_
  refine x_putI 12 0 dX12_moveAt_2 (poX12_77 rfl) rfl rfl (lt_of hnx (Nat.le_of_ble_eq_true rfl)) ?_
  refine nam_s hs (fun s1 hs => ?_)
  refine w_iload_n 1 dX12_moveAt_5 rfl rfl ?_
  refine grd_e hs (fun hg2 hs => ?_)
  refine x_i2l dX12_moveAt_6 hg2 ?_
  refine x_lconst (x := 0) dX12_moveAt_7 (by decide) ?_
  refine w_aload_n 0 dX12_moveAt_8 rfl rfl ?_
  refine x_getR 12 1 (b := 81) dX12_moveAt_9 (fxX12_9 rfl) rfl rfl (lt_of hnx (Nat.le_of_ble_eq_true rfl)) rfl ?_
  refine x_iconst dX12_moveAt_12 ?_
  refine grd_e hs (fun hg3 hs => ?_)
  refine x_iald ⟨by decide, by decide⟩ (Nat.le_of_ble_eq_true rfl) dX12_moveAt_13 (Or.inl ⟨rfl, (lt_of hnx (Nat.le_of_ble_eq_true rfl))⟩) ?_
  refine x_iconst dX12_moveAt_14 ?_
  refine x_isub dX12_moveAt_15 ?_
  refine grd_e hs (fun hg4 hs => ?_)
  refine x_i2l dX12_moveAt_16 hg4 ?_
  refine x_S_I M_X12_in [vl x1, vl 0, vl ((gi s1 81 4) - 1)] [] hs rfl dX12_moveAt_17 (lkX12_108 _ rfl) (Nat.le_of_ble_eq_true rfl) (Nat.le_of_ble_eq_true rfl) (Nat.le_of_ble_eq_true rfl) (Nat.le_of_ble_eq_true rfl) (c_Mo_in hnx x1 0 ((gi s1 81 4) - 1) s1) (fun y5 hy5 hs => ?_)
  refine x_ifeq hs dX12_moveAt_20 rfl (fun hs => ?_) (fun hs => ?_)
  · refine x_iconst dX12_moveAt_35 ?_
    cases hs
    exact x_ireturn dX12_moveAt_36 rfl rfl (Nat.le_of_ble_eq_true rfl) (Nat.le_of_ble_eq_true rfl) ⟨rfl, rfl⟩
  · refine w_aload_n 0 dX12_moveAt_23 rfl rfl ?_
    refine x_getR 12 1 (b := 81) dX12_moveAt_24 (fxX12_9 rfl) rfl rfl (lt_of hnx (Nat.le_of_ble_eq_true rfl)) rfl ?_
    refine x_bipush dX12_moveAt_27 (by decide) ?_
    refine w_iload_n 1 dX12_moveAt_29 rfl rfl ?_
    refine x_iadd dX12_moveAt_30 ?_
    refine grd_e hs (fun hg6 hs => ?_)
    refine x_iald hg6 (Nat.le_of_ble_eq_true rfl) dX12_moveAt_31 (Or.inl ⟨rfl, (lt_of hnx (Nat.le_of_ble_eq_true rfl))⟩) ?_
    refine w_goto dX12_moveAt_32 rfl ?_
    cases hs
    exact x_ireturn dX12_moveAt_36 rfl rfl (Nat.le_of_ble_eq_true rfl) (Nat.le_of_ble_eq_true rfl) ⟨rfl, rfl⟩
set_option maxRecDepth 100000 in
theorem c_Mo_move {C : Cx} {nx : Nat} (hnx : 100 ≤ nx) (x1 : Int) (s : Sg) : ∀ o, Mo_move x1 s = some o → mm C M_X12_move 7 0 0 nx nx [.ref 80, vi x1] (hp nx s) (QI nx o.2 o.1) (XF) := by
  intro o hs
  unfold Mo_move at hs
  refine mm_of rfl rfl (Nat.le_of_ble_eq_true rfl) ?_
  show ww C M_X12_move 7 0 0 nx (QI nx o.2 o.1) (XF) nx 0 0 0 [(0, .ref 80), (1, vi x1)] [] (hp nx s)
  refine w_aload_n 0 dX12_move_0 rfl rfl ?_
  refine w_iload_n 1 dX12_move_1 rfl rfl ?_
  refine x_V_B M_X12_noCell [vi x1] [] hs rfl dX12_move_2 (lkX12_308 _ rfl) (lt_of hnx (Nat.le_of_ble_eq_true rfl)) rfl rfl (Nat.le_of_ble_eq_true rfl) (Nat.le_of_ble_eq_true rfl) (Nat.le_of_ble_eq_true rfl) (Nat.le_of_ble_eq_true rfl) (c_Mo_noCell hnx x1 s) (fun y1 s2 hy1 hs => ?_)
  refine x_ifeq hs dX12_move_5 rfl (fun hs => ?_) (fun hs => ?_)
  · refine w_aload_n 0 dX12_move_10 rfl rfl ?_
    refine w_iload_n 1 dX12_move_11 rfl rfl ?_
    refine x_V_I M_X12_stone [vi x1] [] hs rfl dX12_move_12 (lkX12_215 _ rfl) (lt_of hnx (Nat.le_of_ble_eq_true rfl)) rfl rfl (Nat.le_of_ble_eq_true rfl) (Nat.le_of_ble_eq_true rfl) (Nat.le_of_ble_eq_true rfl) (Nat.le_of_ble_eq_true rfl) (c_Mo_stone hnx x1 s2) (fun y3 hy3 hs => ?_)
    refine x_iconst dX12_move_15 ?_
    refine x_icmpne hs dX12_move_16 rfl (fun hs => ?_) (fun hs => ?_)
    · refine x_bipush dX12_move_27 (by decide) ?_
      cases hs
      exact x_ireturn dX12_move_29 rfl rfl (Nat.le_of_ble_eq_true rfl) (Nat.le_of_ble_eq_true rfl) ⟨rfl, rfl⟩
    · refine w_aload_n 0 dX12_move_19 rfl rfl ?_
      refine x_V_B M_X12_winner [] [] hs rfl dX12_move_20 (lkX12_155 _ rfl) (lt_of hnx (Nat.le_of_ble_eq_true rfl)) rfl rfl (Nat.le_of_ble_eq_true rfl) (Nat.le_of_ble_eq_true rfl) (Nat.le_of_ble_eq_true rfl) (Nat.le_of_ble_eq_true rfl) (c_Mo_winner hnx s2) (fun y4 s5 hy4 hs => ?_)
      refine x_iconst dX12_move_23 ?_
      refine x_icmpeq hs dX12_move_24 rfl (fun hs => ?_) (fun hs => ?_)
      · refine w_aload_n 0 dX12_move_30 rfl rfl ?_
        refine x_getR 12 1 (b := 81) dX12_move_31 (fxX12_9 rfl) rfl rfl (lt_of hnx (Nat.le_of_ble_eq_true rfl)) rfl ?_
        refine x_iconst dX12_move_34 ?_
        refine grd_e hs (fun hg6 hs => ?_)
        refine x_iald ⟨by decide, by decide⟩ (Nat.le_of_ble_eq_true rfl) dX12_move_35 (Or.inl ⟨rfl, (lt_of hnx (Nat.le_of_ble_eq_true rfl))⟩) ?_
        refine x_sipush dX12_move_36 (by decide) ?_
        refine x_icmpne hs dX12_move_39 rfl (fun hs => ?_) (fun hs => ?_)
        · refine w_aload_n 0 dX12_move_45 rfl rfl ?_
          refine x_V_V M_X12_keeps [] [] hs rfl dX12_move_46 (lkX12_422 _ rfl) (lt_of hnx (Nat.le_of_ble_eq_true rfl)) rfl rfl (Nat.le_of_ble_eq_true rfl) (Nat.le_of_ble_eq_true rfl) (Nat.le_of_ble_eq_true rfl) (Nat.le_of_ble_eq_true rfl) (c_Mo_keeps hnx s5) (fun s8 hs8 hs => ?_)
          refine w_aload_n 0 dX12_move_49 rfl rfl ?_
          refine w_iload_n 1 dX12_move_50 rfl rfl ?_
          refine x_V_V M_X12_moves [vi x1] [] hs rfl dX12_move_51 (lkX12_164 _ rfl) (lt_of hnx (Nat.le_of_ble_eq_true rfl)) rfl rfl (Nat.le_of_ble_eq_true rfl) (Nat.le_of_ble_eq_true rfl) (Nat.le_of_ble_eq_true rfl) (Nat.le_of_ble_eq_true rfl) (c_Mo_moves hnx x1 s8) (fun s10 hs10 hs => ?_)
          refine w_aload_n 0 dX12_move_54 rfl rfl ?_
          refine x_V_B M_X12_winner [] [] hs rfl dX12_move_55 (lkX12_155 _ rfl) (lt_of hnx (Nat.le_of_ble_eq_true rfl)) rfl rfl (Nat.le_of_ble_eq_true rfl) (Nat.le_of_ble_eq_true rfl) (Nat.le_of_ble_eq_true rfl) (Nat.le_of_ble_eq_true rfl) (c_Mo_winner hnx s10) (fun y11 s12 hy11 hs => ?_)
          cases hs
          exact x_ireturn dX12_move_58 rfl rfl (Nat.le_of_ble_eq_true rfl) (Nat.le_of_ble_eq_true rfl) ⟨rfl, rfl⟩
        · refine x_bipush dX12_move_42 (by decide) ?_
          cases hs
          exact x_ireturn dX12_move_44 rfl rfl (Nat.le_of_ble_eq_true rfl) (Nat.le_of_ble_eq_true rfl) ⟨rfl, rfl⟩
      · refine x_bipush dX12_move_27 (by decide) ?_
        cases hs
        exact x_ireturn dX12_move_29 rfl rfl (Nat.le_of_ble_eq_true rfl) (Nat.le_of_ble_eq_true rfl) ⟨rfl, rfl⟩
  · refine x_iconst dX12_move_8 ?_
    cases hs
    exact x_ireturn dX12_move_9 rfl rfl (Nat.le_of_ble_eq_true rfl) (Nat.le_of_ble_eq_true rfl) ⟨rfl, rfl⟩
set_option maxRecDepth 100000 in
theorem c_Mo_swap {C : Cx} {nx : Nat} (hnx : 100 ≤ nx)  (s : Sg) : ∀ o, Mo_swap  s = some o → mm C M_X12_swap 8 0 0 nx nx [.ref 80] (hp nx s) (QI nx o.2 o.1) (XF) := by
  intro o hs
  unfold Mo_swap at hs
  refine mm_of rfl rfl (Nat.le_of_ble_eq_true rfl) ?_
  show ww C M_X12_swap 8 0 0 nx (QI nx o.2 o.1) (XF) nx 0 0 0 [(0, .ref 80)] [] (hp nx s)
  refine w_aload_n 0 dX12_swap_0 rfl rfl ?_
  refine x_iconst dX12_swap_1 ?_
  refine x_putI 12 0 dX12_swap_2 (poX12_77 rfl) rfl rfl (lt_of hnx (Nat.le_of_ble_eq_true rfl)) ?_
  refine nam_s hs (fun s1 hs => ?_)
  refine w_aload_n 0 dX12_swap_5 rfl rfl ?_
  refine x_V_B M_X12_canSwap [] [] hs rfl dX12_swap_6 (lkX12_299 _ rfl) (lt_of hnx (Nat.le_of_ble_eq_true rfl)) rfl rfl (Nat.le_of_ble_eq_true rfl) (Nat.le_of_ble_eq_true rfl) (Nat.le_of_ble_eq_true rfl) (Nat.le_of_ble_eq_true rfl) (c_Mo_canSwap hnx s1) (fun y2 s3 hy2 hs => ?_)
  refine x_ifne hs dX12_swap_9 rfl (fun hs => ?_) (fun hs => ?_)
  · refine w_aload_n 0 dX12_swap_15 rfl rfl ?_
    refine x_V_V M_X12_keeps [] [] hs rfl dX12_swap_16 (lkX12_422 _ rfl) (lt_of hnx (Nat.le_of_ble_eq_true rfl)) rfl rfl (Nat.le_of_ble_eq_true rfl) (Nat.le_of_ble_eq_true rfl) (Nat.le_of_ble_eq_true rfl) (Nat.le_of_ble_eq_true rfl) (c_Mo_keeps hnx s3) (fun s5 hs5 hs => ?_)
    refine w_aload_n 0 dX12_swap_19 rfl rfl ?_
    refine x_getR 12 1 (b := 81) dX12_swap_20 (fxX12_9 rfl) rfl rfl (lt_of hnx (Nat.le_of_ble_eq_true rfl)) rfl ?_
    refine x_bipush dX12_swap_23 (by decide) ?_
    refine grd_e hs (fun hg6 hs => ?_)
    refine x_iald ⟨by decide, by decide⟩ (Nat.le_of_ble_eq_true rfl) dX12_swap_25 (Or.inl ⟨rfl, (lt_of hnx (Nat.le_of_ble_eq_true rfl))⟩) ?_
    refine x_istore_n (fun x1_7 => [(1, vi x1_7), (0, .ref 80)]) hs dX12_swap_26 rfl (Nat.le_of_ble_eq_true rfl) (fun _ => rfl) (fun x1_7 hs => ?_)
    refine w_aload_n 1 dX12_swap_27 rfl rfl ?_
    refine w_iload_n 0 dX12_swap_28 rfl rfl ?_
    refine x_V_I M_X12_exchanged [vi x1_7] [] hs rfl dX12_swap_29 (lkX12_425 _ rfl) (lt_of hnx (Nat.le_of_ble_eq_true rfl)) rfl rfl (Nat.le_of_ble_eq_true rfl) (Nat.le_of_ble_eq_true rfl) (Nat.le_of_ble_eq_true rfl) (Nat.le_of_ble_eq_true rfl) (c_Mo_exchanged hnx x1_7 s5) (fun y8 hy8 hs => ?_)
    refine w_istore_n (lv' := [(2, vi y8), (1, vi x1_7), (0, .ref 80)]) dX12_swap_32 rfl (Nat.le_of_ble_eq_true rfl) rfl ?_
    refine w_aload_n 2 dX12_swap_33 rfl rfl ?_
    refine x_getR 12 1 (b := 81) dX12_swap_34 (fxX12_9 rfl) rfl rfl (lt_of hnx (Nat.le_of_ble_eq_true rfl)) rfl ?_
    refine x_iconst dX12_swap_37 ?_
    refine w_iload_n 1 dX12_swap_38 rfl rfl ?_
    refine x_iadd dX12_swap_39 ?_
    refine x_iconst dX12_swap_40 ?_
    refine grd_e hs (fun hg9 hs => ?_)
    refine x_iast hg9 (Nat.le_of_ble_eq_true rfl) dX12_swap_41 rfl (lt_of hnx (Nat.le_of_ble_eq_true rfl)) ?_
    refine nam_s hs (fun s10 hs => ?_)
    refine w_aload_n 2 dX12_swap_42 rfl rfl ?_
    refine w_iload_n 0 dX12_swap_43 rfl rfl ?_
    refine x_V_V M_X12_moves [vi y8] [] hs rfl dX12_swap_44 (lkX12_164 _ rfl) (lt_of hnx (Nat.le_of_ble_eq_true rfl)) rfl rfl (Nat.le_of_ble_eq_true rfl) (Nat.le_of_ble_eq_true rfl) (Nat.le_of_ble_eq_true rfl) (Nat.le_of_ble_eq_true rfl) (c_Mo_moves hnx y8 s10) (fun s12 hs12 hs => ?_)
    refine w_iload_n 0 dX12_swap_47 rfl rfl ?_
    cases hs
    exact x_ireturn dX12_swap_48 rfl rfl (Nat.le_of_ble_eq_true rfl) (Nat.le_of_ble_eq_true rfl) ⟨rfl, rfl⟩
  · refine x_bipush dX12_swap_12 (by decide) ?_
    cases hs
    exact x_ireturn dX12_swap_14 rfl rfl (Nat.le_of_ble_eq_true rfl) (Nat.le_of_ble_eq_true rfl) ⟨rfl, rfl⟩
set_option maxRecDepth 100000 in
theorem c_Mo_giveUp {C : Cx} {nx : Nat} (hnx : 100 ≤ nx)  (s : Sg) : ∀ o, Mo_giveUp  s = some o → mm C M_X12_giveUp 7 0 0 nx nx [.ref 80] (hp nx s) (QI nx o.2 o.1) (XF) := by
  intro o hs
  unfold Mo_giveUp at hs
  refine mm_of rfl rfl (Nat.le_of_ble_eq_true rfl) ?_
  show ww C M_X12_giveUp 7 0 0 nx (QI nx o.2 o.1) (XF) nx 0 0 0 [(0, .ref 80)] [] (hp nx s)
  refine w_aload_n 0 dX12_giveUp_0 rfl rfl ?_
  refine x_iconst dX12_giveUp_1 ?_
  refine x_putI 12 0 dX12_giveUp_2 (poX12_77 rfl) rfl rfl (lt_of hnx (Nat.le_of_ble_eq_true rfl)) ?_
  refine nam_s hs (fun s1 hs => ?_)
  refine w_aload_n 0 dX12_giveUp_5 rfl rfl ?_
  refine x_V_B M_X12_winner [] [] hs rfl dX12_giveUp_6 (lkX12_155 _ rfl) (lt_of hnx (Nat.le_of_ble_eq_true rfl)) rfl rfl (Nat.le_of_ble_eq_true rfl) (Nat.le_of_ble_eq_true rfl) (Nat.le_of_ble_eq_true rfl) (Nat.le_of_ble_eq_true rfl) (c_Mo_winner hnx s1) (fun y2 s3 hy2 hs => ?_)
  refine x_iconst dX12_giveUp_9 ?_
  refine x_icmpeq hs dX12_giveUp_10 rfl (fun hs => ?_) (fun hs => ?_)
  · refine w_aload_n 0 dX12_giveUp_16 rfl rfl ?_
    refine x_V_V M_X12_keeps [] [] hs rfl dX12_giveUp_17 (lkX12_422 _ rfl) (lt_of hnx (Nat.le_of_ble_eq_true rfl)) rfl rfl (Nat.le_of_ble_eq_true rfl) (Nat.le_of_ble_eq_true rfl) (Nat.le_of_ble_eq_true rfl) (Nat.le_of_ble_eq_true rfl) (c_Mo_keeps hnx s3) (fun s5 hs5 hs => ?_)
    refine w_aload_n 0 dX12_giveUp_20 rfl rfl ?_
    refine x_getR 12 1 (b := 81) dX12_giveUp_21 (fxX12_9 rfl) rfl rfl (lt_of hnx (Nat.le_of_ble_eq_true rfl)) rfl ?_
    refine x_iconst dX12_giveUp_24 ?_
    refine w_aload_n 0 dX12_giveUp_25 rfl rfl ?_
    refine x_getR 12 1 (b := 81) dX12_giveUp_26 (fxX12_9 rfl) rfl rfl (lt_of hnx (Nat.le_of_ble_eq_true rfl)) rfl ?_
    refine x_iconst dX12_giveUp_29 ?_
    refine grd_e hs (fun hg6 hs => ?_)
    refine x_iald ⟨by decide, by decide⟩ (Nat.le_of_ble_eq_true rfl) dX12_giveUp_30 (Or.inl ⟨rfl, (lt_of hnx (Nat.le_of_ble_eq_true rfl))⟩) ?_
    refine grd_e hs (fun hg7 hs => ?_)
    refine x_iast ⟨by decide, by decide⟩ (Nat.le_of_ble_eq_true rfl) dX12_giveUp_31 rfl (lt_of hnx (Nat.le_of_ble_eq_true rfl)) ?_
    refine nam_s hs (fun s8 hs => ?_)
    refine w_aload_n 0 dX12_giveUp_32 rfl rfl ?_
    refine x_V_B M_X12_winner [] [] hs rfl dX12_giveUp_33 (lkX12_155 _ rfl) (lt_of hnx (Nat.le_of_ble_eq_true rfl)) rfl rfl (Nat.le_of_ble_eq_true rfl) (Nat.le_of_ble_eq_true rfl) (Nat.le_of_ble_eq_true rfl) (Nat.le_of_ble_eq_true rfl) (c_Mo_winner hnx s8) (fun y9 s10 hy9 hs => ?_)
    cases hs
    exact x_ireturn dX12_giveUp_36 rfl rfl (Nat.le_of_ble_eq_true rfl) (Nat.le_of_ble_eq_true rfl) ⟨rfl, rfl⟩
  · refine x_bipush dX12_giveUp_13 (by decide) ?_
    cases hs
    exact x_ireturn dX12_giveUp_15 rfl rfl (Nat.le_of_ble_eq_true rfl) (Nat.le_of_ble_eq_true rfl) ⟨rfl, rfl⟩
set_option maxRecDepth 100000 in
theorem q_Mo_put_b26 {C : Cx} {nx : Nat} (hnx : 100 ≤ nx) (x1 : Int) (x2 : Int) (t1 : Int) (s : Sg) {o : Int × Sg} (hs : Mo_put_b26 x1 x2 t1 s = some o) : ww C M_X12_put 3 0 0 nx (QI nx o.2 o.1) (XF) nx 0 0 26 [(0, .ref 80), (1, vi x1), (2, vi x2)] [vi t1, .ref 80] (hp nx s) := by
  unfold Mo_put_b26 at hs
  refine x_iconst dX12_put_26 ?_
  refine x_V_B M_X12_throwsIf [vi t1, vi 2] [] hs rfl dX12_put_27 (lkX12_313 _ rfl) (lt_of hnx (Nat.le_of_ble_eq_true rfl)) rfl rfl (Nat.le_of_ble_eq_true rfl) (Nat.le_of_ble_eq_true rfl) (Nat.le_of_ble_eq_true rfl) (Nat.le_of_ble_eq_true rfl) (c_Mo_throwsIf hnx t1 2 s) (fun y5 s6 hy5 hs => ?_)
  refine x_ifeq hs dX12_put_30 rfl (fun hs => ?_) (fun hs => ?_)
  · refine w_aload_n 0 dX12_put_35 rfl rfl ?_
    refine x_V_V M_X12_keeps [] [] hs rfl dX12_put_36 (lkX12_422 _ rfl) (lt_of hnx (Nat.le_of_ble_eq_true rfl)) rfl rfl (Nat.le_of_ble_eq_true rfl) (Nat.le_of_ble_eq_true rfl) (Nat.le_of_ble_eq_true rfl) (Nat.le_of_ble_eq_true rfl) (c_Mo_keeps hnx s6) (fun s8 hs8 hs => ?_)
    refine w_aload_n 0 dX12_put_39 rfl rfl ?_
    refine w_iload_n 1 dX12_put_40 rfl rfl ?_
    refine x_V_I M_X12_stone [vi x1] [] hs rfl dX12_put_41 (lkX12_215 _ rfl) (lt_of hnx (Nat.le_of_ble_eq_true rfl)) rfl rfl (Nat.le_of_ble_eq_true rfl) (Nat.le_of_ble_eq_true rfl) (Nat.le_of_ble_eq_true rfl) (Nat.le_of_ble_eq_true rfl) (c_Mo_stone hnx x1 s8) (fun y9 hy9 hs => ?_)
    refine w_istore_n (lv' := [(3, vi y9), (0, .ref 80), (1, vi x1), (2, vi x2)]) dX12_put_44 rfl (Nat.le_of_ble_eq_true rfl) rfl ?_
    refine w_aload_n 1 dX12_put_45 rfl rfl ?_
    refine x_getR 12 1 (b := 81) dX12_put_46 (fxX12_9 rfl) rfl rfl (lt_of hnx (Nat.le_of_ble_eq_true rfl)) rfl ?_
    refine x_iconst dX12_put_49 ?_
    refine w_iload_n 2 dX12_put_50 rfl rfl ?_
    refine x_iadd dX12_put_51 ?_
    refine w_iload_n 3 dX12_put_52 rfl rfl ?_
    refine grd_e hs (fun hg10 hs => ?_)
    refine x_iast hg10 (Nat.le_of_ble_eq_true rfl) dX12_put_53 rfl (lt_of hnx (Nat.le_of_ble_eq_true rfl)) ?_
    refine nam_s hs (fun s11 hs => ?_)
    refine w_iload_n 0 dX12_put_54 rfl rfl ?_
    cases hs
    exact x_ireturn dX12_put_55 rfl rfl (Nat.le_of_ble_eq_true rfl) (Nat.le_of_ble_eq_true rfl) ⟨rfl, rfl⟩
  · refine x_iconst dX12_put_33 ?_
    cases hs
    exact x_ireturn dX12_put_34 rfl rfl (Nat.le_of_ble_eq_true rfl) (Nat.le_of_ble_eq_true rfl) ⟨rfl, rfl⟩
set_option maxRecDepth 100000 in
theorem c_Mo_put {C : Cx} {nx : Nat} (hnx : 100 ≤ nx) (x1 : Int) (x2 : Int) (s : Sg) : ∀ o, Mo_put x1 x2 s = some o → mm C M_X12_put 3 0 0 nx nx [.ref 80, vi x1, vi x2] (hp nx s) (QI nx o.2 o.1) (XF) := by
  intro o hs
  unfold Mo_put at hs
  refine mm_of rfl rfl (Nat.le_of_ble_eq_true rfl) ?_
  show ww C M_X12_put 3 0 0 nx (QI nx o.2 o.1) (XF) nx 0 0 0 [(0, .ref 80), (1, vi x1), (2, vi x2)] [] (hp nx s)
  refine w_aload_n 0 dX12_put_0 rfl rfl ?_
  refine w_iload_n 1 dX12_put_1 rfl rfl ?_
  refine x_V_B M_X12_noCell [vi x1] [] hs rfl dX12_put_2 (lkX12_308 _ rfl) (lt_of hnx (Nat.le_of_ble_eq_true rfl)) rfl rfl (Nat.le_of_ble_eq_true rfl) (Nat.le_of_ble_eq_true rfl) (Nat.le_of_ble_eq_true rfl) (Nat.le_of_ble_eq_true rfl) (c_Mo_noCell hnx x1 s) (fun y1 s2 hy1 hs => ?_)
  refine x_ifne hs dX12_put_5 rfl (fun hs => ?_) (fun hs => ?_)
  · refine x_iconst dX12_put_33 ?_
    cases hs
    exact x_ireturn dX12_put_34 rfl rfl (Nat.le_of_ble_eq_true rfl) (Nat.le_of_ble_eq_true rfl) ⟨rfl, rfl⟩
  · refine w_aload_n 0 dX12_put_8 rfl rfl ?_
    refine w_iload_n 2 dX12_put_9 rfl rfl ?_
    refine grd_e hs (fun hg3 hs => ?_)
    refine x_i2l dX12_put_10 hg3 ?_
    refine x_ldc2 (-1) dX12_put_11 (csX12_428 rfl) ?_
    refine x_lconst (x := 1) dX12_put_14 (by decide) ?_
    refine x_S_I M_X12_in [vl x2, vl (-1), vl 1] [.ref 80] hs rfl dX12_put_15 (lkX12_108 _ rfl) (Nat.le_of_ble_eq_true rfl) (Nat.le_of_ble_eq_true rfl) (Nat.le_of_ble_eq_true rfl) (Nat.le_of_ble_eq_true rfl) (c_Mo_in hnx x2 (-1) 1 s2) (fun y4 hy4 hs => ?_)
    refine x_ifne hs dX12_put_18 rfl (fun hs => ?_) (fun hs => ?_)
    · refine x_iconst dX12_put_25 ?_
      exact q_Mo_put_b26 hnx x1 x2 0 s2 hs
    · refine x_iconst dX12_put_21 ?_
      refine w_goto dX12_put_22 rfl ?_
      exact q_Mo_put_b26 hnx x1 x2 1 s2 hs
set_option maxRecDepth 100000 in
theorem c_Mo_setTurn {C : Cx} {nx : Nat} (hnx : 100 ≤ nx) (x1 : Int) (s : Sg) : ∀ o, Mo_setTurn x1 s = some o → mm C M_X12_setTurn 2 0 0 nx nx [.ref 80, vi x1] (hp nx s) (QI nx o.2 o.1) (XF) := by
  intro o hs
  unfold Mo_setTurn at hs
  refine mm_of rfl rfl (Nat.le_of_ble_eq_true rfl) ?_
  show ww C M_X12_setTurn 2 0 0 nx (QI nx o.2 o.1) (XF) nx 0 0 0 [(0, .ref 80), (1, vi x1)] [] (hp nx s)
  refine w_aload_n 0 dX12_setTurn_0 rfl rfl ?_
  refine w_iload_n 1 dX12_setTurn_1 rfl rfl ?_
  refine x_V_B M_X12_noSide [vi x1] [] hs rfl dX12_setTurn_2 (lkX12_323 _ rfl) (lt_of hnx (Nat.le_of_ble_eq_true rfl)) rfl rfl (Nat.le_of_ble_eq_true rfl) (Nat.le_of_ble_eq_true rfl) (Nat.le_of_ble_eq_true rfl) (Nat.le_of_ble_eq_true rfl) (c_Mo_noSide hnx x1 s) (fun y1 s2 hy1 hs => ?_)
  refine x_ifeq hs dX12_setTurn_5 rfl (fun hs => ?_) (fun hs => ?_)
  · refine w_aload_n 0 dX12_setTurn_10 rfl rfl ?_
    refine x_V_V M_X12_keeps [] [] hs rfl dX12_setTurn_11 (lkX12_422 _ rfl) (lt_of hnx (Nat.le_of_ble_eq_true rfl)) rfl rfl (Nat.le_of_ble_eq_true rfl) (Nat.le_of_ble_eq_true rfl) (Nat.le_of_ble_eq_true rfl) (Nat.le_of_ble_eq_true rfl) (c_Mo_keeps hnx s2) (fun s4 hs4 hs => ?_)
    refine w_aload_n 0 dX12_setTurn_14 rfl rfl ?_
    refine x_getR 12 1 (b := 81) dX12_setTurn_15 (fxX12_9 rfl) rfl rfl (lt_of hnx (Nat.le_of_ble_eq_true rfl)) rfl ?_
    refine x_iconst dX12_setTurn_18 ?_
    refine grd_e hs (fun hg5 hs => ?_)
    refine x_iald ⟨by decide, by decide⟩ (Nat.le_of_ble_eq_true rfl) dX12_setTurn_19 (Or.inl ⟨rfl, (lt_of hnx (Nat.le_of_ble_eq_true rfl))⟩) ?_
    refine x_istore_n (fun x2_6 => [(2, vi x2_6), (0, .ref 80), (1, vi x1)]) hs dX12_setTurn_20 rfl (Nat.le_of_ble_eq_true rfl) (fun _ => rfl) (fun x2_6 hs => ?_)
    refine w_aload_n 1 dX12_setTurn_21 rfl rfl ?_
    refine x_getR 12 1 (b := 81) dX12_setTurn_22 (fxX12_9 rfl) rfl rfl (lt_of hnx (Nat.le_of_ble_eq_true rfl)) rfl ?_
    refine x_iconst dX12_setTurn_25 ?_
    refine w_iload_n 2 dX12_setTurn_26 rfl rfl ?_
    refine grd_e hs (fun hg7 hs => ?_)
    refine x_iast ⟨by decide, by decide⟩ (Nat.le_of_ble_eq_true rfl) dX12_setTurn_27 rfl (lt_of hnx (Nat.le_of_ble_eq_true rfl)) ?_
    refine nam_s hs (fun s8 hs => ?_)
    refine w_iload_n 0 dX12_setTurn_28 rfl rfl ?_
    cases hs
    exact x_ireturn dX12_setTurn_29 rfl rfl (Nat.le_of_ble_eq_true rfl) (Nat.le_of_ble_eq_true rfl) ⟨rfl, rfl⟩
  · refine x_iconst dX12_setTurn_8 ?_
    cases hs
    exact x_ireturn dX12_setTurn_9 rfl rfl (Nat.le_of_ble_eq_true rfl) (Nat.le_of_ble_eq_true rfl) ⟨rfl, rfl⟩
set_option maxRecDepth 100000 in
theorem c_Mo_otherSide {C : Cx} {nx : Nat} (hnx : 100 ≤ nx) (x0 : Int) (s : Sg) : ∀ o, Mo_otherSide x0 s = some o → mm C M_X12_otherSide 0 0 0 nx nx [vi x0] (hp nx s) (QI nx s o) (XF) := by
  intro o hs
  unfold Mo_otherSide at hs
  refine mm_of rfl rfl (Nat.le_of_ble_eq_true rfl) ?_
  show ww C M_X12_otherSide 0 0 0 nx (QI nx s o) (XF) nx 0 0 0 [(0, vi x0)] [] (hp nx s)
  refine w_iload_n 0 dX12_otherSide_0 rfl rfl ?_
  refine x_iconst dX12_otherSide_1 ?_
  refine x_icmpne hs dX12_otherSide_2 rfl (fun hs => ?_) (fun hs => ?_)
  · refine x_iconst dX12_otherSide_9 ?_
    refine w_iload_n 0 dX12_otherSide_10 rfl rfl ?_
    refine x_isub dX12_otherSide_11 ?_
    cases hs
    exact x_ireturn dX12_otherSide_12 rfl rfl (Nat.le_of_ble_eq_true rfl) (Nat.le_of_ble_eq_true rfl) ⟨rfl, rfl⟩
  · refine x_iconst dX12_otherSide_5 ?_
    refine w_goto dX12_otherSide_6 rfl ?_
    cases hs
    exact x_ireturn dX12_otherSide_12 rfl rfl (Nat.le_of_ble_eq_true rfl) (Nat.le_of_ble_eq_true rfl) ⟨rfl, rfl⟩
set_option maxRecDepth 100000 in
theorem q_Mo_turnOver_t15 {C : Cx} {nx : Nat} (hnx : 100 ≤ nx) {Qr : Option Value → Hp → Prop} {Qx : String → Hp → Prop}  (x1 : Int) (s : Sg) {o : ((Int × Sg) ⊕ (Sg))} (hs : Mo_turnOver_t15 x1 s = some o) (hb : ∀ σ : Int × Sg, o = .inl σ → ww C M_X12_turnOver 2 0 0 nx (Qr) (Qx) nx 0 0 15 [(0, .ref 80), (1, vi σ.1)] [] (hp nx σ.2)) (he0 : ∀ ρ : Sg, o = .inr ρ → ww C M_X12_turnOver 2 0 0 nx (Qr) (Qx) nx 0 0 52 [(0, .ref 80)] [] (hp nx ρ)) : ww C M_X12_turnOver 2 0 0 nx (Qr) (Qx) nx 0 0 15 [(0, .ref 80), (1, vi x1)] [] (hp nx s) := by
  unfold Mo_turnOver_t15 at hs
  refine w_iload_n 1 dX12_turnOver_15 rfl rfl ?_
  refine w_aload_n 0 dX12_turnOver_16 rfl rfl ?_
  refine x_V_I M_X12_cells [] [vi x1] hs rfl dX12_turnOver_17 (lkX12_212 _ rfl) (lt_of hnx (Nat.le_of_ble_eq_true rfl)) rfl rfl (Nat.le_of_ble_eq_true rfl) (Nat.le_of_ble_eq_true rfl) (Nat.le_of_ble_eq_true rfl) (Nat.le_of_ble_eq_true rfl) (c_Mo_cells hnx s) (fun y6 hy6 hs => ?_)
  refine x_icmpge hs dX12_turnOver_20 rfl (fun hs => ?_) (fun hs => ?_)
  · refine w_lv (lv' := [(0, .ref 80)]) [0] rfl ?_
    cases hs
    exact he0 _ rfl
  · refine w_aload_n 0 dX12_turnOver_23 rfl rfl ?_
    refine x_getR 12 1 (b := 81) dX12_turnOver_24 (fxX12_9 rfl) rfl rfl (lt_of hnx (Nat.le_of_ble_eq_true rfl)) rfl ?_
    refine x_iconst dX12_turnOver_27 ?_
    refine w_aload_n 0 dX12_turnOver_28 rfl rfl ?_
    refine w_iload_n 1 dX12_turnOver_29 rfl rfl ?_
    refine x_V_I M_X12_exchanged [vi x1] [vi 5, .ref 81] hs rfl dX12_turnOver_30 (lkX12_425 _ rfl) (lt_of hnx (Nat.le_of_ble_eq_true rfl)) rfl rfl (Nat.le_of_ble_eq_true rfl) (Nat.le_of_ble_eq_true rfl) (Nat.le_of_ble_eq_true rfl) (Nat.le_of_ble_eq_true rfl) (c_Mo_exchanged hnx x1 s) (fun y7 hy7 hs => ?_)
    refine x_iadd dX12_turnOver_33 ?_
    refine w_aload_n 0 dX12_turnOver_34 rfl rfl ?_
    refine x_getR 12 2 (b := 82) dX12_turnOver_35 (fxX12_13 rfl) rfl rfl (lt_of hnx (Nat.le_of_ble_eq_true rfl)) rfl ?_
    refine x_iconst dX12_turnOver_38 ?_
    refine w_iload_n 1 dX12_turnOver_39 rfl rfl ?_
    refine x_iadd dX12_turnOver_40 ?_
    refine grd_e hs (fun hg8 hs => ?_)
    refine x_iald hg8 (Nat.le_of_ble_eq_true rfl) dX12_turnOver_41 (Or.inl ⟨rfl, (lt_of hnx (Nat.le_of_ble_eq_true rfl))⟩) ?_
    refine x_S_I M_X12_otherSide [vi (gi s 82 (5 + x1).toNat)] [vi (5 + y7), .ref 81] hs rfl dX12_turnOver_42 (lkX12_430 _ rfl) (Nat.le_of_ble_eq_true rfl) (Nat.le_of_ble_eq_true rfl) (Nat.le_of_ble_eq_true rfl) (Nat.le_of_ble_eq_true rfl) (c_Mo_otherSide hnx (gi s 82 (5 + x1).toNat) s) (fun y9 hy9 hs => ?_)
    refine grd_e hs (fun hg10 hs => ?_)
    refine x_iast hg10 (Nat.le_of_ble_eq_true rfl) dX12_turnOver_45 rfl (lt_of hnx (Nat.le_of_ble_eq_true rfl)) ?_
    refine nam_s hs (fun s11 hs => ?_)
    refine x_iinc (lv' := [(1, vi (x1 + 1)), (0, .ref 80)]) 1 dX12_turnOver_46 rfl (Nat.le_of_ble_eq_true rfl) rfl ?_
    refine w_goto dX12_turnOver_49 rfl ?_
    refine w_lv (lv' := [(0, .ref 80), (1, vi (x1 + 1))]) [1, 0] rfl ?_
    cases hs
    exact hb _ rfl
set_option maxRecDepth 100000 in
theorem q_Mo_turnOver_t54 {C : Cx} {nx : Nat} (hnx : 100 ≤ nx) {Qr : Option Value → Hp → Prop} {Qx : String → Hp → Prop}  (x1 : Int) (s : Sg) {o : ((Int × Sg) ⊕ (Sg))} (hs : Mo_turnOver_t54 x1 s = some o) (hb : ∀ σ : Int × Sg, o = .inl σ → ww C M_X12_turnOver 2 0 0 nx (Qr) (Qx) nx 0 0 54 [(0, .ref 80), (1, vi σ.1)] [] (hp nx σ.2)) (he0 : ∀ ρ : Sg, o = .inr ρ → ww C M_X12_turnOver 2 0 0 nx (Qr) (Qx) nx 0 0 92 [(0, .ref 80)] [] (hp nx ρ)) : ww C M_X12_turnOver 2 0 0 nx (Qr) (Qx) nx 0 0 54 [(0, .ref 80), (1, vi x1)] [] (hp nx s) := by
  unfold Mo_turnOver_t54 at hs
  refine w_iload_n 1 dX12_turnOver_54 rfl rfl ?_
  refine w_aload_n 0 dX12_turnOver_55 rfl rfl ?_
  refine x_getR 12 1 (b := 81) dX12_turnOver_56 (fxX12_9 rfl) rfl rfl (lt_of hnx (Nat.le_of_ble_eq_true rfl)) rfl ?_
  refine x_iconst dX12_turnOver_59 ?_
  refine grd_e hs (fun hg13 hs => ?_)
  refine x_iald ⟨by decide, by decide⟩ (Nat.le_of_ble_eq_true rfl) dX12_turnOver_60 (Or.inl ⟨rfl, (lt_of hnx (Nat.le_of_ble_eq_true rfl))⟩) ?_
  refine x_icmpge hs dX12_turnOver_61 rfl (fun hs => ?_) (fun hs => ?_)
  · refine w_lv (lv' := [(0, .ref 80)]) [0] rfl ?_
    cases hs
    exact he0 _ rfl
  · refine w_aload_n 0 dX12_turnOver_64 rfl rfl ?_
    refine x_getR 12 1 (b := 81) dX12_turnOver_65 (fxX12_9 rfl) rfl rfl (lt_of hnx (Nat.le_of_ble_eq_true rfl)) rfl ?_
    refine x_bipush dX12_turnOver_68 (by decide) ?_
    refine w_iload_n 1 dX12_turnOver_70 rfl rfl ?_
    refine x_iadd dX12_turnOver_71 ?_
    refine w_aload_n 0 dX12_turnOver_72 rfl rfl ?_
    refine w_aload_n 0 dX12_turnOver_73 rfl rfl ?_
    refine x_getR 12 2 (b := 82) dX12_turnOver_74 (fxX12_13 rfl) rfl rfl (lt_of hnx (Nat.le_of_ble_eq_true rfl)) rfl ?_
    refine x_bipush dX12_turnOver_77 (by decide) ?_
    refine w_iload_n 1 dX12_turnOver_79 rfl rfl ?_
    refine x_iadd dX12_turnOver_80 ?_
    refine grd_e hs (fun hg14 hs => ?_)
    refine x_iald hg14 (Nat.le_of_ble_eq_true rfl) dX12_turnOver_81 (Or.inl ⟨rfl, (lt_of hnx (Nat.le_of_ble_eq_true rfl))⟩) ?_
    refine x_V_I M_X12_exchanged [vi (gi s 82 (86 + x1).toNat)] [vi (86 + x1), .ref 81] hs rfl dX12_turnOver_82 (lkX12_425 _ rfl) (lt_of hnx (Nat.le_of_ble_eq_true rfl)) rfl rfl (Nat.le_of_ble_eq_true rfl) (Nat.le_of_ble_eq_true rfl) (Nat.le_of_ble_eq_true rfl) (Nat.le_of_ble_eq_true rfl) (c_Mo_exchanged hnx (gi s 82 (86 + x1).toNat) s) (fun y15 hy15 hs => ?_)
    refine grd_e hs (fun hg16 hs => ?_)
    refine x_iast hg16 (Nat.le_of_ble_eq_true rfl) dX12_turnOver_85 rfl (lt_of hnx (Nat.le_of_ble_eq_true rfl)) ?_
    refine nam_s hs (fun s17 hs => ?_)
    refine x_iinc (lv' := [(1, vi (x1 + 1)), (0, .ref 80)]) 1 dX12_turnOver_86 rfl (Nat.le_of_ble_eq_true rfl) rfl ?_
    refine w_goto dX12_turnOver_89 rfl ?_
    refine w_lv (lv' := [(0, .ref 80), (1, vi (x1 + 1))]) [1, 0] rfl ?_
    cases hs
    exact hb _ rfl
set_option maxRecDepth 100000 in
theorem q_Mo_turnOver_l54 {C : Cx} {nx : Nat} (hnx : 100 ≤ nx) (x1 : Int) (s : Sg) {o : Int × Sg} (hs : Mo_turnOver_l54 x1 s = some o) : ww C M_X12_turnOver 2 0 0 nx (QI nx o.2 o.1) (XF) nx 0 0 54 [(0, .ref 80), (1, vi x1)] [] (hp nx s) := by
  unfold Mo_turnOver_l54 at hs
  refine bnd_e hs (fun s_18 hw hs => ?_)
  have hE : ww C M_X12_turnOver 2 0 0 nx (QI nx o.2 o.1) (XF) nx 0 0 92 [(0, .ref 80)] [] (hp nx s_18) := by
    refine w_aload_n 0 dX12_turnOver_92 rfl rfl ?_
    refine x_getR 12 1 (b := 81) dX12_turnOver_93 (fxX12_9 rfl) rfl rfl (lt_of hnx (Nat.le_of_ble_eq_true rfl)) rfl ?_
    refine x_iconst dX12_turnOver_96 ?_
    refine x_iconst dX12_turnOver_97 ?_
    refine w_aload_n 0 dX12_turnOver_98 rfl rfl ?_
    refine x_getR 12 1 (b := 81) dX12_turnOver_99 (fxX12_9 rfl) rfl rfl (lt_of hnx (Nat.le_of_ble_eq_true rfl)) rfl ?_
    refine x_iconst dX12_turnOver_102 ?_
    refine grd_e hs (fun hg19 hs => ?_)
    refine x_iald ⟨by decide, by decide⟩ (Nat.le_of_ble_eq_true rfl) dX12_turnOver_103 (Or.inl ⟨rfl, (lt_of hnx (Nat.le_of_ble_eq_true rfl))⟩) ?_
    refine x_isub dX12_turnOver_104 ?_
    refine grd_e hs (fun hg20 hs => ?_)
    refine x_iast ⟨by decide, by decide⟩ (Nat.le_of_ble_eq_true rfl) dX12_turnOver_105 rfl (lt_of hnx (Nat.le_of_ble_eq_true rfl)) ?_
    refine nam_s hs (fun s21 hs => ?_)
    refine w_aload_n 0 dX12_turnOver_106 rfl rfl ?_
    refine x_getR 12 1 (b := 81) dX12_turnOver_107 (fxX12_9 rfl) rfl rfl (lt_of hnx (Nat.le_of_ble_eq_true rfl)) rfl ?_
    refine x_iconst dX12_turnOver_110 ?_
    refine w_aload_n 0 dX12_turnOver_111 rfl rfl ?_
    refine x_getR 12 1 (b := 81) dX12_turnOver_112 (fxX12_9 rfl) rfl rfl (lt_of hnx (Nat.le_of_ble_eq_true rfl)) rfl ?_
    refine x_iconst dX12_turnOver_115 ?_
    refine grd_e hs (fun hg22 hs => ?_)
    refine x_iald ⟨by decide, by decide⟩ (Nat.le_of_ble_eq_true rfl) dX12_turnOver_116 (Or.inl ⟨rfl, (lt_of hnx (Nat.le_of_ble_eq_true rfl))⟩) ?_
    refine x_S_I M_X12_otherSide [vi (gi s21 81 3)] [vi 3, .ref 81] hs rfl dX12_turnOver_117 (lkX12_430 _ rfl) (Nat.le_of_ble_eq_true rfl) (Nat.le_of_ble_eq_true rfl) (Nat.le_of_ble_eq_true rfl) (Nat.le_of_ble_eq_true rfl) (c_Mo_otherSide hnx (gi s21 81 3) s21) (fun y23 hy23 hs => ?_)
    refine grd_e hs (fun hg24 hs => ?_)
    refine x_iast ⟨by decide, by decide⟩ (Nat.le_of_ble_eq_true rfl) dX12_turnOver_120 rfl (lt_of hnx (Nat.le_of_ble_eq_true rfl)) ?_
    refine nam_s hs (fun s25 hs => ?_)
    refine w_aload_n 0 dX12_turnOver_121 rfl rfl ?_
    refine x_getR 12 1 (b := 81) dX12_turnOver_122 (fxX12_9 rfl) rfl rfl (lt_of hnx (Nat.le_of_ble_eq_true rfl)) rfl ?_
    refine x_iconst dX12_turnOver_125 ?_
    refine grd_e hs (fun hg26 hs => ?_)
    refine x_iald ⟨by decide, by decide⟩ (Nat.le_of_ble_eq_true rfl) dX12_turnOver_126 (Or.inl ⟨rfl, (lt_of hnx (Nat.le_of_ble_eq_true rfl))⟩) ?_
    cases hs
    exact x_ireturn dX12_turnOver_127 rfl rfl (Nat.le_of_ble_eq_true rfl) (Nat.le_of_ble_eq_true rfl) ⟨rfl, rfl⟩
  refine whl_w (P := fun σ => ww C M_X12_turnOver 2 0 0 nx (QI nx o.2 o.1) (XF) nx 0 0 54 [(0, .ref 80), (1, vi σ.1)] [] (hp nx σ.2)) (E := fun ρ => ρ = s_18) hw rfl ?_
  intro σ o' hs' hb' he'
  exact q_Mo_turnOver_t54 hnx σ.1 σ.2 hs' hb' (fun ρ e => by cases he' _ e; exact hE)
set_option maxRecDepth 100000 in
theorem q_Mo_turnOver_l15 {C : Cx} {nx : Nat} (hnx : 100 ≤ nx) (x1 : Int) (s : Sg) {o : Int × Sg} (hs : Mo_turnOver_l15 x1 s = some o) : ww C M_X12_turnOver 2 0 0 nx (QI nx o.2 o.1) (XF) nx 0 0 15 [(0, .ref 80), (1, vi x1)] [] (hp nx s) := by
  unfold Mo_turnOver_l15 at hs
  refine bnd_e hs (fun s_12 hw hs => ?_)
  have hE : ww C M_X12_turnOver 2 0 0 nx (QI nx o.2 o.1) (XF) nx 0 0 52 [(0, .ref 80)] [] (hp nx s_12) := by
    refine x_iconst dX12_turnOver_52 ?_
    refine w_istore_n (lv' := [(1, vi 0), (0, .ref 80)]) dX12_turnOver_53 rfl (Nat.le_of_ble_eq_true rfl) rfl ?_
    refine w_lv (lv' := [(0, .ref 80), (1, vi 0)]) [1, 0] rfl ?_
    exact q_Mo_turnOver_l54 hnx 0 s_12 hs
  refine whl_w (P := fun σ => ww C M_X12_turnOver 2 0 0 nx (QI nx o.2 o.1) (XF) nx 0 0 15 [(0, .ref 80), (1, vi σ.1)] [] (hp nx σ.2)) (E := fun ρ => ρ = s_12) hw rfl ?_
  intro σ o' hs' hb' he'
  exact q_Mo_turnOver_t15 hnx σ.1 σ.2 hs' hb' (fun ρ e => by cases he' _ e; exact hE)
set_option maxRecDepth 100000 in
theorem c_Mo_turnOver {C : Cx} {nx : Nat} (hnx : 100 ≤ nx)  (s : Sg) : ∀ o, Mo_turnOver  s = some o → mm C M_X12_turnOver 2 0 0 nx nx [.ref 80] (hp nx s) (QI nx o.2 o.1) (XF) := by
  intro o hs
  unfold Mo_turnOver at hs
  refine mm_of rfl rfl (Nat.le_of_ble_eq_true rfl) ?_
  show ww C M_X12_turnOver 2 0 0 nx (QI nx o.2 o.1) (XF) nx 0 0 0 [(0, .ref 80)] [] (hp nx s)
  refine w_aload_n 0 dX12_turnOver_0 rfl rfl ?_
  refine x_iconst dX12_turnOver_1 ?_
  refine x_putI 12 0 dX12_turnOver_2 (poX12_77 rfl) rfl rfl (lt_of hnx (Nat.le_of_ble_eq_true rfl)) ?_
  refine nam_s hs (fun s1 hs => ?_)
  refine w_aload_n 0 dX12_turnOver_5 rfl rfl ?_
  refine x_V_V M_X12_keeps [] [] hs rfl dX12_turnOver_6 (lkX12_422 _ rfl) (lt_of hnx (Nat.le_of_ble_eq_true rfl)) rfl rfl (Nat.le_of_ble_eq_true rfl) (Nat.le_of_ble_eq_true rfl) (Nat.le_of_ble_eq_true rfl) (Nat.le_of_ble_eq_true rfl) (c_Mo_keeps hnx s1) (fun s3 hs3 hs => ?_)
  refine w_aload_n 0 dX12_turnOver_9 rfl rfl ?_
  refine x_V_V M_X12_goesAside [] [] hs rfl dX12_turnOver_10 (lkX12_196 _ rfl) (lt_of hnx (Nat.le_of_ble_eq_true rfl)) rfl rfl (Nat.le_of_ble_eq_true rfl) (Nat.le_of_ble_eq_true rfl) (Nat.le_of_ble_eq_true rfl) (Nat.le_of_ble_eq_true rfl) (c_Mo_goesAside hnx s3) (fun s5 hs5 hs => ?_)
  refine x_iconst dX12_turnOver_13 ?_
  refine w_istore_n (lv' := [(1, vi 0), (0, .ref 80)]) dX12_turnOver_14 rfl (Nat.le_of_ble_eq_true rfl) rfl ?_
  refine w_lv (lv' := [(0, .ref 80), (1, vi 0)]) [1, 0] rfl ?_
  exact q_Mo_turnOver_l15 hnx 0 s5 hs
set_option maxRecDepth 100000 in
theorem q_Mo_plays_t7 {C : Cx} {nx : Nat} (hnx : 100 ≤ nx) {Qr : Option Value → Hp → Prop} {Qx : String → Hp → Prop}  (x1 : Int) (x2 : Int) (x3 : Int) (s : Sg) {o : ((Int × Int × Sg) ⊕ (Int × Sg))} (hs : Mo_plays_t7 x1 x2 x3 s = some o) (hb : ∀ σ : Int × Int × Sg, o = .inl σ → ww C M_X12_plays 8 0 0 nx (Qr) (Qx) nx 0 0 7 [(0, .ref 80), (1, vi x1), (2, vi σ.1), (3, vi σ.2.1)] [] (hp nx σ.2.2)) (he0 : ∀ ρ : Int × Sg, o = .inr ρ → ww C M_X12_plays 8 0 0 nx (Qr) (Qx) nx 0 0 45 [(2, vi ρ.1)] [] (hp nx ρ.2)) : ww C M_X12_plays 8 0 0 nx (Qr) (Qx) nx 0 0 7 [(0, .ref 80), (1, vi x1), (2, vi x2), (3, vi x3)] [] (hp nx s) := by
  unfold Mo_plays_t7 at hs
  refine w_iload_n 2 dX12_plays_7 rfl rfl ?_
  refine w_iload_n 1 dX12_plays_8 rfl rfl ?_
  refine x_icmpge hs dX12_plays_9 rfl (fun hs => ?_) (fun hs => ?_)
  · refine w_lv (lv' := [(2, vi x2)]) [2] rfl ?_
    cases hs
    exact he0 _ rfl
  · refine w_iload_n 3 dX12_plays_12 rfl rfl ?_
    refine x_iconst dX12_plays_13 ?_
    refine x_icmpeq hs dX12_plays_14 rfl (fun hs => ?_) (fun hs => ?_)
    · refine w_lv (lv' := [(2, vi x2)]) [2] rfl ?_
      cases hs
      exact he0 _ rfl
    · refine w_aload_n 0 dX12_plays_17 rfl rfl ?_
      refine x_getR 12 1 (b := 81) dX12_plays_18 (fxX12_9 rfl) rfl rfl (lt_of hnx (Nat.le_of_ble_eq_true rfl)) rfl ?_
      refine x_iconst dX12_plays_21 ?_
      refine grd_e hs (fun hg3 hs => ?_)
      refine x_iald ⟨by decide, by decide⟩ (Nat.le_of_ble_eq_true rfl) dX12_plays_22 (Or.inl ⟨rfl, (lt_of hnx (Nat.le_of_ble_eq_true rfl))⟩) ?_
      refine x_sipush dX12_plays_23 (by decide) ?_
      refine x_icmpge hs dX12_plays_26 rfl (fun hs => ?_) (fun hs => ?_)
      · refine w_lv (lv' := [(2, vi x2)]) [2] rfl ?_
        cases hs
        exact he0 _ rfl
      · refine w_aload_n 0 dX12_plays_29 rfl rfl ?_
        refine w_iload_n 3 dX12_plays_30 rfl rfl ?_
        refine x_V_V M_X12_moves [vi x3] [] hs rfl dX12_plays_31 (lkX12_164 _ rfl) (lt_of hnx (Nat.le_of_ble_eq_true rfl)) rfl rfl (Nat.le_of_ble_eq_true rfl) (Nat.le_of_ble_eq_true rfl) (Nat.le_of_ble_eq_true rfl) (Nat.le_of_ble_eq_true rfl) (c_Mo_moves hnx x3 s) (fun s5 hs5 hs => ?_)
        refine x_iinc (lv' := [(2, vi (x2 + 1)), (0, .ref 80), (1, vi x1), (3, vi x3)]) 2 dX12_plays_34 rfl (Nat.le_of_ble_eq_true rfl) rfl ?_
        refine w_aload_n 1 dX12_plays_37 rfl rfl ?_
        refine x_V_B M_X12_forcedNow [] [] hs rfl dX12_plays_38 (lkX12_352 _ rfl) (lt_of hnx (Nat.le_of_ble_eq_true rfl)) rfl rfl (Nat.le_of_ble_eq_true rfl) (Nat.le_of_ble_eq_true rfl) (Nat.le_of_ble_eq_true rfl) (Nat.le_of_ble_eq_true rfl) (c_Mo_forcedNow hnx s5) (fun y6 s7 hy6 hs => ?_)
        refine w_istore_n (lv' := [(3, vi y6), (2, vi (x2 + 1)), (0, .ref 80), (1, vi x1)]) dX12_plays_41 rfl (Nat.le_of_ble_eq_true rfl) rfl ?_
        refine w_goto dX12_plays_42 rfl ?_
        refine w_lv (lv' := [(0, .ref 80), (1, vi x1), (2, vi (x2 + 1)), (3, vi y6)]) [2, 3, 1, 0] rfl ?_
        cases hs
        exact hb _ rfl
set_option maxRecDepth 100000 in
theorem q_Mo_plays_l7 {C : Cx} {nx : Nat} (hnx : 100 ≤ nx) (x1 : Int) (x2 : Int) (x3 : Int) (s : Sg) {o : Int × Sg} (hs : Mo_plays_l7 x1 x2 x3 s = some o) : ww C M_X12_plays 8 0 0 nx (QI nx o.2 o.1) (XF) nx 0 0 7 [(0, .ref 80), (1, vi x1), (2, vi x2), (3, vi x3)] [] (hp nx s) := by
  unfold Mo_plays_l7 at hs
  refine bnd_e hs (fun ρ hw hs => ?_)
  obtain ⟨x2_8, s_9⟩ := ρ
  have hE : ww C M_X12_plays 8 0 0 nx (QI nx o.2 o.1) (XF) nx 0 0 45 [(2, vi x2_8)] [] (hp nx s_9) := by
    refine w_iload_n 0 dX12_plays_45 rfl rfl ?_
    cases hs
    exact x_ireturn dX12_plays_46 rfl rfl (Nat.le_of_ble_eq_true rfl) (Nat.le_of_ble_eq_true rfl) ⟨rfl, rfl⟩
  refine whl_w (P := fun σ => ww C M_X12_plays 8 0 0 nx (QI nx o.2 o.1) (XF) nx 0 0 7 [(0, .ref 80), (1, vi x1), (2, vi σ.1), (3, vi σ.2.1)] [] (hp nx σ.2.2)) (E := fun ρ => ρ = (x2_8, s_9)) hw rfl ?_
  intro σ o' hs' hb' he'
  exact q_Mo_plays_t7 hnx x1 σ.1 σ.2.1 σ.2.2 hs' hb' (fun ρ e => by cases he' _ e; exact hE)
set_option maxRecDepth 100000 in
theorem c_Mo_plays {C : Cx} {nx : Nat} (hnx : 100 ≤ nx) (x1 : Int) (s : Sg) : ∀ o, Mo_plays x1 s = some o → mm C M_X12_plays 8 0 0 nx nx [.ref 80, vi x1] (hp nx s) (QI nx o.2 o.1) (XF) := by
  intro o hs
  unfold Mo_plays at hs
  refine mm_of rfl rfl (Nat.le_of_ble_eq_true rfl) ?_
  show ww C M_X12_plays 8 0 0 nx (QI nx o.2 o.1) (XF) nx 0 0 0 [(0, .ref 80), (1, vi x1)] [] (hp nx s)
  refine x_iconst dX12_plays_0 ?_
  refine w_istore_n (lv' := [(2, vi 0), (0, .ref 80), (1, vi x1)]) dX12_plays_1 rfl (Nat.le_of_ble_eq_true rfl) rfl ?_
  refine w_aload_n 1 dX12_plays_2 rfl rfl ?_
  refine x_V_B M_X12_forcedNow [] [] hs rfl dX12_plays_3 (lkX12_352 _ rfl) (lt_of hnx (Nat.le_of_ble_eq_true rfl)) rfl rfl (Nat.le_of_ble_eq_true rfl) (Nat.le_of_ble_eq_true rfl) (Nat.le_of_ble_eq_true rfl) (Nat.le_of_ble_eq_true rfl) (c_Mo_forcedNow hnx s) (fun y1 s2 hy1 hs => ?_)
  refine w_istore_n (lv' := [(3, vi y1), (2, vi 0), (0, .ref 80), (1, vi x1)]) dX12_plays_6 rfl (Nat.le_of_ble_eq_true rfl) rfl ?_
  refine w_lv (lv' := [(0, .ref 80), (1, vi x1), (2, vi 0), (3, vi y1)]) [2, 3, 1, 0] rfl ?_
  exact q_Mo_plays_l7 hnx x1 0 y1 s2 hs
set_option maxRecDepth 100000 in
theorem q_Mo_playForced_b18 {C : Cx} {nx : Nat} (hnx : 100 ≤ nx) (x1 : Int) (t1 : Int) (s : Sg) {o : Int × Sg} (hs : Mo_playForced_b18 x1 t1 s = some o) : ww C M_X12_playForced 9 0 0 nx (QI nx o.2 o.1) (XF) nx 0 0 18 [(0, .ref 80), (1, vi x1)] [vi t1, .ref 80] (hp nx s) := by
  unfold Mo_playForced_b18 at hs
  refine x_V_B M_X12_wrong [vi t1] [] hs rfl dX12_playForced_18 (lkX12_296 _ rfl) (lt_of hnx (Nat.le_of_ble_eq_true rfl)) rfl rfl (Nat.le_of_ble_eq_true rfl) (Nat.le_of_ble_eq_true rfl) (Nat.le_of_ble_eq_true rfl) (Nat.le_of_ble_eq_true rfl) (c_Mo_wrong hnx t1 s) (fun y3 s4 hy3 hs => ?_)
  refine x_ifeq hs dX12_playForced_21 rfl (fun hs => ?_) (fun hs => ?_)
  · refine w_aload_n 0 dX12_playForced_26 rfl rfl ?_
    refine x_V_V M_X12_keeps [] [] hs rfl dX12_playForced_27 (lkX12_422 _ rfl) (lt_of hnx (Nat.le_of_ble_eq_true rfl)) rfl rfl (Nat.le_of_ble_eq_true rfl) (Nat.le_of_ble_eq_true rfl) (Nat.le_of_ble_eq_true rfl) (Nat.le_of_ble_eq_true rfl) (c_Mo_keeps hnx s4) (fun s6 hs6 hs => ?_)
    refine w_aload_n 0 dX12_playForced_30 rfl rfl ?_
    refine w_iload_n 1 dX12_playForced_31 rfl rfl ?_
    refine x_V_B M_X12_plays [vi x1] [] hs rfl dX12_playForced_32 (lkX12_435 _ rfl) (lt_of hnx (Nat.le_of_ble_eq_true rfl)) rfl rfl (Nat.le_of_ble_eq_true rfl) (Nat.le_of_ble_eq_true rfl) (Nat.le_of_ble_eq_true rfl) (Nat.le_of_ble_eq_true rfl) (c_Mo_plays hnx x1 s6) (fun y7 s8 hy7 hs => ?_)
    cases hs
    exact x_ireturn dX12_playForced_35 rfl rfl (Nat.le_of_ble_eq_true rfl) (Nat.le_of_ble_eq_true rfl) ⟨rfl, rfl⟩
  · refine x_iconst dX12_playForced_24 ?_
    cases hs
    exact x_ireturn dX12_playForced_25 rfl rfl (Nat.le_of_ble_eq_true rfl) (Nat.le_of_ble_eq_true rfl) ⟨rfl, rfl⟩
set_option maxRecDepth 100000 in
theorem c_Mo_playForced {C : Cx} {nx : Nat} (hnx : 100 ≤ nx) (x1 : Int) (s : Sg) : ∀ o, Mo_playForced x1 s = some o → mm C M_X12_playForced 9 0 0 nx nx [.ref 80, vi x1] (hp nx s) (QI nx o.2 o.1) (XF) := by
  intro o hs
  unfold Mo_playForced at hs
  refine mm_of rfl rfl (Nat.le_of_ble_eq_true rfl) ?_
  show ww C M_X12_playForced 9 0 0 nx (QI nx o.2 o.1) (XF) nx 0 0 0 [(0, .ref 80), (1, vi x1)] [] (hp nx s)
  refine w_aload_n 0 dX12_playForced_0 rfl rfl ?_
  refine w_iload_n 1 dX12_playForced_1 rfl rfl ?_
  refine grd_e hs (fun hg1 hs => ?_)
  refine x_i2l dX12_playForced_2 hg1 ?_
  refine x_lconst (x := 1) dX12_playForced_3 (by decide) ?_
  refine x_ldc2 81 dX12_playForced_4 (csX12_433 rfl) ?_
  refine x_S_I M_X12_in [vl x1, vl 1, vl 81] [.ref 80] hs rfl dX12_playForced_7 (lkX12_108 _ rfl) (Nat.le_of_ble_eq_true rfl) (Nat.le_of_ble_eq_true rfl) (Nat.le_of_ble_eq_true rfl) (Nat.le_of_ble_eq_true rfl) (c_Mo_in hnx x1 1 81 s) (fun y2 hy2 hs => ?_)
  refine x_ifne hs dX12_playForced_10 rfl (fun hs => ?_) (fun hs => ?_)
  · refine x_iconst dX12_playForced_17 ?_
    exact q_Mo_playForced_b18 hnx x1 0 s hs
  · refine x_iconst dX12_playForced_13 ?_
    refine w_goto dX12_playForced_14 rfl ?_
    exact q_Mo_playForced_b18 hnx x1 1 s hs
set_option maxRecDepth 100000 in
theorem c_Mo_forcedWinner {C : Cx} {nx : Nat} (hnx : 100 ≤ nx)  (s : Sg) : ∀ o, Mo_forcedWinner  s = some o → mm C M_X12_forcedWinner 9 0 0 nx nx [.ref 80] (hp nx s) (QI nx o.2 o.1) (XF) := by
  intro o hs
  unfold Mo_forcedWinner at hs
  refine mm_of rfl rfl (Nat.le_of_ble_eq_true rfl) ?_
  show ww C M_X12_forcedWinner 9 0 0 nx (QI nx o.2 o.1) (XF) nx 0 0 0 [(0, .ref 80)] [] (hp nx s)
  refine w_aload_n 0 dX12_forcedWinner_0 rfl rfl ?_
  refine x_iconst dX12_forcedWinner_1 ?_
  refine x_putI 12 0 dX12_forcedWinner_2 (poX12_77 rfl) rfl rfl (lt_of hnx (Nat.le_of_ble_eq_true rfl)) ?_
  refine nam_s hs (fun s1 hs => ?_)
  refine w_aload_n 0 dX12_forcedWinner_5 rfl rfl ?_
  refine x_V_V M_X12_goesAside [] [] hs rfl dX12_forcedWinner_6 (lkX12_196 _ rfl) (lt_of hnx (Nat.le_of_ble_eq_true rfl)) rfl rfl (Nat.le_of_ble_eq_true rfl) (Nat.le_of_ble_eq_true rfl) (Nat.le_of_ble_eq_true rfl) (Nat.le_of_ble_eq_true rfl) (c_Mo_goesAside hnx s1) (fun s3 hs3 hs => ?_)
  refine w_aload_n 0 dX12_forcedWinner_9 rfl rfl ?_
  refine x_bipush dX12_forcedWinner_10 (by decide) ?_
  refine x_V_B M_X12_plays [vi 81] [] hs rfl dX12_forcedWinner_12 (lkX12_435 _ rfl) (lt_of hnx (Nat.le_of_ble_eq_true rfl)) rfl rfl (Nat.le_of_ble_eq_true rfl) (Nat.le_of_ble_eq_true rfl) (Nat.le_of_ble_eq_true rfl) (Nat.le_of_ble_eq_true rfl) (c_Mo_plays hnx 81 s3) (fun y4 s5 hy4 hs => ?_)
  refine w_istore_n (lv' := [(1, vi y4), (0, .ref 80)]) dX12_forcedWinner_15 rfl (Nat.le_of_ble_eq_true rfl) rfl ?_
  refine w_aload_n 1 dX12_forcedWinner_16 rfl rfl ?_
  refine w_aload_n 1 dX12_forcedWinner_17 rfl rfl ?_
  refine x_V_B M_X12_winner [] [.ref 80] hs rfl dX12_forcedWinner_18 (lkX12_155 _ rfl) (lt_of hnx (Nat.le_of_ble_eq_true rfl)) rfl rfl (Nat.le_of_ble_eq_true rfl) (Nat.le_of_ble_eq_true rfl) (Nat.le_of_ble_eq_true rfl) (Nat.le_of_ble_eq_true rfl) (c_Mo_winner hnx s5) (fun y6 s7 hy6 hs => ?_)
  refine x_V_B M_X12_comesBack [vi y6] [] hs rfl dX12_forcedWinner_21 (lkX12_202 _ rfl) (lt_of hnx (Nat.le_of_ble_eq_true rfl)) rfl rfl (Nat.le_of_ble_eq_true rfl) (Nat.le_of_ble_eq_true rfl) (Nat.le_of_ble_eq_true rfl) (Nat.le_of_ble_eq_true rfl) (c_Mo_comesBack hnx y6 s7) (fun y8 s9 hy8 hs => ?_)
  cases hs
  exact x_ireturn dX12_forcedWinner_24 rfl rfl (Nat.le_of_ble_eq_true rfl) (Nat.le_of_ble_eq_true rfl) ⟨rfl, rfl⟩
set_option maxRecDepth 100000 in
theorem c_Mo_forcedRow {C : Cx} {nx : Nat} (hnx : 100 ≤ nx)  (s : Sg) : ∀ o, Mo_forcedRow  s = some o → mm C M_X12_forcedRow 9 0 0 nx nx [.ref 80] (hp nx s) (QI nx o.2 o.1) (XF) := by
  intro o hs
  unfold Mo_forcedRow at hs
  refine mm_of rfl rfl (Nat.le_of_ble_eq_true rfl) ?_
  show ww C M_X12_forcedRow 9 0 0 nx (QI nx o.2 o.1) (XF) nx 0 0 0 [(0, .ref 80)] [] (hp nx s)
  refine w_aload_n 0 dX12_forcedRow_0 rfl rfl ?_
  refine x_iconst dX12_forcedRow_1 ?_
  refine x_putI 12 0 dX12_forcedRow_2 (poX12_77 rfl) rfl rfl (lt_of hnx (Nat.le_of_ble_eq_true rfl)) ?_
  refine nam_s hs (fun s1 hs => ?_)
  refine w_aload_n 0 dX12_forcedRow_5 rfl rfl ?_
  refine x_V_V M_X12_goesAside [] [] hs rfl dX12_forcedRow_6 (lkX12_196 _ rfl) (lt_of hnx (Nat.le_of_ble_eq_true rfl)) rfl rfl (Nat.le_of_ble_eq_true rfl) (Nat.le_of_ble_eq_true rfl) (Nat.le_of_ble_eq_true rfl) (Nat.le_of_ble_eq_true rfl) (c_Mo_goesAside hnx s1) (fun s3 hs3 hs => ?_)
  refine w_aload_n 0 dX12_forcedRow_9 rfl rfl ?_
  refine w_aload_n 0 dX12_forcedRow_10 rfl rfl ?_
  refine x_bipush dX12_forcedRow_11 (by decide) ?_
  refine x_V_B M_X12_plays [vi 81] [.ref 80] hs rfl dX12_forcedRow_13 (lkX12_435 _ rfl) (lt_of hnx (Nat.le_of_ble_eq_true rfl)) rfl rfl (Nat.le_of_ble_eq_true rfl) (Nat.le_of_ble_eq_true rfl) (Nat.le_of_ble_eq_true rfl) (Nat.le_of_ble_eq_true rfl) (c_Mo_plays hnx 81 s3) (fun y4 s5 hy4 hs => ?_)
  refine x_V_B M_X12_comesBack [vi y4] [] hs rfl dX12_forcedRow_16 (lkX12_202 _ rfl) (lt_of hnx (Nat.le_of_ble_eq_true rfl)) rfl rfl (Nat.le_of_ble_eq_true rfl) (Nat.le_of_ble_eq_true rfl) (Nat.le_of_ble_eq_true rfl) (Nat.le_of_ble_eq_true rfl) (c_Mo_comesBack hnx y4 s5) (fun y6 s7 hy6 hs => ?_)
  cases hs
  exact x_ireturn dX12_forcedRow_19 rfl rfl (Nat.le_of_ble_eq_true rfl) (Nat.le_of_ble_eq_true rfl) ⟨rfl, rfl⟩
set_option maxRecDepth 100000 in
theorem c_Mo_fullness {C : Cx} {nx : Nat} (hnx : 100 ≤ nx)  (s : Sg) : ∀ o, Mo_fullness  s = some o → mm C M_X12_fullness 2 0 0 nx nx [.ref 80] (hp nx s) (QD nx o.2 o.1) (XF) := by
  intro o hs
  unfold Mo_fullness at hs
  refine mm_of rfl rfl (Nat.le_of_ble_eq_true rfl) ?_
  show ww C M_X12_fullness 2 0 0 nx (QD nx o.2 o.1) (XF) nx 0 0 0 [(0, .ref 80)] [] (hp nx s)
  refine w_aload_n 0 dX12_fullness_0 rfl rfl ?_
  refine x_iconst dX12_fullness_1 ?_
  refine x_putI 12 0 dX12_fullness_2 (poX12_77 rfl) rfl rfl (lt_of hnx (Nat.le_of_ble_eq_true rfl)) ?_
  refine nam_s hs (fun s1 hs => ?_)
  refine w_aload_n 0 dX12_fullness_5 rfl rfl ?_
  refine x_V_I M_X12_cells [] [] hs rfl dX12_fullness_6 (lkX12_212 _ rfl) (lt_of hnx (Nat.le_of_ble_eq_true rfl)) rfl rfl (Nat.le_of_ble_eq_true rfl) (Nat.le_of_ble_eq_true rfl) (Nat.le_of_ble_eq_true rfl) (Nat.le_of_ble_eq_true rfl) (c_Mo_cells hnx s1) (fun y2 hy2 hs => ?_)
  refine w_aload_n 0 dX12_fullness_9 rfl rfl ?_
  refine x_iconst dX12_fullness_10 ?_
  refine x_V_I M_X12_stonesOf [vi (-1)] [vi y2] hs rfl dX12_fullness_11 (lkX12_291 _ rfl) (lt_of hnx (Nat.le_of_ble_eq_true rfl)) rfl rfl (Nat.le_of_ble_eq_true rfl) (Nat.le_of_ble_eq_true rfl) (Nat.le_of_ble_eq_true rfl) (Nat.le_of_ble_eq_true rfl) (c_Mo_stonesOf hnx (-1) s1) (fun y3 hy3 hs => ?_)
  refine x_isub dX12_fullness_14 ?_
  refine w_i2d dX12_fullness_15 ?_
  refine w_aload_n 0 dX12_fullness_16 rfl rfl ?_
  refine x_V_I M_X12_cells [] [.double (FP.i2d (Int32.ofInt (y2 - y3)))] hs rfl dX12_fullness_17 (lkX12_212 _ rfl) (lt_of hnx (Nat.le_of_ble_eq_true rfl)) rfl rfl (Nat.le_of_ble_eq_true rfl) (Nat.le_of_ble_eq_true rfl) (Nat.le_of_ble_eq_true rfl) (Nat.le_of_ble_eq_true rfl) (c_Mo_cells hnx s1) (fun y4 hy4 hs => ?_)
  refine w_i2d dX12_fullness_20 ?_
  refine grd_e hs (fun hg5 hs => ?_)
  refine w_ddiv dX12_fullness_21 hg5 ?_
  cases hs
  exact w_dreturn rfl dX12_fullness_22 rfl (Nat.le_of_ble_eq_true rfl) (Nat.le_of_ble_eq_true rfl) ⟨rfl, rfl⟩

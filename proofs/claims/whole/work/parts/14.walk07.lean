set_option maxRecDepth 100000 in
theorem q_Mo_laysChains_b81 {C : Cx} {nx : Nat} (hnx : 100 ≤ nx) {Qr : Option Value → Hp → Prop} {Qx : String → Hp → Prop}  (x2 : Int) (x3 : Int) (s : Sg) {o : ((Int × Int × Sg) ⊕ (Int × Sg))} (hs : Mo_laysChains_b81 x2 x3 s = some o) (hb : ∀ σ : Int × Int × Sg, o = .inl σ → ww C M_X12_laysChains 5 0 0 nx (Qr) (Qx) nx 0 0 30 [(0, .ref 80), (2, vi σ.1), (3, vi σ.2.1)] [] (hp nx σ.2.2)) (he0 : ∀ ρ : Int × Sg, o = .inr ρ → ww C M_X12_laysChains 5 0 0 nx (Qr) (Qx) nx 0 0 87 [(0, .ref 80), (2, vi ρ.1)] [] (hp nx ρ.2)) : ww C M_X12_laysChains 5 0 0 nx (Qr) (Qx) nx 0 0 81 [(0, .ref 80), (2, vi x2), (3, vi x3)] [] (hp nx s) := by
  unfold Mo_laysChains_b81 at hs
  refine x_iinc (lv' := [(3, vi (x3 + 1)), (0, .ref 80), (2, vi x2)]) 2 dX12_laysChains_81 rfl (Nat.le_of_ble_eq_true rfl) rfl ?_
  refine w_goto dX12_laysChains_84 rfl ?_
  refine w_lv (lv' := [(0, .ref 80), (2, vi x2), (3, vi (x3 + 1))]) [1, 2, 0] rfl ?_
  cases hs
  exact hb _ rfl
set_option maxRecDepth 100000 in
theorem q_Mo_laysChains_t30 {C : Cx} {nx : Nat} (hnx : 100 ≤ nx) {Qr : Option Value → Hp → Prop} {Qx : String → Hp → Prop}  (x2 : Int) (x3 : Int) (s : Sg) {o : ((Int × Int × Sg) ⊕ (Int × Sg))} (hs : Mo_laysChains_t30 x2 x3 s = some o) (hb : ∀ σ : Int × Int × Sg, o = .inl σ → ww C M_X12_laysChains 5 0 0 nx (Qr) (Qx) nx 0 0 30 [(0, .ref 80), (2, vi σ.1), (3, vi σ.2.1)] [] (hp nx σ.2.2)) (he0 : ∀ ρ : Int × Sg, o = .inr ρ → ww C M_X12_laysChains 5 0 0 nx (Qr) (Qx) nx 0 0 87 [(0, .ref 80), (2, vi ρ.1)] [] (hp nx ρ.2)) : ww C M_X12_laysChains 5 0 0 nx (Qr) (Qx) nx 0 0 30 [(0, .ref 80), (2, vi x2), (3, vi x3)] [] (hp nx s) := by
  unfold Mo_laysChains_t30 at hs
  refine w_iload_n 2 dX12_laysChains_30 rfl rfl ?_
  refine w_aload_n 0 dX12_laysChains_31 rfl rfl ?_
  refine x_getI 12 24 dX12_laysChains_32 (fxX12_272 rfl) rfl rfl (lt_of hnx (Nat.le_of_ble_eq_true rfl)) ?_
  refine x_icmpge hs dX12_laysChains_35 rfl (fun hs => ?_) (fun hs => ?_)
  · refine w_lv (lv' := [(0, .ref 80), (2, vi x2)]) [0, 1] rfl ?_
    cases hs
    exact he0 _ rfl
  · refine w_aload_n 0 dX12_laysChains_38 rfl rfl ?_
    refine x_getR 12 22 (b := 92) dX12_laysChains_39 (fxX12_49 rfl) rfl rfl (lt_of hnx (Nat.le_of_ble_eq_true rfl)) rfl ?_
    refine w_iload_n 2 dX12_laysChains_42 rfl rfl ?_
    refine grd_e hs (fun hg7 hs => ?_)
    refine x_zald hg7 (Nat.le_of_ble_eq_true rfl) dX12_laysChains_43 rfl (lt_of hnx (Nat.le_of_ble_eq_true rfl)) ?_
    refine x_ifeq hs dX12_laysChains_44 rfl (fun hs => ?_) (fun hs => ?_)
    · exact q_Mo_laysChains_b81 hnx x2 x3 s hs hb he0
    · refine w_aload_n 0 dX12_laysChains_47 rfl rfl ?_
      refine x_getR 12 19 (b := 89) dX12_laysChains_48 (fxX12_40 rfl) rfl rfl (lt_of hnx (Nat.le_of_ble_eq_true rfl)) rfl ?_
      refine w_iload_n 2 dX12_laysChains_51 rfl rfl ?_
      refine grd_e hs (fun hg8 hs => ?_)
      refine x_iald hg8 (Nat.le_of_ble_eq_true rfl) dX12_laysChains_52 (Or.inl ⟨rfl, (lt_of hnx (Nat.le_of_ble_eq_true rfl))⟩) ?_
      refine x_iflt hs dX12_laysChains_53 rfl (fun hs => ?_) (fun hs => ?_)
      · exact q_Mo_laysChains_b81 hnx x2 x3 s hs hb he0
      · refine w_aload_n 0 dX12_laysChains_56 rfl rfl ?_
        refine w_aload_n 0 dX12_laysChains_57 rfl rfl ?_
        refine x_getR 12 28 (b := 94) dX12_laysChains_58 (fxX12_55 rfl) rfl rfl (lt_of hnx (Nat.le_of_ble_eq_true rfl)) rfl ?_
        refine w_aload_n 0 dX12_laysChains_61 rfl rfl ?_
        refine x_getR 12 18 (b := 88) dX12_laysChains_62 (fxX12_37 rfl) rfl rfl (lt_of hnx (Nat.le_of_ble_eq_true rfl)) rfl ?_
        refine w_iload_n 2 dX12_laysChains_65 rfl rfl ?_
        refine grd_e hs (fun hg9 hs => ?_)
        refine x_iald hg9 (Nat.le_of_ble_eq_true rfl) dX12_laysChains_66 (Or.inl ⟨rfl, (lt_of hnx (Nat.le_of_ble_eq_true rfl))⟩) ?_
        refine w_aload_n 0 dX12_laysChains_67 rfl rfl ?_
        refine x_getR 12 19 (b := 89) dX12_laysChains_68 (fxX12_40 rfl) rfl rfl (lt_of hnx (Nat.le_of_ble_eq_true rfl)) rfl ?_
        refine w_iload_n 2 dX12_laysChains_71 rfl rfl ?_
        refine grd_e hs (fun hg10 hs => ?_)
        refine x_iald hg10 (Nat.le_of_ble_eq_true rfl) dX12_laysChains_72 (Or.inl ⟨rfl, (lt_of hnx (Nat.le_of_ble_eq_true rfl))⟩) ?_
        refine x_V_B M_X12_lowers [.ref 94, vi (gi s 88 x3.toNat), vi (gi s 89 x3.toNat)] [] hs rfl dX12_laysChains_73 (lkX12_227 _ rfl) (lt_of hnx (Nat.le_of_ble_eq_true rfl)) rfl rfl (Nat.le_of_ble_eq_true rfl) (Nat.le_of_ble_eq_true rfl) (Nat.le_of_ble_eq_true rfl) (Nat.le_of_ble_eq_true rfl) (c_Mo_lowers hnx 94 (rowW_of rfl (lt_of hnx (Nat.le_of_ble_eq_true rfl))) (gi s 88 x3.toNat) (gi s 89 x3.toNat) s) (fun y11 s12 hy11 hs => ?_)
        refine x_ifeq hs dX12_laysChains_76 rfl (fun hs => ?_) (fun hs => ?_)
        · exact q_Mo_laysChains_b81 hnx x2 x3 s12 hs hb he0
        · refine x_iconst dX12_laysChains_79 ?_
          refine w_istore_n (lv' := [(2, vi 1), (0, .ref 80), (3, vi x3)]) dX12_laysChains_80 rfl (Nat.le_of_ble_eq_true rfl) rfl ?_
          refine w_lv (lv' := [(0, .ref 80), (2, vi 1), (3, vi x3)]) [1, 0, 2] rfl ?_
          exact q_Mo_laysChains_b81 hnx 1 x3 s12 hs hb he0
set_option maxRecDepth 100000 in
theorem q_Mo_laysChains_l30 {C : Cx} {nx : Nat} (hnx : 100 ≤ nx) {Qr : Option Value → Hp → Prop} {Qx : String → Hp → Prop}  (x2 : Int) (x3 : Int) (s : Sg) {o : ((Int × Sg) ⊕ (Sg))} (hs : Mo_laysChains_l30 x2 x3 s = some o) (hb : ∀ σ : Int × Sg, o = .inl σ → ww C M_X12_laysChains 5 0 0 nx (Qr) (Qx) nx 0 0 15 [(0, .ref 80), (2, vi σ.1)] [] (hp nx σ.2)) (he0 : ∀ ρ : Sg, o = .inr ρ → ww C M_X12_laysChains 5 0 0 nx (Qr) (Qx) nx 0 0 90 [] [] (hp nx ρ)) : ww C M_X12_laysChains 5 0 0 nx (Qr) (Qx) nx 0 0 30 [(0, .ref 80), (2, vi x2), (3, vi x3)] [] (hp nx s) := by
  unfold Mo_laysChains_l30 at hs
  refine bnd_e hs (fun ρ hw hs => ?_)
  obtain ⟨x2_13, s_14⟩ := ρ
  have hE : ww C M_X12_laysChains 5 0 0 nx (Qr) (Qx) nx 0 0 87 [(0, .ref 80), (2, vi x2_13)] [] (hp nx s_14) := by
    refine w_goto dX12_laysChains_87 rfl ?_
    cases hs
    exact hb _ rfl
  refine whl_w (P := fun σ => ww C M_X12_laysChains 5 0 0 nx (Qr) (Qx) nx 0 0 30 [(0, .ref 80), (2, vi σ.1), (3, vi σ.2.1)] [] (hp nx σ.2.2)) (E := fun ρ => ρ = (x2_13, s_14)) hw rfl ?_
  intro σ o' hs' hb' he'
  exact q_Mo_laysChains_t30 hnx σ.1 σ.2.1 σ.2.2 hs' hb' (fun ρ e => by cases he' _ e; exact hE)
set_option maxRecDepth 100000 in
theorem q_Mo_laysChains_t15 {C : Cx} {nx : Nat} (hnx : 100 ≤ nx) {Qr : Option Value → Hp → Prop} {Qx : String → Hp → Prop}  (x2 : Int) (s : Sg) {o : ((Int × Sg) ⊕ (Sg))} (hs : Mo_laysChains_t15 x2 s = some o) (hb : ∀ σ : Int × Sg, o = .inl σ → ww C M_X12_laysChains 5 0 0 nx (Qr) (Qx) nx 0 0 15 [(0, .ref 80), (2, vi σ.1)] [] (hp nx σ.2)) (he0 : ∀ ρ : Sg, o = .inr ρ → ww C M_X12_laysChains 5 0 0 nx (Qr) (Qx) nx 0 0 90 [] [] (hp nx ρ)) : ww C M_X12_laysChains 5 0 0 nx (Qr) (Qx) nx 0 0 15 [(0, .ref 80), (2, vi x2)] [] (hp nx s) := by
  unfold Mo_laysChains_t15 at hs
  refine w_iload_n 1 dX12_laysChains_15 rfl rfl ?_
  refine x_ifeq hs dX12_laysChains_16 rfl (fun hs => ?_) (fun hs => ?_)
  · refine w_lv (lv' := []) [] rfl ?_
    cases hs
    exact he0 _ rfl
  · refine w_aload_n 0 dX12_laysChains_19 rfl rfl ?_
    refine w_aload_n 0 dX12_laysChains_20 rfl rfl ?_
    refine x_getR 12 28 (b := 94) dX12_laysChains_21 (fxX12_55 rfl) rfl rfl (lt_of hnx (Nat.le_of_ble_eq_true rfl)) rfl ?_
    refine x_V_B M_X12_lowersNeighbours [.ref 94] [] hs rfl dX12_laysChains_24 (lkX12_235 _ rfl) (lt_of hnx (Nat.le_of_ble_eq_true rfl)) rfl rfl (Nat.le_of_ble_eq_true rfl) (Nat.le_of_ble_eq_true rfl) (Nat.le_of_ble_eq_true rfl) (Nat.le_of_ble_eq_true rfl) (c_Mo_lowersNeighbours hnx 94 (rowW_of rfl (lt_of hnx (Nat.le_of_ble_eq_true rfl))) s) (fun y5 s6 hy5 hs => ?_)
    refine w_istore_n (lv' := [(2, vi y5), (0, .ref 80)]) dX12_laysChains_27 rfl (Nat.le_of_ble_eq_true rfl) rfl ?_
    refine x_iconst dX12_laysChains_28 ?_
    refine w_istore_n (lv' := [(3, vi 0), (2, vi y5), (0, .ref 80)]) dX12_laysChains_29 rfl (Nat.le_of_ble_eq_true rfl) rfl ?_
    refine w_lv (lv' := [(0, .ref 80), (2, vi y5), (3, vi 0)]) [2, 1, 0] rfl ?_
    exact q_Mo_laysChains_l30 hnx y5 0 s6 hs hb he0
set_option maxRecDepth 100000 in
theorem q_Mo_laysChains_l15 {C : Cx} {nx : Nat} (hnx : 100 ≤ nx) (x2 : Int) (s : Sg) {o : Sg} (hs : Mo_laysChains_l15 x2 s = some o) : ww C M_X12_laysChains 5 0 0 nx (QV nx o) (XF) nx 0 0 15 [(0, .ref 80), (2, vi x2)] [] (hp nx s) := by
  unfold Mo_laysChains_l15 at hs
  refine bnd_e hs (fun s_15 hw hs => ?_)
  have hE : ww C M_X12_laysChains 5 0 0 nx (QV nx o) (XF) nx 0 0 90 [] [] (hp nx s_15) := by
    cases hs
    exact w_return rfl dX12_laysChains_90 rfl (Nat.le_of_ble_eq_true rfl) (Nat.le_of_ble_eq_true rfl) ⟨rfl, rfl⟩
  refine whl_w (P := fun σ => ww C M_X12_laysChains 5 0 0 nx (QV nx o) (XF) nx 0 0 15 [(0, .ref 80), (2, vi σ.1)] [] (hp nx σ.2)) (E := fun ρ => ρ = s_15) hw rfl ?_
  intro σ o' hs' hb' he'
  exact q_Mo_laysChains_t15 hnx σ.1 σ.2 hs' hb' (fun ρ e => by cases he' _ e; exact hE)
set_option maxRecDepth 100000 in
theorem c_Mo_laysChains {C : Cx} {nx : Nat} (hnx : 100 ≤ nx) (x1 : Int) (s : Sg) : ∀ o, Mo_laysChains x1 s = some o → mm C M_X12_laysChains 5 0 0 nx nx [.ref 80, vi x1] (hp nx s) (QV nx o) (XF) := by
  intro o hs
  unfold Mo_laysChains at hs
  refine mm_of rfl rfl (Nat.le_of_ble_eq_true rfl) ?_
  show ww C M_X12_laysChains 5 0 0 nx (QV nx o) (XF) nx 0 0 0 [(0, .ref 80), (1, vi x1)] [] (hp nx s)
  refine w_aload_n 0 dX12_laysChains_0 rfl rfl ?_
  refine w_iload_n 1 dX12_laysChains_1 rfl rfl ?_
  refine x_V_V M_X12_laysBridges [vi x1] [] hs rfl dX12_laysChains_2 (lkX12_288 _ rfl) (lt_of hnx (Nat.le_of_ble_eq_true rfl)) rfl rfl (Nat.le_of_ble_eq_true rfl) (Nat.le_of_ble_eq_true rfl) (Nat.le_of_ble_eq_true rfl) (Nat.le_of_ble_eq_true rfl) (c_Mo_laysBridges hnx x1 s) (fun s2 hs2 hs => ?_)
  refine w_aload_n 0 dX12_laysChains_5 rfl rfl ?_
  refine w_aload_n 0 dX12_laysChains_6 rfl rfl ?_
  refine x_getR 12 28 (b := 94) dX12_laysChains_7 (fxX12_55 rfl) rfl rfl (lt_of hnx (Nat.le_of_ble_eq_true rfl)) rfl ?_
  refine x_V_V M_X12_marksSelves [.ref 94] [] hs rfl dX12_laysChains_10 (lkX12_231 _ rfl) (lt_of hnx (Nat.le_of_ble_eq_true rfl)) rfl rfl (Nat.le_of_ble_eq_true rfl) (Nat.le_of_ble_eq_true rfl) (Nat.le_of_ble_eq_true rfl) (Nat.le_of_ble_eq_true rfl) (c_Mo_marksSelves hnx 94 (rowW_of rfl (lt_of hnx (Nat.le_of_ble_eq_true rfl))) s2) (fun s4 hs4 hs => ?_)
  refine x_iconst dX12_laysChains_13 ?_
  refine w_istore_n (lv' := [(2, vi 1), (0, .ref 80), (1, vi x1)]) dX12_laysChains_14 rfl (Nat.le_of_ble_eq_true rfl) rfl ?_
  refine w_lv (lv' := [(0, .ref 80), (2, vi 1)]) [1, 0] rfl ?_
  exact q_Mo_laysChains_l15 hnx 1 s4 hs
set_option maxRecDepth 100000 in
theorem q_Mo_chainBridges_b42 {C : Cx} {nx : Nat} (hnx : 100 ≤ nx) {Qr : Option Value → Hp → Prop} {Qx : String → Hp → Prop}  (x1 : Int) (x3 : Int) (t0 : Int) (t1 : Int) (s : Sg) {o : ((Int × Int) ⊕ (Int))} (hs : Mo_chainBridges_b42 x1 x3 t0 t1 s = some o) (hb : ∀ σ : Int × Int, o = .inl σ → ww C M_X12_chainBridges 0 0 0 nx (Qr) (Qx) nx 0 0 4 [(0, .ref 80), (1, vi x1), (2, vi σ.1), (3, vi σ.2)] [] (hp nx s)) (he0 : ∀ ρ : Int, o = .inr ρ → ww C M_X12_chainBridges 0 0 0 nx (Qr) (Qx) nx 0 0 50 [(2, vi ρ)] [] (hp nx s)) : ww C M_X12_chainBridges 0 0 0 nx (Qr) (Qx) nx 0 0 42 [(0, .ref 80), (1, vi x1), (3, vi x3)] [vi t1, vi t0] (hp nx s) := by
  unfold Mo_chainBridges_b42 at hs
  refine x_iadd dX12_chainBridges_42 ?_
  refine x_istore_n (fun x2_2 => [(2, vi x2_2), (0, .ref 80), (1, vi x1), (3, vi x3)]) hs dX12_chainBridges_43 rfl (Nat.le_of_ble_eq_true rfl) (fun _ => rfl) (fun x2_2 hs => ?_)
  refine x_iinc (lv' := [(3, vi (x3 + 1)), (2, vi x2_2), (0, .ref 80), (1, vi x1)]) 3 dX12_chainBridges_44 rfl (Nat.le_of_ble_eq_true rfl) rfl ?_
  refine w_goto dX12_chainBridges_47 rfl ?_
  refine w_lv (lv' := [(0, .ref 80), (1, vi x1), (2, vi x2_2), (3, vi (x3 + 1))]) [2, 3, 1, 0] rfl ?_
  cases hs
  exact hb _ rfl
set_option maxRecDepth 100000 in
theorem q_Mo_chainBridges_b41 {C : Cx} {nx : Nat} (hnx : 100 ≤ nx) {Qr : Option Value → Hp → Prop} {Qx : String → Hp → Prop}  (x1 : Int) (x3 : Int) (t0 : Int) (s : Sg) {o : ((Int × Int) ⊕ (Int))} (hs : Mo_chainBridges_b41 x1 x3 t0 s = some o) (hb : ∀ σ : Int × Int, o = .inl σ → ww C M_X12_chainBridges 0 0 0 nx (Qr) (Qx) nx 0 0 4 [(0, .ref 80), (1, vi x1), (2, vi σ.1), (3, vi σ.2)] [] (hp nx s)) (he0 : ∀ ρ : Int, o = .inr ρ → ww C M_X12_chainBridges 0 0 0 nx (Qr) (Qx) nx 0 0 50 [(2, vi ρ)] [] (hp nx s)) : ww C M_X12_chainBridges 0 0 0 nx (Qr) (Qx) nx 0 0 41 [(0, .ref 80), (1, vi x1), (3, vi x3)] [vi t0] (hp nx s) := by
  unfold Mo_chainBridges_b41 at hs
  refine x_iconst dX12_chainBridges_41 ?_
  exact q_Mo_chainBridges_b42 hnx x1 x3 t0 0 s hs hb he0
set_option maxRecDepth 100000 in
theorem q_Mo_chainBridges_t4 {C : Cx} {nx : Nat} (hnx : 100 ≤ nx) {Qr : Option Value → Hp → Prop} {Qx : String → Hp → Prop}  (x1 : Int) (x2 : Int) (x3 : Int) (s : Sg) {o : ((Int × Int) ⊕ (Int))} (hs : Mo_chainBridges_t4 x1 x2 x3 s = some o) (hb : ∀ σ : Int × Int, o = .inl σ → ww C M_X12_chainBridges 0 0 0 nx (Qr) (Qx) nx 0 0 4 [(0, .ref 80), (1, vi x1), (2, vi σ.1), (3, vi σ.2)] [] (hp nx s)) (he0 : ∀ ρ : Int, o = .inr ρ → ww C M_X12_chainBridges 0 0 0 nx (Qr) (Qx) nx 0 0 50 [(2, vi ρ)] [] (hp nx s)) : ww C M_X12_chainBridges 0 0 0 nx (Qr) (Qx) nx 0 0 4 [(0, .ref 80), (1, vi x1), (2, vi x2), (3, vi x3)] [] (hp nx s) := by
  unfold Mo_chainBridges_t4 at hs
  refine w_iload_n 3 dX12_chainBridges_4 rfl rfl ?_
  refine w_aload_n 0 dX12_chainBridges_5 rfl rfl ?_
  refine x_getI 12 24 dX12_chainBridges_6 (fxX12_272 rfl) rfl rfl (lt_of hnx (Nat.le_of_ble_eq_true rfl)) ?_
  refine x_icmpge hs dX12_chainBridges_9 rfl (fun hs => ?_) (fun hs => ?_)
  · refine w_lv (lv' := [(2, vi x2)]) [2] rfl ?_
    cases hs
    exact he0 _ rfl
  · refine w_iload_n 2 dX12_chainBridges_12 rfl rfl ?_
    refine w_aload_n 0 dX12_chainBridges_13 rfl rfl ?_
    refine x_getR 12 22 (b := 92) dX12_chainBridges_14 (fxX12_49 rfl) rfl rfl (lt_of hnx (Nat.le_of_ble_eq_true rfl)) rfl ?_
    refine w_iload_n 3 dX12_chainBridges_17 rfl rfl ?_
    refine grd_e hs (fun hg1 hs => ?_)
    refine x_zald hg1 (Nat.le_of_ble_eq_true rfl) dX12_chainBridges_18 rfl (lt_of hnx (Nat.le_of_ble_eq_true rfl)) ?_
    refine x_ifeq hs dX12_chainBridges_19 rfl (fun hs => ?_) (fun hs => ?_)
    · refine w_lv (lv' := [(0, .ref 80), (1, vi x1), (3, vi x3)]) [0, 1, 3] rfl ?_
      exact q_Mo_chainBridges_b41 hnx x1 x3 x2 s hs hb he0
    · refine w_aload_n 0 dX12_chainBridges_22 rfl rfl ?_
      refine x_getR 12 28 (b := 94) dX12_chainBridges_23 (fxX12_55 rfl) rfl rfl (lt_of hnx (Nat.le_of_ble_eq_true rfl)) rfl ?_
      refine w_aload_n 0 dX12_chainBridges_26 rfl rfl ?_
      refine x_getR 12 18 (b := 88) dX12_chainBridges_27 (fxX12_37 rfl) rfl rfl (lt_of hnx (Nat.le_of_ble_eq_true rfl)) rfl ?_
      refine w_iload_n 3 dX12_chainBridges_30 rfl rfl ?_
      refine grd_e hs (fun hg3 hs => ?_)
      refine x_iald hg3 (Nat.le_of_ble_eq_true rfl) dX12_chainBridges_31 (Or.inl ⟨rfl, (lt_of hnx (Nat.le_of_ble_eq_true rfl))⟩) ?_
      refine grd_e hs (fun hg4 hs => ?_)
      refine x_iald hg4 (Nat.le_of_ble_eq_true rfl) dX12_chainBridges_32 (Or.inl ⟨rfl, (lt_of hnx (Nat.le_of_ble_eq_true rfl))⟩) ?_
      refine w_iload_n 1 dX12_chainBridges_33 rfl rfl ?_
      refine x_icmpne hs dX12_chainBridges_34 rfl (fun hs => ?_) (fun hs => ?_)
      · refine w_lv (lv' := [(0, .ref 80), (1, vi x1), (3, vi x3)]) [0, 1, 3] rfl ?_
        exact q_Mo_chainBridges_b41 hnx x1 x3 x2 s hs hb he0
      · refine x_iconst dX12_chainBridges_37 ?_
        refine w_goto dX12_chainBridges_38 rfl ?_
        refine w_lv (lv' := [(0, .ref 80), (1, vi x1), (3, vi x3)]) [0, 1, 3] rfl ?_
        exact q_Mo_chainBridges_b42 hnx x1 x3 x2 1 s hs hb he0
set_option maxRecDepth 100000 in
theorem q_Mo_chainBridges_l4 {C : Cx} {nx : Nat} (hnx : 100 ≤ nx) (x1 : Int) (x2 : Int) (x3 : Int) (s : Sg) {o : Int} (hs : Mo_chainBridges_l4 x1 x2 x3 s = some o) : ww C M_X12_chainBridges 0 0 0 nx (QI nx s o) (XF) nx 0 0 4 [(0, .ref 80), (1, vi x1), (2, vi x2), (3, vi x3)] [] (hp nx s) := by
  unfold Mo_chainBridges_l4 at hs
  refine bnd_e hs (fun x2_5 hw hs => ?_)
  have hE : ww C M_X12_chainBridges 0 0 0 nx (QI nx s o) (XF) nx 0 0 50 [(2, vi x2_5)] [] (hp nx s) := by
    refine w_iload_n 0 dX12_chainBridges_50 rfl rfl ?_
    cases hs
    exact x_ireturn dX12_chainBridges_51 rfl rfl (Nat.le_of_ble_eq_true rfl) (Nat.le_of_ble_eq_true rfl) ⟨rfl, rfl⟩
  refine whl_w (P := fun σ => ww C M_X12_chainBridges 0 0 0 nx (QI nx s o) (XF) nx 0 0 4 [(0, .ref 80), (1, vi x1), (2, vi σ.1), (3, vi σ.2)] [] (hp nx s)) (E := fun ρ => ρ = x2_5) hw rfl ?_
  intro σ o' hs' hb' he'
  exact q_Mo_chainBridges_t4 hnx x1 σ.1 σ.2 s hs' hb' (fun ρ e => by cases he' _ e; exact hE)
set_option maxRecDepth 100000 in
theorem c_Mo_chainBridges {C : Cx} {nx : Nat} (hnx : 100 ≤ nx) (x1 : Int) (s : Sg) : ∀ o, Mo_chainBridges x1 s = some o → mm C M_X12_chainBridges 0 0 0 nx nx [.ref 80, vi x1] (hp nx s) (QI nx s o) (XF) := by
  intro o hs
  unfold Mo_chainBridges at hs
  refine mm_of rfl rfl (Nat.le_of_ble_eq_true rfl) ?_
  show ww C M_X12_chainBridges 0 0 0 nx (QI nx s o) (XF) nx 0 0 0 [(0, .ref 80), (1, vi x1)] [] (hp nx s)
  refine x_iconst dX12_chainBridges_0 ?_
  refine w_istore_n (lv' := [(2, vi 0), (0, .ref 80), (1, vi x1)]) dX12_chainBridges_1 rfl (Nat.le_of_ble_eq_true rfl) rfl ?_
  refine x_iconst dX12_chainBridges_2 ?_
  refine w_istore_n (lv' := [(3, vi 0), (2, vi 0), (0, .ref 80), (1, vi x1)]) dX12_chainBridges_3 rfl (Nat.le_of_ble_eq_true rfl) rfl ?_
  refine w_lv (lv' := [(0, .ref 80), (1, vi x1), (2, vi 0), (3, vi 0)]) [2, 3, 1, 0] rfl ?_
  exact q_Mo_chainBridges_l4 hnx x1 0 0 s hs
set_option maxRecDepth 100000 in
theorem q_Mo_chainStones_b41 {C : Cx} {nx : Nat} (hnx : 100 ≤ nx) {Qr : Option Value → Hp → Prop} {Qx : String → Hp → Prop}  (x1 : Int) (x2 : Int) (x4 : Int) (t0 : Int) (t1 : Int) (s : Sg) {o : ((Int × Int) ⊕ (Int))} (hs : Mo_chainStones_b41 x1 x2 x4 t0 t1 s = some o) (hb : ∀ σ : Int × Int, o = .inl σ → ww C M_X12_chainStones 1 0 0 nx (Qr) (Qx) nx 0 0 5 [(0, .ref 80), (1, vi x1), (2, vi x2), (3, vi σ.1), (4, vi σ.2)] [] (hp nx s)) (he0 : ∀ ρ : Int, o = .inr ρ → ww C M_X12_chainStones 1 0 0 nx (Qr) (Qx) nx 0 0 49 [(3, vi ρ)] [] (hp nx s)) : ww C M_X12_chainStones 1 0 0 nx (Qr) (Qx) nx 0 0 41 [(0, .ref 80), (1, vi x1), (2, vi x2), (4, vi x4)] [vi t1, vi t0] (hp nx s) := by
  unfold Mo_chainStones_b41 at hs
  refine x_iadd dX12_chainStones_41 ?_
  refine x_istore_n (fun x3_3 => [(3, vi x3_3), (0, .ref 80), (1, vi x1), (2, vi x2), (4, vi x4)]) hs dX12_chainStones_42 rfl (Nat.le_of_ble_eq_true rfl) (fun _ => rfl) (fun x3_3 hs => ?_)
  refine x_iinc (lv' := [(4, vi (x4 + 1)), (3, vi x3_3), (0, .ref 80), (1, vi x1), (2, vi x2)]) 4 dX12_chainStones_43 rfl (Nat.le_of_ble_eq_true rfl) rfl ?_
  refine w_goto dX12_chainStones_46 rfl ?_
  refine w_lv (lv' := [(0, .ref 80), (1, vi x1), (2, vi x2), (3, vi x3_3), (4, vi (x4 + 1))]) [2, 3, 4, 1, 0] rfl ?_
  cases hs
  exact hb _ rfl
set_option maxRecDepth 100000 in
theorem q_Mo_chainStones_b40 {C : Cx} {nx : Nat} (hnx : 100 ≤ nx) {Qr : Option Value → Hp → Prop} {Qx : String → Hp → Prop}  (x1 : Int) (x2 : Int) (x4 : Int) (t0 : Int) (s : Sg) {o : ((Int × Int) ⊕ (Int))} (hs : Mo_chainStones_b40 x1 x2 x4 t0 s = some o) (hb : ∀ σ : Int × Int, o = .inl σ → ww C M_X12_chainStones 1 0 0 nx (Qr) (Qx) nx 0 0 5 [(0, .ref 80), (1, vi x1), (2, vi x2), (3, vi σ.1), (4, vi σ.2)] [] (hp nx s)) (he0 : ∀ ρ : Int, o = .inr ρ → ww C M_X12_chainStones 1 0 0 nx (Qr) (Qx) nx 0 0 49 [(3, vi ρ)] [] (hp nx s)) : ww C M_X12_chainStones 1 0 0 nx (Qr) (Qx) nx 0 0 40 [(0, .ref 80), (1, vi x1), (2, vi x2), (4, vi x4)] [vi t0] (hp nx s) := by
  unfold Mo_chainStones_b40 at hs
  refine x_iconst dX12_chainStones_40 ?_
  exact q_Mo_chainStones_b41 hnx x1 x2 x4 t0 0 s hs hb he0
set_option maxRecDepth 100000 in
theorem q_Mo_chainStones_t5 {C : Cx} {nx : Nat} (hnx : 100 ≤ nx) {Qr : Option Value → Hp → Prop} {Qx : String → Hp → Prop}  (x1 : Int) (x2 : Int) (x3 : Int) (x4 : Int) (s : Sg) {o : ((Int × Int) ⊕ (Int))} (hs : Mo_chainStones_t5 x1 x2 x3 x4 s = some o) (hb : ∀ σ : Int × Int, o = .inl σ → ww C M_X12_chainStones 1 0 0 nx (Qr) (Qx) nx 0 0 5 [(0, .ref 80), (1, vi x1), (2, vi x2), (3, vi σ.1), (4, vi σ.2)] [] (hp nx s)) (he0 : ∀ ρ : Int, o = .inr ρ → ww C M_X12_chainStones 1 0 0 nx (Qr) (Qx) nx 0 0 49 [(3, vi ρ)] [] (hp nx s)) : ww C M_X12_chainStones 1 0 0 nx (Qr) (Qx) nx 0 0 5 [(0, .ref 80), (1, vi x1), (2, vi x2), (3, vi x3), (4, vi x4)] [] (hp nx s) := by
  unfold Mo_chainStones_t5 at hs
  refine w_iload 4 dX12_chainStones_5 rfl ?_
  refine w_aload_n 0 dX12_chainStones_7 rfl rfl ?_
  refine x_V_I M_X12_cells [] [vi x4] hs rfl dX12_chainStones_8 (lkX12_212 _ rfl) (lt_of hnx (Nat.le_of_ble_eq_true rfl)) rfl rfl (Nat.le_of_ble_eq_true rfl) (Nat.le_of_ble_eq_true rfl) (Nat.le_of_ble_eq_true rfl) (Nat.le_of_ble_eq_true rfl) (c_Mo_cells hnx s) (fun y1 hy1 hs => ?_)
  refine x_icmpge hs dX12_chainStones_11 rfl (fun hs => ?_) (fun hs => ?_)
  · refine w_lv (lv' := [(3, vi x3)]) [3] rfl ?_
    cases hs
    exact he0 _ rfl
  · refine w_iload_n 3 dX12_chainStones_14 rfl rfl ?_
    refine w_aload_n 0 dX12_chainStones_15 rfl rfl ?_
    refine w_iload 4 dX12_chainStones_16 rfl ?_
    refine x_V_I M_X12_stone [vi x4] [vi x3] hs rfl dX12_chainStones_18 (lkX12_215 _ rfl) (lt_of hnx (Nat.le_of_ble_eq_true rfl)) rfl rfl (Nat.le_of_ble_eq_true rfl) (Nat.le_of_ble_eq_true rfl) (Nat.le_of_ble_eq_true rfl) (Nat.le_of_ble_eq_true rfl) (c_Mo_stone hnx x4 s) (fun y2 hy2 hs => ?_)
    refine w_iload_n 1 dX12_chainStones_21 rfl rfl ?_
    refine x_icmpne hs dX12_chainStones_22 rfl (fun hs => ?_) (fun hs => ?_)
    · refine w_lv (lv' := [(0, .ref 80), (1, vi x1), (2, vi x2), (4, vi x4)]) [0, 1, 2, 4] rfl ?_
      exact q_Mo_chainStones_b40 hnx x1 x2 x4 x3 s hs hb he0
    · refine w_aload_n 0 dX12_chainStones_25 rfl rfl ?_
      refine x_getR 12 28 (b := 94) dX12_chainStones_26 (fxX12_55 rfl) rfl rfl (lt_of hnx (Nat.le_of_ble_eq_true rfl)) rfl ?_
      refine w_iload 4 dX12_chainStones_29 rfl ?_
      refine grd_e hs (fun hg4 hs => ?_)
      refine x_iald hg4 (Nat.le_of_ble_eq_true rfl) dX12_chainStones_31 (Or.inl ⟨rfl, (lt_of hnx (Nat.le_of_ble_eq_true rfl))⟩) ?_
      refine w_iload_n 2 dX12_chainStones_32 rfl rfl ?_
      refine x_icmpne hs dX12_chainStones_33 rfl (fun hs => ?_) (fun hs => ?_)
      · refine w_lv (lv' := [(0, .ref 80), (1, vi x1), (2, vi x2), (4, vi x4)]) [0, 1, 2, 4] rfl ?_
        exact q_Mo_chainStones_b40 hnx x1 x2 x4 x3 s hs hb he0
      · refine x_iconst dX12_chainStones_36 ?_
        refine w_goto dX12_chainStones_37 rfl ?_
        refine w_lv (lv' := [(0, .ref 80), (1, vi x1), (2, vi x2), (4, vi x4)]) [0, 1, 2, 4] rfl ?_
        exact q_Mo_chainStones_b41 hnx x1 x2 x4 x3 1 s hs hb he0
set_option maxRecDepth 100000 in
theorem q_Mo_chainStones_l5 {C : Cx} {nx : Nat} (hnx : 100 ≤ nx) (x1 : Int) (x2 : Int) (x3 : Int) (x4 : Int) (s : Sg) {o : Int} (hs : Mo_chainStones_l5 x1 x2 x3 x4 s = some o) : ww C M_X12_chainStones 1 0 0 nx (QI nx s o) (XF) nx 0 0 5 [(0, .ref 80), (1, vi x1), (2, vi x2), (3, vi x3), (4, vi x4)] [] (hp nx s) := by
  unfold Mo_chainStones_l5 at hs
  refine bnd_e hs (fun x3_5 hw hs => ?_)
  have hE : ww C M_X12_chainStones 1 0 0 nx (QI nx s o) (XF) nx 0 0 49 [(3, vi x3_5)] [] (hp nx s) := by
    refine w_iload_n 0 dX12_chainStones_49 rfl rfl ?_
    cases hs
    exact x_ireturn dX12_chainStones_50 rfl rfl (Nat.le_of_ble_eq_true rfl) (Nat.le_of_ble_eq_true rfl) ⟨rfl, rfl⟩
  refine whl_w (P := fun σ => ww C M_X12_chainStones 1 0 0 nx (QI nx s o) (XF) nx 0 0 5 [(0, .ref 80), (1, vi x1), (2, vi x2), (3, vi σ.1), (4, vi σ.2)] [] (hp nx s)) (E := fun ρ => ρ = x3_5) hw rfl ?_
  intro σ o' hs' hb' he'
  exact q_Mo_chainStones_t5 hnx x1 x2 σ.1 σ.2 s hs' hb' (fun ρ e => by cases he' _ e; exact hE)
set_option maxRecDepth 100000 in
theorem c_Mo_chainStones {C : Cx} {nx : Nat} (hnx : 100 ≤ nx) (x1 : Int) (x2 : Int) (s : Sg) : ∀ o, Mo_chainStones x1 x2 s = some o → mm C M_X12_chainStones 1 0 0 nx nx [.ref 80, vi x1, vi x2] (hp nx s) (QI nx s o) (XF) := by
  intro o hs
  unfold Mo_chainStones at hs
  refine mm_of rfl rfl (Nat.le_of_ble_eq_true rfl) ?_
  show ww C M_X12_chainStones 1 0 0 nx (QI nx s o) (XF) nx 0 0 0 [(0, .ref 80), (1, vi x1), (2, vi x2)] [] (hp nx s)
  refine x_iconst dX12_chainStones_0 ?_
  refine w_istore_n (lv' := [(3, vi 0), (0, .ref 80), (1, vi x1), (2, vi x2)]) dX12_chainStones_1 rfl (Nat.le_of_ble_eq_true rfl) rfl ?_
  refine x_iconst dX12_chainStones_2 ?_
  refine w_istore (lv' := [(4, vi 0), (3, vi 0), (0, .ref 80), (1, vi x1), (2, vi x2)]) dX12_chainStones_3 (Nat.le_of_ble_eq_true rfl) rfl ?_
  refine w_lv (lv' := [(0, .ref 80), (1, vi x1), (2, vi x2), (3, vi 0), (4, vi 0)]) [2, 3, 4, 1, 0] rfl ?_
  exact q_Mo_chainStones_l5 hnx x1 x2 0 0 s hs
set_option maxRecDepth 100000 in
theorem q_Mo_chainEdges_b45 {C : Cx} {nx : Nat} (hnx : 100 ≤ nx) {Qr : Option Value → Hp → Prop} {Qx : String → Hp → Prop}  (x1 : Int) (x2 : Int) (x3 : Int) (x4 : Int) (s : Sg) {o : ((Int × Int) ⊕ (Int))} (hs : Mo_chainEdges_b45 x1 x2 x3 x4 s = some o) (hb : ∀ σ : Int × Int, o = .inl σ → ww C M_X12_chainEdges 2 0 0 nx (Qr) (Qx) nx 0 0 5 [(0, .ref 80), (1, vi x1), (2, vi x2), (3, vi σ.1), (4, vi σ.2)] [] (hp nx s)) (he0 : ∀ ρ : Int, o = .inr ρ → ww C M_X12_chainEdges 2 0 0 nx (Qr) (Qx) nx 0 0 51 [(0, .ref 80), (2, vi x2), (3, vi ρ)] [] (hp nx s)) : ww C M_X12_chainEdges 2 0 0 nx (Qr) (Qx) nx 0 0 45 [(0, .ref 80), (1, vi x1), (2, vi x2), (3, vi x3), (4, vi x4)] [] (hp nx s) := by
  unfold Mo_chainEdges_b45 at hs
  refine x_iinc (lv' := [(4, vi (x4 + 1)), (0, .ref 80), (1, vi x1), (2, vi x2), (3, vi x3)]) 4 dX12_chainEdges_45 rfl (Nat.le_of_ble_eq_true rfl) rfl ?_
  refine w_goto dX12_chainEdges_48 rfl ?_
  refine w_lv (lv' := [(0, .ref 80), (1, vi x1), (2, vi x2), (3, vi x3), (4, vi (x4 + 1))]) [1, 2, 3, 4, 0] rfl ?_
  cases hs
  exact hb _ rfl
set_option maxRecDepth 100000 in
theorem q_Mo_chainEdges_t5 {C : Cx} {nx : Nat} (hnx : 100 ≤ nx) {Qr : Option Value → Hp → Prop} {Qx : String → Hp → Prop}  (x1 : Int) (x2 : Int) (x3 : Int) (x4 : Int) (s : Sg) {o : ((Int × Int) ⊕ (Int))} (hs : Mo_chainEdges_t5 x1 x2 x3 x4 s = some o) (hb : ∀ σ : Int × Int, o = .inl σ → ww C M_X12_chainEdges 2 0 0 nx (Qr) (Qx) nx 0 0 5 [(0, .ref 80), (1, vi x1), (2, vi x2), (3, vi σ.1), (4, vi σ.2)] [] (hp nx s)) (he0 : ∀ ρ : Int, o = .inr ρ → ww C M_X12_chainEdges 2 0 0 nx (Qr) (Qx) nx 0 0 51 [(0, .ref 80), (2, vi x2), (3, vi ρ)] [] (hp nx s)) : ww C M_X12_chainEdges 2 0 0 nx (Qr) (Qx) nx 0 0 5 [(0, .ref 80), (1, vi x1), (2, vi x2), (3, vi x3), (4, vi x4)] [] (hp nx s) := by
  unfold Mo_chainEdges_t5 at hs
  refine w_iload 4 dX12_chainEdges_5 rfl ?_
  refine w_aload_n 0 dX12_chainEdges_7 rfl rfl ?_
  refine x_V_I M_X12_cells [] [vi x4] hs rfl dX12_chainEdges_8 (lkX12_212 _ rfl) (lt_of hnx (Nat.le_of_ble_eq_true rfl)) rfl rfl (Nat.le_of_ble_eq_true rfl) (Nat.le_of_ble_eq_true rfl) (Nat.le_of_ble_eq_true rfl) (Nat.le_of_ble_eq_true rfl) (c_Mo_cells hnx s) (fun y1 hy1 hs => ?_)
  refine x_icmpge hs dX12_chainEdges_11 rfl (fun hs => ?_) (fun hs => ?_)
  · refine w_lv (lv' := [(0, .ref 80), (2, vi x2), (3, vi x3)]) [0, 2, 3] rfl ?_
    cases hs
    exact he0 _ rfl
  · refine w_aload_n 0 dX12_chainEdges_14 rfl rfl ?_
    refine w_iload 4 dX12_chainEdges_15 rfl ?_
    refine x_V_I M_X12_stone [vi x4] [] hs rfl dX12_chainEdges_17 (lkX12_215 _ rfl) (lt_of hnx (Nat.le_of_ble_eq_true rfl)) rfl rfl (Nat.le_of_ble_eq_true rfl) (Nat.le_of_ble_eq_true rfl) (Nat.le_of_ble_eq_true rfl) (Nat.le_of_ble_eq_true rfl) (c_Mo_stone hnx x4 s) (fun y2 hy2 hs => ?_)
    refine w_iload_n 1 dX12_chainEdges_20 rfl rfl ?_
    refine x_icmpne hs dX12_chainEdges_21 rfl (fun hs => ?_) (fun hs => ?_)
    · exact q_Mo_chainEdges_b45 hnx x1 x2 x3 x4 s hs hb he0
    · refine w_aload_n 0 dX12_chainEdges_24 rfl rfl ?_
      refine x_getR 12 28 (b := 94) dX12_chainEdges_25 (fxX12_55 rfl) rfl rfl (lt_of hnx (Nat.le_of_ble_eq_true rfl)) rfl ?_
      refine w_iload 4 dX12_chainEdges_28 rfl ?_
      refine grd_e hs (fun hg3 hs => ?_)
      refine x_iald hg3 (Nat.le_of_ble_eq_true rfl) dX12_chainEdges_30 (Or.inl ⟨rfl, (lt_of hnx (Nat.le_of_ble_eq_true rfl))⟩) ?_
      refine w_iload_n 2 dX12_chainEdges_31 rfl rfl ?_
      refine x_icmpne hs dX12_chainEdges_32 rfl (fun hs => ?_) (fun hs => ?_)
      · exact q_Mo_chainEdges_b45 hnx x1 x2 x3 x4 s hs hb he0
      · refine w_iload_n 3 dX12_chainEdges_35 rfl rfl ?_
        refine w_aload_n 0 dX12_chainEdges_36 rfl rfl ?_
        refine w_iload_n 1 dX12_chainEdges_37 rfl rfl ?_
        refine w_iload 4 dX12_chainEdges_38 rfl ?_
        refine x_V_I M_X12_edges [vi x1, vi x4] [vi x3] hs rfl dX12_chainEdges_40 (lkX12_239 _ rfl) (lt_of hnx (Nat.le_of_ble_eq_true rfl)) rfl rfl (Nat.le_of_ble_eq_true rfl) (Nat.le_of_ble_eq_true rfl) (Nat.le_of_ble_eq_true rfl) (Nat.le_of_ble_eq_true rfl) (c_Mo_edges hnx x1 x4 s) (fun y4 hy4 hs => ?_)
        refine x_ior dX12_chainEdges_43 ?_
        refine x_istore_n (fun x3_5 => [(3, vi x3_5), (0, .ref 80), (1, vi x1), (2, vi x2), (4, vi x4)]) hs dX12_chainEdges_44 rfl (Nat.le_of_ble_eq_true rfl) (fun _ => rfl) (fun x3_5 hs => ?_)
        refine w_lv (lv' := [(0, .ref 80), (1, vi x1), (2, vi x2), (3, vi x3_5), (4, vi x4)]) [1, 2, 3, 0, 4] rfl ?_
        exact q_Mo_chainEdges_b45 hnx x1 x2 x3_5 x4 s hs hb he0
set_option maxRecDepth 100000 in
theorem q_Mo_chainEdges_b114 {C : Cx} {nx : Nat} (hnx : 100 ≤ nx) {Qr : Option Value → Hp → Prop} {Qx : String → Hp → Prop}  (x2 : Int) (x3 : Int) (x4 : Int) (s : Sg) {o : ((Int × Int) ⊕ (Int))} (hs : Mo_chainEdges_b114 x2 x3 x4 s = some o) (hb : ∀ σ : Int × Int, o = .inl σ → ww C M_X12_chainEdges 2 0 0 nx (Qr) (Qx) nx 0 0 54 [(0, .ref 80), (2, vi x2), (3, vi σ.1), (4, vi σ.2)] [] (hp nx s)) (he0 : ∀ ρ : Int, o = .inr ρ → ww C M_X12_chainEdges 2 0 0 nx (Qr) (Qx) nx 0 0 120 [(3, vi ρ)] [] (hp nx s)) : ww C M_X12_chainEdges 2 0 0 nx (Qr) (Qx) nx 0 0 114 [(0, .ref 80), (2, vi x2), (3, vi x3), (4, vi x4)] [] (hp nx s) := by
  unfold Mo_chainEdges_b114 at hs
  refine x_iinc (lv' := [(4, vi (x4 + 1)), (0, .ref 80), (2, vi x2), (3, vi x3)]) 3 dX12_chainEdges_114 rfl (Nat.le_of_ble_eq_true rfl) rfl ?_
  refine w_goto dX12_chainEdges_117 rfl ?_
  refine w_lv (lv' := [(0, .ref 80), (2, vi x2), (3, vi x3), (4, vi (x4 + 1))]) [1, 2, 3, 0] rfl ?_
  cases hs
  exact hb _ rfl
set_option maxRecDepth 100000 in
theorem q_Mo_chainEdges_t54 {C : Cx} {nx : Nat} (hnx : 100 ≤ nx) {Qr : Option Value → Hp → Prop} {Qx : String → Hp → Prop}  (x2 : Int) (x3 : Int) (x4 : Int) (s : Sg) {o : ((Int × Int) ⊕ (Int))} (hs : Mo_chainEdges_t54 x2 x3 x4 s = some o) (hb : ∀ σ : Int × Int, o = .inl σ → ww C M_X12_chainEdges 2 0 0 nx (Qr) (Qx) nx 0 0 54 [(0, .ref 80), (2, vi x2), (3, vi σ.1), (4, vi σ.2)] [] (hp nx s)) (he0 : ∀ ρ : Int, o = .inr ρ → ww C M_X12_chainEdges 2 0 0 nx (Qr) (Qx) nx 0 0 120 [(3, vi ρ)] [] (hp nx s)) : ww C M_X12_chainEdges 2 0 0 nx (Qr) (Qx) nx 0 0 54 [(0, .ref 80), (2, vi x2), (3, vi x3), (4, vi x4)] [] (hp nx s) := by
  unfold Mo_chainEdges_t54 at hs
  refine w_iload 3 dX12_chainEdges_54 rfl ?_
  refine w_aload_n 0 dX12_chainEdges_56 rfl rfl ?_
  refine x_getI 12 24 dX12_chainEdges_57 (fxX12_272 rfl) rfl rfl (lt_of hnx (Nat.le_of_ble_eq_true rfl)) ?_
  refine x_icmpge hs dX12_chainEdges_60 rfl (fun hs => ?_) (fun hs => ?_)
  · refine w_lv (lv' := [(3, vi x3)]) [2] rfl ?_
    cases hs
    exact he0 _ rfl
  · refine w_aload_n 0 dX12_chainEdges_63 rfl rfl ?_
    refine x_getR 12 22 (b := 92) dX12_chainEdges_64 (fxX12_49 rfl) rfl rfl (lt_of hnx (Nat.le_of_ble_eq_true rfl)) rfl ?_
    refine w_iload 3 dX12_chainEdges_67 rfl ?_
    refine grd_e hs (fun hg7 hs => ?_)
    refine x_zald hg7 (Nat.le_of_ble_eq_true rfl) dX12_chainEdges_69 rfl (lt_of hnx (Nat.le_of_ble_eq_true rfl)) ?_
    refine x_ifeq hs dX12_chainEdges_70 rfl (fun hs => ?_) (fun hs => ?_)
    · exact q_Mo_chainEdges_b114 hnx x2 x3 x4 s hs hb he0
    · refine w_aload_n 0 dX12_chainEdges_73 rfl rfl ?_
      refine x_getR 12 19 (b := 89) dX12_chainEdges_74 (fxX12_40 rfl) rfl rfl (lt_of hnx (Nat.le_of_ble_eq_true rfl)) rfl ?_
      refine w_iload 3 dX12_chainEdges_77 rfl ?_
      refine grd_e hs (fun hg8 hs => ?_)
      refine x_iald hg8 (Nat.le_of_ble_eq_true rfl) dX12_chainEdges_79 (Or.inl ⟨rfl, (lt_of hnx (Nat.le_of_ble_eq_true rfl))⟩) ?_
      refine x_ifge hs dX12_chainEdges_80 rfl (fun hs => ?_) (fun hs => ?_)
      · exact q_Mo_chainEdges_b114 hnx x2 x3 x4 s hs hb he0
      · refine w_aload_n 0 dX12_chainEdges_83 rfl rfl ?_
        refine x_getR 12 28 (b := 94) dX12_chainEdges_84 (fxX12_55 rfl) rfl rfl (lt_of hnx (Nat.le_of_ble_eq_true rfl)) rfl ?_
        refine w_aload_n 0 dX12_chainEdges_87 rfl rfl ?_
        refine x_getR 12 18 (b := 88) dX12_chainEdges_88 (fxX12_37 rfl) rfl rfl (lt_of hnx (Nat.le_of_ble_eq_true rfl)) rfl ?_
        refine w_iload 3 dX12_chainEdges_91 rfl ?_
        refine grd_e hs (fun hg9 hs => ?_)
        refine x_iald hg9 (Nat.le_of_ble_eq_true rfl) dX12_chainEdges_93 (Or.inl ⟨rfl, (lt_of hnx (Nat.le_of_ble_eq_true rfl))⟩) ?_
        refine grd_e hs (fun hg10 hs => ?_)
        refine x_iald hg10 (Nat.le_of_ble_eq_true rfl) dX12_chainEdges_94 (Or.inl ⟨rfl, (lt_of hnx (Nat.le_of_ble_eq_true rfl))⟩) ?_
        refine w_iload_n 1 dX12_chainEdges_95 rfl rfl ?_
        refine x_icmpne hs dX12_chainEdges_96 rfl (fun hs => ?_) (fun hs => ?_)
        · exact q_Mo_chainEdges_b114 hnx x2 x3 x4 s hs hb he0
        · refine w_iload_n 2 dX12_chainEdges_99 rfl rfl ?_
          refine x_iconst dX12_chainEdges_100 ?_
          refine x_bipush dX12_chainEdges_101 (by decide) ?_
          refine w_aload_n 0 dX12_chainEdges_103 rfl rfl ?_
          refine x_getR 12 19 (b := 89) dX12_chainEdges_104 (fxX12_40 rfl) rfl rfl (lt_of hnx (Nat.le_of_ble_eq_true rfl)) rfl ?_
          refine w_iload 3 dX12_chainEdges_107 rfl ?_
          refine grd_e hs (fun hg11 hs => ?_)
          refine x_iald hg11 (Nat.le_of_ble_eq_true rfl) dX12_chainEdges_109 (Or.inl ⟨rfl, (lt_of hnx (Nat.le_of_ble_eq_true rfl))⟩) ?_
          refine x_isub dX12_chainEdges_110 ?_
          refine x_ishl dX12_chainEdges_111 ?_
          refine x_ior dX12_chainEdges_112 ?_
          refine x_istore_n (fun x3_12 => [(3, vi x3_12), (0, .ref 80), (2, vi x2), (4, vi x4)]) hs dX12_chainEdges_113 rfl (Nat.le_of_ble_eq_true rfl) (fun _ => rfl) (fun x3_12 hs => ?_)
          refine w_lv (lv' := [(0, .ref 80), (2, vi x2), (3, vi x3_12), (4, vi x4)]) [1, 2, 0, 3] rfl ?_
          exact q_Mo_chainEdges_b114 hnx x2 x3_12 x4 s hs hb he0
set_option maxRecDepth 100000 in
theorem q_Mo_chainEdges_l54 {C : Cx} {nx : Nat} (hnx : 100 ≤ nx) (x2 : Int) (x3 : Int) (x4 : Int) (s : Sg) {o : Int} (hs : Mo_chainEdges_l54 x2 x3 x4 s = some o) : ww C M_X12_chainEdges 2 0 0 nx (QI nx s o) (XF) nx 0 0 54 [(0, .ref 80), (2, vi x2), (3, vi x3), (4, vi x4)] [] (hp nx s) := by
  unfold Mo_chainEdges_l54 at hs
  refine bnd_e hs (fun x3_13 hw hs => ?_)
  have hE : ww C M_X12_chainEdges 2 0 0 nx (QI nx s o) (XF) nx 0 0 120 [(3, vi x3_13)] [] (hp nx s) := by
    refine w_iload_n 0 dX12_chainEdges_120 rfl rfl ?_
    cases hs
    exact x_ireturn dX12_chainEdges_121 rfl rfl (Nat.le_of_ble_eq_true rfl) (Nat.le_of_ble_eq_true rfl) ⟨rfl, rfl⟩
  refine whl_w (P := fun σ => ww C M_X12_chainEdges 2 0 0 nx (QI nx s o) (XF) nx 0 0 54 [(0, .ref 80), (2, vi x2), (3, vi σ.1), (4, vi σ.2)] [] (hp nx s)) (E := fun ρ => ρ = x3_13) hw rfl ?_
  intro σ o' hs' hb' he'
  exact q_Mo_chainEdges_t54 hnx x2 σ.1 σ.2 s hs' hb' (fun ρ e => by cases he' _ e; exact hE)
set_option maxRecDepth 100000 in
theorem q_Mo_chainEdges_l5 {C : Cx} {nx : Nat} (hnx : 100 ≤ nx) (x1 : Int) (x2 : Int) (x3 : Int) (x4 : Int) (s : Sg) {o : Int} (hs : Mo_chainEdges_l5 x1 x2 x3 x4 s = some o) : ww C M_X12_chainEdges 2 0 0 nx (QI nx s o) (XF) nx 0 0 5 [(0, .ref 80), (1, vi x1), (2, vi x2), (3, vi x3), (4, vi x4)] [] (hp nx s) := by
  unfold Mo_chainEdges_l5 at hs
  refine bnd_e hs (fun x3_6 hw hs => ?_)
  have hE : ww C M_X12_chainEdges 2 0 0 nx (QI nx s o) (XF) nx 0 0 51 [(0, .ref 80), (2, vi x2), (3, vi x3_6)] [] (hp nx s) := by
    refine x_iconst dX12_chainEdges_51 ?_
    refine w_istore (lv' := [(4, vi 0), (0, .ref 80), (2, vi x2), (3, vi x3_6)]) dX12_chainEdges_52 (Nat.le_of_ble_eq_true rfl) rfl ?_
    refine w_lv (lv' := [(0, .ref 80), (2, vi x2), (3, vi x3_6), (4, vi 0)]) [1, 2, 3, 0] rfl ?_
    exact q_Mo_chainEdges_l54 hnx x2 x3_6 0 s hs
  refine whl_w (P := fun σ => ww C M_X12_chainEdges 2 0 0 nx (QI nx s o) (XF) nx 0 0 5 [(0, .ref 80), (1, vi x1), (2, vi x2), (3, vi σ.1), (4, vi σ.2)] [] (hp nx s)) (E := fun ρ => ρ = x3_6) hw rfl ?_
  intro σ o' hs' hb' he'
  exact q_Mo_chainEdges_t5 hnx x1 x2 σ.1 σ.2 s hs' hb' (fun ρ e => by cases he' _ e; exact hE)
set_option maxRecDepth 100000 in
theorem c_Mo_chainEdges {C : Cx} {nx : Nat} (hnx : 100 ≤ nx) (x1 : Int) (x2 : Int) (s : Sg) : ∀ o, Mo_chainEdges x1 x2 s = some o → mm C M_X12_chainEdges 2 0 0 nx nx [.ref 80, vi x1, vi x2] (hp nx s) (QI nx s o) (XF) := by
  intro o hs
  unfold Mo_chainEdges at hs
  refine mm_of rfl rfl (Nat.le_of_ble_eq_true rfl) ?_
  show ww C M_X12_chainEdges 2 0 0 nx (QI nx s o) (XF) nx 0 0 0 [(0, .ref 80), (1, vi x1), (2, vi x2)] [] (hp nx s)
  refine x_iconst dX12_chainEdges_0 ?_
  refine w_istore_n (lv' := [(3, vi 0), (0, .ref 80), (1, vi x1), (2, vi x2)]) dX12_chainEdges_1 rfl (Nat.le_of_ble_eq_true rfl) rfl ?_
  refine x_iconst dX12_chainEdges_2 ?_
  refine w_istore (lv' := [(4, vi 0), (3, vi 0), (0, .ref 80), (1, vi x1), (2, vi x2)]) dX12_chainEdges_3 (Nat.le_of_ble_eq_true rfl) rfl ?_
  refine w_lv (lv' := [(0, .ref 80), (1, vi x1), (2, vi x2), (3, vi 0), (4, vi 0)]) [2, 3, 4, 1, 0] rfl ?_
  exact q_Mo_chainEdges_l5 hnx x1 x2 0 0 s hs
set_option maxRecDepth 100000 in
theorem c_Mo_canSwap {C : Cx} {nx : Nat} (hnx : 100 ≤ nx)  (s : Sg) : ∀ o, Mo_canSwap  s = some o → mm C M_X12_canSwap 7 0 0 nx nx [.ref 80] (hp nx s) (QI nx o.2 o.1) (XF) := by
  intro o hs
  unfold Mo_canSwap at hs
  refine mm_of rfl rfl (Nat.le_of_ble_eq_true rfl) ?_
  show ww C M_X12_canSwap 7 0 0 nx (QI nx o.2 o.1) (XF) nx 0 0 0 [(0, .ref 80)] [] (hp nx s)
  refine w_aload_n 0 dX12_canSwap_0 rfl rfl ?_
  refine x_getR 12 1 (b := 81) dX12_canSwap_1 (fxX12_9 rfl) rfl rfl (lt_of hnx (Nat.le_of_ble_eq_true rfl)) rfl ?_
  refine x_iconst dX12_canSwap_4 ?_
  refine grd_e hs (fun hg1 hs => ?_)
  refine x_iald ⟨by decide, by decide⟩ (Nat.le_of_ble_eq_true rfl) dX12_canSwap_5 (Or.inl ⟨rfl, (lt_of hnx (Nat.le_of_ble_eq_true rfl))⟩) ?_
  refine x_ifeq hs dX12_canSwap_6 rfl (fun hs => ?_) (fun hs => ?_)
  · refine x_iconst dX12_canSwap_27 ?_
    cases hs
    exact x_zreturn (Or.inl rfl) dX12_canSwap_28 rfl rfl (Nat.le_of_ble_eq_true rfl) (Nat.le_of_ble_eq_true rfl) ⟨rfl, rfl⟩
  · refine w_aload_n 0 dX12_canSwap_9 rfl rfl ?_
    refine x_getR 12 1 (b := 81) dX12_canSwap_10 (fxX12_9 rfl) rfl rfl (lt_of hnx (Nat.le_of_ble_eq_true rfl)) rfl ?_
    refine x_iconst dX12_canSwap_13 ?_
    refine grd_e hs (fun hg2 hs => ?_)
    refine x_iald ⟨by decide, by decide⟩ (Nat.le_of_ble_eq_true rfl) dX12_canSwap_14 (Or.inl ⟨rfl, (lt_of hnx (Nat.le_of_ble_eq_true rfl))⟩) ?_
    refine x_iconst dX12_canSwap_15 ?_
    refine x_icmpne hs dX12_canSwap_16 rfl (fun hs => ?_) (fun hs => ?_)
    · refine x_iconst dX12_canSwap_27 ?_
      cases hs
      exact x_zreturn (Or.inl rfl) dX12_canSwap_28 rfl rfl (Nat.le_of_ble_eq_true rfl) (Nat.le_of_ble_eq_true rfl) ⟨rfl, rfl⟩
    · refine w_aload_n 0 dX12_canSwap_19 rfl rfl ?_
      refine x_V_B M_X12_winner [] [] hs rfl dX12_canSwap_20 (lkX12_155 _ rfl) (lt_of hnx (Nat.le_of_ble_eq_true rfl)) rfl rfl (Nat.le_of_ble_eq_true rfl) (Nat.le_of_ble_eq_true rfl) (Nat.le_of_ble_eq_true rfl) (Nat.le_of_ble_eq_true rfl) (c_Mo_winner hnx s) (fun y3 s4 hy3 hs => ?_)
      refine x_iconst dX12_canSwap_23 ?_
      refine x_icmpeq hs dX12_canSwap_24 rfl (fun hs => ?_) (fun hs => ?_)
      · refine w_aload_n 0 dX12_canSwap_29 rfl rfl ?_
        refine w_aload_n 0 dX12_canSwap_30 rfl rfl ?_
        refine x_getR 12 1 (b := 81) dX12_canSwap_31 (fxX12_9 rfl) rfl rfl (lt_of hnx (Nat.le_of_ble_eq_true rfl)) rfl ?_
        refine x_bipush dX12_canSwap_34 (by decide) ?_
        refine grd_e hs (fun hg5 hs => ?_)
        refine x_iald ⟨by decide, by decide⟩ (Nat.le_of_ble_eq_true rfl) dX12_canSwap_36 (Or.inl ⟨rfl, (lt_of hnx (Nat.le_of_ble_eq_true rfl))⟩) ?_
        refine x_V_I M_X12_stone [vi (gi s4 81 86)] [] hs rfl dX12_canSwap_37 (lkX12_215 _ rfl) (lt_of hnx (Nat.le_of_ble_eq_true rfl)) rfl rfl (Nat.le_of_ble_eq_true rfl) (Nat.le_of_ble_eq_true rfl) (Nat.le_of_ble_eq_true rfl) (Nat.le_of_ble_eq_true rfl) (c_Mo_stone hnx (gi s4 81 86) s4) (fun y6 hy6 hs => ?_)
        refine x_iconst dX12_canSwap_40 ?_
        refine w_aload_n 0 dX12_canSwap_41 rfl rfl ?_
        refine x_getR 12 1 (b := 81) dX12_canSwap_42 (fxX12_9 rfl) rfl rfl (lt_of hnx (Nat.le_of_ble_eq_true rfl)) rfl ?_
        refine x_iconst dX12_canSwap_45 ?_
        refine grd_e hs (fun hg7 hs => ?_)
        refine x_iald ⟨by decide, by decide⟩ (Nat.le_of_ble_eq_true rfl) dX12_canSwap_46 (Or.inl ⟨rfl, (lt_of hnx (Nat.le_of_ble_eq_true rfl))⟩) ?_
        refine x_isub dX12_canSwap_47 ?_
        refine x_icmpne hs dX12_canSwap_48 rfl (fun hs => ?_) (fun hs => ?_)
        · refine x_iconst dX12_canSwap_69 ?_
          cases hs
          exact x_zreturn (Or.inl rfl) dX12_canSwap_70 rfl rfl (Nat.le_of_ble_eq_true rfl) (Nat.le_of_ble_eq_true rfl) ⟨rfl, rfl⟩
        · refine w_aload_n 0 dX12_canSwap_51 rfl rfl ?_
          refine x_iconst dX12_canSwap_52 ?_
          refine x_V_I M_X12_stonesOf [vi (-1)] [] hs rfl dX12_canSwap_53 (lkX12_291 _ rfl) (lt_of hnx (Nat.le_of_ble_eq_true rfl)) rfl rfl (Nat.le_of_ble_eq_true rfl) (Nat.le_of_ble_eq_true rfl) (Nat.le_of_ble_eq_true rfl) (Nat.le_of_ble_eq_true rfl) (c_Mo_stonesOf hnx (-1) s4) (fun y8 hy8 hs => ?_)
          refine w_aload_n 0 dX12_canSwap_56 rfl rfl ?_
          refine x_V_I M_X12_cells [] [vi y8] hs rfl dX12_canSwap_57 (lkX12_212 _ rfl) (lt_of hnx (Nat.le_of_ble_eq_true rfl)) rfl rfl (Nat.le_of_ble_eq_true rfl) (Nat.le_of_ble_eq_true rfl) (Nat.le_of_ble_eq_true rfl) (Nat.le_of_ble_eq_true rfl) (c_Mo_cells hnx s4) (fun y9 hy9 hs => ?_)
          refine x_iconst dX12_canSwap_60 ?_
          refine x_isub dX12_canSwap_61 ?_
          refine x_icmpne hs dX12_canSwap_62 rfl (fun hs => ?_) (fun hs => ?_)
          · refine x_iconst dX12_canSwap_69 ?_
            cases hs
            exact x_zreturn (Or.inl rfl) dX12_canSwap_70 rfl rfl (Nat.le_of_ble_eq_true rfl) (Nat.le_of_ble_eq_true rfl) ⟨rfl, rfl⟩
          · refine x_iconst dX12_canSwap_65 ?_
            refine w_goto dX12_canSwap_66 rfl ?_
            cases hs
            exact x_zreturn (Or.inr rfl) dX12_canSwap_70 rfl rfl (Nat.le_of_ble_eq_true rfl) (Nat.le_of_ble_eq_true rfl) ⟨rfl, rfl⟩
      · refine x_iconst dX12_canSwap_27 ?_
        cases hs
        exact x_zreturn (Or.inl rfl) dX12_canSwap_28 rfl rfl (Nat.le_of_ble_eq_true rfl) (Nat.le_of_ble_eq_true rfl) ⟨rfl, rfl⟩
set_option maxRecDepth 100000 in
theorem q_Mo_size_b18 {C : Cx} {nx : Nat} (hnx : 100 ≤ nx) (x1 : Int) (t1 : Int) (s : Sg) {o : Int × Sg} (hs : Mo_size_b18 x1 t1 s = some o) : ww C M_X12_size 8 0 0 nx (QI nx o.2 o.1) (XF) nx 0 0 18 [(0, .ref 80), (1, vi x1)] [vi t1, .ref 80] (hp nx s) := by
  unfold Mo_size_b18 at hs
  refine x_V_B M_X12_wrong [vi t1] [] hs rfl dX12_size_18 (lkX12_296 _ rfl) (lt_of hnx (Nat.le_of_ble_eq_true rfl)) rfl rfl (Nat.le_of_ble_eq_true rfl) (Nat.le_of_ble_eq_true rfl) (Nat.le_of_ble_eq_true rfl) (Nat.le_of_ble_eq_true rfl) (c_Mo_wrong hnx t1 s) (fun y3 s4 hy3 hs => ?_)
  refine x_ifeq hs dX12_size_21 rfl (fun hs => ?_) (fun hs => ?_)
  · refine w_iload_n 1 dX12_size_26 rfl rfl ?_
    refine ifEq_c hs (fun hR7 hz6 hs => ?_) (fun hR7 hz6 hs => ?_)
    · refine x_tableIn 0 hz6 (by unfold R; omega) dX12_size_27 (by decide) (by decide) rfl rfl ?_
      refine w_aload_n 0 dX12_size_76 rfl rfl ?_
      refine x_getR 12 1 (b := 81) dX12_size_77 (fxX12_9 rfl) rfl rfl (lt_of hnx (Nat.le_of_ble_eq_true rfl)) rfl ?_
      refine x_iconst dX12_size_80 ?_
      refine grd_e hs (fun hg5 hs => ?_)
      refine x_iald ⟨by decide, by decide⟩ (Nat.le_of_ble_eq_true rfl) dX12_size_81 (Or.inl ⟨rfl, (lt_of hnx (Nat.le_of_ble_eq_true rfl))⟩) ?_
      cases hs
      exact x_ireturn dX12_size_82 rfl rfl (Nat.le_of_ble_eq_true rfl) (Nat.le_of_ble_eq_true rfl) ⟨rfl, rfl⟩
    refine ifEq_c hs (fun hR10 hz9 hs => ?_) (fun hR10 hz9 hs => ?_)
    · refine x_tableIn 1 hz9 (by unfold R; omega) dX12_size_27 (by decide) (by decide) rfl rfl ?_
      refine w_aload_n 0 dX12_size_83 rfl rfl ?_
      refine x_iconst dX12_size_84 ?_
      refine x_V_I M_X12_stonesOf [vi 0] [] hs rfl dX12_size_85 (lkX12_291 _ rfl) (lt_of hnx (Nat.le_of_ble_eq_true rfl)) rfl rfl (Nat.le_of_ble_eq_true rfl) (Nat.le_of_ble_eq_true rfl) (Nat.le_of_ble_eq_true rfl) (Nat.le_of_ble_eq_true rfl) (c_Mo_stonesOf hnx 0 s4) (fun y8 hy8 hs => ?_)
      cases hs
      exact x_ireturn dX12_size_88 rfl rfl (Nat.le_of_ble_eq_true rfl) (Nat.le_of_ble_eq_true rfl) ⟨rfl, rfl⟩
    refine ifEq_c hs (fun hR13 hz12 hs => ?_) (fun hR13 hz12 hs => ?_)
    · refine x_tableIn 2 hz12 (by unfold R; omega) dX12_size_27 (by decide) (by decide) rfl rfl ?_
      refine w_aload_n 0 dX12_size_89 rfl rfl ?_
      refine x_iconst dX12_size_90 ?_
      refine x_V_I M_X12_stonesOf [vi 1] [] hs rfl dX12_size_91 (lkX12_291 _ rfl) (lt_of hnx (Nat.le_of_ble_eq_true rfl)) rfl rfl (Nat.le_of_ble_eq_true rfl) (Nat.le_of_ble_eq_true rfl) (Nat.le_of_ble_eq_true rfl) (Nat.le_of_ble_eq_true rfl) (c_Mo_stonesOf hnx 1 s4) (fun y11 hy11 hs => ?_)
      cases hs
      exact x_ireturn dX12_size_94 rfl rfl (Nat.le_of_ble_eq_true rfl) (Nat.le_of_ble_eq_true rfl) ⟨rfl, rfl⟩
    refine ifEq_c hs (fun hR16 hz15 hs => ?_) (fun hR16 hz15 hs => ?_)
    · refine x_tableIn 3 hz15 (by unfold R; omega) dX12_size_27 (by decide) (by decide) rfl rfl ?_
      refine w_aload_n 0 dX12_size_95 rfl rfl ?_
      refine x_iconst dX12_size_96 ?_
      refine x_V_I M_X12_stonesOf [vi (-1)] [] hs rfl dX12_size_97 (lkX12_291 _ rfl) (lt_of hnx (Nat.le_of_ble_eq_true rfl)) rfl rfl (Nat.le_of_ble_eq_true rfl) (Nat.le_of_ble_eq_true rfl) (Nat.le_of_ble_eq_true rfl) (Nat.le_of_ble_eq_true rfl) (c_Mo_stonesOf hnx (-1) s4) (fun y14 hy14 hs => ?_)
      cases hs
      exact x_ireturn dX12_size_100 rfl rfl (Nat.le_of_ble_eq_true rfl) (Nat.le_of_ble_eq_true rfl) ⟨rfl, rfl⟩
    refine ifEq_c hs (fun hR19 hz18 hs => ?_) (fun hR19 hz18 hs => ?_)
    · refine x_tableIn 4 hz18 (by unfold R; omega) dX12_size_27 (by decide) (by decide) rfl rfl ?_
      refine w_aload_n 0 dX12_size_101 rfl rfl ?_
      refine x_getR 12 1 (b := 81) dX12_size_102 (fxX12_9 rfl) rfl rfl (lt_of hnx (Nat.le_of_ble_eq_true rfl)) rfl ?_
      refine x_iconst dX12_size_105 ?_
      refine grd_e hs (fun hg17 hs => ?_)
      refine x_iald ⟨by decide, by decide⟩ (Nat.le_of_ble_eq_true rfl) dX12_size_106 (Or.inl ⟨rfl, (lt_of hnx (Nat.le_of_ble_eq_true rfl))⟩) ?_
      cases hs
      exact x_ireturn dX12_size_107 rfl rfl (Nat.le_of_ble_eq_true rfl) (Nat.le_of_ble_eq_true rfl) ⟨rfl, rfl⟩
    refine ifEq_c hs (fun hR22 hz21 hs => ?_) (fun hR22 hz21 hs => ?_)
    · refine x_tableIn 5 hz21 (by unfold R; omega) dX12_size_27 (by decide) (by decide) rfl rfl ?_
      refine w_aload_n 0 dX12_size_108 rfl rfl ?_
      refine x_getR 12 1 (b := 81) dX12_size_109 (fxX12_9 rfl) rfl rfl (lt_of hnx (Nat.le_of_ble_eq_true rfl)) rfl ?_
      refine x_iconst dX12_size_112 ?_
      refine grd_e hs (fun hg20 hs => ?_)
      refine x_iald ⟨by decide, by decide⟩ (Nat.le_of_ble_eq_true rfl) dX12_size_113 (Or.inl ⟨rfl, (lt_of hnx (Nat.le_of_ble_eq_true rfl))⟩) ?_
      cases hs
      exact x_ireturn dX12_size_114 rfl rfl (Nat.le_of_ble_eq_true rfl) (Nat.le_of_ble_eq_true rfl) ⟨rfl, rfl⟩
    refine ifEq_c hs (fun hR26 hz25 hs => ?_) (fun hR26 hz25 hs => ?_)
    · refine x_tableIn 6 hz25 (by unfold R; omega) dX12_size_27 (by decide) (by decide) rfl rfl ?_
      refine w_aload_n 0 dX12_size_115 rfl rfl ?_
      refine x_V_B M_X12_winner [] [] hs rfl dX12_size_116 (lkX12_155 _ rfl) (lt_of hnx (Nat.le_of_ble_eq_true rfl)) rfl rfl (Nat.le_of_ble_eq_true rfl) (Nat.le_of_ble_eq_true rfl) (Nat.le_of_ble_eq_true rfl) (Nat.le_of_ble_eq_true rfl) (c_Mo_winner hnx s4) (fun y23 s24 hy23 hs => ?_)
      cases hs
      exact x_ireturn dX12_size_119 rfl rfl (Nat.le_of_ble_eq_true rfl) (Nat.le_of_ble_eq_true rfl) ⟨rfl, rfl⟩
    refine ifEq_c hs (fun hR30 hz29 hs => ?_) (fun hR30 hz29 hs => ?_)
    · refine x_tableIn 7 hz29 (by unfold R; omega) dX12_size_27 (by decide) (by decide) rfl rfl ?_
      refine w_aload_n 0 dX12_size_120 rfl rfl ?_
      refine x_V_B M_X12_canSwap [] [] hs rfl dX12_size_121 (lkX12_299 _ rfl) (lt_of hnx (Nat.le_of_ble_eq_true rfl)) rfl rfl (Nat.le_of_ble_eq_true rfl) (Nat.le_of_ble_eq_true rfl) (Nat.le_of_ble_eq_true rfl) (Nat.le_of_ble_eq_true rfl) (c_Mo_canSwap hnx s4) (fun y27 s28 hy27 hs => ?_)
      refine x_ifeq hs dX12_size_124 rfl (fun hs => ?_) (fun hs => ?_)
      · refine x_iconst dX12_size_131 ?_
        cases hs
        exact x_ireturn dX12_size_132 rfl rfl (Nat.le_of_ble_eq_true rfl) (Nat.le_of_ble_eq_true rfl) ⟨rfl, rfl⟩
      · refine x_iconst dX12_size_127 ?_
        refine w_goto dX12_size_128 rfl ?_
        cases hs
        exact x_ireturn dX12_size_132 rfl rfl (Nat.le_of_ble_eq_true rfl) (Nat.le_of_ble_eq_true rfl) ⟨rfl, rfl⟩
    refine ifEq_c hs (fun hR33 hz32 hs => ?_) (fun hR33 hz32 hs => ?_)
    · refine x_tableIn 8 hz32 (by unfold R; omega) dX12_size_27 (by decide) (by decide) rfl rfl ?_
      refine w_aload_n 0 dX12_size_133 rfl rfl ?_
      refine x_getR 12 1 (b := 81) dX12_size_134 (fxX12_9 rfl) rfl rfl (lt_of hnx (Nat.le_of_ble_eq_true rfl)) rfl ?_
      refine x_iconst dX12_size_137 ?_
      refine grd_e hs (fun hg31 hs => ?_)
      refine x_iald ⟨by decide, by decide⟩ (Nat.le_of_ble_eq_true rfl) dX12_size_138 (Or.inl ⟨rfl, (lt_of hnx (Nat.le_of_ble_eq_true rfl))⟩) ?_
      cases hs
      exact x_ireturn dX12_size_139 rfl rfl (Nat.le_of_ble_eq_true rfl) (Nat.le_of_ble_eq_true rfl) ⟨rfl, rfl⟩
    refine x_tableOut hR33 dX12_size_27 (by omega) rfl ?_
    refine w_aload_n 0 dX12_size_140 rfl rfl ?_
    refine x_getI 12 6 dX12_size_141 (fxX12_80 rfl) rfl rfl (lt_of hnx (Nat.le_of_ble_eq_true rfl)) ?_
    cases hs
    exact x_ireturn dX12_size_144 rfl rfl (Nat.le_of_ble_eq_true rfl) (Nat.le_of_ble_eq_true rfl) ⟨rfl, rfl⟩
  · refine x_iconst dX12_size_24 ?_
    cases hs
    exact x_ireturn dX12_size_25 rfl rfl (Nat.le_of_ble_eq_true rfl) (Nat.le_of_ble_eq_true rfl) ⟨rfl, rfl⟩
set_option maxRecDepth 100000 in
theorem c_Mo_size {C : Cx} {nx : Nat} (hnx : 100 ≤ nx) (x1 : Int) (s : Sg) : ∀ o, Mo_size x1 s = some o → mm C M_X12_size 8 0 0 nx nx [.ref 80, vi x1] (hp nx s) (QI nx o.2 o.1) (XF) := by
  intro o hs
  unfold Mo_size at hs
  refine mm_of rfl rfl (Nat.le_of_ble_eq_true rfl) ?_
  show ww C M_X12_size 8 0 0 nx (QI nx o.2 o.1) (XF) nx 0 0 0 [(0, .ref 80), (1, vi x1)] [] (hp nx s)
  refine w_aload_n 0 dX12_size_0 rfl rfl ?_
  refine w_iload_n 1 dX12_size_1 rfl rfl ?_
  refine grd_e hs (fun hg1 hs => ?_)
  refine x_i2l dX12_size_2 hg1 ?_
  refine x_lconst (x := 0) dX12_size_3 (by decide) ?_
  refine x_ldc2 9 dX12_size_4 (csX12_294 rfl) ?_
  refine x_S_I M_X12_in [vl x1, vl 0, vl 9] [.ref 80] hs rfl dX12_size_7 (lkX12_108 _ rfl) (Nat.le_of_ble_eq_true rfl) (Nat.le_of_ble_eq_true rfl) (Nat.le_of_ble_eq_true rfl) (Nat.le_of_ble_eq_true rfl) (c_Mo_in hnx x1 0 9 s) (fun y2 hy2 hs => ?_)
  refine x_ifne hs dX12_size_10 rfl (fun hs => ?_) (fun hs => ?_)
  · refine x_iconst dX12_size_17 ?_
    exact q_Mo_size_b18 hnx x1 0 s hs
  · refine x_iconst dX12_size_13 ?_
    refine w_goto dX12_size_14 rfl ?_
    exact q_Mo_size_b18 hnx x1 1 s hs
set_option maxRecDepth 100000 in
theorem q_Mo_noCell_b14 {C : Cx} {nx : Nat} (hnx : 100 ≤ nx) (t1 : Int) (s : Sg) {o : Int × Sg} (hs : Mo_noCell_b14 t1 s = some o) : ww C M_X12_noCell 2 0 0 nx (QI nx o.2 o.1) (XF) nx 0 0 14 [] [vi t1, .ref 80] (hp nx s) := by
  unfold Mo_noCell_b14 at hs
  refine x_V_B M_X12_wrong [vi t1] [] hs rfl dX12_noCell_14 (lkX12_296 _ rfl) (lt_of hnx (Nat.le_of_ble_eq_true rfl)) rfl rfl (Nat.le_of_ble_eq_true rfl) (Nat.le_of_ble_eq_true rfl) (Nat.le_of_ble_eq_true rfl) (Nat.le_of_ble_eq_true rfl) (c_Mo_wrong hnx t1 s) (fun y2 s3 hy2 hs => ?_)
  refine grd_e hs (fun hg4 hs => ?_)
  cases hs
  exact x_zreturn hg4 dX12_noCell_17 rfl rfl (Nat.le_of_ble_eq_true rfl) (Nat.le_of_ble_eq_true rfl) ⟨rfl, rfl⟩
set_option maxRecDepth 100000 in
theorem c_Mo_noCell {C : Cx} {nx : Nat} (hnx : 100 ≤ nx) (x1 : Int) (s : Sg) : ∀ o, Mo_noCell x1 s = some o → mm C M_X12_noCell 2 0 0 nx nx [.ref 80, vi x1] (hp nx s) (QI nx o.2 o.1) (XF) := by
  intro o hs
  unfold Mo_noCell at hs
  refine mm_of rfl rfl (Nat.le_of_ble_eq_true rfl) ?_
  show ww C M_X12_noCell 2 0 0 nx (QI nx o.2 o.1) (XF) nx 0 0 0 [(0, .ref 80), (1, vi x1)] [] (hp nx s)
  refine w_aload_n 0 dX12_noCell_0 rfl rfl ?_
  refine w_aload_n 0 dX12_noCell_1 rfl rfl ?_
  refine w_iload_n 1 dX12_noCell_2 rfl rfl ?_
  refine x_V_I M_X12_isCell [vi x1] [.ref 80] hs rfl dX12_noCell_3 (lkX12_302 _ rfl) (lt_of hnx (Nat.le_of_ble_eq_true rfl)) rfl rfl (Nat.le_of_ble_eq_true rfl) (Nat.le_of_ble_eq_true rfl) (Nat.le_of_ble_eq_true rfl) (Nat.le_of_ble_eq_true rfl) (c_Mo_isCell hnx x1 s) (fun y1 hy1 hs => ?_)
  refine x_ifne hs dX12_noCell_6 rfl (fun hs => ?_) (fun hs => ?_)
  · refine x_iconst dX12_noCell_13 ?_
    refine w_lv (lv' := []) [] rfl ?_
    exact q_Mo_noCell_b14 hnx 0 s hs
  · refine x_iconst dX12_noCell_9 ?_
    refine w_goto dX12_noCell_10 rfl ?_
    refine w_lv (lv' := []) [] rfl ?_
    exact q_Mo_noCell_b14 hnx 1 s hs
set_option maxRecDepth 100000 in
theorem q_Mo_noSide_b13 {C : Cx} {nx : Nat} (hnx : 100 ≤ nx) (t1 : Int) (s : Sg) {o : Int × Sg} (hs : Mo_noSide_b13 t1 s = some o) : ww C M_X12_noSide 1 0 0 nx (QI nx o.2 o.1) (XF) nx 0 0 13 [] [vi t1, .ref 80] (hp nx s) := by
  unfold Mo_noSide_b13 at hs
  refine x_V_B M_X12_wrong [vi t1] [] hs rfl dX12_noSide_13 (lkX12_296 _ rfl) (lt_of hnx (Nat.le_of_ble_eq_true rfl)) rfl rfl (Nat.le_of_ble_eq_true rfl) (Nat.le_of_ble_eq_true rfl) (Nat.le_of_ble_eq_true rfl) (Nat.le_of_ble_eq_true rfl) (c_Mo_wrong hnx t1 s) (fun y2 s3 hy2 hs => ?_)
  refine grd_e hs (fun hg4 hs => ?_)
  cases hs
  exact x_zreturn hg4 dX12_noSide_16 rfl rfl (Nat.le_of_ble_eq_true rfl) (Nat.le_of_ble_eq_true rfl) ⟨rfl, rfl⟩
set_option maxRecDepth 100000 in
theorem c_Mo_noSide {C : Cx} {nx : Nat} (hnx : 100 ≤ nx) (x1 : Int) (s : Sg) : ∀ o, Mo_noSide x1 s = some o → mm C M_X12_noSide 1 0 0 nx nx [.ref 80, vi x1] (hp nx s) (QI nx o.2 o.1) (XF) := by
  intro o hs
  unfold Mo_noSide at hs
  refine mm_of rfl rfl (Nat.le_of_ble_eq_true rfl) ?_
  show ww C M_X12_noSide 1 0 0 nx (QI nx o.2 o.1) (XF) nx 0 0 0 [(0, .ref 80), (1, vi x1)] [] (hp nx s)
  refine w_aload_n 0 dX12_noSide_0 rfl rfl ?_
  refine w_iload_n 1 dX12_noSide_1 rfl rfl ?_
  refine x_S_I M_X12_isSide [vi x1] [.ref 80] hs rfl dX12_noSide_2 (lkX12_305 _ rfl) (Nat.le_of_ble_eq_true rfl) (Nat.le_of_ble_eq_true rfl) (Nat.le_of_ble_eq_true rfl) (Nat.le_of_ble_eq_true rfl) (c_Mo_isSide hnx x1 s) (fun y1 hy1 hs => ?_)
  refine x_ifne hs dX12_noSide_5 rfl (fun hs => ?_) (fun hs => ?_)
  · refine x_iconst dX12_noSide_12 ?_
    refine w_lv (lv' := []) [] rfl ?_
    exact q_Mo_noSide_b13 hnx 0 s hs
  · refine x_iconst dX12_noSide_8 ?_
    refine w_goto dX12_noSide_9 rfl ?_
    refine w_lv (lv' := []) [] rfl ?_
    exact q_Mo_noSide_b13 hnx 1 s hs
set_option maxRecDepth 100000 in
theorem c_Mo_cell {C : Cx} {nx : Nat} (hnx : 100 ≤ nx) (x1 : Int) (s : Sg) : ∀ o, Mo_cell x1 s = some o → mm C M_X12_cell 3 0 0 nx nx [.ref 80, vi x1] (hp nx s) (QI nx o.2 o.1) (XF) := by
  intro o hs
  unfold Mo_cell at hs
  refine mm_of rfl rfl (Nat.le_of_ble_eq_true rfl) ?_
  show ww C M_X12_cell 3 0 0 nx (QI nx o.2 o.1) (XF) nx 0 0 0 [(0, .ref 80), (1, vi x1)] [] (hp nx s)
  refine w_aload_n 0 dX12_cell_0 rfl rfl ?_
  refine w_iload_n 1 dX12_cell_1 rfl rfl ?_
  refine x_V_B M_X12_noCell [vi x1] [] hs rfl dX12_cell_2 (lkX12_308 _ rfl) (lt_of hnx (Nat.le_of_ble_eq_true rfl)) rfl rfl (Nat.le_of_ble_eq_true rfl) (Nat.le_of_ble_eq_true rfl) (Nat.le_of_ble_eq_true rfl) (Nat.le_of_ble_eq_true rfl) (c_Mo_noCell hnx x1 s) (fun y1 s2 hy1 hs => ?_)
  refine x_ifeq hs dX12_cell_5 rfl (fun hs => ?_) (fun hs => ?_)
  · refine w_aload_n 0 dX12_cell_12 rfl rfl ?_
    refine w_iload_n 1 dX12_cell_13 rfl rfl ?_
    refine x_V_I M_X12_stone [vi x1] [] hs rfl dX12_cell_14 (lkX12_215 _ rfl) (lt_of hnx (Nat.le_of_ble_eq_true rfl)) rfl rfl (Nat.le_of_ble_eq_true rfl) (Nat.le_of_ble_eq_true rfl) (Nat.le_of_ble_eq_true rfl) (Nat.le_of_ble_eq_true rfl) (c_Mo_stone hnx x1 s2) (fun y3 hy3 hs => ?_)
    cases hs
    exact x_ireturn dX12_cell_17 rfl rfl (Nat.le_of_ble_eq_true rfl) (Nat.le_of_ble_eq_true rfl) ⟨rfl, rfl⟩
  · refine x_iconst dX12_cell_8 ?_
    refine w_goto dX12_cell_9 rfl ?_
    cases hs
    exact x_ireturn dX12_cell_17 rfl rfl (Nat.le_of_ble_eq_true rfl) (Nat.le_of_ble_eq_true rfl) ⟨rfl, rfl⟩
set_option maxRecDepth 100000 in
theorem q_Mo_neighbour_b51 {C : Cx} {nx : Nat} (hnx : 100 ≤ nx) {Qr : Option Value → Hp → Prop} {Qx : String → Hp → Prop}  (x1 : Int) (x3 : Int) (x4 : Int) (s : Sg) {o : ((Int × Int) ⊕ ((Int) ⊕ (Unit)))} (hs : Mo_neighbour_b51 x1 x3 x4 s = some o) (hb : ∀ σ : Int × Int, o = .inl σ → ww C M_X12_neighbour 3 0 0 nx (Qr) (Qx) nx 0 0 15 [(0, .ref 80), (1, vi x1), (3, vi σ.1), (4, vi σ.2)] [] (hp nx s)) (he0 : ∀ ρ : Int, o = .inr (.inl ρ) → ww C M_X12_neighbour 3 0 0 nx (Qr) (Qx) nx 0 0 40 [(0, .ref 80), (1, vi x1), (4, vi ρ)] [] (hp nx s)) (he1 : ∀ ρ : Unit, o = .inr (.inr ρ) → ww C M_X12_neighbour 3 0 0 nx (Qr) (Qx) nx 0 0 57 [] [] (hp nx s)) : ww C M_X12_neighbour 3 0 0 nx (Qr) (Qx) nx 0 0 51 [(0, .ref 80), (1, vi x1), (3, vi x3), (4, vi x4)] [] (hp nx s) := by
  unfold Mo_neighbour_b51 at hs
  refine x_iinc (lv' := [(4, vi (x4 + 1)), (0, .ref 80), (1, vi x1), (3, vi x3)]) 3 dX12_neighbour_51 rfl (Nat.le_of_ble_eq_true rfl) rfl ?_
  refine w_goto dX12_neighbour_54 rfl ?_
  refine w_lv (lv' := [(0, .ref 80), (1, vi x1), (3, vi x3), (4, vi (x4 + 1))]) [1, 2, 3, 0] rfl ?_
  cases hs
  exact hb _ rfl
set_option maxRecDepth 100000 in
theorem q_Mo_neighbour_t15 {C : Cx} {nx : Nat} (hnx : 100 ≤ nx) {Qr : Option Value → Hp → Prop} {Qx : String → Hp → Prop}  (x1 : Int) (x3 : Int) (x4 : Int) (s : Sg) {o : ((Int × Int) ⊕ ((Int) ⊕ (Unit)))} (hs : Mo_neighbour_t15 x1 x3 x4 s = some o) (hb : ∀ σ : Int × Int, o = .inl σ → ww C M_X12_neighbour 3 0 0 nx (Qr) (Qx) nx 0 0 15 [(0, .ref 80), (1, vi x1), (3, vi σ.1), (4, vi σ.2)] [] (hp nx s)) (he0 : ∀ ρ : Int, o = .inr (.inl ρ) → ww C M_X12_neighbour 3 0 0 nx (Qr) (Qx) nx 0 0 40 [(0, .ref 80), (1, vi x1), (4, vi ρ)] [] (hp nx s)) (he1 : ∀ ρ : Unit, o = .inr (.inr ρ) → ww C M_X12_neighbour 3 0 0 nx (Qr) (Qx) nx 0 0 57 [] [] (hp nx s)) : ww C M_X12_neighbour 3 0 0 nx (Qr) (Qx) nx 0 0 15 [(0, .ref 80), (1, vi x1), (3, vi x3), (4, vi x4)] [] (hp nx s) := by
  unfold Mo_neighbour_t15 at hs
  refine w_iload 3 dX12_neighbour_15 rfl ?_
  refine x_bipush dX12_neighbour_17 (by decide) ?_
  refine x_icmpge hs dX12_neighbour_19 rfl (fun hs => ?_) (fun hs => ?_)
  · refine w_lv (lv' := []) [] rfl ?_
    cases hs
    exact he1 _ rfl
  · refine w_aload_n 0 dX12_neighbour_22 rfl rfl ?_
    refine w_iload_n 1 dX12_neighbour_23 rfl rfl ?_
    refine w_iload 3 dX12_neighbour_24 rfl ?_
    refine x_V_I M_X12_round [vi x1, vi x4] [] hs rfl dX12_neighbour_26 (lkX12_218 _ rfl) (lt_of hnx (Nat.le_of_ble_eq_true rfl)) rfl rfl (Nat.le_of_ble_eq_true rfl) (Nat.le_of_ble_eq_true rfl) (Nat.le_of_ble_eq_true rfl) (Nat.le_of_ble_eq_true rfl) (c_Mo_round hnx x1 x4 s) (fun y3 hy3 hs => ?_)
    refine x_iconst dX12_neighbour_29 ?_
    refine x_icmpne hs dX12_neighbour_30 rfl (fun hs => ?_) (fun hs => ?_)
    · refine w_iload_n 2 dX12_neighbour_36 rfl rfl ?_
      refine x_ifne hs dX12_neighbour_37 rfl (fun hs => ?_) (fun hs => ?_)
      · refine x_iinc (lv' := [(3, vi (x3 + (-1))), (0, .ref 80), (1, vi x1), (4, vi x4)]) 2 dX12_neighbour_48 rfl (Nat.le_of_ble_eq_true rfl) rfl ?_
        refine w_lv (lv' := [(0, .ref 80), (1, vi x1), (3, vi (x3 + (-1))), (4, vi x4)]) [1, 2, 0, 3] rfl ?_
        rw [← vi_dec x3]
        exact q_Mo_neighbour_b51 hnx x1 (dec32 x3) x4 s hs hb he0 he1
      · refine w_lv (lv' := [(0, .ref 80), (1, vi x1), (4, vi x4)]) [0, 1, 3] rfl ?_
        cases hs
        exact he0 _ rfl
    · refine w_goto dX12_neighbour_33 rfl ?_
      exact q_Mo_neighbour_b51 hnx x1 x3 x4 s hs hb he0 he1
set_option maxRecDepth 100000 in
theorem q_Mo_neighbour_l15 {C : Cx} {nx : Nat} (hnx : 100 ≤ nx) (x1 : Int) (x3 : Int) (x4 : Int) (s : Sg) {o : Int × Sg} (hs : Mo_neighbour_l15 x1 x3 x4 s = some o) : ww C M_X12_neighbour 3 0 0 nx (QI nx o.2 o.1) (XF) nx 0 0 15 [(0, .ref 80), (1, vi x1), (3, vi x3), (4, vi x4)] [] (hp nx s) := by
  unfold Mo_neighbour_l15 at hs
  refine bnd_e hs (fun ρ hw hs => ?_)
  rcases ρ with x4_4 | ⟨⟩
  · have hE : ww C M_X12_neighbour 3 0 0 nx (QI nx o.2 o.1) (XF) nx 0 0 40 [(0, .ref 80), (1, vi x1), (4, vi x4_4)] [] (hp nx s) := by
      refine w_aload_n 0 dX12_neighbour_40 rfl rfl ?_
      refine w_iload_n 1 dX12_neighbour_41 rfl rfl ?_
      refine w_iload 2 dX12_neighbour_42 rfl ?_
      refine x_V_I M_X12_round [vi x1, vi x4_4] [] hs rfl dX12_neighbour_44 (lkX12_218 _ rfl) (lt_of hnx (Nat.le_of_ble_eq_true rfl)) rfl rfl (Nat.le_of_ble_eq_true rfl) (Nat.le_of_ble_eq_true rfl) (Nat.le_of_ble_eq_true rfl) (Nat.le_of_ble_eq_true rfl) (c_Mo_round hnx x1 x4_4 s) (fun y5 hy5 hs => ?_)
      cases hs
      exact x_ireturn dX12_neighbour_47 rfl rfl (Nat.le_of_ble_eq_true rfl) (Nat.le_of_ble_eq_true rfl) ⟨rfl, rfl⟩
    refine whl_w (P := fun σ => ww C M_X12_neighbour 3 0 0 nx (QI nx o.2 o.1) (XF) nx 0 0 15 [(0, .ref 80), (1, vi x1), (3, vi σ.1), (4, vi σ.2)] [] (hp nx s)) (E := fun ρ => ρ = (.inl x4_4)) hw rfl ?_
    intro σ o' hs' hb' he'
    exact q_Mo_neighbour_t15 hnx x1 σ.1 σ.2 s hs' hb' (fun ρ e => by cases he' _ e; exact hE) (fun ρ e => by cases he' _ e)
  · have hE : ww C M_X12_neighbour 3 0 0 nx (QI nx o.2 o.1) (XF) nx 0 0 57 [] [] (hp nx s) := by
      refine x_iconst dX12_neighbour_57 ?_
      cases hs
      exact x_ireturn dX12_neighbour_58 rfl rfl (Nat.le_of_ble_eq_true rfl) (Nat.le_of_ble_eq_true rfl) ⟨rfl, rfl⟩
    refine whl_w (P := fun σ => ww C M_X12_neighbour 3 0 0 nx (QI nx o.2 o.1) (XF) nx 0 0 15 [(0, .ref 80), (1, vi x1), (3, vi σ.1), (4, vi σ.2)] [] (hp nx s)) (E := fun ρ => ρ = (.inr ())) hw rfl ?_
    intro σ o' hs' hb' he'
    exact q_Mo_neighbour_t15 hnx x1 σ.1 σ.2 s hs' hb' (fun ρ e => by cases he' _ e) (fun ρ e => by cases he' _ e; exact hE)
set_option maxRecDepth 100000 in
theorem c_Mo_neighbour {C : Cx} {nx : Nat} (hnx : 100 ≤ nx) (x1 : Int) (x2 : Int) (s : Sg) : ∀ o, Mo_neighbour x1 x2 s = some o → mm C M_X12_neighbour 3 0 0 nx nx [.ref 80, vi x1, vi x2] (hp nx s) (QI nx o.2 o.1) (XF) := by
  intro o hs
  unfold Mo_neighbour at hs
  refine mm_of rfl rfl (Nat.le_of_ble_eq_true rfl) ?_
  show ww C M_X12_neighbour 3 0 0 nx (QI nx o.2 o.1) (XF) nx 0 0 0 [(0, .ref 80), (1, vi x1), (2, vi x2)] [] (hp nx s)
  refine w_aload_n 0 dX12_neighbour_0 rfl rfl ?_
  refine w_iload_n 1 dX12_neighbour_1 rfl rfl ?_
  refine x_V_B M_X12_noCell [vi x1] [] hs rfl dX12_neighbour_2 (lkX12_308 _ rfl) (lt_of hnx (Nat.le_of_ble_eq_true rfl)) rfl rfl (Nat.le_of_ble_eq_true rfl) (Nat.le_of_ble_eq_true rfl) (Nat.le_of_ble_eq_true rfl) (Nat.le_of_ble_eq_true rfl) (c_Mo_noCell hnx x1 s) (fun y1 s2 hy1 hs => ?_)
  refine x_ifeq hs dX12_neighbour_5 rfl (fun hs => ?_) (fun hs => ?_)
  · refine w_iload_n 2 dX12_neighbour_10 rfl rfl ?_
    refine w_istore_n (lv' := [(3, vi x2), (0, .ref 80), (1, vi x1), (2, vi x2)]) dX12_neighbour_11 rfl (Nat.le_of_ble_eq_true rfl) rfl ?_
    refine x_iconst dX12_neighbour_12 ?_
    refine w_istore (lv' := [(4, vi 0), (3, vi x2), (0, .ref 80), (1, vi x1), (2, vi x2)]) dX12_neighbour_13 (Nat.le_of_ble_eq_true rfl) rfl ?_
    refine w_lv (lv' := [(0, .ref 80), (1, vi x1), (3, vi x2), (4, vi 0)]) [2, 3, 1, 0] rfl ?_
    exact q_Mo_neighbour_l15 hnx x1 x2 0 s2 hs
  · refine x_iconst dX12_neighbour_8 ?_
    cases hs
    exact x_ireturn dX12_neighbour_9 rfl rfl (Nat.le_of_ble_eq_true rfl) (Nat.le_of_ble_eq_true rfl) ⟨rfl, rfl⟩
set_option maxRecDepth 100000 in
theorem q_Mo_freeBeside_b89 {C : Cx} {nx : Nat} (hnx : 100 ≤ nx) {Qr : Option Value → Hp → Prop} {Qx : String → Hp → Prop}  (x1 : Int) (x2 : Int) (x3 : Int) (x5 : Int) (t0 : Int) (s : Sg) {o : ((Int × Int) ⊕ (Int))} (hs : Mo_freeBeside_b89 x1 x2 x3 x5 t0 s = some o) (hb : ∀ σ : Int × Int, o = .inl σ → ww C M_X12_freeBeside 2 0 0 nx (Qr) (Qx) nx 0 0 30 [(0, .ref 80), (1, vi x1), (2, vi x2), (3, vi x3), (4, vi σ.1), (5, vi σ.2)] [] (hp nx s)) (he0 : ∀ ρ : Int, o = .inr ρ → ww C M_X12_freeBeside 2 0 0 nx (Qr) (Qx) nx 0 0 97 [(0, .ref 80), (1, vi x1), (2, vi x2), (3, vi x3), (4, vi ρ)] [] (hp nx s)) : ww C M_X12_freeBeside 2 0 0 nx (Qr) (Qx) nx 0 0 89 [(0, .ref 80), (1, vi x1), (2, vi x2), (3, vi x3), (5, vi x5)] [vi t0] (hp nx s) := by
  unfold Mo_freeBeside_b89 at hs
  refine w_istore (lv' := [(4, vi t0), (0, .ref 80), (1, vi x1), (2, vi x2), (3, vi x3), (5, vi x5)]) dX12_freeBeside_89 (Nat.le_of_ble_eq_true rfl) rfl ?_
  refine x_iinc (lv' := [(5, vi (x5 + 1)), (4, vi t0), (0, .ref 80), (1, vi x1), (2, vi x2), (3, vi x3)]) 5 dX12_freeBeside_91 rfl (Nat.le_of_ble_eq_true rfl) rfl ?_
  refine w_goto dX12_freeBeside_94 rfl ?_
  refine w_lv (lv' := [(0, .ref 80), (1, vi x1), (2, vi x2), (3, vi x3), (4, vi t0), (5, vi (x5 + 1))]) [2, 3, 4, 5, 1, 0] rfl ?_
  cases hs
  exact hb _ rfl
set_option maxRecDepth 100000 in
theorem q_Mo_freeBeside_b84 {C : Cx} {nx : Nat} (hnx : 100 ≤ nx) {Qr : Option Value → Hp → Prop} {Qx : String → Hp → Prop}  (x1 : Int) (x2 : Int) (x3 : Int) (x5 : Int) (s : Sg) {o : ((Int × Int) ⊕ (Int))} (hs : Mo_freeBeside_b84 x1 x2 x3 x5 s = some o) (hb : ∀ σ : Int × Int, o = .inl σ → ww C M_X12_freeBeside 2 0 0 nx (Qr) (Qx) nx 0 0 30 [(0, .ref 80), (1, vi x1), (2, vi x2), (3, vi x3), (4, vi σ.1), (5, vi σ.2)] [] (hp nx s)) (he0 : ∀ ρ : Int, o = .inr ρ → ww C M_X12_freeBeside 2 0 0 nx (Qr) (Qx) nx 0 0 97 [(0, .ref 80), (1, vi x1), (2, vi x2), (3, vi x3), (4, vi ρ)] [] (hp nx s)) : ww C M_X12_freeBeside 2 0 0 nx (Qr) (Qx) nx 0 0 84 [(0, .ref 80), (1, vi x1), (2, vi x2), (3, vi x3), (5, vi x5)] [] (hp nx s) := by
  unfold Mo_freeBeside_b84 at hs
  refine x_iconst dX12_freeBeside_84 ?_
  refine w_goto dX12_freeBeside_85 rfl ?_
  exact q_Mo_freeBeside_b89 hnx x1 x2 x3 x5 1 s hs hb he0
set_option maxRecDepth 100000 in
theorem q_Mo_freeBeside_b88 {C : Cx} {nx : Nat} (hnx : 100 ≤ nx) {Qr : Option Value → Hp → Prop} {Qx : String → Hp → Prop}  (x1 : Int) (x2 : Int) (x3 : Int) (x5 : Int) (s : Sg) {o : ((Int × Int) ⊕ (Int))} (hs : Mo_freeBeside_b88 x1 x2 x3 x5 s = some o) (hb : ∀ σ : Int × Int, o = .inl σ → ww C M_X12_freeBeside 2 0 0 nx (Qr) (Qx) nx 0 0 30 [(0, .ref 80), (1, vi x1), (2, vi x2), (3, vi x3), (4, vi σ.1), (5, vi σ.2)] [] (hp nx s)) (he0 : ∀ ρ : Int, o = .inr ρ → ww C M_X12_freeBeside 2 0 0 nx (Qr) (Qx) nx 0 0 97 [(0, .ref 80), (1, vi x1), (2, vi x2), (3, vi x3), (4, vi ρ)] [] (hp nx s)) : ww C M_X12_freeBeside 2 0 0 nx (Qr) (Qx) nx 0 0 88 [(0, .ref 80), (1, vi x1), (2, vi x2), (3, vi x3), (5, vi x5)] [] (hp nx s) := by
  unfold Mo_freeBeside_b88 at hs
  refine x_iconst dX12_freeBeside_88 ?_
  exact q_Mo_freeBeside_b89 hnx x1 x2 x3 x5 0 s hs hb he0
set_option maxRecDepth 100000 in
theorem q_Mo_freeBeside_t30 {C : Cx} {nx : Nat} (hnx : 100 ≤ nx) {Qr : Option Value → Hp → Prop} {Qx : String → Hp → Prop}  (x1 : Int) (x2 : Int) (x3 : Int) (x4 : Int) (x5 : Int) (s : Sg) {o : ((Int × Int) ⊕ (Int))} (hs : Mo_freeBeside_t30 x1 x2 x3 x4 x5 s = some o) (hb : ∀ σ : Int × Int, o = .inl σ → ww C M_X12_freeBeside 2 0 0 nx (Qr) (Qx) nx 0 0 30 [(0, .ref 80), (1, vi x1), (2, vi x2), (3, vi x3), (4, vi σ.1), (5, vi σ.2)] [] (hp nx s)) (he0 : ∀ ρ : Int, o = .inr ρ → ww C M_X12_freeBeside 2 0 0 nx (Qr) (Qx) nx 0 0 97 [(0, .ref 80), (1, vi x1), (2, vi x2), (3, vi x3), (4, vi ρ)] [] (hp nx s)) : ww C M_X12_freeBeside 2 0 0 nx (Qr) (Qx) nx 0 0 30 [(0, .ref 80), (1, vi x1), (2, vi x2), (3, vi x3), (4, vi x4), (5, vi x5)] [] (hp nx s) := by
  unfold Mo_freeBeside_t30 at hs
  refine w_iload 5 dX12_freeBeside_30 rfl ?_
  refine x_bipush dX12_freeBeside_32 (by decide) ?_
  refine x_icmpge hs dX12_freeBeside_34 rfl (fun hs => ?_) (fun hs => ?_)
  · refine w_lv (lv' := [(0, .ref 80), (1, vi x1), (2, vi x2), (3, vi x3), (4, vi x4)]) [0, 1, 2, 3, 4] rfl ?_
    cases hs
    exact he0 _ rfl
  · refine w_iload 4 dX12_freeBeside_37 rfl ?_
    refine x_ifne hs dX12_freeBeside_39 rfl (fun hs => ?_) (fun hs => ?_)
    · refine w_lv (lv' := [(0, .ref 80), (1, vi x1), (2, vi x2), (3, vi x3), (5, vi x5)]) [0, 1, 2, 3, 5] rfl ?_
      exact q_Mo_freeBeside_b84 hnx x1 x2 x3 x5 s hs hb he0
    · refine w_aload_n 0 dX12_freeBeside_42 rfl rfl ?_
      refine w_iload_n 3 dX12_freeBeside_43 rfl rfl ?_
      refine w_iload 5 dX12_freeBeside_44 rfl ?_
      refine x_V_I M_X12_round [vi x3, vi x5] [] hs rfl dX12_freeBeside_46 (lkX12_218 _ rfl) (lt_of hnx (Nat.le_of_ble_eq_true rfl)) rfl rfl (Nat.le_of_ble_eq_true rfl) (Nat.le_of_ble_eq_true rfl) (Nat.le_of_ble_eq_true rfl) (Nat.le_of_ble_eq_true rfl) (c_Mo_round hnx x3 x5 s) (fun y3 hy3 hs => ?_)
      refine x_iconst dX12_freeBeside_49 ?_
      refine x_icmpeq hs dX12_freeBeside_50 rfl (fun hs => ?_) (fun hs => ?_)
      · refine w_lv (lv' := [(0, .ref 80), (1, vi x1), (2, vi x2), (3, vi x3), (5, vi x5)]) [0, 1, 2, 3, 5] rfl ?_
        exact q_Mo_freeBeside_b88 hnx x1 x2 x3 x5 s hs hb he0
      · refine w_aload_n 0 dX12_freeBeside_53 rfl rfl ?_
        refine w_aload_n 0 dX12_freeBeside_54 rfl rfl ?_
        refine w_iload_n 3 dX12_freeBeside_55 rfl rfl ?_
        refine w_iload 5 dX12_freeBeside_56 rfl ?_
        refine x_V_I M_X12_round [vi x3, vi x5] [.ref 80] hs rfl dX12_freeBeside_58 (lkX12_218 _ rfl) (lt_of hnx (Nat.le_of_ble_eq_true rfl)) rfl rfl (Nat.le_of_ble_eq_true rfl) (Nat.le_of_ble_eq_true rfl) (Nat.le_of_ble_eq_true rfl) (Nat.le_of_ble_eq_true rfl) (c_Mo_round hnx x3 x5 s) (fun y4 hy4 hs => ?_)
        refine x_V_I M_X12_stone [vi y4] [] hs rfl dX12_freeBeside_61 (lkX12_215 _ rfl) (lt_of hnx (Nat.le_of_ble_eq_true rfl)) rfl rfl (Nat.le_of_ble_eq_true rfl) (Nat.le_of_ble_eq_true rfl) (Nat.le_of_ble_eq_true rfl) (Nat.le_of_ble_eq_true rfl) (c_Mo_stone hnx y4 s) (fun y5 hy5 hs => ?_)
        refine x_iconst dX12_freeBeside_64 ?_
        refine x_icmpeq hs dX12_freeBeside_65 rfl (fun hs => ?_) (fun hs => ?_)
        · refine w_lv (lv' := [(0, .ref 80), (1, vi x1), (2, vi x2), (3, vi x3), (5, vi x5)]) [0, 1, 2, 3, 5] rfl ?_
          exact q_Mo_freeBeside_b88 hnx x1 x2 x3 x5 s hs hb he0
        · refine w_aload_n 0 dX12_freeBeside_68 rfl rfl ?_
          refine x_getR 12 17 (b := 87) dX12_freeBeside_69 (fxX12_34 rfl) rfl rfl (lt_of hnx (Nat.le_of_ble_eq_true rfl)) rfl ?_
          refine w_aload_n 0 dX12_freeBeside_72 rfl rfl ?_
          refine w_iload_n 3 dX12_freeBeside_73 rfl rfl ?_
          refine w_iload 5 dX12_freeBeside_74 rfl ?_
          refine x_V_I M_X12_round [vi x3, vi x5] [.ref 87] hs rfl dX12_freeBeside_76 (lkX12_218 _ rfl) (lt_of hnx (Nat.le_of_ble_eq_true rfl)) rfl rfl (Nat.le_of_ble_eq_true rfl) (Nat.le_of_ble_eq_true rfl) (Nat.le_of_ble_eq_true rfl) (Nat.le_of_ble_eq_true rfl) (c_Mo_round hnx x3 x5 s) (fun y6 hy6 hs => ?_)
          refine grd_e hs (fun hg7 hs => ?_)
          refine x_iald hg7 (Nat.le_of_ble_eq_true rfl) dX12_freeBeside_79 (Or.inl ⟨rfl, (lt_of hnx (Nat.le_of_ble_eq_true rfl))⟩) ?_
          refine w_iload_n 1 dX12_freeBeside_80 rfl rfl ?_
          refine x_icmpne hs dX12_freeBeside_81 rfl (fun hs => ?_) (fun hs => ?_)
          · refine w_lv (lv' := [(0, .ref 80), (1, vi x1), (2, vi x2), (3, vi x3), (5, vi x5)]) [0, 1, 2, 3, 5] rfl ?_
            exact q_Mo_freeBeside_b88 hnx x1 x2 x3 x5 s hs hb he0
          · refine w_lv (lv' := [(0, .ref 80), (1, vi x1), (2, vi x2), (3, vi x3), (5, vi x5)]) [0, 1, 2, 3, 5] rfl ?_
            exact q_Mo_freeBeside_b84 hnx x1 x2 x3 x5 s hs hb he0
set_option maxRecDepth 100000 in
theorem q_Mo_freeBeside_b110 {C : Cx} {nx : Nat} (hnx : 100 ≤ nx) {Qr : Option Value → Hp → Prop} {Qx : String → Hp → Prop}  (x1 : Int) (x2 : Int) (x3 : Int) (s : Sg) {o : ((Int × Int) ⊕ (Int))} (hs : Mo_freeBeside_b110 x1 x2 x3 s = some o) (hb : ∀ σ : Int × Int, o = .inl σ → ww C M_X12_freeBeside 2 0 0 nx (Qr) (Qx) nx 0 0 4 [(0, .ref 80), (1, vi x1), (2, vi σ.1), (3, vi σ.2)] [] (hp nx s)) (he0 : ∀ ρ : Int, o = .inr ρ → ww C M_X12_freeBeside 2 0 0 nx (Qr) (Qx) nx 0 0 116 [(2, vi ρ)] [] (hp nx s)) : ww C M_X12_freeBeside 2 0 0 nx (Qr) (Qx) nx 0 0 110 [(0, .ref 80), (1, vi x1), (2, vi x2), (3, vi x3)] [] (hp nx s) := by
  unfold Mo_freeBeside_b110 at hs
  refine x_iinc (lv' := [(3, vi (x3 + 1)), (0, .ref 80), (1, vi x1), (2, vi x2)]) 3 dX12_freeBeside_110 rfl (Nat.le_of_ble_eq_true rfl) rfl ?_
  refine w_goto dX12_freeBeside_113 rfl ?_
  refine w_lv (lv' := [(0, .ref 80), (1, vi x1), (2, vi x2), (3, vi (x3 + 1))]) [1, 2, 3, 0] rfl ?_
  cases hs
  exact hb _ rfl
set_option maxRecDepth 100000 in
theorem q_Mo_freeBeside_b108 {C : Cx} {nx : Nat} (hnx : 100 ≤ nx) {Qr : Option Value → Hp → Prop} {Qx : String → Hp → Prop}  (x1 : Int) (x3 : Int) (t0 : Int) (t1 : Int) (s : Sg) {o : ((Int × Int) ⊕ (Int))} (hs : Mo_freeBeside_b108 x1 x3 t0 t1 s = some o) (hb : ∀ σ : Int × Int, o = .inl σ → ww C M_X12_freeBeside 2 0 0 nx (Qr) (Qx) nx 0 0 4 [(0, .ref 80), (1, vi x1), (2, vi σ.1), (3, vi σ.2)] [] (hp nx s)) (he0 : ∀ ρ : Int, o = .inr ρ → ww C M_X12_freeBeside 2 0 0 nx (Qr) (Qx) nx 0 0 116 [(2, vi ρ)] [] (hp nx s)) : ww C M_X12_freeBeside 2 0 0 nx (Qr) (Qx) nx 0 0 108 [(0, .ref 80), (1, vi x1), (3, vi x3)] [vi t1, vi t0] (hp nx s) := by
  unfold Mo_freeBeside_b108 at hs
  refine x_iadd dX12_freeBeside_108 ?_
  refine x_istore_n (fun x2_9 => [(2, vi x2_9), (0, .ref 80), (1, vi x1), (3, vi x3)]) hs dX12_freeBeside_109 rfl (Nat.le_of_ble_eq_true rfl) (fun _ => rfl) (fun x2_9 hs => ?_)
  refine w_lv (lv' := [(0, .ref 80), (1, vi x1), (2, vi x2_9), (3, vi x3)]) [1, 2, 0, 3] rfl ?_
  exact q_Mo_freeBeside_b110 hnx x1 x2_9 x3 s hs hb he0
set_option maxRecDepth 100000 in
theorem q_Mo_freeBeside_l30 {C : Cx} {nx : Nat} (hnx : 100 ≤ nx) {Qr : Option Value → Hp → Prop} {Qx : String → Hp → Prop}  (x1 : Int) (x2 : Int) (x3 : Int) (x4 : Int) (x5 : Int) (s : Sg) {o : ((Int × Int) ⊕ (Int))} (hs : Mo_freeBeside_l30 x1 x2 x3 x4 x5 s = some o) (hb : ∀ σ : Int × Int, o = .inl σ → ww C M_X12_freeBeside 2 0 0 nx (Qr) (Qx) nx 0 0 4 [(0, .ref 80), (1, vi x1), (2, vi σ.1), (3, vi σ.2)] [] (hp nx s)) (he0 : ∀ ρ : Int, o = .inr ρ → ww C M_X12_freeBeside 2 0 0 nx (Qr) (Qx) nx 0 0 116 [(2, vi ρ)] [] (hp nx s)) : ww C M_X12_freeBeside 2 0 0 nx (Qr) (Qx) nx 0 0 30 [(0, .ref 80), (1, vi x1), (2, vi x2), (3, vi x3), (4, vi x4), (5, vi x5)] [] (hp nx s) := by
  unfold Mo_freeBeside_l30 at hs
  refine bnd_e hs (fun x4_8 hw hs => ?_)
  have hE : ww C M_X12_freeBeside 2 0 0 nx (Qr) (Qx) nx 0 0 97 [(0, .ref 80), (1, vi x1), (2, vi x2), (3, vi x3), (4, vi x4_8)] [] (hp nx s) := by
    refine w_iload_n 2 dX12_freeBeside_97 rfl rfl ?_
    refine w_iload 4 dX12_freeBeside_98 rfl ?_
    refine x_ifeq hs dX12_freeBeside_100 rfl (fun hs => ?_) (fun hs => ?_)
    · refine x_iconst dX12_freeBeside_107 ?_
      refine w_lv (lv' := [(0, .ref 80), (1, vi x1), (3, vi x3)]) [0, 1, 3] rfl ?_
      exact q_Mo_freeBeside_b108 hnx x1 x3 x2 0 s hs hb he0
    · refine x_iconst dX12_freeBeside_103 ?_
      refine w_goto dX12_freeBeside_104 rfl ?_
      refine w_lv (lv' := [(0, .ref 80), (1, vi x1), (3, vi x3)]) [0, 1, 3] rfl ?_
      exact q_Mo_freeBeside_b108 hnx x1 x3 x2 1 s hs hb he0
  refine whl_w (P := fun σ => ww C M_X12_freeBeside 2 0 0 nx (Qr) (Qx) nx 0 0 30 [(0, .ref 80), (1, vi x1), (2, vi x2), (3, vi x3), (4, vi σ.1), (5, vi σ.2)] [] (hp nx s)) (E := fun ρ => ρ = x4_8) hw rfl ?_
  intro σ o' hs' hb' he'
  exact q_Mo_freeBeside_t30 hnx x1 x2 x3 σ.1 σ.2 s hs' hb' (fun ρ e => by cases he' _ e; exact hE)
set_option maxRecDepth 100000 in
theorem q_Mo_freeBeside_t4 {C : Cx} {nx : Nat} (hnx : 100 ≤ nx) {Qr : Option Value → Hp → Prop} {Qx : String → Hp → Prop}  (x1 : Int) (x2 : Int) (x3 : Int) (s : Sg) {o : ((Int × Int) ⊕ (Int))} (hs : Mo_freeBeside_t4 x1 x2 x3 s = some o) (hb : ∀ σ : Int × Int, o = .inl σ → ww C M_X12_freeBeside 2 0 0 nx (Qr) (Qx) nx 0 0 4 [(0, .ref 80), (1, vi x1), (2, vi σ.1), (3, vi σ.2)] [] (hp nx s)) (he0 : ∀ ρ : Int, o = .inr ρ → ww C M_X12_freeBeside 2 0 0 nx (Qr) (Qx) nx 0 0 116 [(2, vi ρ)] [] (hp nx s)) : ww C M_X12_freeBeside 2 0 0 nx (Qr) (Qx) nx 0 0 4 [(0, .ref 80), (1, vi x1), (2, vi x2), (3, vi x3)] [] (hp nx s) := by
  unfold Mo_freeBeside_t4 at hs
  refine w_iload_n 3 dX12_freeBeside_4 rfl rfl ?_
  refine w_aload_n 0 dX12_freeBeside_5 rfl rfl ?_
  refine x_V_I M_X12_cells [] [vi x3] hs rfl dX12_freeBeside_6 (lkX12_212 _ rfl) (lt_of hnx (Nat.le_of_ble_eq_true rfl)) rfl rfl (Nat.le_of_ble_eq_true rfl) (Nat.le_of_ble_eq_true rfl) (Nat.le_of_ble_eq_true rfl) (Nat.le_of_ble_eq_true rfl) (c_Mo_cells hnx s) (fun y1 hy1 hs => ?_)
  refine x_icmpge hs dX12_freeBeside_9 rfl (fun hs => ?_) (fun hs => ?_)
  · refine w_lv (lv' := [(2, vi x2)]) [2] rfl ?_
    cases hs
    exact he0 _ rfl
  · refine w_aload_n 0 dX12_freeBeside_12 rfl rfl ?_
    refine w_iload_n 3 dX12_freeBeside_13 rfl rfl ?_
    refine x_V_I M_X12_stone [vi x3] [] hs rfl dX12_freeBeside_14 (lkX12_215 _ rfl) (lt_of hnx (Nat.le_of_ble_eq_true rfl)) rfl rfl (Nat.le_of_ble_eq_true rfl) (Nat.le_of_ble_eq_true rfl) (Nat.le_of_ble_eq_true rfl) (Nat.le_of_ble_eq_true rfl) (c_Mo_stone hnx x3 s) (fun y2 hy2 hs => ?_)
    refine x_iconst dX12_freeBeside_17 ?_
    refine x_icmpeq hs dX12_freeBeside_18 rfl (fun hs => ?_) (fun hs => ?_)
    · refine x_iconst dX12_freeBeside_24 ?_
      refine w_istore (lv' := [(4, vi 0), (0, .ref 80), (1, vi x1), (2, vi x2), (3, vi x3)]) dX12_freeBeside_25 (Nat.le_of_ble_eq_true rfl) rfl ?_
      refine x_iconst dX12_freeBeside_27 ?_
      refine w_istore (lv' := [(5, vi 0), (4, vi 0), (0, .ref 80), (1, vi x1), (2, vi x2), (3, vi x3)]) dX12_freeBeside_28 (Nat.le_of_ble_eq_true rfl) rfl ?_
      refine w_lv (lv' := [(0, .ref 80), (1, vi x1), (2, vi x2), (3, vi x3), (4, vi 0), (5, vi 0)]) [2, 3, 4, 5, 1, 0] rfl ?_
      exact q_Mo_freeBeside_l30 hnx x1 x2 x3 0 0 s hs hb he0
    · refine w_goto dX12_freeBeside_21 rfl ?_
      exact q_Mo_freeBeside_b110 hnx x1 x2 x3 s hs hb he0
set_option maxRecDepth 100000 in
theorem q_Mo_freeBeside_l4 {C : Cx} {nx : Nat} (hnx : 100 ≤ nx) (x1 : Int) (x2 : Int) (x3 : Int) (s : Sg) {o : Int} (hs : Mo_freeBeside_l4 x1 x2 x3 s = some o) : ww C M_X12_freeBeside 2 0 0 nx (QI nx s o) (XF) nx 0 0 4 [(0, .ref 80), (1, vi x1), (2, vi x2), (3, vi x3)] [] (hp nx s) := by
  unfold Mo_freeBeside_l4 at hs
  refine bnd_e hs (fun x2_10 hw hs => ?_)
  have hE : ww C M_X12_freeBeside 2 0 0 nx (QI nx s o) (XF) nx 0 0 116 [(2, vi x2_10)] [] (hp nx s) := by
    refine w_iload_n 0 dX12_freeBeside_116 rfl rfl ?_
    cases hs
    exact x_ireturn dX12_freeBeside_117 rfl rfl (Nat.le_of_ble_eq_true rfl) (Nat.le_of_ble_eq_true rfl) ⟨rfl, rfl⟩
  refine whl_w (P := fun σ => ww C M_X12_freeBeside 2 0 0 nx (QI nx s o) (XF) nx 0 0 4 [(0, .ref 80), (1, vi x1), (2, vi σ.1), (3, vi σ.2)] [] (hp nx s)) (E := fun ρ => ρ = x2_10) hw rfl ?_
  intro σ o' hs' hb' he'
  exact q_Mo_freeBeside_t4 hnx x1 σ.1 σ.2 s hs' hb' (fun ρ e => by cases he' _ e; exact hE)
set_option maxRecDepth 100000 in
theorem c_Mo_freeBeside {C : Cx} {nx : Nat} (hnx : 100 ≤ nx) (x1 : Int) (s : Sg) : ∀ o, Mo_freeBeside x1 s = some o → mm C M_X12_freeBeside 2 0 0 nx nx [.ref 80, vi x1] (hp nx s) (QI nx s o) (XF) := by
  intro o hs
  unfold Mo_freeBeside at hs
  refine mm_of rfl rfl (Nat.le_of_ble_eq_true rfl) ?_
  show ww C M_X12_freeBeside 2 0 0 nx (QI nx s o) (XF) nx 0 0 0 [(0, .ref 80), (1, vi x1)] [] (hp nx s)
  refine x_iconst dX12_freeBeside_0 ?_
  refine w_istore_n (lv' := [(2, vi 0), (0, .ref 80), (1, vi x1)]) dX12_freeBeside_1 rfl (Nat.le_of_ble_eq_true rfl) rfl ?_
  refine x_iconst dX12_freeBeside_2 ?_
  refine w_istore_n (lv' := [(3, vi 0), (2, vi 0), (0, .ref 80), (1, vi x1)]) dX12_freeBeside_3 rfl (Nat.le_of_ble_eq_true rfl) rfl ?_
  refine w_lv (lv' := [(0, .ref 80), (1, vi x1), (2, vi 0), (3, vi 0)]) [2, 3, 1, 0] rfl ?_
  exact q_Mo_freeBeside_l4 hnx x1 0 0 s hs
set_option maxRecDepth 100000 in
theorem q_Mo_groupStones_b37 {C : Cx} {nx : Nat} (hnx : 100 ≤ nx) {Qr : Option Value → Hp → Prop} {Qx : String → Hp → Prop}  (x1 : Int) (x3 : Int) (t0 : Int) (t1 : Int) (s : Sg) {o : ((Int × Int) ⊕ (Int))} (hs : Mo_groupStones_b37 x1 x3 t0 t1 s = some o) (hb : ∀ σ : Int × Int, o = .inl σ → ww C M_X12_groupStones 1 0 0 nx (Qr) (Qx) nx 0 0 4 [(0, .ref 80), (1, vi x1), (2, vi σ.1), (3, vi σ.2)] [] (hp nx s)) (he0 : ∀ ρ : Int, o = .inr ρ → ww C M_X12_groupStones 1 0 0 nx (Qr) (Qx) nx 0 0 45 [(2, vi ρ)] [] (hp nx s)) : ww C M_X12_groupStones 1 0 0 nx (Qr) (Qx) nx 0 0 37 [(0, .ref 80), (1, vi x1), (3, vi x3)] [vi t1, vi t0] (hp nx s) := by
  unfold Mo_groupStones_b37 at hs
  refine x_iadd dX12_groupStones_37 ?_
  refine x_istore_n (fun x2_3 => [(2, vi x2_3), (0, .ref 80), (1, vi x1), (3, vi x3)]) hs dX12_groupStones_38 rfl (Nat.le_of_ble_eq_true rfl) (fun _ => rfl) (fun x2_3 hs => ?_)
  refine x_iinc (lv' := [(3, vi (x3 + 1)), (2, vi x2_3), (0, .ref 80), (1, vi x1)]) 3 dX12_groupStones_39 rfl (Nat.le_of_ble_eq_true rfl) rfl ?_
  refine w_goto dX12_groupStones_42 rfl ?_
  refine w_lv (lv' := [(0, .ref 80), (1, vi x1), (2, vi x2_3), (3, vi (x3 + 1))]) [2, 3, 1, 0] rfl ?_
  cases hs
  exact hb _ rfl
set_option maxRecDepth 100000 in
theorem q_Mo_groupStones_b36 {C : Cx} {nx : Nat} (hnx : 100 ≤ nx) {Qr : Option Value → Hp → Prop} {Qx : String → Hp → Prop}  (x1 : Int) (x3 : Int) (t0 : Int) (s : Sg) {o : ((Int × Int) ⊕ (Int))} (hs : Mo_groupStones_b36 x1 x3 t0 s = some o) (hb : ∀ σ : Int × Int, o = .inl σ → ww C M_X12_groupStones 1 0 0 nx (Qr) (Qx) nx 0 0 4 [(0, .ref 80), (1, vi x1), (2, vi σ.1), (3, vi σ.2)] [] (hp nx s)) (he0 : ∀ ρ : Int, o = .inr ρ → ww C M_X12_groupStones 1 0 0 nx (Qr) (Qx) nx 0 0 45 [(2, vi ρ)] [] (hp nx s)) : ww C M_X12_groupStones 1 0 0 nx (Qr) (Qx) nx 0 0 36 [(0, .ref 80), (1, vi x1), (3, vi x3)] [vi t0] (hp nx s) := by
  unfold Mo_groupStones_b36 at hs
  refine x_iconst dX12_groupStones_36 ?_
  exact q_Mo_groupStones_b37 hnx x1 x3 t0 0 s hs hb he0
set_option maxRecDepth 100000 in
theorem q_Mo_groupStones_t4 {C : Cx} {nx : Nat} (hnx : 100 ≤ nx) {Qr : Option Value → Hp → Prop} {Qx : String → Hp → Prop}  (x1 : Int) (x2 : Int) (x3 : Int) (s : Sg) {o : ((Int × Int) ⊕ (Int))} (hs : Mo_groupStones_t4 x1 x2 x3 s = some o) (hb : ∀ σ : Int × Int, o = .inl σ → ww C M_X12_groupStones 1 0 0 nx (Qr) (Qx) nx 0 0 4 [(0, .ref 80), (1, vi x1), (2, vi σ.1), (3, vi σ.2)] [] (hp nx s)) (he0 : ∀ ρ : Int, o = .inr ρ → ww C M_X12_groupStones 1 0 0 nx (Qr) (Qx) nx 0 0 45 [(2, vi ρ)] [] (hp nx s)) : ww C M_X12_groupStones 1 0 0 nx (Qr) (Qx) nx 0 0 4 [(0, .ref 80), (1, vi x1), (2, vi x2), (3, vi x3)] [] (hp nx s) := by
  unfold Mo_groupStones_t4 at hs
  refine w_iload_n 3 dX12_groupStones_4 rfl rfl ?_
  refine w_aload_n 0 dX12_groupStones_5 rfl rfl ?_
  refine x_V_I M_X12_cells [] [vi x3] hs rfl dX12_groupStones_6 (lkX12_212 _ rfl) (lt_of hnx (Nat.le_of_ble_eq_true rfl)) rfl rfl (Nat.le_of_ble_eq_true rfl) (Nat.le_of_ble_eq_true rfl) (Nat.le_of_ble_eq_true rfl) (Nat.le_of_ble_eq_true rfl) (c_Mo_cells hnx s) (fun y1 hy1 hs => ?_)
  refine x_icmpge hs dX12_groupStones_9 rfl (fun hs => ?_) (fun hs => ?_)
  · refine w_lv (lv' := [(2, vi x2)]) [2] rfl ?_
    cases hs
    exact he0 _ rfl
  · refine w_iload_n 2 dX12_groupStones_12 rfl rfl ?_
    refine w_aload_n 0 dX12_groupStones_13 rfl rfl ?_
    refine w_iload_n 3 dX12_groupStones_14 rfl rfl ?_
    refine x_V_I M_X12_stone [vi x3] [vi x2] hs rfl dX12_groupStones_15 (lkX12_215 _ rfl) (lt_of hnx (Nat.le_of_ble_eq_true rfl)) rfl rfl (Nat.le_of_ble_eq_true rfl) (Nat.le_of_ble_eq_true rfl) (Nat.le_of_ble_eq_true rfl) (Nat.le_of_ble_eq_true rfl) (c_Mo_stone hnx x3 s) (fun y2 hy2 hs => ?_)
    refine x_iconst dX12_groupStones_18 ?_
    refine x_icmpeq hs dX12_groupStones_19 rfl (fun hs => ?_) (fun hs => ?_)
    · refine w_lv (lv' := [(0, .ref 80), (1, vi x1), (3, vi x3)]) [0, 1, 3] rfl ?_
      exact q_Mo_groupStones_b36 hnx x1 x3 x2 s hs hb he0
    · refine w_aload_n 0 dX12_groupStones_22 rfl rfl ?_
      refine x_getR 12 17 (b := 87) dX12_groupStones_23 (fxX12_34 rfl) rfl rfl (lt_of hnx (Nat.le_of_ble_eq_true rfl)) rfl ?_
      refine w_iload_n 3 dX12_groupStones_26 rfl rfl ?_
      refine grd_e hs (fun hg4 hs => ?_)
      refine x_iald hg4 (Nat.le_of_ble_eq_true rfl) dX12_groupStones_27 (Or.inl ⟨rfl, (lt_of hnx (Nat.le_of_ble_eq_true rfl))⟩) ?_
      refine w_iload_n 1 dX12_groupStones_28 rfl rfl ?_
      refine x_icmpne hs dX12_groupStones_29 rfl (fun hs => ?_) (fun hs => ?_)
      · refine w_lv (lv' := [(0, .ref 80), (1, vi x1), (3, vi x3)]) [0, 1, 3] rfl ?_
        exact q_Mo_groupStones_b36 hnx x1 x3 x2 s hs hb he0
      · refine x_iconst dX12_groupStones_32 ?_
        refine w_goto dX12_groupStones_33 rfl ?_
        refine w_lv (lv' := [(0, .ref 80), (1, vi x1), (3, vi x3)]) [0, 1, 3] rfl ?_
        exact q_Mo_groupStones_b37 hnx x1 x3 x2 1 s hs hb he0
set_option maxRecDepth 100000 in
theorem q_Mo_groupStones_l4 {C : Cx} {nx : Nat} (hnx : 100 ≤ nx) (x1 : Int) (x2 : Int) (x3 : Int) (s : Sg) {o : Int} (hs : Mo_groupStones_l4 x1 x2 x3 s = some o) : ww C M_X12_groupStones 1 0 0 nx (QI nx s o) (XF) nx 0 0 4 [(0, .ref 80), (1, vi x1), (2, vi x2), (3, vi x3)] [] (hp nx s) := by
  unfold Mo_groupStones_l4 at hs
  refine bnd_e hs (fun x2_5 hw hs => ?_)
  have hE : ww C M_X12_groupStones 1 0 0 nx (QI nx s o) (XF) nx 0 0 45 [(2, vi x2_5)] [] (hp nx s) := by
    refine w_iload_n 0 dX12_groupStones_45 rfl rfl ?_
    cases hs
    exact x_ireturn dX12_groupStones_46 rfl rfl (Nat.le_of_ble_eq_true rfl) (Nat.le_of_ble_eq_true rfl) ⟨rfl, rfl⟩
  refine whl_w (P := fun σ => ww C M_X12_groupStones 1 0 0 nx (QI nx s o) (XF) nx 0 0 4 [(0, .ref 80), (1, vi x1), (2, vi σ.1), (3, vi σ.2)] [] (hp nx s)) (E := fun ρ => ρ = x2_5) hw rfl ?_
  intro σ o' hs' hb' he'
  exact q_Mo_groupStones_t4 hnx x1 σ.1 σ.2 s hs' hb' (fun ρ e => by cases he' _ e; exact hE)
set_option maxRecDepth 100000 in
theorem c_Mo_groupStones {C : Cx} {nx : Nat} (hnx : 100 ≤ nx) (x1 : Int) (s : Sg) : ∀ o, Mo_groupStones x1 s = some o → mm C M_X12_groupStones 1 0 0 nx nx [.ref 80, vi x1] (hp nx s) (QI nx s o) (XF) := by
  intro o hs
  unfold Mo_groupStones at hs
  refine mm_of rfl rfl (Nat.le_of_ble_eq_true rfl) ?_
  show ww C M_X12_groupStones 1 0 0 nx (QI nx s o) (XF) nx 0 0 0 [(0, .ref 80), (1, vi x1)] [] (hp nx s)
  refine x_iconst dX12_groupStones_0 ?_
  refine w_istore_n (lv' := [(2, vi 0), (0, .ref 80), (1, vi x1)]) dX12_groupStones_1 rfl (Nat.le_of_ble_eq_true rfl) rfl ?_
  refine x_iconst dX12_groupStones_2 ?_
  refine w_istore_n (lv' := [(3, vi 0), (2, vi 0), (0, .ref 80), (1, vi x1)]) dX12_groupStones_3 rfl (Nat.le_of_ble_eq_true rfl) rfl ?_
  refine w_lv (lv' := [(0, .ref 80), (1, vi x1), (2, vi 0), (3, vi 0)]) [2, 3, 1, 0] rfl ?_
  exact q_Mo_groupStones_l4 hnx x1 0 0 s hs
set_option maxRecDepth 100000 in
theorem q_Mo_group_b26 {C : Cx} {nx : Nat} (hnx : 100 ≤ nx) (x1 : Int) (x2 : Int) (t1 : Int) (s : Sg) {o : Int × Sg} (hs : Mo_group_b26 x1 x2 t1 s = some o) : ww C M_X12_group 4 0 0 nx (QI nx o.2 o.1) (XF) nx 0 0 26 [(0, .ref 80), (1, vi x1), (2, vi x2)] [vi t1, .ref 80] (hp nx s) := by
  unfold Mo_group_b26 at hs
  refine x_iconst dX12_group_26 ?_
  refine x_V_B M_X12_throwsIf [vi t1, vi 2] [] hs rfl dX12_group_27 (lkX12_313 _ rfl) (lt_of hnx (Nat.le_of_ble_eq_true rfl)) rfl rfl (Nat.le_of_ble_eq_true rfl) (Nat.le_of_ble_eq_true rfl) (Nat.le_of_ble_eq_true rfl) (Nat.le_of_ble_eq_true rfl) (c_Mo_throwsIf hnx t1 2 s) (fun y5 s6 hy5 hs => ?_)
  refine x_ifeq hs dX12_group_30 rfl (fun hs => ?_) (fun hs => ?_)
  · refine w_aload_n 0 dX12_group_35 rfl rfl ?_
    refine w_iload_n 1 dX12_group_36 rfl rfl ?_
    refine x_V_I M_X12_stone [vi x1] [] hs rfl dX12_group_37 (lkX12_215 _ rfl) (lt_of hnx (Nat.le_of_ble_eq_true rfl)) rfl rfl (Nat.le_of_ble_eq_true rfl) (Nat.le_of_ble_eq_true rfl) (Nat.le_of_ble_eq_true rfl) (Nat.le_of_ble_eq_true rfl) (c_Mo_stone hnx x1 s6) (fun y7 hy7 hs => ?_)
    refine x_iconst dX12_group_40 ?_
    refine x_icmpne hs dX12_group_41 rfl (fun hs => ?_) (fun hs => ?_)
    · refine w_aload_n 0 dX12_group_46 rfl rfl ?_
      refine x_V_V M_X12_laysGroups [] [] hs rfl dX12_group_47 (lkX12_242 _ rfl) (lt_of hnx (Nat.le_of_ble_eq_true rfl)) rfl rfl (Nat.le_of_ble_eq_true rfl) (Nat.le_of_ble_eq_true rfl) (Nat.le_of_ble_eq_true rfl) (Nat.le_of_ble_eq_true rfl) (c_Mo_laysGroups hnx s6) (fun s9 hs9 hs => ?_)
      refine w_aload_n 0 dX12_group_50 rfl rfl ?_
      refine x_getR 12 17 (b := 87) dX12_group_51 (fxX12_34 rfl) rfl rfl (lt_of hnx (Nat.le_of_ble_eq_true rfl)) rfl ?_
      refine w_iload_n 1 dX12_group_54 rfl rfl ?_
      refine grd_e hs (fun hg10 hs => ?_)
      refine x_iald hg10 (Nat.le_of_ble_eq_true rfl) dX12_group_55 (Or.inl ⟨rfl, (lt_of hnx (Nat.le_of_ble_eq_true rfl))⟩) ?_
      refine x_istore_n (fun x3_11 => [(3, vi x3_11), (0, .ref 80), (1, vi x1), (2, vi x2)]) hs dX12_group_56 rfl (Nat.le_of_ble_eq_true rfl) (fun _ => rfl) (fun x3_11 hs => ?_)
      refine w_iload_n 3 dX12_group_57 rfl rfl ?_
      refine x_ifne hs dX12_group_58 rfl (fun hs => ?_) (fun hs => ?_)
      · refine w_iload_n 3 dX12_group_65 rfl rfl ?_
        refine x_iconst dX12_group_66 ?_
        refine x_icmpne hs dX12_group_67 rfl (fun hs => ?_) (fun hs => ?_)
        · refine w_iload_n 3 dX12_group_78 rfl rfl ?_
          refine x_iconst dX12_group_79 ?_
          refine x_icmpne hs dX12_group_80 rfl (fun hs => ?_) (fun hs => ?_)
          · refine w_aload_n 1 dX12_group_91 rfl rfl ?_
            refine w_aload_n 1 dX12_group_92 rfl rfl ?_
            refine w_iload_n 2 dX12_group_93 rfl rfl ?_
            refine x_V_I M_X12_stone [vi x1] [.ref 80] hs rfl dX12_group_94 (lkX12_215 _ rfl) (lt_of hnx (Nat.le_of_ble_eq_true rfl)) rfl rfl (Nat.le_of_ble_eq_true rfl) (Nat.le_of_ble_eq_true rfl) (Nat.le_of_ble_eq_true rfl) (Nat.le_of_ble_eq_true rfl) (c_Mo_stone hnx x1 s9) (fun y12 hy12 hs => ?_)
            refine w_iload_n 0 dX12_group_97 rfl rfl ?_
            refine x_V_I M_X12_groupEdges [vi y12, vi x3_11] [] hs rfl dX12_group_98 (lkX12_245 _ rfl) (lt_of hnx (Nat.le_of_ble_eq_true rfl)) rfl rfl (Nat.le_of_ble_eq_true rfl) (Nat.le_of_ble_eq_true rfl) (Nat.le_of_ble_eq_true rfl) (Nat.le_of_ble_eq_true rfl) (c_Mo_groupEdges hnx y12 x3_11 s9) (fun y13 hy13 hs => ?_)
            cases hs
            exact x_ireturn dX12_group_101 rfl rfl (Nat.le_of_ble_eq_true rfl) (Nat.le_of_ble_eq_true rfl) ⟨rfl, rfl⟩
          · refine w_aload_n 1 dX12_group_83 rfl rfl ?_
            refine w_iload_n 0 dX12_group_84 rfl rfl ?_
            refine x_V_I M_X12_freeBeside [vi x3_11] [] hs rfl dX12_group_85 (lkX12_320 _ rfl) (lt_of hnx (Nat.le_of_ble_eq_true rfl)) rfl rfl (Nat.le_of_ble_eq_true rfl) (Nat.le_of_ble_eq_true rfl) (Nat.le_of_ble_eq_true rfl) (Nat.le_of_ble_eq_true rfl) (c_Mo_freeBeside hnx x3_11 s9) (fun y14 hy14 hs => ?_)
            refine w_goto dX12_group_88 rfl ?_
            cases hs
            exact x_ireturn dX12_group_101 rfl rfl (Nat.le_of_ble_eq_true rfl) (Nat.le_of_ble_eq_true rfl) ⟨rfl, rfl⟩
        · refine w_aload_n 1 dX12_group_70 rfl rfl ?_
          refine w_iload_n 0 dX12_group_71 rfl rfl ?_
          refine x_V_I M_X12_groupStones [vi x3_11] [] hs rfl dX12_group_72 (lkX12_317 _ rfl) (lt_of hnx (Nat.le_of_ble_eq_true rfl)) rfl rfl (Nat.le_of_ble_eq_true rfl) (Nat.le_of_ble_eq_true rfl) (Nat.le_of_ble_eq_true rfl) (Nat.le_of_ble_eq_true rfl) (c_Mo_groupStones hnx x3_11 s9) (fun y15 hy15 hs => ?_)
          refine w_goto dX12_group_75 rfl ?_
          cases hs
          exact x_ireturn dX12_group_101 rfl rfl (Nat.le_of_ble_eq_true rfl) (Nat.le_of_ble_eq_true rfl) ⟨rfl, rfl⟩
      · refine w_iload_n 0 dX12_group_61 rfl rfl ?_
        refine w_goto dX12_group_62 rfl ?_
        cases hs
        exact x_ireturn dX12_group_101 rfl rfl (Nat.le_of_ble_eq_true rfl) (Nat.le_of_ble_eq_true rfl) ⟨rfl, rfl⟩
    · refine x_iconst dX12_group_44 ?_
      cases hs
      exact x_ireturn dX12_group_45 rfl rfl (Nat.le_of_ble_eq_true rfl) (Nat.le_of_ble_eq_true rfl) ⟨rfl, rfl⟩
  · refine x_iconst dX12_group_33 ?_
    cases hs
    exact x_ireturn dX12_group_34 rfl rfl (Nat.le_of_ble_eq_true rfl) (Nat.le_of_ble_eq_true rfl) ⟨rfl, rfl⟩
set_option maxRecDepth 100000 in
theorem c_Mo_group {C : Cx} {nx : Nat} (hnx : 100 ≤ nx) (x1 : Int) (x2 : Int) (s : Sg) : ∀ o, Mo_group x1 x2 s = some o → mm C M_X12_group 4 0 0 nx nx [.ref 80, vi x1, vi x2] (hp nx s) (QI nx o.2 o.1) (XF) := by
  intro o hs
  unfold Mo_group at hs
  refine mm_of rfl rfl (Nat.le_of_ble_eq_true rfl) ?_
  show ww C M_X12_group 4 0 0 nx (QI nx o.2 o.1) (XF) nx 0 0 0 [(0, .ref 80), (1, vi x1), (2, vi x2)] [] (hp nx s)
  refine w_aload_n 0 dX12_group_0 rfl rfl ?_
  refine w_iload_n 1 dX12_group_1 rfl rfl ?_
  refine x_V_B M_X12_noCell [vi x1] [] hs rfl dX12_group_2 (lkX12_308 _ rfl) (lt_of hnx (Nat.le_of_ble_eq_true rfl)) rfl rfl (Nat.le_of_ble_eq_true rfl) (Nat.le_of_ble_eq_true rfl) (Nat.le_of_ble_eq_true rfl) (Nat.le_of_ble_eq_true rfl) (c_Mo_noCell hnx x1 s) (fun y1 s2 hy1 hs => ?_)
  refine x_ifne hs dX12_group_5 rfl (fun hs => ?_) (fun hs => ?_)
  · refine x_iconst dX12_group_33 ?_
    cases hs
    exact x_ireturn dX12_group_34 rfl rfl (Nat.le_of_ble_eq_true rfl) (Nat.le_of_ble_eq_true rfl) ⟨rfl, rfl⟩
  · refine w_aload_n 0 dX12_group_8 rfl rfl ?_
    refine w_iload_n 2 dX12_group_9 rfl rfl ?_
    refine grd_e hs (fun hg3 hs => ?_)
    refine x_i2l dX12_group_10 hg3 ?_
    refine x_lconst (x := 0) dX12_group_11 (by decide) ?_
    refine x_ldc2 3 dX12_group_12 (csX12_311 rfl) ?_
    refine x_S_I M_X12_in [vl x2, vl 0, vl 3] [.ref 80] hs rfl dX12_group_15 (lkX12_108 _ rfl) (Nat.le_of_ble_eq_true rfl) (Nat.le_of_ble_eq_true rfl) (Nat.le_of_ble_eq_true rfl) (Nat.le_of_ble_eq_true rfl) (c_Mo_in hnx x2 0 3 s2) (fun y4 hy4 hs => ?_)
    refine x_ifne hs dX12_group_18 rfl (fun hs => ?_) (fun hs => ?_)
    · refine x_iconst dX12_group_25 ?_
      exact q_Mo_group_b26 hnx x1 x2 0 s2 hs
    · refine x_iconst dX12_group_21 ?_
      refine w_goto dX12_group_22 rfl ?_
      exact q_Mo_group_b26 hnx x1 x2 1 s2 hs
set_option maxRecDepth 100000 in
theorem q_Mo_groups_b51 {C : Cx} {nx : Nat} (hnx : 100 ≤ nx) {Qr : Option Value → Hp → Prop} {Qx : String → Hp → Prop}  (x1 : Int) (x3 : Int) (t0 : Int) (t1 : Int) (s : Sg) {o : ((Int × Int) ⊕ (Int))} (hs : Mo_groups_b51 x1 x3 t0 t1 s = some o) (hb : ∀ σ : Int × Int, o = .inl σ → ww C M_X12_groups 4 0 0 nx (Qr) (Qx) nx 0 0 18 [(0, .ref 80), (1, vi x1), (2, vi σ.1), (3, vi σ.2)] [] (hp nx s)) (he0 : ∀ ρ : Int, o = .inr ρ → ww C M_X12_groups 4 0 0 nx (Qr) (Qx) nx 0 0 59 [(2, vi ρ)] [] (hp nx s)) : ww C M_X12_groups 4 0 0 nx (Qr) (Qx) nx 0 0 51 [(0, .ref 80), (1, vi x1), (3, vi x3)] [vi t1, vi t0] (hp nx s) := by
  unfold Mo_groups_b51 at hs
  refine x_iadd dX12_groups_51 ?_
  refine x_istore_n (fun x2_7 => [(2, vi x2_7), (0, .ref 80), (1, vi x1), (3, vi x3)]) hs dX12_groups_52 rfl (Nat.le_of_ble_eq_true rfl) (fun _ => rfl) (fun x2_7 hs => ?_)
  refine x_iinc (lv' := [(3, vi (x3 + 1)), (2, vi x2_7), (0, .ref 80), (1, vi x1)]) 3 dX12_groups_53 rfl (Nat.le_of_ble_eq_true rfl) rfl ?_
  refine w_goto dX12_groups_56 rfl ?_
  refine w_lv (lv' := [(0, .ref 80), (1, vi x1), (2, vi x2_7), (3, vi (x3 + 1))]) [2, 3, 1, 0] rfl ?_
  cases hs
  exact hb _ rfl
set_option maxRecDepth 100000 in
theorem q_Mo_groups_b50 {C : Cx} {nx : Nat} (hnx : 100 ≤ nx) {Qr : Option Value → Hp → Prop} {Qx : String → Hp → Prop}  (x1 : Int) (x3 : Int) (t0 : Int) (s : Sg) {o : ((Int × Int) ⊕ (Int))} (hs : Mo_groups_b50 x1 x3 t0 s = some o) (hb : ∀ σ : Int × Int, o = .inl σ → ww C M_X12_groups 4 0 0 nx (Qr) (Qx) nx 0 0 18 [(0, .ref 80), (1, vi x1), (2, vi σ.1), (3, vi σ.2)] [] (hp nx s)) (he0 : ∀ ρ : Int, o = .inr ρ → ww C M_X12_groups 4 0 0 nx (Qr) (Qx) nx 0 0 59 [(2, vi ρ)] [] (hp nx s)) : ww C M_X12_groups 4 0 0 nx (Qr) (Qx) nx 0 0 50 [(0, .ref 80), (1, vi x1), (3, vi x3)] [vi t0] (hp nx s) := by
  unfold Mo_groups_b50 at hs
  refine x_iconst dX12_groups_50 ?_
  exact q_Mo_groups_b51 hnx x1 x3 t0 0 s hs hb he0
set_option maxRecDepth 100000 in
theorem q_Mo_groups_t18 {C : Cx} {nx : Nat} (hnx : 100 ≤ nx) {Qr : Option Value → Hp → Prop} {Qx : String → Hp → Prop}  (x1 : Int) (x2 : Int) (x3 : Int) (s : Sg) {o : ((Int × Int) ⊕ (Int))} (hs : Mo_groups_t18 x1 x2 x3 s = some o) (hb : ∀ σ : Int × Int, o = .inl σ → ww C M_X12_groups 4 0 0 nx (Qr) (Qx) nx 0 0 18 [(0, .ref 80), (1, vi x1), (2, vi σ.1), (3, vi σ.2)] [] (hp nx s)) (he0 : ∀ ρ : Int, o = .inr ρ → ww C M_X12_groups 4 0 0 nx (Qr) (Qx) nx 0 0 59 [(2, vi ρ)] [] (hp nx s)) : ww C M_X12_groups 4 0 0 nx (Qr) (Qx) nx 0 0 18 [(0, .ref 80), (1, vi x1), (2, vi x2), (3, vi x3)] [] (hp nx s) := by
  unfold Mo_groups_t18 at hs
  refine w_iload_n 3 dX12_groups_18 rfl rfl ?_
  refine w_aload_n 0 dX12_groups_19 rfl rfl ?_
  refine x_V_I M_X12_cells [] [vi x3] hs rfl dX12_groups_20 (lkX12_212 _ rfl) (lt_of hnx (Nat.le_of_ble_eq_true rfl)) rfl rfl (Nat.le_of_ble_eq_true rfl) (Nat.le_of_ble_eq_true rfl) (Nat.le_of_ble_eq_true rfl) (Nat.le_of_ble_eq_true rfl) (c_Mo_cells hnx s) (fun y5 hy5 hs => ?_)
  refine x_icmpge hs dX12_groups_23 rfl (fun hs => ?_) (fun hs => ?_)
  · refine w_lv (lv' := [(2, vi x2)]) [2] rfl ?_
    cases hs
    exact he0 _ rfl
  · refine w_iload_n 2 dX12_groups_26 rfl rfl ?_
    refine w_aload_n 0 dX12_groups_27 rfl rfl ?_
    refine w_iload_n 3 dX12_groups_28 rfl rfl ?_
    refine x_V_I M_X12_stone [vi x3] [vi x2] hs rfl dX12_groups_29 (lkX12_215 _ rfl) (lt_of hnx (Nat.le_of_ble_eq_true rfl)) rfl rfl (Nat.le_of_ble_eq_true rfl) (Nat.le_of_ble_eq_true rfl) (Nat.le_of_ble_eq_true rfl) (Nat.le_of_ble_eq_true rfl) (c_Mo_stone hnx x3 s) (fun y6 hy6 hs => ?_)
    refine w_iload_n 1 dX12_groups_32 rfl rfl ?_
    refine x_icmpne hs dX12_groups_33 rfl (fun hs => ?_) (fun hs => ?_)
    · refine w_lv (lv' := [(0, .ref 80), (1, vi x1), (3, vi x3)]) [0, 1, 3] rfl ?_
      exact q_Mo_groups_b50 hnx x1 x3 x2 s hs hb he0
    · refine w_aload_n 0 dX12_groups_36 rfl rfl ?_
      refine x_getR 12 17 (b := 87) dX12_groups_37 (fxX12_34 rfl) rfl rfl (lt_of hnx (Nat.le_of_ble_eq_true rfl)) rfl ?_
      refine w_iload_n 3 dX12_groups_40 rfl rfl ?_
      refine grd_e hs (fun hg8 hs => ?_)
      refine x_iald hg8 (Nat.le_of_ble_eq_true rfl) dX12_groups_41 (Or.inl ⟨rfl, (lt_of hnx (Nat.le_of_ble_eq_true rfl))⟩) ?_
      refine w_iload_n 3 dX12_groups_42 rfl rfl ?_
      refine x_icmpne hs dX12_groups_43 rfl (fun hs => ?_) (fun hs => ?_)
      · refine w_lv (lv' := [(0, .ref 80), (1, vi x1), (3, vi x3)]) [0, 1, 3] rfl ?_
        exact q_Mo_groups_b50 hnx x1 x3 x2 s hs hb he0
      · refine x_iconst dX12_groups_46 ?_
        refine w_goto dX12_groups_47 rfl ?_
        refine w_lv (lv' := [(0, .ref 80), (1, vi x1), (3, vi x3)]) [0, 1, 3] rfl ?_
        exact q_Mo_groups_b51 hnx x1 x3 x2 1 s hs hb he0
set_option maxRecDepth 100000 in
theorem q_Mo_groups_l18 {C : Cx} {nx : Nat} (hnx : 100 ≤ nx) (x1 : Int) (x2 : Int) (x3 : Int) (s : Sg) {o : Int × Sg} (hs : Mo_groups_l18 x1 x2 x3 s = some o) : ww C M_X12_groups 4 0 0 nx (QI nx o.2 o.1) (XF) nx 0 0 18 [(0, .ref 80), (1, vi x1), (2, vi x2), (3, vi x3)] [] (hp nx s) := by
  unfold Mo_groups_l18 at hs
  refine bnd_e hs (fun x2_9 hw hs => ?_)
  have hE : ww C M_X12_groups 4 0 0 nx (QI nx o.2 o.1) (XF) nx 0 0 59 [(2, vi x2_9)] [] (hp nx s) := by
    refine w_iload_n 0 dX12_groups_59 rfl rfl ?_
    cases hs
    exact x_ireturn dX12_groups_60 rfl rfl (Nat.le_of_ble_eq_true rfl) (Nat.le_of_ble_eq_true rfl) ⟨rfl, rfl⟩
  refine whl_w (P := fun σ => ww C M_X12_groups 4 0 0 nx (QI nx o.2 o.1) (XF) nx 0 0 18 [(0, .ref 80), (1, vi x1), (2, vi σ.1), (3, vi σ.2)] [] (hp nx s)) (E := fun ρ => ρ = x2_9) hw rfl ?_
  intro σ o' hs' hb' he'
  exact q_Mo_groups_t18 hnx x1 σ.1 σ.2 s hs' hb' (fun ρ e => by cases he' _ e; exact hE)
set_option maxRecDepth 100000 in
theorem c_Mo_groups {C : Cx} {nx : Nat} (hnx : 100 ≤ nx) (x1 : Int) (s : Sg) : ∀ o, Mo_groups x1 s = some o → mm C M_X12_groups 4 0 0 nx nx [.ref 80, vi x1] (hp nx s) (QI nx o.2 o.1) (XF) := by
  intro o hs
  unfold Mo_groups at hs
  refine mm_of rfl rfl (Nat.le_of_ble_eq_true rfl) ?_
  show ww C M_X12_groups 4 0 0 nx (QI nx o.2 o.1) (XF) nx 0 0 0 [(0, .ref 80), (1, vi x1)] [] (hp nx s)
  refine w_aload_n 0 dX12_groups_0 rfl rfl ?_
  refine w_iload_n 1 dX12_groups_1 rfl rfl ?_
  refine x_V_B M_X12_noSide [vi x1] [] hs rfl dX12_groups_2 (lkX12_323 _ rfl) (lt_of hnx (Nat.le_of_ble_eq_true rfl)) rfl rfl (Nat.le_of_ble_eq_true rfl) (Nat.le_of_ble_eq_true rfl) (Nat.le_of_ble_eq_true rfl) (Nat.le_of_ble_eq_true rfl) (c_Mo_noSide hnx x1 s) (fun y1 s2 hy1 hs => ?_)
  refine x_ifeq hs dX12_groups_5 rfl (fun hs => ?_) (fun hs => ?_)
  · refine w_aload_n 0 dX12_groups_10 rfl rfl ?_
    refine x_V_V M_X12_laysGroups [] [] hs rfl dX12_groups_11 (lkX12_242 _ rfl) (lt_of hnx (Nat.le_of_ble_eq_true rfl)) rfl rfl (Nat.le_of_ble_eq_true rfl) (Nat.le_of_ble_eq_true rfl) (Nat.le_of_ble_eq_true rfl) (Nat.le_of_ble_eq_true rfl) (c_Mo_laysGroups hnx s2) (fun s4 hs4 hs => ?_)
    refine x_iconst dX12_groups_14 ?_
    refine w_istore_n (lv' := [(2, vi 0), (0, .ref 80), (1, vi x1)]) dX12_groups_15 rfl (Nat.le_of_ble_eq_true rfl) rfl ?_
    refine x_iconst dX12_groups_16 ?_
    refine w_istore_n (lv' := [(3, vi 0), (2, vi 0), (0, .ref 80), (1, vi x1)]) dX12_groups_17 rfl (Nat.le_of_ble_eq_true rfl) rfl ?_
    refine w_lv (lv' := [(0, .ref 80), (1, vi x1), (2, vi 0), (3, vi 0)]) [2, 3, 1, 0] rfl ?_
    exact q_Mo_groups_l18 hnx x1 0 0 s4 hs
  · refine x_iconst dX12_groups_8 ?_
    cases hs
    exact x_ireturn dX12_groups_9 rfl rfl (Nat.le_of_ble_eq_true rfl) (Nat.le_of_ble_eq_true rfl) ⟨rfl, rfl⟩
set_option maxRecDepth 100000 in
theorem q_Mo_largest_b68 {C : Cx} {nx : Nat} (hnx : 100 ≤ nx) {Qr : Option Value → Hp → Prop} {Qx : String → Hp → Prop}  (x1 : Int) (x2 : Int) (x3 : Int) (s : Sg) {o : ((Int × Int) ⊕ (Int))} (hs : Mo_largest_b68 x1 x2 x3 s = some o) (hb : ∀ σ : Int × Int, o = .inl σ → ww C M_X12_largest 4 0 0 nx (Qr) (Qx) nx 0 0 18 [(0, .ref 80), (1, vi x1), (2, vi σ.1), (3, vi σ.2)] [] (hp nx s)) (he0 : ∀ ρ : Int, o = .inr ρ → ww C M_X12_largest 4 0 0 nx (Qr) (Qx) nx 0 0 74 [(2, vi ρ)] [] (hp nx s)) : ww C M_X12_largest 4 0 0 nx (Qr) (Qx) nx 0 0 68 [(0, .ref 80), (1, vi x1), (2, vi x2), (3, vi x3)] [] (hp nx s) := by
  unfold Mo_largest_b68 at hs
  refine x_iinc (lv' := [(3, vi (x3 + 1)), (0, .ref 80), (1, vi x1), (2, vi x2)]) 3 dX12_largest_68 rfl (Nat.le_of_ble_eq_true rfl) rfl ?_
  refine w_goto dX12_largest_71 rfl ?_
  refine w_lv (lv' := [(0, .ref 80), (1, vi x1), (2, vi x2), (3, vi (x3 + 1))]) [1, 2, 3, 0] rfl ?_
  cases hs
  exact hb _ rfl
set_option maxRecDepth 100000 in
theorem q_Mo_largest_b66 {C : Cx} {nx : Nat} (hnx : 100 ≤ nx) {Qr : Option Value → Hp → Prop} {Qx : String → Hp → Prop}  (x1 : Int) (x3 : Int) (s : Sg) {o : ((Int × Int) ⊕ (Int))} (hs : Mo_largest_b66 x1 x3 s = some o) (hb : ∀ σ : Int × Int, o = .inl σ → ww C M_X12_largest 4 0 0 nx (Qr) (Qx) nx 0 0 18 [(0, .ref 80), (1, vi x1), (2, vi σ.1), (3, vi σ.2)] [] (hp nx s)) (he0 : ∀ ρ : Int, o = .inr ρ → ww C M_X12_largest 4 0 0 nx (Qr) (Qx) nx 0 0 74 [(2, vi ρ)] [] (hp nx s)) : ww C M_X12_largest 4 0 0 nx (Qr) (Qx) nx 0 0 66 [(0, .ref 80), (1, vi x1), (3, vi x3)] [] (hp nx s) := by
  unfold Mo_largest_b66 at hs
  refine w_iload_n 2 dX12_largest_66 rfl rfl ?_
  refine w_istore_n (lv' := [(2, vi x3), (0, .ref 80), (1, vi x1), (3, vi x3)]) dX12_largest_67 rfl (Nat.le_of_ble_eq_true rfl) rfl ?_
  refine w_lv (lv' := [(0, .ref 80), (1, vi x1), (2, vi x3), (3, vi x3)]) [1, 2, 0, 3] rfl ?_
  exact q_Mo_largest_b68 hnx x1 x3 x3 s hs hb he0
set_option maxRecDepth 100000 in
theorem q_Mo_largest_t18 {C : Cx} {nx : Nat} (hnx : 100 ≤ nx) {Qr : Option Value → Hp → Prop} {Qx : String → Hp → Prop}  (x1 : Int) (x2 : Int) (x3 : Int) (s : Sg) {o : ((Int × Int) ⊕ (Int))} (hs : Mo_largest_t18 x1 x2 x3 s = some o) (hb : ∀ σ : Int × Int, o = .inl σ → ww C M_X12_largest 4 0 0 nx (Qr) (Qx) nx 0 0 18 [(0, .ref 80), (1, vi x1), (2, vi σ.1), (3, vi σ.2)] [] (hp nx s)) (he0 : ∀ ρ : Int, o = .inr ρ → ww C M_X12_largest 4 0 0 nx (Qr) (Qx) nx 0 0 74 [(2, vi ρ)] [] (hp nx s)) : ww C M_X12_largest 4 0 0 nx (Qr) (Qx) nx 0 0 18 [(0, .ref 80), (1, vi x1), (2, vi x2), (3, vi x3)] [] (hp nx s) := by
  unfold Mo_largest_t18 at hs
  refine w_iload_n 3 dX12_largest_18 rfl rfl ?_
  refine w_aload_n 0 dX12_largest_19 rfl rfl ?_
  refine x_V_I M_X12_cells [] [vi x3] hs rfl dX12_largest_20 (lkX12_212 _ rfl) (lt_of hnx (Nat.le_of_ble_eq_true rfl)) rfl rfl (Nat.le_of_ble_eq_true rfl) (Nat.le_of_ble_eq_true rfl) (Nat.le_of_ble_eq_true rfl) (Nat.le_of_ble_eq_true rfl) (c_Mo_cells hnx s) (fun y5 hy5 hs => ?_)
  refine x_icmpge hs dX12_largest_23 rfl (fun hs => ?_) (fun hs => ?_)
  · refine w_lv (lv' := [(2, vi x2)]) [2] rfl ?_
    cases hs
    exact he0 _ rfl
  · refine w_aload_n 0 dX12_largest_26 rfl rfl ?_
    refine w_iload_n 3 dX12_largest_27 rfl rfl ?_
    refine x_V_I M_X12_stone [vi x3] [] hs rfl dX12_largest_28 (lkX12_215 _ rfl) (lt_of hnx (Nat.le_of_ble_eq_true rfl)) rfl rfl (Nat.le_of_ble_eq_true rfl) (Nat.le_of_ble_eq_true rfl) (Nat.le_of_ble_eq_true rfl) (Nat.le_of_ble_eq_true rfl) (c_Mo_stone hnx x3 s) (fun y6 hy6 hs => ?_)
    refine w_iload_n 1 dX12_largest_31 rfl rfl ?_
    refine x_icmpne hs dX12_largest_32 rfl (fun hs => ?_) (fun hs => ?_)
    · exact q_Mo_largest_b68 hnx x1 x2 x3 s hs hb he0
    · refine w_aload_n 0 dX12_largest_35 rfl rfl ?_
      refine x_getR 12 17 (b := 87) dX12_largest_36 (fxX12_34 rfl) rfl rfl (lt_of hnx (Nat.le_of_ble_eq_true rfl)) rfl ?_
      refine w_iload_n 3 dX12_largest_39 rfl rfl ?_
      refine grd_e hs (fun hg7 hs => ?_)
      refine x_iald hg7 (Nat.le_of_ble_eq_true rfl) dX12_largest_40 (Or.inl ⟨rfl, (lt_of hnx (Nat.le_of_ble_eq_true rfl))⟩) ?_
      refine w_iload_n 3 dX12_largest_41 rfl rfl ?_
      refine x_icmpeq hs dX12_largest_42 rfl (fun hs => ?_) (fun hs => ?_)
      · refine w_iload_n 2 dX12_largest_48 rfl rfl ?_
        refine x_iconst dX12_largest_49 ?_
        refine x_icmpeq hs dX12_largest_50 rfl (fun hs => ?_) (fun hs => ?_)
        · refine w_lv (lv' := [(0, .ref 80), (1, vi x1), (3, vi x3)]) [0, 1, 3] rfl ?_
          exact q_Mo_largest_b66 hnx x1 x3 s hs hb he0
        · refine w_aload_n 0 dX12_largest_53 rfl rfl ?_
          refine w_iload_n 3 dX12_largest_54 rfl rfl ?_
          refine x_V_I M_X12_groupStones [vi x3] [] hs rfl dX12_largest_55 (lkX12_317 _ rfl) (lt_of hnx (Nat.le_of_ble_eq_true rfl)) rfl rfl (Nat.le_of_ble_eq_true rfl) (Nat.le_of_ble_eq_true rfl) (Nat.le_of_ble_eq_true rfl) (Nat.le_of_ble_eq_true rfl) (c_Mo_groupStones hnx x3 s) (fun y8 hy8 hs => ?_)
          refine w_aload_n 0 dX12_largest_58 rfl rfl ?_
          refine w_iload_n 2 dX12_largest_59 rfl rfl ?_
          refine x_V_I M_X12_groupStones [vi x2] [vi y8] hs rfl dX12_largest_60 (lkX12_317 _ rfl) (lt_of hnx (Nat.le_of_ble_eq_true rfl)) rfl rfl (Nat.le_of_ble_eq_true rfl) (Nat.le_of_ble_eq_true rfl) (Nat.le_of_ble_eq_true rfl) (Nat.le_of_ble_eq_true rfl) (c_Mo_groupStones hnx x2 s) (fun y9 hy9 hs => ?_)
          refine x_icmple hs dX12_largest_63 rfl (fun hs => ?_) (fun hs => ?_)
          · exact q_Mo_largest_b68 hnx x1 x2 x3 s hs hb he0
          · refine w_lv (lv' := [(0, .ref 80), (1, vi x1), (3, vi x3)]) [0, 1, 3] rfl ?_
            exact q_Mo_largest_b66 hnx x1 x3 s hs hb he0
      · refine w_goto dX12_largest_45 rfl ?_
        exact q_Mo_largest_b68 hnx x1 x2 x3 s hs hb he0
set_option maxRecDepth 100000 in
theorem q_Mo_largest_l18 {C : Cx} {nx : Nat} (hnx : 100 ≤ nx) (x1 : Int) (x2 : Int) (x3 : Int) (s : Sg) {o : Int × Sg} (hs : Mo_largest_l18 x1 x2 x3 s = some o) : ww C M_X12_largest 4 0 0 nx (QI nx o.2 o.1) (XF) nx 0 0 18 [(0, .ref 80), (1, vi x1), (2, vi x2), (3, vi x3)] [] (hp nx s) := by
  unfold Mo_largest_l18 at hs
  refine bnd_e hs (fun x2_10 hw hs => ?_)
  have hE : ww C M_X12_largest 4 0 0 nx (QI nx o.2 o.1) (XF) nx 0 0 74 [(2, vi x2_10)] [] (hp nx s) := by
    refine w_iload_n 0 dX12_largest_74 rfl rfl ?_
    cases hs
    exact x_ireturn dX12_largest_75 rfl rfl (Nat.le_of_ble_eq_true rfl) (Nat.le_of_ble_eq_true rfl) ⟨rfl, rfl⟩
  refine whl_w (P := fun σ => ww C M_X12_largest 4 0 0 nx (QI nx o.2 o.1) (XF) nx 0 0 18 [(0, .ref 80), (1, vi x1), (2, vi σ.1), (3, vi σ.2)] [] (hp nx s)) (E := fun ρ => ρ = x2_10) hw rfl ?_
  intro σ o' hs' hb' he'
  exact q_Mo_largest_t18 hnx x1 σ.1 σ.2 s hs' hb' (fun ρ e => by cases he' _ e; exact hE)
set_option maxRecDepth 100000 in
theorem c_Mo_largest {C : Cx} {nx : Nat} (hnx : 100 ≤ nx) (x1 : Int) (s : Sg) : ∀ o, Mo_largest x1 s = some o → mm C M_X12_largest 4 0 0 nx nx [.ref 80, vi x1] (hp nx s) (QI nx o.2 o.1) (XF) := by
  intro o hs
  unfold Mo_largest at hs
  refine mm_of rfl rfl (Nat.le_of_ble_eq_true rfl) ?_
  show ww C M_X12_largest 4 0 0 nx (QI nx o.2 o.1) (XF) nx 0 0 0 [(0, .ref 80), (1, vi x1)] [] (hp nx s)
  refine w_aload_n 0 dX12_largest_0 rfl rfl ?_
  refine w_iload_n 1 dX12_largest_1 rfl rfl ?_
  refine x_V_B M_X12_noSide [vi x1] [] hs rfl dX12_largest_2 (lkX12_323 _ rfl) (lt_of hnx (Nat.le_of_ble_eq_true rfl)) rfl rfl (Nat.le_of_ble_eq_true rfl) (Nat.le_of_ble_eq_true rfl) (Nat.le_of_ble_eq_true rfl) (Nat.le_of_ble_eq_true rfl) (c_Mo_noSide hnx x1 s) (fun y1 s2 hy1 hs => ?_)
  refine x_ifeq hs dX12_largest_5 rfl (fun hs => ?_) (fun hs => ?_)
  · refine w_aload_n 0 dX12_largest_10 rfl rfl ?_
    refine x_V_V M_X12_laysGroups [] [] hs rfl dX12_largest_11 (lkX12_242 _ rfl) (lt_of hnx (Nat.le_of_ble_eq_true rfl)) rfl rfl (Nat.le_of_ble_eq_true rfl) (Nat.le_of_ble_eq_true rfl) (Nat.le_of_ble_eq_true rfl) (Nat.le_of_ble_eq_true rfl) (c_Mo_laysGroups hnx s2) (fun s4 hs4 hs => ?_)
    refine x_iconst dX12_largest_14 ?_
    refine w_istore_n (lv' := [(2, vi (-1)), (0, .ref 80), (1, vi x1)]) dX12_largest_15 rfl (Nat.le_of_ble_eq_true rfl) rfl ?_
    refine x_iconst dX12_largest_16 ?_
    refine w_istore_n (lv' := [(3, vi 0), (2, vi (-1)), (0, .ref 80), (1, vi x1)]) dX12_largest_17 rfl (Nat.le_of_ble_eq_true rfl) rfl ?_
    refine w_lv (lv' := [(0, .ref 80), (1, vi x1), (2, vi (-1)), (3, vi 0)]) [2, 3, 1, 0] rfl ?_
    exact q_Mo_largest_l18 hnx x1 (-1) 0 s4 hs
  · refine x_iconst dX12_largest_8 ?_
    cases hs
    exact x_ireturn dX12_largest_9 rfl rfl (Nat.le_of_ble_eq_true rfl) (Nat.le_of_ble_eq_true rfl) ⟨rfl, rfl⟩
set_option maxRecDepth 100000 in
theorem q_Mo_isBridge_b22 {C : Cx} {nx : Nat} (hnx : 100 ≤ nx) (x1 : Int) (x2 : Int) (t1 : Int) (s : Sg) {o : Int × Sg} (hs : Mo_isBridge_b22 x1 x2 t1 s = some o) : ww C M_X12_isBridge 4 0 0 nx (QI nx o.2 o.1) (XF) nx 0 0 22 [(0, .ref 80), (1, vi x1), (2, vi x2)] [vi t1, .ref 80] (hp nx s) := by
  unfold Mo_isBridge_b22 at hs
  refine x_V_B M_X12_wrong [vi t1] [] hs rfl dX12_isBridge_22 (lkX12_296 _ rfl) (lt_of hnx (Nat.le_of_ble_eq_true rfl)) rfl rfl (Nat.le_of_ble_eq_true rfl) (Nat.le_of_ble_eq_true rfl) (Nat.le_of_ble_eq_true rfl) (Nat.le_of_ble_eq_true rfl) (c_Mo_wrong hnx t1 s) (fun y2 s3 hy2 hs => ?_)
  refine x_ifeq hs dX12_isBridge_25 rfl (fun hs => ?_) (fun hs => ?_)
  · refine w_aload_n 0 dX12_isBridge_30 rfl rfl ?_
    refine w_iload_n 1 dX12_isBridge_31 rfl rfl ?_
    refine w_iload_n 2 dX12_isBridge_32 rfl rfl ?_
    refine x_V_B M_X12_joinsCells [vi x1, vi x2] [] hs rfl dX12_isBridge_33 (lkX12_278 _ rfl) (lt_of hnx (Nat.le_of_ble_eq_true rfl)) rfl rfl (Nat.le_of_ble_eq_true rfl) (Nat.le_of_ble_eq_true rfl) (Nat.le_of_ble_eq_true rfl) (Nat.le_of_ble_eq_true rfl) (c_Mo_joinsCells hnx x1 x2 s3) (fun y4 s5 hy4 hs => ?_)
    refine grd_e hs (fun hg6 hs => ?_)
    cases hs
    exact x_zreturn hg6 dX12_isBridge_36 rfl rfl (Nat.le_of_ble_eq_true rfl) (Nat.le_of_ble_eq_true rfl) ⟨rfl, rfl⟩
  · refine x_iconst dX12_isBridge_28 ?_
    cases hs
    exact x_zreturn (Or.inl rfl) dX12_isBridge_29 rfl rfl (Nat.le_of_ble_eq_true rfl) (Nat.le_of_ble_eq_true rfl) ⟨rfl, rfl⟩
set_option maxRecDepth 100000 in
theorem q_Mo_isBridge_b17 {C : Cx} {nx : Nat} (hnx : 100 ≤ nx) (x1 : Int) (x2 : Int) (s : Sg) {o : Int × Sg} (hs : Mo_isBridge_b17 x1 x2 s = some o) : ww C M_X12_isBridge 4 0 0 nx (QI nx o.2 o.1) (XF) nx 0 0 17 [(0, .ref 80), (1, vi x1), (2, vi x2)] [.ref 80] (hp nx s) := by
  unfold Mo_isBridge_b17 at hs
  refine x_iconst dX12_isBridge_17 ?_
  refine w_goto dX12_isBridge_18 rfl ?_
  exact q_Mo_isBridge_b22 hnx x1 x2 1 s hs
set_option maxRecDepth 100000 in
theorem c_Mo_isBridge {C : Cx} {nx : Nat} (hnx : 100 ≤ nx) (x1 : Int) (x2 : Int) (s : Sg) : ∀ o, Mo_isBridge x1 x2 s = some o → mm C M_X12_isBridge 4 0 0 nx nx [.ref 80, vi x1, vi x2] (hp nx s) (QI nx o.2 o.1) (XF) := by
  intro o hs
  unfold Mo_isBridge at hs
  refine mm_of rfl rfl (Nat.le_of_ble_eq_true rfl) ?_
  show ww C M_X12_isBridge 4 0 0 nx (QI nx o.2 o.1) (XF) nx 0 0 0 [(0, .ref 80), (1, vi x1), (2, vi x2)] [] (hp nx s)
  refine w_aload_n 0 dX12_isBridge_0 rfl rfl ?_
  refine w_aload_n 0 dX12_isBridge_1 rfl rfl ?_
  refine w_iload_n 1 dX12_isBridge_2 rfl rfl ?_
  refine x_V_I M_X12_isCell [vi x1] [.ref 80] hs rfl dX12_isBridge_3 (lkX12_302 _ rfl) (lt_of hnx (Nat.le_of_ble_eq_true rfl)) rfl rfl (Nat.le_of_ble_eq_true rfl) (Nat.le_of_ble_eq_true rfl) (Nat.le_of_ble_eq_true rfl) (Nat.le_of_ble_eq_true rfl) (c_Mo_isCell hnx x1 s) (fun y1 hy1 hs => ?_)
  refine x_ifeq hs dX12_isBridge_6 rfl (fun hs => ?_) (fun hs => ?_)
  · exact q_Mo_isBridge_b17 hnx x1 x2 s hs
  · refine w_aload_n 0 dX12_isBridge_9 rfl rfl ?_
    refine w_iload_n 2 dX12_isBridge_10 rfl rfl ?_
    refine x_V_I M_X12_isCell [vi x2] [.ref 80] hs rfl dX12_isBridge_11 (lkX12_302 _ rfl) (lt_of hnx (Nat.le_of_ble_eq_true rfl)) rfl rfl (Nat.le_of_ble_eq_true rfl) (Nat.le_of_ble_eq_true rfl) (Nat.le_of_ble_eq_true rfl) (Nat.le_of_ble_eq_true rfl) (c_Mo_isCell hnx x2 s) (fun y7 hy7 hs => ?_)
    refine x_ifne hs dX12_isBridge_14 rfl (fun hs => ?_) (fun hs => ?_)
    · refine x_iconst dX12_isBridge_21 ?_
      exact q_Mo_isBridge_b22 hnx x1 x2 0 s hs
    · exact q_Mo_isBridge_b17 hnx x1 x2 s hs
set_option maxRecDepth 100000 in
theorem q_Mo_bridges_b49 {C : Cx} {nx : Nat} (hnx : 100 ≤ nx) {Qr : Option Value → Hp → Prop} {Qx : String → Hp → Prop}  (x2 : Int) (x4 : Int) (t0 : Int) (t1 : Int) (s : Sg) {o : ((Int × Int) ⊕ (Int))} (hs : Mo_bridges_b49 x2 x4 t0 t1 s = some o) (hb : ∀ σ : Int × Int, o = .inl σ → ww C M_X12_bridges 5 0 0 nx (Qr) (Qx) nx 0 0 20 [(0, .ref 80), (2, vi x2), (3, vi σ.1), (4, vi σ.2)] [] (hp nx s)) (he0 : ∀ ρ : Int, o = .inr ρ → ww C M_X12_bridges 5 0 0 nx (Qr) (Qx) nx 0 0 57 [(3, vi ρ)] [] (hp nx s)) : ww C M_X12_bridges 5 0 0 nx (Qr) (Qx) nx 0 0 49 [(0, .ref 80), (2, vi x2), (4, vi x4)] [vi t1, vi t0] (hp nx s) := by
  unfold Mo_bridges_b49 at hs
  refine x_iadd dX12_bridges_49 ?_
  refine x_istore_n (fun x3_6 => [(3, vi x3_6), (0, .ref 80), (2, vi x2), (4, vi x4)]) hs dX12_bridges_50 rfl (Nat.le_of_ble_eq_true rfl) (fun _ => rfl) (fun x3_6 hs => ?_)
  refine x_iinc (lv' := [(4, vi (x4 + 1)), (3, vi x3_6), (0, .ref 80), (2, vi x2)]) 3 dX12_bridges_51 rfl (Nat.le_of_ble_eq_true rfl) rfl ?_
  refine w_goto dX12_bridges_54 rfl ?_
  refine w_lv (lv' := [(0, .ref 80), (2, vi x2), (3, vi x3_6), (4, vi (x4 + 1))]) [2, 3, 1, 0] rfl ?_
  cases hs
  exact hb _ rfl
set_option maxRecDepth 100000 in
theorem q_Mo_bridges_b44 {C : Cx} {nx : Nat} (hnx : 100 ≤ nx) {Qr : Option Value → Hp → Prop} {Qx : String → Hp → Prop}  (x2 : Int) (x4 : Int) (t0 : Int) (s : Sg) {o : ((Int × Int) ⊕ (Int))} (hs : Mo_bridges_b44 x2 x4 t0 s = some o) (hb : ∀ σ : Int × Int, o = .inl σ → ww C M_X12_bridges 5 0 0 nx (Qr) (Qx) nx 0 0 20 [(0, .ref 80), (2, vi x2), (3, vi σ.1), (4, vi σ.2)] [] (hp nx s)) (he0 : ∀ ρ : Int, o = .inr ρ → ww C M_X12_bridges 5 0 0 nx (Qr) (Qx) nx 0 0 57 [(3, vi ρ)] [] (hp nx s)) : ww C M_X12_bridges 5 0 0 nx (Qr) (Qx) nx 0 0 44 [(0, .ref 80), (2, vi x2), (4, vi x4)] [vi t0] (hp nx s) := by
  unfold Mo_bridges_b44 at hs
  refine x_iconst dX12_bridges_44 ?_
  refine w_goto dX12_bridges_45 rfl ?_
  exact q_Mo_bridges_b49 hnx x2 x4 t0 1 s hs hb he0
set_option maxRecDepth 100000 in
theorem q_Mo_bridges_t20 {C : Cx} {nx : Nat} (hnx : 100 ≤ nx) {Qr : Option Value → Hp → Prop} {Qx : String → Hp → Prop}  (x2 : Int) (x3 : Int) (x4 : Int) (s : Sg) {o : ((Int × Int) ⊕ (Int))} (hs : Mo_bridges_t20 x2 x3 x4 s = some o) (hb : ∀ σ : Int × Int, o = .inl σ → ww C M_X12_bridges 5 0 0 nx (Qr) (Qx) nx 0 0 20 [(0, .ref 80), (2, vi x2), (3, vi σ.1), (4, vi σ.2)] [] (hp nx s)) (he0 : ∀ ρ : Int, o = .inr ρ → ww C M_X12_bridges 5 0 0 nx (Qr) (Qx) nx 0 0 57 [(3, vi ρ)] [] (hp nx s)) : ww C M_X12_bridges 5 0 0 nx (Qr) (Qx) nx 0 0 20 [(0, .ref 80), (2, vi x2), (3, vi x3), (4, vi x4)] [] (hp nx s) := by
  unfold Mo_bridges_t20 at hs
  refine w_iload 3 dX12_bridges_20 rfl ?_
  refine w_aload_n 0 dX12_bridges_22 rfl rfl ?_
  refine x_getI 12 24 dX12_bridges_23 (fxX12_272 rfl) rfl rfl (lt_of hnx (Nat.le_of_ble_eq_true rfl)) ?_
  refine x_icmpge hs dX12_bridges_26 rfl (fun hs => ?_) (fun hs => ?_)
  · refine w_lv (lv' := [(3, vi x3)]) [2] rfl ?_
    cases hs
    exact he0 _ rfl
  · refine w_iload_n 2 dX12_bridges_29 rfl rfl ?_
    refine w_aload_n 0 dX12_bridges_30 rfl rfl ?_
    refine x_getR 12 22 (b := 92) dX12_bridges_31 (fxX12_49 rfl) rfl rfl (lt_of hnx (Nat.le_of_ble_eq_true rfl)) rfl ?_
    refine w_iload 3 dX12_bridges_34 rfl ?_
    refine grd_e hs (fun hg5 hs => ?_)
    refine x_zald hg5 (Nat.le_of_ble_eq_true rfl) dX12_bridges_36 rfl (lt_of hnx (Nat.le_of_ble_eq_true rfl)) ?_
    refine x_ifne hs dX12_bridges_37 rfl (fun hs => ?_) (fun hs => ?_)
    · refine w_lv (lv' := [(0, .ref 80), (2, vi x2), (4, vi x4)]) [0, 1, 3] rfl ?_
      exact q_Mo_bridges_b44 hnx x2 x4 x3 s hs hb he0
    · refine w_iload_n 1 dX12_bridges_40 rfl rfl ?_
      refine x_ifne hs dX12_bridges_41 rfl (fun hs => ?_) (fun hs => ?_)
      · refine x_iconst dX12_bridges_48 ?_
        refine w_lv (lv' := [(0, .ref 80), (2, vi x2), (4, vi x4)]) [0, 1, 3] rfl ?_
        exact q_Mo_bridges_b49 hnx x2 x4 x3 0 s hs hb he0
      · refine w_lv (lv' := [(0, .ref 80), (2, vi x2), (4, vi x4)]) [0, 1, 3] rfl ?_
        exact q_Mo_bridges_b44 hnx x2 x4 x3 s hs hb he0
set_option maxRecDepth 100000 in
theorem q_Mo_bridges_l20 {C : Cx} {nx : Nat} (hnx : 100 ≤ nx) (x2 : Int) (x3 : Int) (x4 : Int) (s : Sg) {o : Int × Sg} (hs : Mo_bridges_l20 x2 x3 x4 s = some o) : ww C M_X12_bridges 5 0 0 nx (QI nx o.2 o.1) (XF) nx 0 0 20 [(0, .ref 80), (2, vi x2), (3, vi x3), (4, vi x4)] [] (hp nx s) := by
  unfold Mo_bridges_l20 at hs
  refine bnd_e hs (fun x3_7 hw hs => ?_)
  have hE : ww C M_X12_bridges 5 0 0 nx (QI nx o.2 o.1) (XF) nx 0 0 57 [(3, vi x3_7)] [] (hp nx s) := by
    refine w_iload_n 0 dX12_bridges_57 rfl rfl ?_
    cases hs
    exact x_ireturn dX12_bridges_58 rfl rfl (Nat.le_of_ble_eq_true rfl) (Nat.le_of_ble_eq_true rfl) ⟨rfl, rfl⟩
  refine whl_w (P := fun σ => ww C M_X12_bridges 5 0 0 nx (QI nx o.2 o.1) (XF) nx 0 0 20 [(0, .ref 80), (2, vi x2), (3, vi σ.1), (4, vi σ.2)] [] (hp nx s)) (E := fun ρ => ρ = x3_7) hw rfl ?_
  intro σ o' hs' hb' he'
  exact q_Mo_bridges_t20 hnx x2 σ.1 σ.2 s hs' hb' (fun ρ e => by cases he' _ e; exact hE)
set_option maxRecDepth 100000 in
theorem c_Mo_bridges {C : Cx} {nx : Nat} (hnx : 100 ≤ nx) (x1 : Int) (x2 : Int) (s : Sg) : ∀ o, Mo_bridges x1 x2 s = some o → mm C M_X12_bridges 5 0 0 nx nx [.ref 80, vi x1, vi x2] (hp nx s) (QI nx o.2 o.1) (XF) := by
  intro o hs
  unfold Mo_bridges at hs
  refine mm_of rfl rfl (Nat.le_of_ble_eq_true rfl) ?_
  show ww C M_X12_bridges 5 0 0 nx (QI nx o.2 o.1) (XF) nx 0 0 0 [(0, .ref 80), (1, vi x1), (2, vi x2)] [] (hp nx s)
  refine w_aload_n 0 dX12_bridges_0 rfl rfl ?_
  refine w_iload_n 1 dX12_bridges_1 rfl rfl ?_
  refine x_V_B M_X12_noSide [vi x1] [] hs rfl dX12_bridges_2 (lkX12_323 _ rfl) (lt_of hnx (Nat.le_of_ble_eq_true rfl)) rfl rfl (Nat.le_of_ble_eq_true rfl) (Nat.le_of_ble_eq_true rfl) (Nat.le_of_ble_eq_true rfl) (Nat.le_of_ble_eq_true rfl) (c_Mo_noSide hnx x1 s) (fun y1 s2 hy1 hs => ?_)
  refine x_ifeq hs dX12_bridges_5 rfl (fun hs => ?_) (fun hs => ?_)
  · refine w_aload_n 0 dX12_bridges_10 rfl rfl ?_
    refine w_iload_n 1 dX12_bridges_11 rfl rfl ?_
    refine x_V_V M_X12_laysBridges [vi x1] [] hs rfl dX12_bridges_12 (lkX12_288 _ rfl) (lt_of hnx (Nat.le_of_ble_eq_true rfl)) rfl rfl (Nat.le_of_ble_eq_true rfl) (Nat.le_of_ble_eq_true rfl) (Nat.le_of_ble_eq_true rfl) (Nat.le_of_ble_eq_true rfl) (c_Mo_laysBridges hnx x1 s2) (fun s4 hs4 hs => ?_)
    refine x_iconst dX12_bridges_15 ?_
    refine w_istore_n (lv' := [(3, vi 0), (0, .ref 80), (1, vi x1), (2, vi x2)]) dX12_bridges_16 rfl (Nat.le_of_ble_eq_true rfl) rfl ?_
    refine x_iconst dX12_bridges_17 ?_
    refine w_istore (lv' := [(4, vi 0), (3, vi 0), (0, .ref 80), (1, vi x1), (2, vi x2)]) dX12_bridges_18 (Nat.le_of_ble_eq_true rfl) rfl ?_
    refine w_lv (lv' := [(0, .ref 80), (2, vi x2), (3, vi 0), (4, vi 0)]) [2, 4, 1, 0] rfl ?_
    exact q_Mo_bridges_l20 hnx x2 0 0 s4 hs
  · refine x_iconst dX12_bridges_8 ?_
    cases hs
    exact x_ireturn dX12_bridges_9 rfl rfl (Nat.le_of_ble_eq_true rfl) (Nat.le_of_ble_eq_true rfl) ⟨rfl, rfl⟩
set_option maxRecDepth 100000 in
theorem q_Mo_bridge_b25 {C : Cx} {nx : Nat} (hnx : 100 ≤ nx) (x1 : Int) (x2 : Int) (x3 : Int) (t1 : Int) (s : Sg) {o : Int × Sg} (hs : Mo_bridge_b25 x1 x2 x3 t1 s = some o) : ww C M_X12_bridge 5 0 0 nx (QI nx o.2 o.1) (XF) nx 0 0 25 [(0, .ref 80), (1, vi x1), (2, vi x2), (3, vi x3)] [vi t1, .ref 80] (hp nx s) := by
  unfold Mo_bridge_b25 at hs
  refine x_V_B M_X12_wrong [vi t1] [] hs rfl dX12_bridge_25 (lkX12_296 _ rfl) (lt_of hnx (Nat.le_of_ble_eq_true rfl)) rfl rfl (Nat.le_of_ble_eq_true rfl) (Nat.le_of_ble_eq_true rfl) (Nat.le_of_ble_eq_true rfl) (Nat.le_of_ble_eq_true rfl) (c_Mo_wrong hnx t1 s) (fun y2 s3 hy2 hs => ?_)
  refine x_ifeq hs dX12_bridge_28 rfl (fun hs => ?_) (fun hs => ?_)
  · refine w_aload_n 0 dX12_bridge_33 rfl rfl ?_
    refine w_iload_n 1 dX12_bridge_34 rfl rfl ?_
    refine x_V_V M_X12_laysBridges [vi x1] [] hs rfl dX12_bridge_35 (lkX12_288 _ rfl) (lt_of hnx (Nat.le_of_ble_eq_true rfl)) rfl rfl (Nat.le_of_ble_eq_true rfl) (Nat.le_of_ble_eq_true rfl) (Nat.le_of_ble_eq_true rfl) (Nat.le_of_ble_eq_true rfl) (c_Mo_laysBridges hnx x1 s3) (fun s5 hs5 hs => ?_)
    refine w_iload_n 2 dX12_bridge_38 rfl rfl ?_
    refine grd_e hs (fun hg6 hs => ?_)
    refine x_i2l dX12_bridge_39 hg6 ?_
    refine x_lconst (x := 0) dX12_bridge_40 (by decide) ?_
    refine w_aload_n 0 dX12_bridge_41 rfl rfl ?_
    refine x_getI 12 24 dX12_bridge_42 (fxX12_272 rfl) rfl rfl (lt_of hnx (Nat.le_of_ble_eq_true rfl)) ?_
    refine x_iconst dX12_bridge_45 ?_
    refine x_isub dX12_bridge_46 ?_
    refine grd_e hs (fun hg7 hs => ?_)
    refine x_i2l dX12_bridge_47 hg7 ?_
    refine x_S_I M_X12_in [vl x2, vl 0, vl ((gi s5 80 24) - 1)] [] hs rfl dX12_bridge_48 (lkX12_108 _ rfl) (Nat.le_of_ble_eq_true rfl) (Nat.le_of_ble_eq_true rfl) (Nat.le_of_ble_eq_true rfl) (Nat.le_of_ble_eq_true rfl) (c_Mo_in hnx x2 0 ((gi s5 80 24) - 1) s5) (fun y8 hy8 hs => ?_)
    refine x_ifne hs dX12_bridge_51 rfl (fun hs => ?_) (fun hs => ?_)
    · refine w_iload_n 3 dX12_bridge_56 rfl rfl ?_
      refine ifEq_c hs (fun hR11 hz10 hs => ?_) (fun hR11 hz10 hs => ?_)
      · refine x_tableIn 0 hz10 (by unfold R; omega) dX12_bridge_57 (by decide) (by decide) rfl rfl ?_
        refine w_aload_n 0 dX12_bridge_88 rfl rfl ?_
        refine x_getR 12 18 (b := 88) dX12_bridge_89 (fxX12_37 rfl) rfl rfl (lt_of hnx (Nat.le_of_ble_eq_true rfl)) rfl ?_
        refine w_iload_n 2 dX12_bridge_92 rfl rfl ?_
        refine grd_e hs (fun hg9 hs => ?_)
        refine x_iald hg9 (Nat.le_of_ble_eq_true rfl) dX12_bridge_93 (Or.inl ⟨rfl, (lt_of hnx (Nat.le_of_ble_eq_true rfl))⟩) ?_
        cases hs
        exact x_ireturn dX12_bridge_94 rfl rfl (Nat.le_of_ble_eq_true rfl) (Nat.le_of_ble_eq_true rfl) ⟨rfl, rfl⟩
      refine ifEq_c hs (fun hR14 hz13 hs => ?_) (fun hR14 hz13 hs => ?_)
      · refine x_tableIn 1 hz13 (by unfold R; omega) dX12_bridge_57 (by decide) (by decide) rfl rfl ?_
        refine w_aload_n 0 dX12_bridge_95 rfl rfl ?_
        refine x_getR 12 19 (b := 89) dX12_bridge_96 (fxX12_40 rfl) rfl rfl (lt_of hnx (Nat.le_of_ble_eq_true rfl)) rfl ?_
        refine w_iload_n 2 dX12_bridge_99 rfl rfl ?_
        refine grd_e hs (fun hg12 hs => ?_)
        refine x_iald hg12 (Nat.le_of_ble_eq_true rfl) dX12_bridge_100 (Or.inl ⟨rfl, (lt_of hnx (Nat.le_of_ble_eq_true rfl))⟩) ?_
        cases hs
        exact x_ireturn dX12_bridge_101 rfl rfl (Nat.le_of_ble_eq_true rfl) (Nat.le_of_ble_eq_true rfl) ⟨rfl, rfl⟩
      refine ifEq_c hs (fun hR17 hz16 hs => ?_) (fun hR17 hz16 hs => ?_)
      · refine x_tableIn 2 hz16 (by unfold R; omega) dX12_bridge_57 (by decide) (by decide) rfl rfl ?_
        refine w_aload_n 0 dX12_bridge_102 rfl rfl ?_
        refine x_getR 12 20 (b := 90) dX12_bridge_103 (fxX12_43 rfl) rfl rfl (lt_of hnx (Nat.le_of_ble_eq_true rfl)) rfl ?_
        refine w_iload_n 2 dX12_bridge_106 rfl rfl ?_
        refine grd_e hs (fun hg15 hs => ?_)
        refine x_iald hg15 (Nat.le_of_ble_eq_true rfl) dX12_bridge_107 (Or.inl ⟨rfl, (lt_of hnx (Nat.le_of_ble_eq_true rfl))⟩) ?_
        cases hs
        exact x_ireturn dX12_bridge_108 rfl rfl (Nat.le_of_ble_eq_true rfl) (Nat.le_of_ble_eq_true rfl) ⟨rfl, rfl⟩
      refine ifEq_c hs (fun hR20 hz19 hs => ?_) (fun hR20 hz19 hs => ?_)
      · refine x_tableIn 3 hz19 (by unfold R; omega) dX12_bridge_57 (by decide) (by decide) rfl rfl ?_
        refine w_aload_n 0 dX12_bridge_109 rfl rfl ?_
        refine x_getR 12 21 (b := 91) dX12_bridge_110 (fxX12_46 rfl) rfl rfl (lt_of hnx (Nat.le_of_ble_eq_true rfl)) rfl ?_
        refine w_iload_n 2 dX12_bridge_113 rfl rfl ?_
        refine grd_e hs (fun hg18 hs => ?_)
        refine x_iald hg18 (Nat.le_of_ble_eq_true rfl) dX12_bridge_114 (Or.inl ⟨rfl, (lt_of hnx (Nat.le_of_ble_eq_true rfl))⟩) ?_
        cases hs
        exact x_ireturn dX12_bridge_115 rfl rfl (Nat.le_of_ble_eq_true rfl) (Nat.le_of_ble_eq_true rfl) ⟨rfl, rfl⟩
      refine x_tableOut hR20 dX12_bridge_57 (by omega) rfl ?_
      refine w_aload_n 0 dX12_bridge_116 rfl rfl ?_
      refine x_getR 12 22 (b := 92) dX12_bridge_117 (fxX12_49 rfl) rfl rfl (lt_of hnx (Nat.le_of_ble_eq_true rfl)) rfl ?_
      refine w_iload_n 2 dX12_bridge_120 rfl rfl ?_
      refine grd_e hs (fun hg21 hs => ?_)
      refine x_zald hg21 (Nat.le_of_ble_eq_true rfl) dX12_bridge_121 rfl (lt_of hnx (Nat.le_of_ble_eq_true rfl)) ?_
      refine x_ifeq hs dX12_bridge_122 rfl (fun hs => ?_) (fun hs => ?_)
      · refine x_iconst dX12_bridge_129 ?_
        cases hs
        exact x_ireturn dX12_bridge_130 rfl rfl (Nat.le_of_ble_eq_true rfl) (Nat.le_of_ble_eq_true rfl) ⟨rfl, rfl⟩
      · refine x_iconst dX12_bridge_125 ?_
        refine w_goto dX12_bridge_126 rfl ?_
        cases hs
        exact x_ireturn dX12_bridge_130 rfl rfl (Nat.le_of_ble_eq_true rfl) (Nat.le_of_ble_eq_true rfl) ⟨rfl, rfl⟩
    · refine x_iconst dX12_bridge_54 ?_
      cases hs
      exact x_ireturn dX12_bridge_55 rfl rfl (Nat.le_of_ble_eq_true rfl) (Nat.le_of_ble_eq_true rfl) ⟨rfl, rfl⟩
  · refine x_iconst dX12_bridge_31 ?_
    cases hs
    exact x_ireturn dX12_bridge_32 rfl rfl (Nat.le_of_ble_eq_true rfl) (Nat.le_of_ble_eq_true rfl) ⟨rfl, rfl⟩
set_option maxRecDepth 100000 in
theorem q_Mo_bridge_b20 {C : Cx} {nx : Nat} (hnx : 100 ≤ nx) (x1 : Int) (x2 : Int) (x3 : Int) (s : Sg) {o : Int × Sg} (hs : Mo_bridge_b20 x1 x2 x3 s = some o) : ww C M_X12_bridge 5 0 0 nx (QI nx o.2 o.1) (XF) nx 0 0 20 [(0, .ref 80), (1, vi x1), (2, vi x2), (3, vi x3)] [.ref 80] (hp nx s) := by
  unfold Mo_bridge_b20 at hs
  refine x_iconst dX12_bridge_20 ?_
  refine w_goto dX12_bridge_21 rfl ?_
  exact q_Mo_bridge_b25 hnx x1 x2 x3 1 s hs
set_option maxRecDepth 100000 in
theorem c_Mo_bridge {C : Cx} {nx : Nat} (hnx : 100 ≤ nx) (x1 : Int) (x2 : Int) (x3 : Int) (s : Sg) : ∀ o, Mo_bridge x1 x2 x3 s = some o → mm C M_X12_bridge 5 0 0 nx nx [.ref 80, vi x1, vi x2, vi x3] (hp nx s) (QI nx o.2 o.1) (XF) := by
  intro o hs
  unfold Mo_bridge at hs
  refine mm_of rfl rfl (Nat.le_of_ble_eq_true rfl) ?_
  show ww C M_X12_bridge 5 0 0 nx (QI nx o.2 o.1) (XF) nx 0 0 0 [(0, .ref 80), (1, vi x1), (2, vi x2), (3, vi x3)] [] (hp nx s)
  refine w_aload_n 0 dX12_bridge_0 rfl rfl ?_
  refine w_iload_n 1 dX12_bridge_1 rfl rfl ?_
  refine x_S_I M_X12_isSide [vi x1] [.ref 80] hs rfl dX12_bridge_2 (lkX12_305 _ rfl) (Nat.le_of_ble_eq_true rfl) (Nat.le_of_ble_eq_true rfl) (Nat.le_of_ble_eq_true rfl) (Nat.le_of_ble_eq_true rfl) (c_Mo_isSide hnx x1 s) (fun y1 hy1 hs => ?_)
  refine x_ifeq hs dX12_bridge_5 rfl (fun hs => ?_) (fun hs => ?_)
  · exact q_Mo_bridge_b20 hnx x1 x2 x3 s hs
  · refine w_iload_n 3 dX12_bridge_8 rfl rfl ?_
    refine grd_e hs (fun hg22 hs => ?_)
    refine x_i2l dX12_bridge_9 hg22 ?_
    refine x_lconst (x := 0) dX12_bridge_10 (by decide) ?_
    refine x_ldc2 4 dX12_bridge_11 (csX12_326 rfl) ?_
    refine x_S_I M_X12_in [vl x3, vl 0, vl 4] [.ref 80] hs rfl dX12_bridge_14 (lkX12_108 _ rfl) (Nat.le_of_ble_eq_true rfl) (Nat.le_of_ble_eq_true rfl) (Nat.le_of_ble_eq_true rfl) (Nat.le_of_ble_eq_true rfl) (c_Mo_in hnx x3 0 4 s) (fun y23 hy23 hs => ?_)
    refine x_ifne hs dX12_bridge_17 rfl (fun hs => ?_) (fun hs => ?_)
    · refine x_iconst dX12_bridge_24 ?_
      exact q_Mo_bridge_b25 hnx x1 x2 x3 0 s hs
    · exact q_Mo_bridge_b20 hnx x1 x2 x3 s hs
set_option maxRecDepth 100000 in
theorem q_Mo_chain_b26 {C : Cx} {nx : Nat} (hnx : 100 ≤ nx) (x1 : Int) (x2 : Int) (t1 : Int) (s : Sg) {o : Int × Sg} (hs : Mo_chain_b26 x1 x2 t1 s = some o) : ww C M_X12_chain 6 0 0 nx (QI nx o.2 o.1) (XF) nx 0 0 26 [(0, .ref 80), (1, vi x1), (2, vi x2)] [vi t1, .ref 80] (hp nx s) := by
  unfold Mo_chain_b26 at hs
  refine x_iconst dX12_chain_26 ?_
  refine x_V_B M_X12_throwsIf [vi t1, vi 2] [] hs rfl dX12_chain_27 (lkX12_313 _ rfl) (lt_of hnx (Nat.le_of_ble_eq_true rfl)) rfl rfl (Nat.le_of_ble_eq_true rfl) (Nat.le_of_ble_eq_true rfl) (Nat.le_of_ble_eq_true rfl) (Nat.le_of_ble_eq_true rfl) (c_Mo_throwsIf hnx t1 2 s) (fun y5 s6 hy5 hs => ?_)
  refine x_ifeq hs dX12_chain_30 rfl (fun hs => ?_) (fun hs => ?_)
  · refine w_aload_n 0 dX12_chain_35 rfl rfl ?_
    refine w_iload_n 1 dX12_chain_36 rfl rfl ?_
    refine x_V_I M_X12_stone [vi x1] [] hs rfl dX12_chain_37 (lkX12_215 _ rfl) (lt_of hnx (Nat.le_of_ble_eq_true rfl)) rfl rfl (Nat.le_of_ble_eq_true rfl) (Nat.le_of_ble_eq_true rfl) (Nat.le_of_ble_eq_true rfl) (Nat.le_of_ble_eq_true rfl) (c_Mo_stone hnx x1 s6) (fun y7 hy7 hs => ?_)
    refine w_istore_n (lv' := [(3, vi y7), (0, .ref 80), (1, vi x1), (2, vi x2)]) dX12_chain_40 rfl (Nat.le_of_ble_eq_true rfl) rfl ?_
    refine w_iload_n 0 dX12_chain_41 rfl rfl ?_
    refine x_iconst dX12_chain_42 ?_
    refine x_icmpne hs dX12_chain_43 rfl (fun hs => ?_) (fun hs => ?_)
    · refine w_aload_n 1 dX12_chain_48 rfl rfl ?_
      refine w_iload_n 0 dX12_chain_49 rfl rfl ?_
      refine x_V_V M_X12_laysChains [vi y7] [] hs rfl dX12_chain_50 (lkX12_328 _ rfl) (lt_of hnx (Nat.le_of_ble_eq_true rfl)) rfl rfl (Nat.le_of_ble_eq_true rfl) (Nat.le_of_ble_eq_true rfl) (Nat.le_of_ble_eq_true rfl) (Nat.le_of_ble_eq_true rfl) (c_Mo_laysChains hnx y7 s6) (fun s9 hs9 hs => ?_)
      refine w_aload_n 1 dX12_chain_53 rfl rfl ?_
      refine x_getR 12 28 (b := 94) dX12_chain_54 (fxX12_55 rfl) rfl rfl (lt_of hnx (Nat.le_of_ble_eq_true rfl)) rfl ?_
      refine w_iload_n 2 dX12_chain_57 rfl rfl ?_
      refine grd_e hs (fun hg10 hs => ?_)
      refine x_iald hg10 (Nat.le_of_ble_eq_true rfl) dX12_chain_58 (Or.inl ⟨rfl, (lt_of hnx (Nat.le_of_ble_eq_true rfl))⟩) ?_
      refine x_istore (fun x4_11 => [(4, vi x4_11), (3, vi y7), (0, .ref 80), (1, vi x1), (2, vi x2)]) hs dX12_chain_59 (Nat.le_of_ble_eq_true rfl) (fun _ => rfl) (fun x4_11 hs => ?_)
      refine w_iload_n 4 dX12_chain_61 rfl rfl ?_
      refine x_ifne hs dX12_chain_62 rfl (fun hs => ?_) (fun hs => ?_)
      · refine w_iload_n 4 dX12_chain_70 rfl rfl ?_
        refine x_iconst dX12_chain_71 ?_
        refine x_icmpne hs dX12_chain_72 rfl (fun hs => ?_) (fun hs => ?_)
        · refine w_iload_n 4 dX12_chain_85 rfl rfl ?_
          refine x_iconst dX12_chain_86 ?_
          refine x_icmpne hs dX12_chain_87 rfl (fun hs => ?_) (fun hs => ?_)
          · refine w_aload_n 2 dX12_chain_99 rfl rfl ?_
            refine w_iload_n 1 dX12_chain_100 rfl rfl ?_
            refine w_iload 0 dX12_chain_101 rfl ?_
            refine x_V_I M_X12_chainEdges [vi y7, vi x4_11] [] hs rfl dX12_chain_103 (lkX12_337 _ rfl) (lt_of hnx (Nat.le_of_ble_eq_true rfl)) rfl rfl (Nat.le_of_ble_eq_true rfl) (Nat.le_of_ble_eq_true rfl) (Nat.le_of_ble_eq_true rfl) (Nat.le_of_ble_eq_true rfl) (c_Mo_chainEdges hnx y7 x4_11 s9) (fun y12 hy12 hs => ?_)
            cases hs
            exact x_ireturn dX12_chain_106 rfl rfl (Nat.le_of_ble_eq_true rfl) (Nat.le_of_ble_eq_true rfl) ⟨rfl, rfl⟩
          · refine w_aload_n 2 dX12_chain_90 rfl rfl ?_
            refine w_iload 0 dX12_chain_91 rfl ?_
            refine x_V_I M_X12_chainBridges [vi x4_11] [] hs rfl dX12_chain_93 (lkX12_334 _ rfl) (lt_of hnx (Nat.le_of_ble_eq_true rfl)) rfl rfl (Nat.le_of_ble_eq_true rfl) (Nat.le_of_ble_eq_true rfl) (Nat.le_of_ble_eq_true rfl) (Nat.le_of_ble_eq_true rfl) (c_Mo_chainBridges hnx x4_11 s9) (fun y13 hy13 hs => ?_)
            refine w_goto dX12_chain_96 rfl ?_
            cases hs
            exact x_ireturn dX12_chain_106 rfl rfl (Nat.le_of_ble_eq_true rfl) (Nat.le_of_ble_eq_true rfl) ⟨rfl, rfl⟩
        · refine w_aload_n 2 dX12_chain_75 rfl rfl ?_
          refine w_iload_n 1 dX12_chain_76 rfl rfl ?_
          refine w_iload 0 dX12_chain_77 rfl ?_
          refine x_V_I M_X12_chainStones [vi y7, vi x4_11] [] hs rfl dX12_chain_79 (lkX12_331 _ rfl) (lt_of hnx (Nat.le_of_ble_eq_true rfl)) rfl rfl (Nat.le_of_ble_eq_true rfl) (Nat.le_of_ble_eq_true rfl) (Nat.le_of_ble_eq_true rfl) (Nat.le_of_ble_eq_true rfl) (c_Mo_chainStones hnx y7 x4_11 s9) (fun y14 hy14 hs => ?_)
          refine w_goto dX12_chain_82 rfl ?_
          cases hs
          exact x_ireturn dX12_chain_106 rfl rfl (Nat.le_of_ble_eq_true rfl) (Nat.le_of_ble_eq_true rfl) ⟨rfl, rfl⟩
      · refine w_iload 0 dX12_chain_65 rfl ?_
        refine w_goto dX12_chain_67 rfl ?_
        cases hs
        exact x_ireturn dX12_chain_106 rfl rfl (Nat.le_of_ble_eq_true rfl) (Nat.le_of_ble_eq_true rfl) ⟨rfl, rfl⟩
    · refine x_iconst dX12_chain_46 ?_
      cases hs
      exact x_ireturn dX12_chain_47 rfl rfl (Nat.le_of_ble_eq_true rfl) (Nat.le_of_ble_eq_true rfl) ⟨rfl, rfl⟩
  · refine x_iconst dX12_chain_33 ?_
    cases hs
    exact x_ireturn dX12_chain_34 rfl rfl (Nat.le_of_ble_eq_true rfl) (Nat.le_of_ble_eq_true rfl) ⟨rfl, rfl⟩
set_option maxRecDepth 100000 in
theorem c_Mo_chain {C : Cx} {nx : Nat} (hnx : 100 ≤ nx) (x1 : Int) (x2 : Int) (s : Sg) : ∀ o, Mo_chain x1 x2 s = some o → mm C M_X12_chain 6 0 0 nx nx [.ref 80, vi x1, vi x2] (hp nx s) (QI nx o.2 o.1) (XF) := by
  intro o hs
  unfold Mo_chain at hs
  refine mm_of rfl rfl (Nat.le_of_ble_eq_true rfl) ?_
  show ww C M_X12_chain 6 0 0 nx (QI nx o.2 o.1) (XF) nx 0 0 0 [(0, .ref 80), (1, vi x1), (2, vi x2)] [] (hp nx s)
  refine w_aload_n 0 dX12_chain_0 rfl rfl ?_
  refine w_iload_n 1 dX12_chain_1 rfl rfl ?_
  refine x_V_B M_X12_noCell [vi x1] [] hs rfl dX12_chain_2 (lkX12_308 _ rfl) (lt_of hnx (Nat.le_of_ble_eq_true rfl)) rfl rfl (Nat.le_of_ble_eq_true rfl) (Nat.le_of_ble_eq_true rfl) (Nat.le_of_ble_eq_true rfl) (Nat.le_of_ble_eq_true rfl) (c_Mo_noCell hnx x1 s) (fun y1 s2 hy1 hs => ?_)
  refine x_ifne hs dX12_chain_5 rfl (fun hs => ?_) (fun hs => ?_)
  · refine x_iconst dX12_chain_33 ?_
    cases hs
    exact x_ireturn dX12_chain_34 rfl rfl (Nat.le_of_ble_eq_true rfl) (Nat.le_of_ble_eq_true rfl) ⟨rfl, rfl⟩
  · refine w_aload_n 0 dX12_chain_8 rfl rfl ?_
    refine w_iload_n 2 dX12_chain_9 rfl rfl ?_
    refine grd_e hs (fun hg3 hs => ?_)
    refine x_i2l dX12_chain_10 hg3 ?_
    refine x_lconst (x := 0) dX12_chain_11 (by decide) ?_
    refine x_ldc2 3 dX12_chain_12 (csX12_311 rfl) ?_
    refine x_S_I M_X12_in [vl x2, vl 0, vl 3] [.ref 80] hs rfl dX12_chain_15 (lkX12_108 _ rfl) (Nat.le_of_ble_eq_true rfl) (Nat.le_of_ble_eq_true rfl) (Nat.le_of_ble_eq_true rfl) (Nat.le_of_ble_eq_true rfl) (c_Mo_in hnx x2 0 3 s2) (fun y4 hy4 hs => ?_)
    refine x_ifne hs dX12_chain_18 rfl (fun hs => ?_) (fun hs => ?_)
    · refine x_iconst dX12_chain_25 ?_
      exact q_Mo_chain_b26 hnx x1 x2 0 s2 hs
    · refine x_iconst dX12_chain_21 ?_
      refine w_goto dX12_chain_22 rfl ?_
      exact q_Mo_chain_b26 hnx x1 x2 1 s2 hs
